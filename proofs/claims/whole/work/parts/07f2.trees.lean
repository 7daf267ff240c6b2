set_option maxRecDepth 100000 in
set_option maxHeartbeats 4000000 in
theorem t_X12_fresh {d : Nat} {x1 : Int32} {x2 : Int32} {x3 : Int32} {M : zMem} {K : zK} 
    (T : (∀ M21 : zMem, M21 = wI M 229 0 0 → S_X12_isPeer d x1 M21 (zB (fun r23 M24 => (r23 = false → K (some (.int (-1))) M24) ∧ (r23 = true → S_X12_isKey d x2 M24 (zB (fun r26 M27 => (r26 = false → K (some (.int (-1))) M27) ∧ (r26 = true → S_X12_isIn d x3 0 999 M27 (zB (fun r29 M30 => (r29 = true → S_X12_why d 0 x1 x2 x3 M30 (zI (fun r32 M33 => (r32 = 0 → S_X12_layTree d 1 x1 M33 (zI (fun r35 M36 => S_X12_at d x1 x2 M36 (zI (fun r37 M38 => vp_in (213 + r37) 647 ∧ (S_X12_at d x1 x2 M38 (zI (fun r40 M41 => vp_in (309 + r40) 647 ∧ (S_X12_write d x1 x2 x3 M41 (zU (fun M44 => S_X12_layTree d 0 x1 M44 (zI (fun r45 M46 => (∀ M47 : zMem, M47 = wI M46 231 204 ((M46.1 231 204) - 1) → S_X12_at d x1 x2 M47 (zI (fun r49 M50 => vp_in (213 + r49) 647 ∧ ((∀ M52 : zMem, M52 = wI M50 231 (Int32.toNatClampNeg (213 + r49)) (M38.1 231 (Int32.toNatClampNeg (213 + r37))) → S_X12_at d x1 x2 M52 (zI (fun r54 M55 => vp_in (309 + r54) 647 ∧ ((∀ M57 : zMem, M57 = wI M55 231 (Int32.toNatClampNeg (309 + r54)) (M41.1 231 (Int32.toNatClampNeg (309 + r40))) → S_X12_fresh_150 (d + 1) 0 0 M57 K)))))))))))))))))))))) ∧ (¬ (r32 = 0) → K (some (.int 0)) M33)))) ∧ (r29 = false → K (some (.int (-1))) M30))))))))))) : S_X12_fresh (d + 1) x1 x2 x3 M K := by
  show zV m_X12_fresh (d + 1) 0 [(0, .ref 229), (1, .int x1), (2, .int x2), (3, .int x3)] [] M K
  refine zr_aload_n dX12_fresh_0 rfl 0 rfl ?_
  refine zr_iconst (v := 0) dX12_fresh_1 (by decide) ?_
  refine zn_puti dX12_fresh_2 f_X12_1 (by decide) (by decide) (by decide) (fun M21 e22 => ?_)
  have T := T M21 e22
  refine zr_aload_n dX12_fresh_5 rfl 0 rfl ?_
  refine zr_iload_n dX12_fresh_6 rfl 1 rfl ?_
  refine zm_callV_b (c := 12) (b := 229) dX12_fresh_7 w_X12_isPeer l_X12_288 rfl (by decide) (by decide) s_X12_isPeer [.int x1] rfl rfl (Nat.le_of_ble_eq_true rfl) (Nat.le_of_ble_eq_true rfl) ?_
  refine zV.post T ?_
  rintro v M24 ⟨r23, rfl, T⟩
  refine ⟨r23, rfl, ?_⟩
  refine zm_ifb_eq (tgt := 32) dX12_fresh_10 (by decide) (fun h25 => ?_) (fun h25 => ?_)
  · have T := T.1 h25
    refine zr_iconst (v := (-1)) dX12_fresh_32 (by decide) ?_
    exact zm_iret dX12_fresh_33 rfl T
  · have T := T.2 h25
    refine zr_aload_n dX12_fresh_13 rfl 0 rfl ?_
    refine zr_iload_n dX12_fresh_14 rfl 2 rfl ?_
    refine zm_callV_b (c := 12) (b := 229) dX12_fresh_15 w_X12_isKey l_X12_326 rfl (by decide) (by decide) s_X12_isKey [.int x2] rfl rfl (Nat.le_of_ble_eq_true rfl) (Nat.le_of_ble_eq_true rfl) ?_
    refine zV.post T ?_
    rintro v M27 ⟨r26, rfl, T⟩
    refine ⟨r26, rfl, ?_⟩
    refine zm_ifb_eq (tgt := 32) dX12_fresh_18 (by decide) (fun h28 => ?_) (fun h28 => ?_)
    · have T := T.1 h28
      refine zr_iconst (v := (-1)) dX12_fresh_32 (by decide) ?_
      exact zm_iret dX12_fresh_33 rfl T
    · have T := T.2 h28
      refine zr_iload_n dX12_fresh_21 rfl 3 rfl ?_
      refine zr_iconst (v := 0) dX12_fresh_22 (by decide) ?_
      refine zr_sipush (v := 999) dX12_fresh_23 (by decide) ?_
      refine zm_callS_b dX12_fresh_26 w_X12_isIn l_X12_75 s_X12_isIn [.int x3, .int 0, .int 999] rfl rfl (Nat.le_of_ble_eq_true rfl) (Nat.le_of_ble_eq_true rfl) ?_
      refine zV.post T ?_
      rintro v M30 ⟨r29, rfl, T⟩
      refine ⟨r29, rfl, ?_⟩
      refine zm_ifb_ne (tgt := 34) dX12_fresh_29 (by decide) (fun h31 => ?_) (fun h31 => ?_)
      · have T := T.1 h31
        refine zr_aload_n dX12_fresh_34 rfl 0 rfl ?_
        refine zr_iconst (v := 0) dX12_fresh_35 (by decide) ?_
        refine zr_iload_n dX12_fresh_36 rfl 1 rfl ?_
        refine zr_iload_n dX12_fresh_37 rfl 2 rfl ?_
        refine zr_iload_n dX12_fresh_38 rfl 3 rfl ?_
        refine zm_callV_i (c := 12) (b := 229) dX12_fresh_39 w_X12_why l_X12_393 rfl (by decide) (by decide) s_X12_why [.int 0, .int x1, .int x2, .int x3] rfl rfl (Nat.le_of_ble_eq_true rfl) (Nat.le_of_ble_eq_true rfl) ?_
        refine zV.post T ?_
        rintro v M33 ⟨r32, rfl, T⟩
        refine ⟨r32, rfl, ?_⟩
        refine zr_if_eq (tgt := 47) dX12_fresh_42 (by decide) (fun h34 => ?_) (fun h34 => ?_)
        · have T := T.1 h34
          refine zr_aload_n dX12_fresh_47 rfl 0 rfl ?_
          refine zr_iconst (v := 1) dX12_fresh_48 (by decide) ?_
          refine zr_iload_n dX12_fresh_49 rfl 1 rfl ?_
          refine zm_callV_i (c := 12) (b := 229) dX12_fresh_50 w_X12_layTree l_X12_308 rfl (by decide) (by decide) s_X12_layTree [.int 1, .int x1] rfl rfl (Nat.le_of_ble_eq_true rfl) (Nat.le_of_ble_eq_true rfl) ?_
          refine zV.post T ?_
          rintro v M36 ⟨r35, rfl, T⟩
          refine ⟨r35, rfl, ?_⟩
          refine zr_pop dX12_fresh_53 rfl ?_
          refine zr_aload_n dX12_fresh_54 rfl 0 rfl ?_
          refine zm_getr (a := 231) dX12_fresh_55 f_X12_98 (by decide) (by decide) (by decide) (by decide) ?_
          refine zr_sipush (v := 213) dX12_fresh_58 (by decide) ?_
          refine zr_iload_n dX12_fresh_61 rfl 1 rfl ?_
          refine zr_iload_n dX12_fresh_62 rfl 2 rfl ?_
          refine zm_callS_i dX12_fresh_63 w_X12_at l_X12_291 s_X12_at [.int x1, .int x2] rfl rfl (Nat.le_of_ble_eq_true rfl) (Nat.le_of_ble_eq_true rfl) ?_
          refine zV.post T ?_
          rintro v M38 ⟨r37, rfl, T⟩
          refine ⟨r37, rfl, ?_⟩
          refine zr_iadd dX12_fresh_66 ?_
          obtain ⟨hq39, T⟩ := T
          refine zm_iald (n := 647) (o := (Int32.toNatClampNeg (213 + r37))) dX12_fresh_67 (by decide) (by decide) hq39 rfl ?_
          refine zr_istore dX12_fresh_68 (by decide) (L2 := [(4, .int (M38.1 231 (Int32.toNatClampNeg (213 + r37)))), (0, .ref 229), (1, .int x1), (2, .int x2), (3, .int x3)]) rfl ?_
          refine zr_aload_n dX12_fresh_70 rfl 1 rfl ?_
          refine zm_getr (a := 231) dX12_fresh_71 f_X12_98 (by decide) (by decide) (by decide) (by decide) ?_
          refine zr_sipush (v := 309) dX12_fresh_74 (by decide) ?_
          refine zr_iload_n dX12_fresh_77 rfl 2 rfl ?_
          refine zr_iload_n dX12_fresh_78 rfl 3 rfl ?_
          refine zm_callS_i dX12_fresh_79 w_X12_at l_X12_291 s_X12_at [.int x1, .int x2] rfl rfl (Nat.le_of_ble_eq_true rfl) (Nat.le_of_ble_eq_true rfl) ?_
          refine zV.post T ?_
          rintro v M41 ⟨r40, rfl, T⟩
          refine ⟨r40, rfl, ?_⟩
          refine zr_iadd dX12_fresh_82 ?_
          obtain ⟨hq42, T⟩ := T
          refine zm_iald (n := 647) (o := (Int32.toNatClampNeg (309 + r40))) dX12_fresh_83 (by decide) (by decide) hq42 rfl ?_
          refine zr_istore dX12_fresh_84 (by decide) (L2 := [(5, .int (M41.1 231 (Int32.toNatClampNeg (309 + r40)))), (4, .int (M38.1 231 (Int32.toNatClampNeg (213 + r37)))), (0, .ref 229), (1, .int x1), (2, .int x2), (3, .int x3)]) rfl ?_
          refine zr_aload_n dX12_fresh_86 rfl 2 rfl ?_
          refine zr_iload_n dX12_fresh_87 rfl 3 rfl ?_
          refine zr_iload_n dX12_fresh_88 rfl 4 rfl ?_
          refine zr_iload_n dX12_fresh_89 rfl 5 rfl ?_
          refine zm_callV_v (c := 12) (b := 229) dX12_fresh_90 w_X12_write l_X12_386 rfl (by decide) (by decide) s_X12_write [.int x1, .int x2, .int x3] rfl rfl (Nat.le_of_ble_eq_true rfl) (Nat.le_of_ble_eq_true rfl) ?_
          refine zV.post T ?_
          rintro v M44 ⟨rfl, T⟩
          refine ⟨rfl, ?_⟩
          refine zr_aload_n dX12_fresh_93 rfl 2 rfl ?_
          refine zr_iconst (v := 0) dX12_fresh_94 (by decide) ?_
          refine zr_iload_n dX12_fresh_95 rfl 3 rfl ?_
          refine zm_callV_i (c := 12) (b := 229) dX12_fresh_96 w_X12_layTree l_X12_308 rfl (by decide) (by decide) s_X12_layTree [.int 0, .int x1] rfl rfl (Nat.le_of_ble_eq_true rfl) (Nat.le_of_ble_eq_true rfl) ?_
          refine zV.post T ?_
          rintro v M46 ⟨r45, rfl, T⟩
          refine ⟨r45, rfl, ?_⟩
          refine zr_pop dX12_fresh_99 rfl ?_
          refine zr_aload_n dX12_fresh_100 rfl 2 rfl ?_
          refine zm_getr (a := 231) dX12_fresh_101 f_X12_98 (by decide) (by decide) (by decide) (by decide) ?_
          refine zr_sipush (v := 204) dX12_fresh_104 (by decide) ?_
          refine zr_dup2 dX12_fresh_107 rfl rfl ?_
          refine zm_iald (n := 647) (o := 204) dX12_fresh_108 (by decide) (by decide) (zin (by decide)) (by decide) ?_
          refine zr_iconst (v := 1) dX12_fresh_109 (by decide) ?_
          refine zr_isub dX12_fresh_110 ?_
          refine zn_iast (n := 647) (o := 204) dX12_fresh_111 (by decide) (by decide) (zin (by decide)) (by decide) (fun M47 e48 => ?_)
          have T := T M47 e48
          refine zr_aload_n dX12_fresh_112 rfl 2 rfl ?_
          refine zm_getr (a := 231) dX12_fresh_113 f_X12_98 (by decide) (by decide) (by decide) (by decide) ?_
          refine zr_sipush (v := 213) dX12_fresh_116 (by decide) ?_
          refine zr_iload_n dX12_fresh_119 rfl 3 rfl ?_
          refine zr_iload_n dX12_fresh_120 rfl 4 rfl ?_
          refine zm_callS_i dX12_fresh_121 w_X12_at l_X12_291 s_X12_at [.int x1, .int x2] rfl rfl (Nat.le_of_ble_eq_true rfl) (Nat.le_of_ble_eq_true rfl) ?_
          refine zV.post T ?_
          rintro v M50 ⟨r49, rfl, T⟩
          refine ⟨r49, rfl, ?_⟩
          refine zr_iadd dX12_fresh_124 ?_
          refine zr_iload dX12_fresh_125 1 rfl ?_
          obtain ⟨hq51, T⟩ := T
          refine zn_iast (n := 647) (o := (Int32.toNatClampNeg (213 + r49))) dX12_fresh_127 (by decide) (by decide) hq51 rfl (fun M52 e53 => ?_)
          have T := T M52 e53
          refine zr_aload_n dX12_fresh_128 rfl 2 rfl ?_
          refine zm_getr (a := 231) dX12_fresh_129 f_X12_98 (by decide) (by decide) (by decide) (by decide) ?_
          refine zr_sipush (v := 309) dX12_fresh_132 (by decide) ?_
          refine zr_iload_n dX12_fresh_135 rfl 3 rfl ?_
          refine zr_iload_n dX12_fresh_136 rfl 4 rfl ?_
          refine zm_callS_i dX12_fresh_137 w_X12_at l_X12_291 s_X12_at [.int x1, .int x2] rfl rfl (Nat.le_of_ble_eq_true rfl) (Nat.le_of_ble_eq_true rfl) ?_
          refine zV.post T ?_
          rintro v M55 ⟨r54, rfl, T⟩
          refine ⟨r54, rfl, ?_⟩
          refine zr_iadd dX12_fresh_140 ?_
          refine zr_iload dX12_fresh_141 0 rfl ?_
          obtain ⟨hq56, T⟩ := T
          refine zn_iast (n := 647) (o := (Int32.toNatClampNeg (309 + r54))) dX12_fresh_143 (by decide) (by decide) hq56 rfl (fun M57 e58 => ?_)
          have T := T M57 e58
          refine zr_iconst (v := 0) dX12_fresh_144 (by decide) ?_
          refine zr_istore dX12_fresh_145 (by decide) (L2 := [(6, .int 0), (5, .int (M41.1 231 (Int32.toNatClampNeg (309 + r40)))), (4, .int (M38.1 231 (Int32.toNatClampNeg (213 + r37)))), (0, .ref 229), (1, .int x1), (2, .int x2), (3, .int x3)]) rfl ?_
          refine zr_iconst (v := 0) dX12_fresh_147 (by decide) ?_
          refine zr_istore dX12_fresh_148 (by decide) (L2 := [(7, .int 0), (6, .int 0), (5, .int (M41.1 231 (Int32.toNatClampNeg (309 + r40)))), (4, .int (M38.1 231 (Int32.toNatClampNeg (213 + r37)))), (0, .ref 229), (1, .int x1), (2, .int x2), (3, .int x3)]) rfl ?_
          exact zV.pick [4, 1, 0] rfl T
        · have T := T.2 h34
          refine zr_iconst (v := 0) dX12_fresh_45 (by decide) ?_
          exact zm_iret dX12_fresh_46 rfl T
      · have T := T.2 h31
        refine zr_iconst (v := (-1)) dX12_fresh_32 (by decide) ?_
        exact zm_iret dX12_fresh_33 rfl T
set_option maxRecDepth 100000 in
set_option maxHeartbeats 4000000 in
theorem t_X12_fresh_150 {d : Nat} {x6 : Int32} {x7 : Int32} {M : zMem} {K : zK} 
    (T : ((M.1 246 0) ≤ x7 → K (some (.int x6)) M) ∧ (¬ ((M.1 246 0) ≤ x7) → vp_in x7 48 ∧ (S_X12_isDigest d 1 (M.1 253 (Int32.toNatClampNeg x7)) M (zB (fun r23 M24 => (r23 = true → S_X12_fresh_150 (d + 1) x6 (x7 + 1) M24 K) ∧ (r23 = false → S_X12_fresh_150 (d + 1) (x6 + 1) (x7 + 1) M24 K)))))) : S_X12_fresh_150 (d + 1) x6 x7 M K := by
  show zV m_X12_fresh (d + 1) 150 [(0, .ref 229), (6, .int x6), (7, .int x7)] [] M K
  refine zr_iload dX12_fresh_150 2 rfl ?_
  refine zr_aload_n dX12_fresh_152 rfl 0 rfl ?_
  refine zm_getr (a := 246) dX12_fresh_153 f_X12_148 (by decide) (by decide) (by decide) (by decide) ?_
  refine zr_iconst (v := 0) dX12_fresh_156 (by decide) ?_
  refine zm_iald (n := 2) (o := 0) dX12_fresh_157 (by decide) (by decide) (zin (by decide)) (by decide) ?_
  refine zr_icmp_ge (tgt := 185) dX12_fresh_158 (by decide) (fun h21 => ?_) (fun h21 => ?_)
  · have T := T.1 h21
    refine zr_iload dX12_fresh_185 1 rfl ?_
    exact zm_iret dX12_fresh_187 rfl T
  · have T := T.2 h21
    refine zr_aload_n dX12_fresh_161 rfl 0 rfl ?_
    refine zr_iconst (v := 1) dX12_fresh_162 (by decide) ?_
    refine zr_aload_n dX12_fresh_163 rfl 0 rfl ?_
    refine zm_getr (a := 253) dX12_fresh_164 f_X12_169 (by decide) (by decide) (by decide) (by decide) ?_
    refine zr_iload dX12_fresh_167 2 rfl ?_
    obtain ⟨hq22, T⟩ := T
    refine zm_iald (n := 48) (o := (Int32.toNatClampNeg x7)) dX12_fresh_169 (by decide) (by decide) hq22 rfl ?_
    refine zm_callV_b (c := 12) (b := 229) dX12_fresh_170 w_X12_isDigest l_X12_311 rfl (by decide) (by decide) s_X12_isDigest [.int 1, .int (M.1 253 (Int32.toNatClampNeg x7))] rfl rfl (Nat.le_of_ble_eq_true rfl) (Nat.le_of_ble_eq_true rfl) ?_
    refine zV.post T ?_
    rintro v M24 ⟨r23, rfl, T⟩
    refine ⟨r23, rfl, ?_⟩
    refine zm_ifb_ne (tgt := 179) dX12_fresh_173 (by decide) (fun h25 => ?_) (fun h25 => ?_)
    · have T := T.1 h25
      refine zr_iinc (n := 2) (v := x7 + 1) dX12_fresh_179 rfl rfl (by decide) (L2 := [(7, .int (x7 + 1)), (0, .ref 229), (6, .int x6)]) rfl ?_
      refine zr_goto (tgt := 150) dX12_fresh_182 (by decide) ?_
      exact zV.pick [1, 2, 0] rfl T
    · have T := T.2 h25
      refine zr_iinc (n := 1) (v := x6 + 1) dX12_fresh_176 rfl rfl (by decide) (L2 := [(6, .int (x6 + 1)), (0, .ref 229), (7, .int x7)]) rfl ?_
      refine zr_iinc (n := 2) (v := x7 + 1) dX12_fresh_179 rfl rfl (by decide) (L2 := [(7, .int (x7 + 1)), (6, .int (x6 + 1)), (0, .ref 229)]) rfl ?_
      refine zr_goto (tgt := 150) dX12_fresh_182 (by decide) ?_
      exact zV.pick [2, 1, 0] rfl T
set_option maxRecDepth 100000 in
set_option maxHeartbeats 4000000 in
theorem t_X12_pulls {d : Nat} {x1 : Int32} {x2 : Int32} {M : zMem} {K : zK} 
    (T : (∀ M21 : zMem, M21 = wI M 229 0 0 → S_X12_areTwo d x1 x2 M21 (zB (fun r23 M24 => (r23 = false → K (some (.int (-1))) M24) ∧ (r23 = true → S_X12_areCut d x1 x2 M24 (zB (fun r26 M27 => (r26 = false → S_X12_save d 236 0 M27 (zU (fun M30 => S_X12_pulls_36 (d + 1) x1 x2 0 M30 K))) ∧ (r26 = true → K (some (.int (-1))) M27)))))))) : S_X12_pulls (d + 1) x1 x2 M K := by
  show zV m_X12_pulls (d + 1) 0 [(0, .ref 229), (1, .int x1), (2, .int x2)] [] M K
  refine zr_aload_n dX12_pulls_0 rfl 0 rfl ?_
  refine zr_iconst (v := 0) dX12_pulls_1 (by decide) ?_
  refine zn_puti dX12_pulls_2 f_X12_1 (by decide) (by decide) (by decide) (fun M21 e22 => ?_)
  have T := T M21 e22
  refine zr_aload_n dX12_pulls_5 rfl 0 rfl ?_
  refine zr_iload_n dX12_pulls_6 rfl 1 rfl ?_
  refine zr_iload_n dX12_pulls_7 rfl 2 rfl ?_
  refine zm_callV_b (c := 12) (b := 229) dX12_pulls_8 w_X12_areTwo l_X12_363 rfl (by decide) (by decide) s_X12_areTwo [.int x1, .int x2] rfl rfl (Nat.le_of_ble_eq_true rfl) (Nat.le_of_ble_eq_true rfl) ?_
  refine zV.post T ?_
  rintro v M24 ⟨r23, rfl, T⟩
  refine ⟨r23, rfl, ?_⟩
  refine zm_ifb_eq (tgt := 23) dX12_pulls_11 (by decide) (fun h25 => ?_) (fun h25 => ?_)
  · have T := T.1 h25
    refine zr_iconst (v := (-1)) dX12_pulls_23 (by decide) ?_
    exact zm_iret dX12_pulls_24 rfl T
  · have T := T.2 h25
    refine zr_aload_n dX12_pulls_14 rfl 0 rfl ?_
    refine zr_iload_n dX12_pulls_15 rfl 1 rfl ?_
    refine zr_iload_n dX12_pulls_16 rfl 2 rfl ?_
    refine zm_callV_b (c := 12) (b := 229) dX12_pulls_17 w_X12_areCut l_X12_377 rfl (by decide) (by decide) s_X12_areCut [.int x1, .int x2] rfl rfl (Nat.le_of_ble_eq_true rfl) (Nat.le_of_ble_eq_true rfl) ?_
    refine zV.post T ?_
    rintro v M27 ⟨r26, rfl, T⟩
    refine ⟨r26, rfl, ?_⟩
    refine zm_ifb_eq (tgt := 25) dX12_pulls_20 (by decide) (fun h28 => ?_) (fun h28 => ?_)
    · have T := T.1 h28
      refine zr_aload_n dX12_pulls_25 rfl 0 rfl ?_
      refine zr_aload_n dX12_pulls_26 rfl 0 rfl ?_
      refine zm_getr (a := 236) dX12_pulls_27 f_X12_113 (by decide) (by decide) (by decide) (by decide) ?_
      refine zr_iconst (v := 0) dX12_pulls_30 (by decide) ?_
      refine zm_callV_v (c := 12) (b := 229) dX12_pulls_31 w_X12_save l_X12_373 rfl (by decide) (by decide) s_X12_save [.ref 236, .int 0] rfl rfl (Nat.le_of_ble_eq_true rfl) (Nat.le_of_ble_eq_true rfl) ?_
      refine zV.post T ?_
      rintro v M30 ⟨rfl, T⟩
      refine ⟨rfl, ?_⟩
      refine zr_iconst (v := 0) dX12_pulls_34 (by decide) ?_
      refine zr_istore_n dX12_pulls_35 rfl (by decide) (L2 := [(3, .int 0), (0, .ref 229), (1, .int x1), (2, .int x2)]) rfl ?_
      exact zV.pick [1, 2, 3, 0] rfl T
    · have T := T.2 h28
      refine zr_iconst (v := (-1)) dX12_pulls_23 (by decide) ?_
      exact zm_iret dX12_pulls_24 rfl T
set_option maxRecDepth 100000 in
set_option maxHeartbeats 4000000 in
theorem t_X12_pulls_36 {d : Nat} {x1 : Int32} {x2 : Int32} {x3 : Int32} {M : zMem} {K : zK} 
    (T : (100 ≤ x3 → S_X12_pulls_105 (d + 1) x1 x2 x3 M K) ∧ (¬ (100 ≤ x3) → S_X12_rootOf d x1 M (zI (fun r22 M23 => S_X12_rootOf d x2 M23 (zI (fun r24 M25 => (r22 = r24 → S_X12_pulls_105 (d + 1) x1 x2 x3 M25 K) ∧ (¬ (r22 = r24) → (¬ (x3 - x3 / 2 * 2) = 0 → S_X12_why d 2 x2 ((x1 + x2) - x2) 0 M25 (zI (fun r28 M29 => (¬ r28 = 0 → S_X12_pulls_36 (d + 1) x1 x2 (x3 + 1) M29 K) ∧ (r28 = 0 → S_X12_live d 2 x2 ((x1 + x2) - x2) 0 M29 (zU (fun M32 => S_X12_pulls_36 (d + 1) x1 x2 (x3 + 1) M32 K)))))) ∧ ((x3 - x3 / 2 * 2) = 0 → S_X12_why d 2 x1 ((x1 + x2) - x1) 0 M25 (zI (fun r33 M34 => (¬ r33 = 0 → S_X12_pulls_36 (d + 1) x1 x2 (x3 + 1) M34 K) ∧ (r33 = 0 → S_X12_live d 2 x1 ((x1 + x2) - x1) 0 M34 (zU (fun M37 => S_X12_pulls_36 (d + 1) x1 x2 (x3 + 1) M37 K))))))))))))) : S_X12_pulls_36 (d + 1) x1 x2 x3 M K := by
  show zV m_X12_pulls (d + 1) 36 [(0, .ref 229), (1, .int x1), (2, .int x2), (3, .int x3)] [] M K
  refine zr_iload_n dX12_pulls_36 rfl 3 rfl ?_
  refine zr_bipush (v := 100) dX12_pulls_37 (by decide) ?_
  refine zr_icmp_ge (tgt := 105) dX12_pulls_39 (by decide) (fun h21 => ?_) (fun h21 => ?_)
  · have T := T.1 h21
    exact zV.pick [0, 1, 2, 3] rfl T
  · have T := T.2 h21
    refine zr_aload_n dX12_pulls_42 rfl 0 rfl ?_
    refine zr_iload_n dX12_pulls_43 rfl 1 rfl ?_
    refine zm_callV_i (c := 12) (b := 229) dX12_pulls_44 w_X12_rootOf l_X12_317 rfl (by decide) (by decide) s_X12_rootOf [.int x1] rfl rfl (Nat.le_of_ble_eq_true rfl) (Nat.le_of_ble_eq_true rfl) ?_
    refine zV.post T ?_
    rintro v M23 ⟨r22, rfl, T⟩
    refine ⟨r22, rfl, ?_⟩
    refine zr_aload_n dX12_pulls_47 rfl 0 rfl ?_
    refine zr_iload_n dX12_pulls_48 rfl 2 rfl ?_
    refine zm_callV_i (c := 12) (b := 229) dX12_pulls_49 w_X12_rootOf l_X12_317 rfl (by decide) (by decide) s_X12_rootOf [.int x2] rfl rfl (Nat.le_of_ble_eq_true rfl) (Nat.le_of_ble_eq_true rfl) ?_
    refine zV.post T ?_
    rintro v M25 ⟨r24, rfl, T⟩
    refine ⟨r24, rfl, ?_⟩
    refine zr_icmp_eq (tgt := 105) dX12_pulls_52 (by decide) (fun h26 => ?_) (fun h26 => ?_)
    · have T := T.1 h26
      exact zV.pick [0, 1, 2, 3] rfl T
    · have T := T.2 h26
      refine zr_iload_n dX12_pulls_55 rfl 3 rfl ?_
      refine zr_iconst (v := 2) dX12_pulls_56 (by decide) ?_
      refine zr_irem dX12_pulls_57 (by decide) ?_
      refine zr_if_ne (tgt := 65) dX12_pulls_58 (by decide) (fun h27 => ?_) (fun h27 => ?_)
      · have T := T.1 h27
        refine zr_iload_n dX12_pulls_65 rfl 2 rfl ?_
        refine zr_istore dX12_pulls_66 (by decide) (L2 := [(4, .int x2), (0, .ref 229), (1, .int x1), (2, .int x2), (3, .int x3)]) rfl ?_
        refine zr_aload_n dX12_pulls_68 rfl 1 rfl ?_
        refine zr_iconst (v := 2) dX12_pulls_69 (by decide) ?_
        refine zr_iload dX12_pulls_70 0 rfl ?_
        refine zr_iload_n dX12_pulls_72 rfl 2 rfl ?_
        refine zr_iload_n dX12_pulls_73 rfl 3 rfl ?_
        refine zr_iadd dX12_pulls_74 ?_
        refine zr_iload dX12_pulls_75 0 rfl ?_
        refine zr_isub dX12_pulls_77 ?_
        refine zr_iconst (v := 0) dX12_pulls_78 (by decide) ?_
        refine zm_callV_i (c := 12) (b := 229) dX12_pulls_79 w_X12_why l_X12_393 rfl (by decide) (by decide) s_X12_why [.int 2, .int x2, .int ((x1 + x2) - x2), .int 0] rfl rfl (Nat.le_of_ble_eq_true rfl) (Nat.le_of_ble_eq_true rfl) ?_
        refine zV.post T ?_
        rintro v M29 ⟨r28, rfl, T⟩
        refine ⟨r28, rfl, ?_⟩
        refine zr_if_ne (tgt := 99) dX12_pulls_82 (by decide) (fun h30 => ?_) (fun h30 => ?_)
        · have T := T.1 h30
          refine zr_iinc (n := 4) (v := x3 + 1) dX12_pulls_99 rfl rfl (by decide) (L2 := [(3, .int (x3 + 1)), (4, .int x2), (0, .ref 229), (1, .int x1), (2, .int x2)]) rfl ?_
          refine zr_goto (tgt := 36) dX12_pulls_102 (by decide) ?_
          exact zV.pick [2, 3, 4, 0] rfl T
        · have T := T.2 h30
          refine zr_aload_n dX12_pulls_85 rfl 1 rfl ?_
          refine zr_iconst (v := 2) dX12_pulls_86 (by decide) ?_
          refine zr_iload dX12_pulls_87 0 rfl ?_
          refine zr_iload_n dX12_pulls_89 rfl 2 rfl ?_
          refine zr_iload_n dX12_pulls_90 rfl 3 rfl ?_
          refine zr_iadd dX12_pulls_91 ?_
          refine zr_iload dX12_pulls_92 0 rfl ?_
          refine zr_isub dX12_pulls_94 ?_
          refine zr_iconst (v := 0) dX12_pulls_95 (by decide) ?_
          refine zm_callV_v (c := 12) (b := 229) dX12_pulls_96 w_X12_live l_X12_400 rfl (by decide) (by decide) s_X12_live [.int 2, .int x2, .int ((x1 + x2) - x2), .int 0] rfl rfl (Nat.le_of_ble_eq_true rfl) (Nat.le_of_ble_eq_true rfl) ?_
          refine zV.post T ?_
          rintro v M32 ⟨rfl, T⟩
          refine ⟨rfl, ?_⟩
          refine zr_iinc (n := 4) (v := x3 + 1) dX12_pulls_99 rfl rfl (by decide) (L2 := [(3, .int (x3 + 1)), (4, .int x2), (0, .ref 229), (1, .int x1), (2, .int x2)]) rfl ?_
          refine zr_goto (tgt := 36) dX12_pulls_102 (by decide) ?_
          exact zV.pick [2, 3, 4, 0] rfl T
      · have T := T.2 h27
        refine zr_iload_n dX12_pulls_61 rfl 1 rfl ?_
        refine zr_goto (tgt := 66) dX12_pulls_62 (by decide) ?_
        refine zr_istore dX12_pulls_66 (by decide) (L2 := [(4, .int x1), (0, .ref 229), (1, .int x1), (2, .int x2), (3, .int x3)]) rfl ?_
        refine zr_aload_n dX12_pulls_68 rfl 1 rfl ?_
        refine zr_iconst (v := 2) dX12_pulls_69 (by decide) ?_
        refine zr_iload dX12_pulls_70 0 rfl ?_
        refine zr_iload_n dX12_pulls_72 rfl 2 rfl ?_
        refine zr_iload_n dX12_pulls_73 rfl 3 rfl ?_
        refine zr_iadd dX12_pulls_74 ?_
        refine zr_iload dX12_pulls_75 0 rfl ?_
        refine zr_isub dX12_pulls_77 ?_
        refine zr_iconst (v := 0) dX12_pulls_78 (by decide) ?_
        refine zm_callV_i (c := 12) (b := 229) dX12_pulls_79 w_X12_why l_X12_393 rfl (by decide) (by decide) s_X12_why [.int 2, .int x1, .int ((x1 + x2) - x1), .int 0] rfl rfl (Nat.le_of_ble_eq_true rfl) (Nat.le_of_ble_eq_true rfl) ?_
        refine zV.post T ?_
        rintro v M34 ⟨r33, rfl, T⟩
        refine ⟨r33, rfl, ?_⟩
        refine zr_if_ne (tgt := 99) dX12_pulls_82 (by decide) (fun h35 => ?_) (fun h35 => ?_)
        · have T := T.1 h35
          refine zr_iinc (n := 4) (v := x3 + 1) dX12_pulls_99 rfl rfl (by decide) (L2 := [(3, .int (x3 + 1)), (4, .int x1), (0, .ref 229), (1, .int x1), (2, .int x2)]) rfl ?_
          refine zr_goto (tgt := 36) dX12_pulls_102 (by decide) ?_
          exact zV.pick [2, 3, 4, 0] rfl T
        · have T := T.2 h35
          refine zr_aload_n dX12_pulls_85 rfl 1 rfl ?_
          refine zr_iconst (v := 2) dX12_pulls_86 (by decide) ?_
          refine zr_iload dX12_pulls_87 0 rfl ?_
          refine zr_iload_n dX12_pulls_89 rfl 2 rfl ?_
          refine zr_iload_n dX12_pulls_90 rfl 3 rfl ?_
          refine zr_iadd dX12_pulls_91 ?_
          refine zr_iload dX12_pulls_92 0 rfl ?_
          refine zr_isub dX12_pulls_94 ?_
          refine zr_iconst (v := 0) dX12_pulls_95 (by decide) ?_
          refine zm_callV_v (c := 12) (b := 229) dX12_pulls_96 w_X12_live l_X12_400 rfl (by decide) (by decide) s_X12_live [.int 2, .int x1, .int ((x1 + x2) - x1), .int 0] rfl rfl (Nat.le_of_ble_eq_true rfl) (Nat.le_of_ble_eq_true rfl) ?_
          refine zV.post T ?_
          rintro v M37 ⟨rfl, T⟩
          refine ⟨rfl, ?_⟩
          refine zr_iinc (n := 4) (v := x3 + 1) dX12_pulls_99 rfl rfl (by decide) (L2 := [(3, .int (x3 + 1)), (4, .int x1), (0, .ref 229), (1, .int x1), (2, .int x2)]) rfl ?_
          refine zr_goto (tgt := 36) dX12_pulls_102 (by decide) ?_
          exact zV.pick [2, 3, 4, 0] rfl T
set_option maxRecDepth 100000 in
set_option maxHeartbeats 4000000 in
theorem t_X12_pulls_105 {d : Nat} {x1 : Int32} {x2 : Int32} {x3 : Int32} {M : zMem} {K : zK} 
    (T : S_X12_rootOf d x1 M (zI (fun r21 M22 => S_X12_rootOf d x2 M22 (zI (fun r23 M24 => (¬ r21 = r23 → S_X12_comeBack d 236 0 M24 (zU (fun M27 => K (some (.int (-1))) M27))) ∧ (r21 = r23 → S_X12_comeBack d 236 0 M24 (zU (fun M30 => K (some (.int x3)) M30)))))))) : S_X12_pulls_105 (d + 1) x1 x2 x3 M K := by
  show zV m_X12_pulls (d + 1) 105 [(0, .ref 229), (1, .int x1), (2, .int x2), (3, .int x3)] [] M K
  refine zr_aload_n dX12_pulls_105 rfl 0 rfl ?_
  refine zr_iload_n dX12_pulls_106 rfl 1 rfl ?_
  refine zm_callV_i (c := 12) (b := 229) dX12_pulls_107 w_X12_rootOf l_X12_317 rfl (by decide) (by decide) s_X12_rootOf [.int x1] rfl rfl (Nat.le_of_ble_eq_true rfl) (Nat.le_of_ble_eq_true rfl) ?_
  refine zV.post T ?_
  rintro v M22 ⟨r21, rfl, T⟩
  refine ⟨r21, rfl, ?_⟩
  refine zr_aload_n dX12_pulls_110 rfl 0 rfl ?_
  refine zr_iload_n dX12_pulls_111 rfl 2 rfl ?_
  refine zm_callV_i (c := 12) (b := 229) dX12_pulls_112 w_X12_rootOf l_X12_317 rfl (by decide) (by decide) s_X12_rootOf [.int x2] rfl rfl (Nat.le_of_ble_eq_true rfl) (Nat.le_of_ble_eq_true rfl) ?_
  refine zV.post T ?_
  rintro v M24 ⟨r23, rfl, T⟩
  refine ⟨r23, rfl, ?_⟩
  refine zr_icmp_ne (tgt := 122) dX12_pulls_115 (by decide) (fun h25 => ?_) (fun h25 => ?_)
  · have T := T.1 h25
    refine zr_iconst (v := 0) dX12_pulls_122 (by decide) ?_
    refine zr_istore dX12_pulls_123 (by decide) (L2 := [(4, .int 0), (0, .ref 229), (1, .int x1), (2, .int x2), (3, .int x3)]) rfl ?_
    refine zr_aload_n dX12_pulls_125 rfl 1 rfl ?_
    refine zr_aload_n dX12_pulls_126 rfl 1 rfl ?_
    refine zm_getr (a := 236) dX12_pulls_127 f_X12_113 (by decide) (by decide) (by decide) (by decide) ?_
    refine zr_iconst (v := 0) dX12_pulls_130 (by decide) ?_
    refine zm_callV_v (c := 12) (b := 229) dX12_pulls_131 w_X12_comeBack l_X12_408 rfl (by decide) (by decide) s_X12_comeBack [.ref 236, .int 0] rfl rfl (Nat.le_of_ble_eq_true rfl) (Nat.le_of_ble_eq_true rfl) ?_
    refine zV.post T ?_
    rintro v M27 ⟨rfl, T⟩
    refine ⟨rfl, ?_⟩
    refine zr_iload dX12_pulls_134 0 rfl ?_
    refine zr_if_eq (tgt := 143) dX12_pulls_136 (by decide) (fun _ => ?_) (fun h => absurd h (by decide))
    refine zr_iconst (v := (-1)) dX12_pulls_143 (by decide) ?_
    exact zm_iret dX12_pulls_144 rfl T
  · have T := T.2 h25
    refine zr_iconst (v := 1) dX12_pulls_118 (by decide) ?_
    refine zr_goto (tgt := 123) dX12_pulls_119 (by decide) ?_
    refine zr_istore dX12_pulls_123 (by decide) (L2 := [(4, .int 1), (0, .ref 229), (1, .int x1), (2, .int x2), (3, .int x3)]) rfl ?_
    refine zr_aload_n dX12_pulls_125 rfl 1 rfl ?_
    refine zr_aload_n dX12_pulls_126 rfl 1 rfl ?_
    refine zm_getr (a := 236) dX12_pulls_127 f_X12_113 (by decide) (by decide) (by decide) (by decide) ?_
    refine zr_iconst (v := 0) dX12_pulls_130 (by decide) ?_
    refine zm_callV_v (c := 12) (b := 229) dX12_pulls_131 w_X12_comeBack l_X12_408 rfl (by decide) (by decide) s_X12_comeBack [.ref 236, .int 0] rfl rfl (Nat.le_of_ble_eq_true rfl) (Nat.le_of_ble_eq_true rfl) ?_
    refine zV.post T ?_
    rintro v M30 ⟨rfl, T⟩
    refine ⟨rfl, ?_⟩
    refine zr_iload dX12_pulls_134 0 rfl ?_
    refine zr_if_eq (tgt := 143) dX12_pulls_136 (by decide) (fun h => absurd h (by decide)) (fun _ => ?_)
    refine zr_iload_n dX12_pulls_139 rfl 4 rfl ?_
    refine zr_goto (tgt := 144) dX12_pulls_140 (by decide) ?_
    exact zm_iret dX12_pulls_144 rfl T
set_option maxRecDepth 100000 in
set_option maxHeartbeats 4000000 in
theorem t_X12_path {d : Nat} {x1 : Int32} {x2 : Int32} {M : zMem} {K : zK} 
    (T : (∀ M21 : zMem, M21 = wI M 229 0 0 → S_X12_isPeer d x1 M21 (zB (fun r23 M24 => (r23 = false → K (some (.int (-1))) M24) ∧ (r23 = true → S_X12_isKey d x2 M24 (zB (fun r26 M27 => (r26 = false → K (some (.int (-1))) M27) ∧ (r26 = true → S_X12_hasEntry d x1 x2 M27 (zB (fun r29 M30 => (r29 = true → S_X12_layTree d 0 x1 M30 (zI (fun r32 M33 => vp_in x2 48 ∧ (K (some (.int (M33.1 254 (Int32.toNatClampNeg x2)))) M33)))) ∧ (r29 = false → K (some (.int (-1))) M30))))))))))) : S_X12_path (d + 1) x1 x2 M K := by
  show zV m_X12_path (d + 1) 0 [(0, .ref 229), (1, .int x1), (2, .int x2)] [] M K
  refine zr_aload_n dX12_path_0 rfl 0 rfl ?_
  refine zr_iconst (v := 0) dX12_path_1 (by decide) ?_
  refine zn_puti dX12_path_2 f_X12_1 (by decide) (by decide) (by decide) (fun M21 e22 => ?_)
  have T := T M21 e22
  refine zr_aload_n dX12_path_5 rfl 0 rfl ?_
  refine zr_iload_n dX12_path_6 rfl 1 rfl ?_
  refine zm_callV_b (c := 12) (b := 229) dX12_path_7 w_X12_isPeer l_X12_288 rfl (by decide) (by decide) s_X12_isPeer [.int x1] rfl rfl (Nat.le_of_ble_eq_true rfl) (Nat.le_of_ble_eq_true rfl) ?_
  refine zV.post T ?_
  rintro v M24 ⟨r23, rfl, T⟩
  refine ⟨r23, rfl, ?_⟩
  refine zm_ifb_eq (tgt := 30) dX12_path_10 (by decide) (fun h25 => ?_) (fun h25 => ?_)
  · have T := T.1 h25
    refine zr_iconst (v := (-1)) dX12_path_30 (by decide) ?_
    exact zm_iret dX12_path_31 rfl T
  · have T := T.2 h25
    refine zr_aload_n dX12_path_13 rfl 0 rfl ?_
    refine zr_iload_n dX12_path_14 rfl 2 rfl ?_
    refine zm_callV_b (c := 12) (b := 229) dX12_path_15 w_X12_isKey l_X12_326 rfl (by decide) (by decide) s_X12_isKey [.int x2] rfl rfl (Nat.le_of_ble_eq_true rfl) (Nat.le_of_ble_eq_true rfl) ?_
    refine zV.post T ?_
    rintro v M27 ⟨r26, rfl, T⟩
    refine ⟨r26, rfl, ?_⟩
    refine zm_ifb_eq (tgt := 30) dX12_path_18 (by decide) (fun h28 => ?_) (fun h28 => ?_)
    · have T := T.1 h28
      refine zr_iconst (v := (-1)) dX12_path_30 (by decide) ?_
      exact zm_iret dX12_path_31 rfl T
    · have T := T.2 h28
      refine zr_aload_n dX12_path_21 rfl 0 rfl ?_
      refine zr_iload_n dX12_path_22 rfl 1 rfl ?_
      refine zr_iload_n dX12_path_23 rfl 2 rfl ?_
      refine zm_callV_b (c := 12) (b := 229) dX12_path_24 w_X12_hasEntry l_X12_294 rfl (by decide) (by decide) s_X12_hasEntry [.int x1, .int x2] rfl rfl (Nat.le_of_ble_eq_true rfl) (Nat.le_of_ble_eq_true rfl) ?_
      refine zV.post T ?_
      rintro v M30 ⟨r29, rfl, T⟩
      refine ⟨r29, rfl, ?_⟩
      refine zm_ifb_ne (tgt := 32) dX12_path_27 (by decide) (fun h31 => ?_) (fun h31 => ?_)
      · have T := T.1 h31
        refine zr_aload_n dX12_path_32 rfl 0 rfl ?_
        refine zr_iconst (v := 0) dX12_path_33 (by decide) ?_
        refine zr_iload_n dX12_path_34 rfl 1 rfl ?_
        refine zm_callV_i (c := 12) (b := 229) dX12_path_35 w_X12_layTree l_X12_308 rfl (by decide) (by decide) s_X12_layTree [.int 0, .int x1] rfl rfl (Nat.le_of_ble_eq_true rfl) (Nat.le_of_ble_eq_true rfl) ?_
        refine zV.post T ?_
        rintro v M33 ⟨r32, rfl, T⟩
        refine ⟨r32, rfl, ?_⟩
        refine zr_pop dX12_path_38 rfl ?_
        refine zr_aload_n dX12_path_39 rfl 0 rfl ?_
        refine zm_getr (a := 254) dX12_path_40 f_X12_172 (by decide) (by decide) (by decide) (by decide) ?_
        refine zr_iload_n dX12_path_43 rfl 2 rfl ?_
        obtain ⟨hq34, T⟩ := T
        refine zm_iald (n := 48) (o := (Int32.toNatClampNeg x2)) dX12_path_44 (by decide) (by decide) hq34 rfl ?_
        exact zm_iret dX12_path_45 rfl T
      · have T := T.2 h31
        refine zr_iconst (v := (-1)) dX12_path_30 (by decide) ?_
        exact zm_iret dX12_path_31 rfl T
set_option maxRecDepth 100000 in
set_option maxHeartbeats 4000000 in
theorem t_X12_mean {d : Nat} {x1 : Int32} {x2 : Int32} {M : zMem} {K : zK} 
    (T : (∀ M21 : zMem, M21 = wI M 229 0 0 → S_X12_isPeer d x1 M21 (zB (fun r23 M24 => (r23 = false → S_X12_refuse d  M24 (zI (fun r26 M27 => K (some (.int r26)) M27))) ∧ (r23 = true → S_X12_entriesOf d x1 M24 (zI (fun r28 M29 => (r28 = 0 → S_X12_refuse d  M29 (zI (fun r31 M32 => K (some (.int r31)) M32))) ∧ (¬ (r28 = 0) → S_X12_isIn d x2 0 1 M29 (zB (fun r33 M34 => (r33 = true → S_X12_layTree d 0 x1 M34 (zI (fun r36 M37 => S_X12_entriesOf d x1 M37 (zI (fun r38 M39 => S_X12_fraction d r38 (M39.1 246 0) x2 M39 (zI (fun r40 M41 => K (some (.int r40)) M41))))))) ∧ (r33 = false → S_X12_refuse d  M34 (zI (fun r42 M43 => K (some (.int r42)) M43))))))))))))) : S_X12_mean (d + 1) x1 x2 M K := by
  show zV m_X12_mean (d + 1) 0 [(0, .ref 229), (1, .int x1), (2, .int x2)] [] M K
  refine zr_aload_n dX12_mean_0 rfl 0 rfl ?_
  refine zr_iconst (v := 0) dX12_mean_1 (by decide) ?_
  refine zn_puti dX12_mean_2 f_X12_1 (by decide) (by decide) (by decide) (fun M21 e22 => ?_)
  have T := T M21 e22
  refine zr_aload_n dX12_mean_5 rfl 0 rfl ?_
  refine zr_iload_n dX12_mean_6 rfl 1 rfl ?_
  refine zm_callV_b (c := 12) (b := 229) dX12_mean_7 w_X12_isPeer l_X12_288 rfl (by decide) (by decide) s_X12_isPeer [.int x1] rfl rfl (Nat.le_of_ble_eq_true rfl) (Nat.le_of_ble_eq_true rfl) ?_
  refine zV.post T ?_
  rintro v M24 ⟨r23, rfl, T⟩
  refine ⟨r23, rfl, ?_⟩
  refine zm_ifb_eq (tgt := 30) dX12_mean_10 (by decide) (fun h25 => ?_) (fun h25 => ?_)
  · have T := T.1 h25
    refine zr_aload_n dX12_mean_30 rfl 0 rfl ?_
    refine zm_callV_i (c := 12) (b := 229) dX12_mean_31 w_X12_refuse l_X12_329 rfl (by decide) (by decide) s_X12_refuse [] rfl rfl (Nat.le_of_ble_eq_true rfl) (Nat.le_of_ble_eq_true rfl) ?_
    refine zV.post T ?_
    rintro v M27 ⟨r26, rfl, T⟩
    refine ⟨r26, rfl, ?_⟩
    exact zm_iret dX12_mean_34 rfl T
  · have T := T.2 h25
    refine zr_aload_n dX12_mean_13 rfl 0 rfl ?_
    refine zr_iload_n dX12_mean_14 rfl 1 rfl ?_
    refine zm_callV_i (c := 12) (b := 229) dX12_mean_15 w_X12_entriesOf l_X12_332 rfl (by decide) (by decide) s_X12_entriesOf [.int x1] rfl rfl (Nat.le_of_ble_eq_true rfl) (Nat.le_of_ble_eq_true rfl) ?_
    refine zV.post T ?_
    rintro v M29 ⟨r28, rfl, T⟩
    refine ⟨r28, rfl, ?_⟩
    refine zr_if_eq (tgt := 30) dX12_mean_18 (by decide) (fun h30 => ?_) (fun h30 => ?_)
    · have T := T.1 h30
      refine zr_aload_n dX12_mean_30 rfl 0 rfl ?_
      refine zm_callV_i (c := 12) (b := 229) dX12_mean_31 w_X12_refuse l_X12_329 rfl (by decide) (by decide) s_X12_refuse [] rfl rfl (Nat.le_of_ble_eq_true rfl) (Nat.le_of_ble_eq_true rfl) ?_
      refine zV.post T ?_
      rintro v M32 ⟨r31, rfl, T⟩
      refine ⟨r31, rfl, ?_⟩
      exact zm_iret dX12_mean_34 rfl T
    · have T := T.2 h30
      refine zr_iload_n dX12_mean_21 rfl 2 rfl ?_
      refine zr_iconst (v := 0) dX12_mean_22 (by decide) ?_
      refine zr_iconst (v := 1) dX12_mean_23 (by decide) ?_
      refine zm_callS_b dX12_mean_24 w_X12_isIn l_X12_75 s_X12_isIn [.int x2, .int 0, .int 1] rfl rfl (Nat.le_of_ble_eq_true rfl) (Nat.le_of_ble_eq_true rfl) ?_
      refine zV.post T ?_
      rintro v M34 ⟨r33, rfl, T⟩
      refine ⟨r33, rfl, ?_⟩
      refine zm_ifb_ne (tgt := 35) dX12_mean_27 (by decide) (fun h35 => ?_) (fun h35 => ?_)
      · have T := T.1 h35
        refine zr_aload_n dX12_mean_35 rfl 0 rfl ?_
        refine zr_iconst (v := 0) dX12_mean_36 (by decide) ?_
        refine zr_iload_n dX12_mean_37 rfl 1 rfl ?_
        refine zm_callV_i (c := 12) (b := 229) dX12_mean_38 w_X12_layTree l_X12_308 rfl (by decide) (by decide) s_X12_layTree [.int 0, .int x1] rfl rfl (Nat.le_of_ble_eq_true rfl) (Nat.le_of_ble_eq_true rfl) ?_
        refine zV.post T ?_
        rintro v M37 ⟨r36, rfl, T⟩
        refine ⟨r36, rfl, ?_⟩
        refine zr_pop dX12_mean_41 rfl ?_
        refine zr_aload_n dX12_mean_42 rfl 0 rfl ?_
        refine zr_aload_n dX12_mean_43 rfl 0 rfl ?_
        refine zr_iload_n dX12_mean_44 rfl 1 rfl ?_
        refine zm_callV_i (c := 12) (b := 229) dX12_mean_45 w_X12_entriesOf l_X12_332 rfl (by decide) (by decide) s_X12_entriesOf [.int x1] rfl rfl (Nat.le_of_ble_eq_true rfl) (Nat.le_of_ble_eq_true rfl) ?_
        refine zV.post T ?_
        rintro v M39 ⟨r38, rfl, T⟩
        refine ⟨r38, rfl, ?_⟩
        refine zr_aload_n dX12_mean_48 rfl 0 rfl ?_
        refine zm_getr (a := 246) dX12_mean_49 f_X12_148 (by decide) (by decide) (by decide) (by decide) ?_
        refine zr_iconst (v := 0) dX12_mean_52 (by decide) ?_
        refine zm_iald (n := 2) (o := 0) dX12_mean_53 (by decide) (by decide) (zin (by decide)) (by decide) ?_
        refine zr_iload_n dX12_mean_54 rfl 2 rfl ?_
        refine zm_callV_i (c := 12) (b := 229) dX12_mean_55 w_X12_fraction l_X12_414 rfl (by decide) (by decide) s_X12_fraction [.int r38, .int (M39.1 246 0), .int x2] rfl rfl (Nat.le_of_ble_eq_true rfl) (Nat.le_of_ble_eq_true rfl) ?_
        refine zV.post T ?_
        rintro v M41 ⟨r40, rfl, T⟩
        refine ⟨r40, rfl, ?_⟩
        exact zm_iret dX12_mean_58 rfl T
      · have T := T.2 h35
        refine zr_aload_n dX12_mean_30 rfl 0 rfl ?_
        refine zm_callV_i (c := 12) (b := 229) dX12_mean_31 w_X12_refuse l_X12_329 rfl (by decide) (by decide) s_X12_refuse [] rfl rfl (Nat.le_of_ble_eq_true rfl) (Nat.le_of_ble_eq_true rfl) ?_
        refine zV.post T ?_
        rintro v M43 ⟨r42, rfl, T⟩
        refine ⟨r42, rfl, ?_⟩
        exact zm_iret dX12_mean_34 rfl T
set_option maxRecDepth 100000 in
set_option maxHeartbeats 4000000 in
theorem t_X12_fraction {d : Nat} {x1 : Int32} {x2 : Int32} {x3 : Int32} {M : zMem} {K : zK} 
    (T : (¬ x3 = 0 → S_X12_common d x1 x2 M (zI (fun r22 M23 => (¬ r22 = 0) ∧ (K (some (.int (x2 / r22))) M23)))) ∧ (x3 = 0 → S_X12_common d x1 x2 M (zI (fun r25 M26 => (¬ r25 = 0) ∧ (K (some (.int (x1 / r25))) M26))))) : S_X12_fraction (d + 1) x1 x2 x3 M K := by
  show zV m_X12_fraction (d + 1) 0 [(0, .ref 229), (1, .int x1), (2, .int x2), (3, .int x3)] [] M K
  refine zr_iload_n dX12_fraction_0 rfl 3 rfl ?_
  refine zr_if_ne (tgt := 8) dX12_fraction_1 (by decide) (fun h21 => ?_) (fun h21 => ?_)
  · have T := T.1 h21
    refine zr_iload_n dX12_fraction_8 rfl 2 rfl ?_
    refine zr_iload_n dX12_fraction_9 rfl 1 rfl ?_
    refine zr_iload_n dX12_fraction_10 rfl 2 rfl ?_
    refine zm_callS_i dX12_fraction_11 w_X12_common l_X12_411 s_X12_common [.int x1, .int x2] rfl rfl (Nat.le_of_ble_eq_true rfl) (Nat.le_of_ble_eq_true rfl) ?_
    refine zV.post T ?_
    rintro v M23 ⟨r22, rfl, T⟩
    refine ⟨r22, rfl, ?_⟩
    obtain ⟨hz24, T⟩ := T
    refine zr_idiv dX12_fraction_14 hz24 ?_
    exact zm_iret dX12_fraction_15 rfl T
  · have T := T.2 h21
    refine zr_iload_n dX12_fraction_4 rfl 1 rfl ?_
    refine zr_goto (tgt := 9) dX12_fraction_5 (by decide) ?_
    refine zr_iload_n dX12_fraction_9 rfl 1 rfl ?_
    refine zr_iload_n dX12_fraction_10 rfl 2 rfl ?_
    refine zm_callS_i dX12_fraction_11 w_X12_common l_X12_411 s_X12_common [.int x1, .int x2] rfl rfl (Nat.le_of_ble_eq_true rfl) (Nat.le_of_ble_eq_true rfl) ?_
    refine zV.post T ?_
    rintro v M26 ⟨r25, rfl, T⟩
    refine ⟨r25, rfl, ?_⟩
    obtain ⟨hz27, T⟩ := T
    refine zr_idiv dX12_fraction_14 hz27 ?_
    exact zm_iret dX12_fraction_15 rfl T
set_option maxRecDepth 100000 in
set_option maxHeartbeats 4000000 in
theorem t_X12_common {d : Nat} {x0 : Int32} {x1 : Int32} {M : zMem} {K : zK} 
    (T : S_X12_common_4 d x0 x1 M K) : S_X12_common d x0 x1 M K := by
  show zV m_X12_common d 0 [(0, .int x0), (1, .int x1)] [] M K
  refine zr_iload_n dX12_common_0 rfl 0 rfl ?_
  refine zr_istore_n dX12_common_1 rfl (by decide) (L2 := [(2, .int x0), (0, .int x0), (1, .int x1)]) rfl ?_
  refine zr_iload_n dX12_common_2 rfl 2 rfl ?_
  refine zr_istore_n dX12_common_3 rfl (by decide) (L2 := [(3, .int x1), (2, .int x0), (0, .int x0), (1, .int x1)]) rfl ?_
  exact zV.pick [1, 0] rfl T
set_option maxRecDepth 100000 in
set_option maxHeartbeats 4000000 in
theorem t_X12_common_4 {d : Nat} {x2 : Int32} {x3 : Int32} {M : zMem} {K : zK} 
    (T : (x3 = 0 → K (some (.int x2)) M) ∧ (¬ (x3 = 0) → (¬ x3 = 0) ∧ (S_X12_common_4 d x3 (x2 - x2 / x3 * x3) M K))) : S_X12_common_4 d x2 x3 M K := by
  show zV m_X12_common d 4 [(2, .int x2), (3, .int x3)] [] M K
  refine zr_iload_n dX12_common_4 rfl 1 rfl ?_
  refine zr_if_eq (tgt := 21) dX12_common_5 (by decide) (fun h21 => ?_) (fun h21 => ?_)
  · have T := T.1 h21
    refine zr_iload_n dX12_common_21 rfl 0 rfl ?_
    exact zm_iret dX12_common_22 rfl T
  · have T := T.2 h21
    refine zr_iload_n dX12_common_8 rfl 0 rfl ?_
    refine zr_iload_n dX12_common_9 rfl 1 rfl ?_
    obtain ⟨hz22, T⟩ := T
    refine zr_irem dX12_common_10 hz22 ?_
    refine zr_istore dX12_common_11 (by decide) (L2 := [(4, .int (x2 - x2 / x3 * x3)), (2, .int x2), (3, .int x3)]) rfl ?_
    refine zr_iload_n dX12_common_13 rfl 2 rfl ?_
    refine zr_istore_n dX12_common_14 rfl (by decide) (L2 := [(2, .int x3), (4, .int (x2 - x2 / x3 * x3)), (3, .int x3)]) rfl ?_
    refine zr_iload dX12_common_15 1 rfl ?_
    refine zr_istore_n dX12_common_17 rfl (by decide) (L2 := [(3, .int (x2 - x2 / x3 * x3)), (2, .int x3), (4, .int (x2 - x2 / x3 * x3))]) rfl ?_
    refine zr_goto (tgt := 4) dX12_common_18 (by decide) ?_
    exact zV.pick [1, 0] rfl T
set_option maxRecDepth 100000 in
set_option maxHeartbeats 4000000 in
theorem t_X12_part {d : Nat} {x1 : Int32} {x2 : Int32} {x3 : Int32} {M : zMem} {K : zK} 
    (T : (∀ M21 : zMem, M21 = wI M 229 0 0 → S_X12_areTwo d x1 x2 M21 (zB (fun r23 M24 => (r23 = false → S_X12_refuse d  M24 (zI (fun r26 M27 => K (some (.int r26)) M27))) ∧ (r23 = true → S_X12_entriesOf d x1 M24 (zI (fun r28 M29 => (r28 = 0 → S_X12_refuse d  M29 (zI (fun r31 M32 => K (some (.int r31)) M32))) ∧ (¬ (r28 = 0) → S_X12_isIn d x3 0 1 M29 (zB (fun r33 M34 => (r33 = true → S_X12_visitedOf d x1 x2 M34 (zI (fun r36 M37 => S_X12_bits d r36 M37 (zI (fun r38 M39 => S_X12_fraction d r38 (M39.1 246 0) x3 M39 (zI (fun r40 M41 => K (some (.int r40)) M41))))))) ∧ (r33 = false → S_X12_refuse d  M34 (zI (fun r42 M43 => K (some (.int r42)) M43))))))))))))) : S_X12_part (d + 1) x1 x2 x3 M K := by
  show zV m_X12_part (d + 1) 0 [(0, .ref 229), (1, .int x1), (2, .int x2), (3, .int x3)] [] M K
  refine zr_aload_n dX12_part_0 rfl 0 rfl ?_
  refine zr_iconst (v := 0) dX12_part_1 (by decide) ?_
  refine zn_puti dX12_part_2 f_X12_1 (by decide) (by decide) (by decide) (fun M21 e22 => ?_)
  have T := T M21 e22
  refine zr_aload_n dX12_part_5 rfl 0 rfl ?_
  refine zr_iload_n dX12_part_6 rfl 1 rfl ?_
  refine zr_iload_n dX12_part_7 rfl 2 rfl ?_
  refine zm_callV_b (c := 12) (b := 229) dX12_part_8 w_X12_areTwo l_X12_363 rfl (by decide) (by decide) s_X12_areTwo [.int x1, .int x2] rfl rfl (Nat.le_of_ble_eq_true rfl) (Nat.le_of_ble_eq_true rfl) ?_
  refine zV.post T ?_
  rintro v M24 ⟨r23, rfl, T⟩
  refine ⟨r23, rfl, ?_⟩
  refine zm_ifb_eq (tgt := 31) dX12_part_11 (by decide) (fun h25 => ?_) (fun h25 => ?_)
  · have T := T.1 h25
    refine zr_aload_n dX12_part_31 rfl 0 rfl ?_
    refine zm_callV_i (c := 12) (b := 229) dX12_part_32 w_X12_refuse l_X12_329 rfl (by decide) (by decide) s_X12_refuse [] rfl rfl (Nat.le_of_ble_eq_true rfl) (Nat.le_of_ble_eq_true rfl) ?_
    refine zV.post T ?_
    rintro v M27 ⟨r26, rfl, T⟩
    refine ⟨r26, rfl, ?_⟩
    exact zm_iret dX12_part_35 rfl T
  · have T := T.2 h25
    refine zr_aload_n dX12_part_14 rfl 0 rfl ?_
    refine zr_iload_n dX12_part_15 rfl 1 rfl ?_
    refine zm_callV_i (c := 12) (b := 229) dX12_part_16 w_X12_entriesOf l_X12_332 rfl (by decide) (by decide) s_X12_entriesOf [.int x1] rfl rfl (Nat.le_of_ble_eq_true rfl) (Nat.le_of_ble_eq_true rfl) ?_
    refine zV.post T ?_
    rintro v M29 ⟨r28, rfl, T⟩
    refine ⟨r28, rfl, ?_⟩
    refine zr_if_eq (tgt := 31) dX12_part_19 (by decide) (fun h30 => ?_) (fun h30 => ?_)
    · have T := T.1 h30
      refine zr_aload_n dX12_part_31 rfl 0 rfl ?_
      refine zm_callV_i (c := 12) (b := 229) dX12_part_32 w_X12_refuse l_X12_329 rfl (by decide) (by decide) s_X12_refuse [] rfl rfl (Nat.le_of_ble_eq_true rfl) (Nat.le_of_ble_eq_true rfl) ?_
      refine zV.post T ?_
      rintro v M32 ⟨r31, rfl, T⟩
      refine ⟨r31, rfl, ?_⟩
      exact zm_iret dX12_part_35 rfl T
    · have T := T.2 h30
      refine zr_iload_n dX12_part_22 rfl 3 rfl ?_
      refine zr_iconst (v := 0) dX12_part_23 (by decide) ?_
      refine zr_iconst (v := 1) dX12_part_24 (by decide) ?_
      refine zm_callS_b dX12_part_25 w_X12_isIn l_X12_75 s_X12_isIn [.int x3, .int 0, .int 1] rfl rfl (Nat.le_of_ble_eq_true rfl) (Nat.le_of_ble_eq_true rfl) ?_
      refine zV.post T ?_
      rintro v M34 ⟨r33, rfl, T⟩
      refine ⟨r33, rfl, ?_⟩
      refine zm_ifb_ne (tgt := 36) dX12_part_28 (by decide) (fun h35 => ?_) (fun h35 => ?_)
      · have T := T.1 h35
        refine zr_aload_n dX12_part_36 rfl 0 rfl ?_
        refine zr_iload_n dX12_part_37 rfl 1 rfl ?_
        refine zr_iload_n dX12_part_38 rfl 2 rfl ?_
        refine zm_callV_i (c := 12) (b := 229) dX12_part_39 w_X12_visitedOf l_X12_354 rfl (by decide) (by decide) s_X12_visitedOf [.int x1, .int x2] rfl rfl (Nat.le_of_ble_eq_true rfl) (Nat.le_of_ble_eq_true rfl) ?_
        refine zV.post T ?_
        rintro v M37 ⟨r36, rfl, T⟩
        refine ⟨r36, rfl, ?_⟩
        refine zm_callS_i dX12_part_42 w_X12_bits l_X12_338 s_X12_bits [.int r36] rfl rfl (Nat.le_of_ble_eq_true rfl) (Nat.le_of_ble_eq_true rfl) ?_
        refine zV.post T ?_
        rintro v M39 ⟨r38, rfl, T⟩
        refine ⟨r38, rfl, ?_⟩
        refine zr_istore dX12_part_45 (by decide) (L2 := [(4, .int r38), (0, .ref 229), (1, .int x1), (2, .int x2), (3, .int x3)]) rfl ?_
        refine zr_aload_n dX12_part_47 rfl 1 rfl ?_
        refine zr_iload dX12_part_48 0 rfl ?_
        refine zr_aload_n dX12_part_50 rfl 1 rfl ?_
        refine zm_getr (a := 246) dX12_part_51 f_X12_148 (by decide) (by decide) (by decide) (by decide) ?_
        refine zr_iconst (v := 0) dX12_part_54 (by decide) ?_
        refine zm_iald (n := 2) (o := 0) dX12_part_55 (by decide) (by decide) (zin (by decide)) (by decide) ?_
        refine zr_iload_n dX12_part_56 rfl 4 rfl ?_
        refine zm_callV_i (c := 12) (b := 229) dX12_part_57 w_X12_fraction l_X12_414 rfl (by decide) (by decide) s_X12_fraction [.int r38, .int (M39.1 246 0), .int x3] rfl rfl (Nat.le_of_ble_eq_true rfl) (Nat.le_of_ble_eq_true rfl) ?_
        refine zV.post T ?_
        rintro v M41 ⟨r40, rfl, T⟩
        refine ⟨r40, rfl, ?_⟩
        exact zm_iret dX12_part_60 rfl T
      · have T := T.2 h35
        refine zr_aload_n dX12_part_31 rfl 0 rfl ?_
        refine zm_callV_i (c := 12) (b := 229) dX12_part_32 w_X12_refuse l_X12_329 rfl (by decide) (by decide) s_X12_refuse [] rfl rfl (Nat.le_of_ble_eq_true rfl) (Nat.le_of_ble_eq_true rfl) ?_
        refine zV.post T ?_
        rintro v M43 ⟨r42, rfl, T⟩
        refine ⟨r42, rfl, ?_⟩
        exact zm_iret dX12_part_35 rfl T
set_option maxRecDepth 100000 in
set_option maxHeartbeats 4000000 in
theorem t_X12_tag {d : Nat} {x1 : Int32} {M : zMem} {K : zK} 
    (T : (∀ M21 : zMem, M21 = wI M 229 0 0 → S_X12_isPeer d x1 M21 (zB (fun r23 M24 => (r23 = true → S_X12_layTree d 0 x1 M24 (zI (fun r26 M27 => (∀ M28 : zMem, M28 = wI M27 229 46 0 → vp_in (24 + x1) 28 ∧ (S_X12_sayWord d (M28.2 237 (Int32.toNatClampNeg (24 + x1))) M28 (zU (fun M32 => S_X12_wordOf d 8 M32 (zJ (fun r33 M34 => S_X12_sayNext d r33 M34 (zU (fun M36 => S_X12_say d 32 M36 (zU (fun M38 => S_X12_entriesOf d x1 M38 (zI (fun r39 M40 => S_X12_sayNumber d r39 M40 (zU (fun M42 => S_X12_spelt d 105 110 0 0 0 0 M42 (zJ (fun r43 M44 => S_X12_sayNext d r43 M44 (zU (fun M46 => S_X12_say d 32 M46 (zU (fun M48 => S_X12_sayNumber d (M48.1 246 0) M48 (zU (fun M50 => vp_in (205 + x1) 647 ∧ ((¬ (M50.1 231 (Int32.toNatClampNeg (205 + x1))) = 0 → S_X12_wordOf d 12 M50 (zJ (fun r53 M54 => S_X12_sayNext d r53 M54 (zU (fun M56 => S_X12_tag_124 (d + 1) x1 0 M56 K))))) ∧ ((M50.1 231 (Int32.toNatClampNeg (205 + x1))) = 0 → K (some (.int (M50.1 229 46))) M50))))))))))))))))))))))))))) ∧ (r23 = false → K (some (.int (-1))) M24))))) : S_X12_tag (d + 1) x1 M K := by
  show zV m_X12_tag (d + 1) 0 [(0, .ref 229), (1, .int x1)] [] M K
  refine zr_aload_n dX12_tag_0 rfl 0 rfl ?_
  refine zr_iconst (v := 0) dX12_tag_1 (by decide) ?_
  refine zn_puti dX12_tag_2 f_X12_1 (by decide) (by decide) (by decide) (fun M21 e22 => ?_)
  have T := T M21 e22
  refine zr_aload_n dX12_tag_5 rfl 0 rfl ?_
  refine zr_iload_n dX12_tag_6 rfl 1 rfl ?_
  refine zm_callV_b (c := 12) (b := 229) dX12_tag_7 w_X12_isPeer l_X12_288 rfl (by decide) (by decide) s_X12_isPeer [.int x1] rfl rfl (Nat.le_of_ble_eq_true rfl) (Nat.le_of_ble_eq_true rfl) ?_
  refine zV.post T ?_
  rintro v M24 ⟨r23, rfl, T⟩
  refine ⟨r23, rfl, ?_⟩
  refine zm_ifb_ne (tgt := 15) dX12_tag_10 (by decide) (fun h25 => ?_) (fun h25 => ?_)
  · have T := T.1 h25
    refine zr_aload_n dX12_tag_15 rfl 0 rfl ?_
    refine zr_iconst (v := 0) dX12_tag_16 (by decide) ?_
    refine zr_iload_n dX12_tag_17 rfl 1 rfl ?_
    refine zm_callV_i (c := 12) (b := 229) dX12_tag_18 w_X12_layTree l_X12_308 rfl (by decide) (by decide) s_X12_layTree [.int 0, .int x1] rfl rfl (Nat.le_of_ble_eq_true rfl) (Nat.le_of_ble_eq_true rfl) ?_
    refine zV.post T ?_
    rintro v M27 ⟨r26, rfl, T⟩
    refine ⟨r26, rfl, ?_⟩
    refine zr_pop dX12_tag_21 rfl ?_
    refine zr_aload_n dX12_tag_22 rfl 0 rfl ?_
    refine zr_iconst (v := 0) dX12_tag_23 (by decide) ?_
    refine zn_puti dX12_tag_24 f_X12_417 (by decide) (by decide) (by decide) (fun M28 e29 => ?_)
    have T := T M28 e29
    refine zr_aload_n dX12_tag_27 rfl 0 rfl ?_
    refine zr_aload_n dX12_tag_28 rfl 0 rfl ?_
    refine zm_getr (a := 237) dX12_tag_29 f_X12_116 (by decide) (by decide) (by decide) (by decide) ?_
    refine zr_bipush (v := 24) dX12_tag_32 (by decide) ?_
    refine zr_iload_n dX12_tag_34 rfl 1 rfl ?_
    refine zr_iadd dX12_tag_35 ?_
    obtain ⟨hq30, T⟩ := T
    refine zm_lald (n := 28) (o := (Int32.toNatClampNeg (24 + x1))) dX12_tag_36 (by decide) (by decide) hq30 rfl ?_
    refine zm_callV_v (c := 12) (b := 229) dX12_tag_37 w_X12_sayWord l_X12_420 rfl (by decide) (by decide) s_X12_sayWord [.long (M28.2 237 (Int32.toNatClampNeg (24 + x1)))] rfl rfl (Nat.le_of_ble_eq_true rfl) (Nat.le_of_ble_eq_true rfl) ?_
    refine zV.post T ?_
    rintro v M32 ⟨rfl, T⟩
    refine ⟨rfl, ?_⟩
    refine zr_aload_n dX12_tag_40 rfl 0 rfl ?_
    refine zr_bipush (v := 8) dX12_tag_41 (by decide) ?_
    refine zm_callS_j dX12_tag_43 w_X12_wordOf l_X12_62 s_X12_wordOf [.int 8] rfl rfl (Nat.le_of_ble_eq_true rfl) (Nat.le_of_ble_eq_true rfl) ?_
    refine zV.post T ?_
    rintro v M34 ⟨r33, rfl, T⟩
    refine ⟨r33, rfl, ?_⟩
    refine zm_callV_v (c := 12) (b := 229) dX12_tag_46 w_X12_sayNext l_X12_430 rfl (by decide) (by decide) s_X12_sayNext [.long r33] rfl rfl (Nat.le_of_ble_eq_true rfl) (Nat.le_of_ble_eq_true rfl) ?_
    refine zV.post T ?_
    rintro v M36 ⟨rfl, T⟩
    refine ⟨rfl, ?_⟩
    refine zr_aload_n dX12_tag_49 rfl 0 rfl ?_
    refine zr_bipush (v := 32) dX12_tag_50 (by decide) ?_
    refine zm_callV_v (c := 12) (b := 229) dX12_tag_52 w_X12_say l_X12_424 rfl (by decide) (by decide) s_X12_say [.int 32] rfl rfl (Nat.le_of_ble_eq_true rfl) (Nat.le_of_ble_eq_true rfl) ?_
    refine zV.post T ?_
    rintro v M38 ⟨rfl, T⟩
    refine ⟨rfl, ?_⟩
    refine zr_aload_n dX12_tag_55 rfl 0 rfl ?_
    refine zr_aload_n dX12_tag_56 rfl 0 rfl ?_
    refine zr_iload_n dX12_tag_57 rfl 1 rfl ?_
    refine zm_callV_i (c := 12) (b := 229) dX12_tag_58 w_X12_entriesOf l_X12_332 rfl (by decide) (by decide) s_X12_entriesOf [.int x1] rfl rfl (Nat.le_of_ble_eq_true rfl) (Nat.le_of_ble_eq_true rfl) ?_
    refine zV.post T ?_
    rintro v M40 ⟨r39, rfl, T⟩
    refine ⟨r39, rfl, ?_⟩
    refine zm_callV_v (c := 12) (b := 229) dX12_tag_61 w_X12_sayNumber l_X12_427 rfl (by decide) (by decide) s_X12_sayNumber [.int r39] rfl rfl (Nat.le_of_ble_eq_true rfl) (Nat.le_of_ble_eq_true rfl) ?_
    refine zV.post T ?_
    rintro v M42 ⟨rfl, T⟩
    refine ⟨rfl, ?_⟩
    refine zr_aload_n dX12_tag_64 rfl 0 rfl ?_
    refine zr_bipush (v := 105) dX12_tag_65 (by decide) ?_
    refine zr_bipush (v := 110) dX12_tag_67 (by decide) ?_
    refine zr_iconst (v := 0) dX12_tag_69 (by decide) ?_
    refine zr_iconst (v := 0) dX12_tag_70 (by decide) ?_
    refine zr_iconst (v := 0) dX12_tag_71 (by decide) ?_
    refine zr_iconst (v := 0) dX12_tag_72 (by decide) ?_
    refine zm_callS_j dX12_tag_73 w_X12_spelt l_X12_58 s_X12_spelt [.int 105, .int 110, .int 0, .int 0, .int 0, .int 0] rfl rfl (Nat.le_of_ble_eq_true rfl) (Nat.le_of_ble_eq_true rfl) ?_
    refine zV.post T ?_
    rintro v M44 ⟨r43, rfl, T⟩
    refine ⟨r43, rfl, ?_⟩
    refine zm_callV_v (c := 12) (b := 229) dX12_tag_76 w_X12_sayNext l_X12_430 rfl (by decide) (by decide) s_X12_sayNext [.long r43] rfl rfl (Nat.le_of_ble_eq_true rfl) (Nat.le_of_ble_eq_true rfl) ?_
    refine zV.post T ?_
    rintro v M46 ⟨rfl, T⟩
    refine ⟨rfl, ?_⟩
    refine zr_aload_n dX12_tag_79 rfl 0 rfl ?_
    refine zr_bipush (v := 32) dX12_tag_80 (by decide) ?_
    refine zm_callV_v (c := 12) (b := 229) dX12_tag_82 w_X12_say l_X12_424 rfl (by decide) (by decide) s_X12_say [.int 32] rfl rfl (Nat.le_of_ble_eq_true rfl) (Nat.le_of_ble_eq_true rfl) ?_
    refine zV.post T ?_
    rintro v M48 ⟨rfl, T⟩
    refine ⟨rfl, ?_⟩
    refine zr_aload_n dX12_tag_85 rfl 0 rfl ?_
    refine zr_aload_n dX12_tag_86 rfl 0 rfl ?_
    refine zm_getr (a := 246) dX12_tag_87 f_X12_148 (by decide) (by decide) (by decide) (by decide) ?_
    refine zr_iconst (v := 0) dX12_tag_90 (by decide) ?_
    refine zm_iald (n := 2) (o := 0) dX12_tag_91 (by decide) (by decide) (zin (by decide)) (by decide) ?_
    refine zm_callV_v (c := 12) (b := 229) dX12_tag_92 w_X12_sayNumber l_X12_427 rfl (by decide) (by decide) s_X12_sayNumber [.int (M48.1 246 0)] rfl rfl (Nat.le_of_ble_eq_true rfl) (Nat.le_of_ble_eq_true rfl) ?_
    refine zV.post T ?_
    rintro v M50 ⟨rfl, T⟩
    refine ⟨rfl, ?_⟩
    refine zr_aload_n dX12_tag_95 rfl 0 rfl ?_
    refine zm_getr (a := 231) dX12_tag_96 f_X12_98 (by decide) (by decide) (by decide) (by decide) ?_
    refine zr_sipush (v := 205) dX12_tag_99 (by decide) ?_
    refine zr_iload_n dX12_tag_102 rfl 1 rfl ?_
    refine zr_iadd dX12_tag_103 ?_
    obtain ⟨hq51, T⟩ := T
    refine zm_iald (n := 647) (o := (Int32.toNatClampNeg (205 + x1))) dX12_tag_104 (by decide) (by decide) hq51 rfl ?_
    refine zr_if_ne (tgt := 113) dX12_tag_105 (by decide) (fun h52 => ?_) (fun h52 => ?_)
    · have T := T.1 h52
      refine zr_aload_n dX12_tag_113 rfl 0 rfl ?_
      refine zr_bipush (v := 12) dX12_tag_114 (by decide) ?_
      refine zm_callS_j dX12_tag_116 w_X12_wordOf l_X12_62 s_X12_wordOf [.int 12] rfl rfl (Nat.le_of_ble_eq_true rfl) (Nat.le_of_ble_eq_true rfl) ?_
      refine zV.post T ?_
      rintro v M54 ⟨r53, rfl, T⟩
      refine ⟨r53, rfl, ?_⟩
      refine zm_callV_v (c := 12) (b := 229) dX12_tag_119 w_X12_sayNext l_X12_430 rfl (by decide) (by decide) s_X12_sayNext [.long r53] rfl rfl (Nat.le_of_ble_eq_true rfl) (Nat.le_of_ble_eq_true rfl) ?_
      refine zV.post T ?_
      rintro v M56 ⟨rfl, T⟩
      refine ⟨rfl, ?_⟩
      refine zr_iconst (v := 0) dX12_tag_122 (by decide) ?_
      refine zr_istore_n dX12_tag_123 rfl (by decide) (L2 := [(2, .int 0), (0, .ref 229), (1, .int x1)]) rfl ?_
      exact zV.pick [1, 2, 0] rfl T
    · have T := T.2 h52
      refine zr_aload_n dX12_tag_108 rfl 0 rfl ?_
      refine zm_geti dX12_tag_109 f_X12_417 (by decide) (by decide) (by decide) ?_
      exact zm_iret dX12_tag_112 rfl T
  · have T := T.2 h25
    refine zr_iconst (v := (-1)) dX12_tag_13 (by decide) ?_
    exact zm_iret dX12_tag_14 rfl T
set_option maxRecDepth 100000 in
set_option maxHeartbeats 4000000 in
theorem t_X12_tag_124 {d : Nat} {x1 : Int32} {x2 : Int32} {M : zMem} {K : zK} 
    (T : S_X12_areCut d x1 x2 M (zB (fun r21 M22 => (r21 = true → vp_in (24 + x2) 28 ∧ (S_X12_sayNext d (M22.2 237 (Int32.toNatClampNeg (24 + x2))) M22 (zU (fun M26 => K (some (.int (M26.1 229 46))) M26)))) ∧ (r21 = false → S_X12_tag_124 (d + 1) x1 (x2 + 1) M22 K)))) : S_X12_tag_124 (d + 1) x1 x2 M K := by
  show zV m_X12_tag (d + 1) 124 [(0, .ref 229), (1, .int x1), (2, .int x2)] [] M K
  refine zr_aload_n dX12_tag_124 rfl 0 rfl ?_
  refine zr_iload_n dX12_tag_125 rfl 1 rfl ?_
  refine zr_iload_n dX12_tag_126 rfl 2 rfl ?_
  refine zm_callV_b (c := 12) (b := 229) dX12_tag_127 w_X12_areCut l_X12_377 rfl (by decide) (by decide) s_X12_areCut [.int x1, .int x2] rfl rfl (Nat.le_of_ble_eq_true rfl) (Nat.le_of_ble_eq_true rfl) ?_
  refine zV.post T ?_
  rintro v M22 ⟨r21, rfl, T⟩
  refine ⟨r21, rfl, ?_⟩
  refine zm_ifb_ne (tgt := 139) dX12_tag_130 (by decide) (fun h23 => ?_) (fun h23 => ?_)
  · have T := T.1 h23
    refine zr_aload_n dX12_tag_139 rfl 0 rfl ?_
    refine zr_aload_n dX12_tag_140 rfl 0 rfl ?_
    refine zm_getr (a := 237) dX12_tag_141 f_X12_116 (by decide) (by decide) (by decide) (by decide) ?_
    refine zr_bipush (v := 24) dX12_tag_144 (by decide) ?_
    refine zr_iload_n dX12_tag_146 rfl 2 rfl ?_
    refine zr_iadd dX12_tag_147 ?_
    obtain ⟨hq24, T⟩ := T
    refine zm_lald (n := 28) (o := (Int32.toNatClampNeg (24 + x2))) dX12_tag_148 (by decide) (by decide) hq24 rfl ?_
    refine zm_callV_v (c := 12) (b := 229) dX12_tag_149 w_X12_sayNext l_X12_430 rfl (by decide) (by decide) s_X12_sayNext [.long (M22.2 237 (Int32.toNatClampNeg (24 + x2)))] rfl rfl (Nat.le_of_ble_eq_true rfl) (Nat.le_of_ble_eq_true rfl) ?_
    refine zV.post T ?_
    rintro v M26 ⟨rfl, T⟩
    refine ⟨rfl, ?_⟩
    refine zr_aload_n dX12_tag_152 rfl 0 rfl ?_
    refine zm_geti dX12_tag_153 f_X12_417 (by decide) (by decide) (by decide) ?_
    exact zm_iret dX12_tag_156 rfl T
  · have T := T.2 h23
    refine zr_iinc (n := 2) (v := x2 + 1) dX12_tag_133 rfl rfl (by decide) (L2 := [(2, .int (x2 + 1)), (0, .ref 229), (1, .int x1)]) rfl ?_
    refine zr_goto (tgt := 124) dX12_tag_136 (by decide) ?_
    exact zV.pick [1, 2, 0] rfl T
set_option maxRecDepth 100000 in
set_option maxHeartbeats 4000000 in
theorem t_X12_sayWord {d : Nat} {w1 : Int64} {M : zMem} {K : zK} 
    (T : ((lg_cmp w1 27) < 0 → S_X12_say d (96 + (Int64.toInt32 (w1 - w1 / 27 * 27))) M (zU (fun M23 => K none M23))) ∧ (¬ ((lg_cmp w1 27) < 0) → S_X12_sayWord d (w1 / 27) M (zU (fun M25 => S_X12_say d (96 + (Int64.toInt32 (w1 - w1 / 27 * 27))) M25 (zU (fun M27 => K none M27)))))) : S_X12_sayWord (d + 1) w1 M K := by
  show zV m_X12_sayWord (d + 1) 0 [(0, .ref 229), (1, .long w1)] [] M K
  refine zr_lload_n dX12_sayWord_0 rfl 1 rfl ?_
  refine zr_ldc2 (v := 27) dX12_sayWord_1 k_X12_54 ?_
  refine zr_lcmp dX12_sayWord_4 ?_
  refine zr_if_lt (tgt := 17) dX12_sayWord_5 (by decide) (fun h21 => ?_) (fun h21 => ?_)
  · have T := T.1 h21
    refine zr_aload_n dX12_sayWord_17 rfl 0 rfl ?_
    refine zr_bipush (v := 96) dX12_sayWord_18 (by decide) ?_
    refine zr_lload_n dX12_sayWord_20 rfl 1 rfl ?_
    refine zr_ldc2 (v := 27) dX12_sayWord_21 k_X12_54 ?_
    refine zr_lrem dX12_sayWord_24 (by decide) ?_
    refine zr_l2i dX12_sayWord_25 ?_
    refine zr_iadd dX12_sayWord_26 ?_
    refine zm_callV_v (c := 12) (b := 229) dX12_sayWord_27 w_X12_say l_X12_424 rfl (by decide) (by decide) s_X12_say [.int (96 + (Int64.toInt32 (w1 - w1 / 27 * 27)))] rfl rfl (Nat.le_of_ble_eq_true rfl) (Nat.le_of_ble_eq_true rfl) ?_
    refine zV.post T ?_
    rintro v M23 ⟨rfl, T⟩
    refine ⟨rfl, ?_⟩
    exact zm_vret dX12_sayWord_30 rfl T
  · have T := T.2 h21
    refine zr_aload_n dX12_sayWord_8 rfl 0 rfl ?_
    refine zr_lload_n dX12_sayWord_9 rfl 1 rfl ?_
    refine zr_ldc2 (v := 27) dX12_sayWord_10 k_X12_54 ?_
    refine zr_ldiv dX12_sayWord_13 (by decide) ?_
    refine zm_callV_v (c := 12) (b := 229) dX12_sayWord_14 w_X12_sayWord l_X12_420 rfl (by decide) (by decide) s_X12_sayWord [.long (w1 / 27)] rfl rfl (Nat.le_of_ble_eq_true rfl) (Nat.le_of_ble_eq_true rfl) ?_
    refine zV.post T ?_
    rintro v M25 ⟨rfl, T⟩
    refine ⟨rfl, ?_⟩
    refine zr_aload_n dX12_sayWord_17 rfl 0 rfl ?_
    refine zr_bipush (v := 96) dX12_sayWord_18 (by decide) ?_
    refine zr_lload_n dX12_sayWord_20 rfl 1 rfl ?_
    refine zr_ldc2 (v := 27) dX12_sayWord_21 k_X12_54 ?_
    refine zr_lrem dX12_sayWord_24 (by decide) ?_
    refine zr_l2i dX12_sayWord_25 ?_
    refine zr_iadd dX12_sayWord_26 ?_
    refine zm_callV_v (c := 12) (b := 229) dX12_sayWord_27 w_X12_say l_X12_424 rfl (by decide) (by decide) s_X12_say [.int (96 + (Int64.toInt32 (w1 - w1 / 27 * 27)))] rfl rfl (Nat.le_of_ble_eq_true rfl) (Nat.le_of_ble_eq_true rfl) ?_
    refine zV.post T ?_
    rintro v M27 ⟨rfl, T⟩
    refine ⟨rfl, ?_⟩
    exact zm_vret dX12_sayWord_30 rfl T
set_option maxRecDepth 100000 in
set_option maxHeartbeats 4000000 in
theorem t_X12_say {d : Nat} {x1 : Int32} {M : zMem} {K : zK} 
    (T : vp_in (M.1 229 46) 48 ∧ ((∀ M22 : zMem, M22 = wI M 257 (Int32.toNatClampNeg (M.1 229 46)) x1 → (∀ M24 : zMem, M24 = wI M22 229 46 ((M22.1 229 46) + 1) → K none M24)))) : S_X12_say d x1 M K := by
  show zV m_X12_say d 0 [(0, .ref 229), (1, .int x1)] [] M K
  refine zr_aload_n dX12_say_0 rfl 0 rfl ?_
  refine zm_getr (a := 257) dX12_say_1 f_X12_181 (by decide) (by decide) (by decide) (by decide) ?_
  refine zr_aload_n dX12_say_4 rfl 0 rfl ?_
  refine zm_geti dX12_say_5 f_X12_417 (by decide) (by decide) (by decide) ?_
  refine zr_iload_n dX12_say_8 rfl 1 rfl ?_
  obtain ⟨hq21, T⟩ := T
  refine zn_iast (n := 48) (o := (Int32.toNatClampNeg (M.1 229 46))) dX12_say_9 (by decide) (by decide) hq21 rfl (fun M22 e23 => ?_)
  have T := T M22 e23
  refine zr_aload_n dX12_say_10 rfl 0 rfl ?_
  refine zr_dup dX12_say_11 rfl ?_
  refine zm_geti dX12_say_12 f_X12_417 (by decide) (by decide) (by decide) ?_
  refine zr_iconst (v := 1) dX12_say_15 (by decide) ?_
  refine zr_iadd dX12_say_16 ?_
  refine zn_puti dX12_say_17 f_X12_417 (by decide) (by decide) (by decide) (fun M24 e25 => ?_)
  have T := T M24 e25
  exact zm_vret dX12_say_20 rfl T
set_option maxRecDepth 100000 in
set_option maxHeartbeats 4000000 in
theorem t_X12_sayNext {d : Nat} {w1 : Int64} {M : zMem} {K : zK} 
    (T : S_X12_say d 32 M (zU (fun M22 => S_X12_sayWord d w1 M22 (zU (fun M24 => K none M24))))) : S_X12_sayNext (d + 1) w1 M K := by
  show zV m_X12_sayNext (d + 1) 0 [(0, .ref 229), (1, .long w1)] [] M K
  refine zr_aload_n dX12_sayNext_0 rfl 0 rfl ?_
  refine zr_bipush (v := 32) dX12_sayNext_1 (by decide) ?_
  refine zm_callV_v (c := 12) (b := 229) dX12_sayNext_3 w_X12_say l_X12_424 rfl (by decide) (by decide) s_X12_say [.int 32] rfl rfl (Nat.le_of_ble_eq_true rfl) (Nat.le_of_ble_eq_true rfl) ?_
  refine zV.post T ?_
  rintro v M22 ⟨rfl, T⟩
  refine ⟨rfl, ?_⟩
  refine zr_aload_n dX12_sayNext_6 rfl 0 rfl ?_
  refine zr_lload_n dX12_sayNext_7 rfl 1 rfl ?_
  refine zm_callV_v (c := 12) (b := 229) dX12_sayNext_8 w_X12_sayWord l_X12_420 rfl (by decide) (by decide) s_X12_sayWord [.long w1] rfl rfl (Nat.le_of_ble_eq_true rfl) (Nat.le_of_ble_eq_true rfl) ?_
  refine zV.post T ?_
  rintro v M24 ⟨rfl, T⟩
  refine ⟨rfl, ?_⟩
  exact zm_vret dX12_sayNext_11 rfl T
set_option maxRecDepth 100000 in
set_option maxHeartbeats 4000000 in
theorem t_X12_sayNumber {d : Nat} {x1 : Int32} {M : zMem} {K : zK} 
    (T : (x1 ≤ 9 → S_X12_say d (48 + (x1 - x1 / 10 * 10)) M (zU (fun M23 => K none M23))) ∧ (¬ (x1 ≤ 9) → S_X12_sayNumber d (x1 / 10) M (zU (fun M25 => S_X12_say d (48 + (x1 - x1 / 10 * 10)) M25 (zU (fun M27 => K none M27)))))) : S_X12_sayNumber (d + 1) x1 M K := by
  show zV m_X12_sayNumber (d + 1) 0 [(0, .ref 229), (1, .int x1)] [] M K
  refine zr_iload_n dX12_sayNumber_0 rfl 1 rfl ?_
  refine zr_bipush (v := 9) dX12_sayNumber_1 (by decide) ?_
  refine zr_icmp_le (tgt := 14) dX12_sayNumber_3 (by decide) (fun h21 => ?_) (fun h21 => ?_)
  · have T := T.1 h21
    refine zr_aload_n dX12_sayNumber_14 rfl 0 rfl ?_
    refine zr_bipush (v := 48) dX12_sayNumber_15 (by decide) ?_
    refine zr_iload_n dX12_sayNumber_17 rfl 1 rfl ?_
    refine zr_bipush (v := 10) dX12_sayNumber_18 (by decide) ?_
    refine zr_irem dX12_sayNumber_20 (by decide) ?_
    refine zr_iadd dX12_sayNumber_21 ?_
    refine zm_callV_v (c := 12) (b := 229) dX12_sayNumber_22 w_X12_say l_X12_424 rfl (by decide) (by decide) s_X12_say [.int (48 + (x1 - x1 / 10 * 10))] rfl rfl (Nat.le_of_ble_eq_true rfl) (Nat.le_of_ble_eq_true rfl) ?_
    refine zV.post T ?_
    rintro v M23 ⟨rfl, T⟩
    refine ⟨rfl, ?_⟩
    exact zm_vret dX12_sayNumber_25 rfl T
  · have T := T.2 h21
    refine zr_aload_n dX12_sayNumber_6 rfl 0 rfl ?_
    refine zr_iload_n dX12_sayNumber_7 rfl 1 rfl ?_
    refine zr_bipush (v := 10) dX12_sayNumber_8 (by decide) ?_
    refine zr_idiv dX12_sayNumber_10 (by decide) ?_
    refine zm_callV_v (c := 12) (b := 229) dX12_sayNumber_11 w_X12_sayNumber l_X12_427 rfl (by decide) (by decide) s_X12_sayNumber [.int (x1 / 10)] rfl rfl (Nat.le_of_ble_eq_true rfl) (Nat.le_of_ble_eq_true rfl) ?_
    refine zV.post T ?_
    rintro v M25 ⟨rfl, T⟩
    refine ⟨rfl, ?_⟩
    refine zr_aload_n dX12_sayNumber_14 rfl 0 rfl ?_
    refine zr_bipush (v := 48) dX12_sayNumber_15 (by decide) ?_
    refine zr_iload_n dX12_sayNumber_17 rfl 1 rfl ?_
    refine zr_bipush (v := 10) dX12_sayNumber_18 (by decide) ?_
    refine zr_irem dX12_sayNumber_20 (by decide) ?_
    refine zr_iadd dX12_sayNumber_21 ?_
    refine zm_callV_v (c := 12) (b := 229) dX12_sayNumber_22 w_X12_say l_X12_424 rfl (by decide) (by decide) s_X12_say [.int (48 + (x1 - x1 / 10 * 10))] rfl rfl (Nat.le_of_ble_eq_true rfl) (Nat.le_of_ble_eq_true rfl) ?_
    refine zV.post T ?_
    rintro v M27 ⟨rfl, T⟩
    refine ⟨rfl, ?_⟩
    exact zm_vret dX12_sayNumber_25 rfl T
set_option maxRecDepth 100000 in
set_option maxHeartbeats 4000000 in
theorem t_X12_byteAt {d : Nat} {x1 : Int32} {M : zMem} {K : zK} 
    (T : (∀ M21 : zMem, M21 = wI M 229 0 0 → S_X12_isIn d x1 0 ((M21.1 229 46) - 1) M21 (zB (fun r23 M24 => (r23 = false → K (some (.int (-1))) M24) ∧ (r23 = true → vp_in x1 48 ∧ (K (some (.int (M24.1 257 (Int32.toNatClampNeg x1)))) M24)))))) : S_X12_byteAt (d + 1) x1 M K := by
  show zV m_X12_byteAt (d + 1) 0 [(0, .ref 229), (1, .int x1)] [] M K
  refine zr_aload_n dX12_byteAt_0 rfl 0 rfl ?_
  refine zr_iconst (v := 0) dX12_byteAt_1 (by decide) ?_
  refine zn_puti dX12_byteAt_2 f_X12_1 (by decide) (by decide) (by decide) (fun M21 e22 => ?_)
  have T := T M21 e22
  refine zr_iload_n dX12_byteAt_5 rfl 1 rfl ?_
  refine zr_iconst (v := 0) dX12_byteAt_6 (by decide) ?_
  refine zr_aload_n dX12_byteAt_7 rfl 0 rfl ?_
  refine zm_geti dX12_byteAt_8 f_X12_417 (by decide) (by decide) (by decide) ?_
  refine zr_iconst (v := 1) dX12_byteAt_11 (by decide) ?_
  refine zr_isub dX12_byteAt_12 ?_
  refine zm_callS_b dX12_byteAt_13 w_X12_isIn l_X12_75 s_X12_isIn [.int x1, .int 0, .int ((M21.1 229 46) - 1)] rfl rfl (Nat.le_of_ble_eq_true rfl) (Nat.le_of_ble_eq_true rfl) ?_
  refine zV.post T ?_
  rintro v M24 ⟨r23, rfl, T⟩
  refine ⟨r23, rfl, ?_⟩
  refine zm_ifb_eq (tgt := 28) dX12_byteAt_16 (by decide) (fun h25 => ?_) (fun h25 => ?_)
  · have T := T.1 h25
    refine zr_iconst (v := (-1)) dX12_byteAt_28 (by decide) ?_
    exact zm_iret dX12_byteAt_29 rfl T
  · have T := T.2 h25
    refine zr_aload_n dX12_byteAt_19 rfl 0 rfl ?_
    refine zm_getr (a := 257) dX12_byteAt_20 f_X12_181 (by decide) (by decide) (by decide) (by decide) ?_
    refine zr_iload_n dX12_byteAt_23 rfl 1 rfl ?_
    obtain ⟨hq26, T⟩ := T
    refine zm_iald (n := 48) (o := (Int32.toNatClampNeg x1)) dX12_byteAt_24 (by decide) (by decide) hq26 rfl ?_
    refine zr_goto (tgt := 29) dX12_byteAt_25 (by decide) ?_
    exact zm_iret dX12_byteAt_29 rfl T
set_option maxRecDepth 100000 in
set_option maxHeartbeats 4000000 in
theorem t_X12_drawn {d : Nat} {x1 : Int32} {x2 : Int32} {M : zMem} {K : zK} 
    (T : (∀ M21 : zMem, M21 = wI M 229 0 0 → S_X12_isIn d x1 1 60 M21 (zB (fun r23 M24 => (r23 = true → S_X12_isBare d  M24 (zB (fun r26 M27 => (r26 = false → S_X12_snap d  M27 (zU (fun M30 => S_X12_drawRounds d x1 x2 M30 (zU (fun M32 => S_X12_drawn_38 (d + 1) x1 0 M32 K))))) ∧ (r26 = true → K (some (.int 0)) M27)))) ∧ (r23 = false → K (some (.int (-1))) M24))))) : S_X12_drawn (d + 1) x1 x2 M K := by
  show zV m_X12_drawn (d + 1) 0 [(0, .ref 229), (1, .int x1), (2, .int x2)] [] M K
  refine zr_aload_n dX12_drawn_0 rfl 0 rfl ?_
  refine zr_iconst (v := 0) dX12_drawn_1 (by decide) ?_
  refine zn_puti dX12_drawn_2 f_X12_1 (by decide) (by decide) (by decide) (fun M21 e22 => ?_)
  have T := T M21 e22
  refine zr_iload_n dX12_drawn_5 rfl 1 rfl ?_
  refine zr_iconst (v := 1) dX12_drawn_6 (by decide) ?_
  refine zr_bipush (v := 60) dX12_drawn_7 (by decide) ?_
  refine zm_callS_b dX12_drawn_9 w_X12_isIn l_X12_75 s_X12_isIn [.int x1, .int 1, .int 60] rfl rfl (Nat.le_of_ble_eq_true rfl) (Nat.le_of_ble_eq_true rfl) ?_
  refine zV.post T ?_
  rintro v M24 ⟨r23, rfl, T⟩
  refine ⟨r23, rfl, ?_⟩
  refine zm_ifb_ne (tgt := 17) dX12_drawn_12 (by decide) (fun h25 => ?_) (fun h25 => ?_)
  · have T := T.1 h25
    refine zr_aload_n dX12_drawn_17 rfl 0 rfl ?_
    refine zm_callV_b (c := 12) (b := 229) dX12_drawn_18 w_X12_isBare l_X12_446 rfl (by decide) (by decide) s_X12_isBare [] rfl rfl (Nat.le_of_ble_eq_true rfl) (Nat.le_of_ble_eq_true rfl) ?_
    refine zV.post T ?_
    rintro v M27 ⟨r26, rfl, T⟩
    refine ⟨r26, rfl, ?_⟩
    refine zm_ifb_eq (tgt := 26) dX12_drawn_21 (by decide) (fun h28 => ?_) (fun h28 => ?_)
    · have T := T.1 h28
      refine zr_aload_n dX12_drawn_26 rfl 0 rfl ?_
      refine zm_callV_v (c := 12) (b := 229) dX12_drawn_27 w_X12_snap l_X12_397 rfl (by decide) (by decide) s_X12_snap [] rfl rfl (Nat.le_of_ble_eq_true rfl) (Nat.le_of_ble_eq_true rfl) ?_
      refine zV.post T ?_
      rintro v M30 ⟨rfl, T⟩
      refine ⟨rfl, ?_⟩
      refine zr_aload_n dX12_drawn_30 rfl 0 rfl ?_
      refine zr_iload_n dX12_drawn_31 rfl 1 rfl ?_
      refine zr_iload_n dX12_drawn_32 rfl 2 rfl ?_
      refine zm_callV_v (c := 12) (b := 229) dX12_drawn_33 w_X12_drawRounds l_X12_449 rfl (by decide) (by decide) s_X12_drawRounds [.int x1, .int x2] rfl rfl (Nat.le_of_ble_eq_true rfl) (Nat.le_of_ble_eq_true rfl) ?_
      refine zV.post T ?_
      rintro v M32 ⟨rfl, T⟩
      refine ⟨rfl, ?_⟩
      refine zr_iconst (v := 0) dX12_drawn_36 (by decide) ?_
      refine zr_istore_n dX12_drawn_37 rfl (by decide) (L2 := [(3, .int 0), (0, .ref 229), (1, .int x1), (2, .int x2)]) rfl ?_
      exact zV.pick [1, 2, 0] rfl T
    · have T := T.2 h28
      refine zr_iconst (v := 0) dX12_drawn_24 (by decide) ?_
      exact zm_iret dX12_drawn_25 rfl T
  · have T := T.2 h25
    refine zr_iconst (v := (-1)) dX12_drawn_15 (by decide) ?_
    exact zm_iret dX12_drawn_16 rfl T
set_option maxRecDepth 100000 in
set_option maxHeartbeats 4000000 in
theorem t_X12_drawn_38 {d : Nat} {x1 : Int32} {x3 : Int32} {M : zMem} {K : zK} 
    (T : (4 ≤ x3 → (∀ M22 : zMem, M22 = wI M 229 49 1 → K (some (.int x1)) M22)) ∧ (¬ (4 ≤ x3) → vp_in x3 4 ∧ (vp_in x3 4 ∧ ((∀ M26 : zMem, M26 = wI M 259 (Int32.toNatClampNeg x3) (M.1 258 (Int32.toNatClampNeg x3)) → S_X12_drawn_38 (d + 1) x1 (x3 + 1) M26 K))))) : S_X12_drawn_38 (d + 1) x1 x3 M K := by
  show zV m_X12_drawn (d + 1) 38 [(0, .ref 229), (1, .int x1), (3, .int x3)] [] M K
  refine zr_iload_n dX12_drawn_38 rfl 2 rfl ?_
  refine zr_iconst (v := 4) dX12_drawn_39 (by decide) ?_
  refine zr_icmp_ge (tgt := 61) dX12_drawn_40 (by decide) (fun h21 => ?_) (fun h21 => ?_)
  · have T := T.1 h21
    refine zr_aload_n dX12_drawn_61 rfl 0 rfl ?_
    refine zr_iconst (v := 1) dX12_drawn_62 (by decide) ?_
    refine zn_putz dX12_drawn_63 f_X12_452 (by decide) (by decide) (by decide) (by decide) (fun M22 e23 => ?_)
    have T := T M22 e23
    refine zr_iload_n dX12_drawn_66 rfl 1 rfl ?_
    exact zm_iret dX12_drawn_67 rfl T
  · have T := T.2 h21
    refine zr_aload_n dX12_drawn_43 rfl 0 rfl ?_
    refine zm_getr (a := 259) dX12_drawn_44 f_X12_187 (by decide) (by decide) (by decide) (by decide) ?_
    refine zr_iload_n dX12_drawn_47 rfl 2 rfl ?_
    refine zr_aload_n dX12_drawn_48 rfl 0 rfl ?_
    refine zm_getr (a := 258) dX12_drawn_49 f_X12_184 (by decide) (by decide) (by decide) (by decide) ?_
    refine zr_iload_n dX12_drawn_52 rfl 2 rfl ?_
    obtain ⟨hq24, T⟩ := T
    refine zm_iald (n := 4) (o := (Int32.toNatClampNeg x3)) dX12_drawn_53 (by decide) (by decide) hq24 rfl ?_
    obtain ⟨hq25, T⟩ := T
    refine zn_iast (n := 4) (o := (Int32.toNatClampNeg x3)) dX12_drawn_54 (by decide) (by decide) hq25 rfl (fun M26 e27 => ?_)
    have T := T M26 e27
    refine zr_iinc (n := 2) (v := x3 + 1) dX12_drawn_55 rfl rfl (by decide) (L2 := [(3, .int (x3 + 1)), (0, .ref 229), (1, .int x1)]) rfl ?_
    refine zr_goto (tgt := 38) dX12_drawn_58 (by decide) ?_
    exact zV.pick [1, 2, 0] rfl T
set_option maxRecDepth 100000 in
set_option maxHeartbeats 4000000 in
theorem t_X12_isBare {d : Nat}  {M : zMem} {K : zK} 
    (T : ((M.1 231 1) = 0 → K (some (.int 1)) M) ∧ (¬ ((M.1 231 1) = 0) → (¬ (M.1 231 0) = 0 → K (some (.int 0)) M) ∧ ((M.1 231 0) = 0 → K (some (.int 1)) M))) : S_X12_isBare d  M K := by
  show zV m_X12_isBare d 0 [(0, .ref 229)] [] M K
  refine zr_aload_n dX12_isBare_0 rfl 0 rfl ?_
  refine zm_getr (a := 231) dX12_isBare_1 f_X12_98 (by decide) (by decide) (by decide) (by decide) ?_
  refine zr_iconst (v := 1) dX12_isBare_4 (by decide) ?_
  refine zm_iald (n := 647) (o := 1) dX12_isBare_5 (by decide) (by decide) (zin (by decide)) (by decide) ?_
  refine zr_if_eq (tgt := 18) dX12_isBare_6 (by decide) (fun h21 => ?_) (fun h21 => ?_)
  · have T := T.1 h21
    refine zr_iconst (v := 1) dX12_isBare_18 (by decide) ?_
    refine zr_goto (tgt := 23) dX12_isBare_19 (by decide) ?_
    exact zm_zret dX12_isBare_23 rfl (by decide) T
  · have T := T.2 h21
    refine zr_aload_n dX12_isBare_9 rfl 0 rfl ?_
    refine zm_getr (a := 231) dX12_isBare_10 f_X12_98 (by decide) (by decide) (by decide) (by decide) ?_
    refine zr_iconst (v := 0) dX12_isBare_13 (by decide) ?_
    refine zm_iald (n := 647) (o := 0) dX12_isBare_14 (by decide) (by decide) (zin (by decide)) (by decide) ?_
    refine zr_if_ne (tgt := 22) dX12_isBare_15 (by decide) (fun h22 => ?_) (fun h22 => ?_)
    · have T := T.1 h22
      refine zr_iconst (v := 0) dX12_isBare_22 (by decide) ?_
      exact zm_zret dX12_isBare_23 rfl (by decide) T
    · have T := T.2 h22
      refine zr_iconst (v := 1) dX12_isBare_18 (by decide) ?_
      refine zr_goto (tgt := 23) dX12_isBare_19 (by decide) ?_
      exact zm_zret dX12_isBare_23 rfl (by decide) T
set_option maxRecDepth 100000 in
set_option maxHeartbeats 4000000 in
theorem t_X12_drawRounds {d : Nat} {x1 : Int32} {x2 : Int32} {M : zMem} {K : zK} 
    (T : (∀ M21 : zMem, M21 = wI M 229 50 x2 → S_X12_drawRounds_7 (d + 1) x1 0 M21 K)) : S_X12_drawRounds (d + 1) x1 x2 M K := by
  show zV m_X12_drawRounds (d + 1) 0 [(0, .ref 229), (1, .int x1), (2, .int x2)] [] M K
  refine zr_aload_n dX12_drawRounds_0 rfl 0 rfl ?_
  refine zr_iload_n dX12_drawRounds_1 rfl 2 rfl ?_
  refine zn_puti dX12_drawRounds_2 f_X12_433 (by decide) (by decide) (by decide) (fun M21 e22 => ?_)
  have T := T M21 e22
  refine zr_iconst (v := 0) dX12_drawRounds_5 (by decide) ?_
  refine zr_istore_n dX12_drawRounds_6 rfl (by decide) (L2 := [(3, .int 0), (0, .ref 229), (1, .int x1), (2, .int x2)]) rfl ?_
  exact zV.pick [1, 2, 0] rfl T
set_option maxRecDepth 100000 in
set_option maxHeartbeats 4000000 in
theorem t_X12_drawRounds_7 {d : Nat} {x1 : Int32} {x3 : Int32} {M : zMem} {K : zK} 
    (T : (4 ≤ x3 → S_X12_drawRounds_27 (d + 1) x1 0 M K) ∧ (¬ (4 ≤ x3) → vp_in x3 4 ∧ ((∀ M23 : zMem, M23 = wI M 258 (Int32.toNatClampNeg x3) 0 → S_X12_drawRounds_7 (d + 1) x1 (x3 + 1) M23 K)))) : S_X12_drawRounds_7 (d + 1) x1 x3 M K := by
  show zV m_X12_drawRounds (d + 1) 7 [(0, .ref 229), (1, .int x1), (3, .int x3)] [] M K
  refine zr_iload_n dX12_drawRounds_7 rfl 2 rfl ?_
  refine zr_iconst (v := 4) dX12_drawRounds_8 (by decide) ?_
  refine zr_icmp_ge (tgt := 25) dX12_drawRounds_9 (by decide) (fun h21 => ?_) (fun h21 => ?_)
  · have T := T.1 h21
    refine zr_iconst (v := 0) dX12_drawRounds_25 (by decide) ?_
    refine zr_istore_n dX12_drawRounds_26 rfl (by decide) (L2 := [(3, .int 0), (0, .ref 229), (1, .int x1)]) rfl ?_
    exact zV.pick [1, 2, 0] rfl T
  · have T := T.2 h21
    refine zr_aload_n dX12_drawRounds_12 rfl 0 rfl ?_
    refine zm_getr (a := 258) dX12_drawRounds_13 f_X12_184 (by decide) (by decide) (by decide) (by decide) ?_
    refine zr_iload_n dX12_drawRounds_16 rfl 2 rfl ?_
    refine zr_iconst (v := 0) dX12_drawRounds_17 (by decide) ?_
    obtain ⟨hq22, T⟩ := T
    refine zn_iast (n := 4) (o := (Int32.toNatClampNeg x3)) dX12_drawRounds_18 (by decide) (by decide) hq22 rfl (fun M23 e24 => ?_)
    have T := T M23 e24
    refine zr_iinc (n := 2) (v := x3 + 1) dX12_drawRounds_19 rfl rfl (by decide) (L2 := [(3, .int (x3 + 1)), (0, .ref 229), (1, .int x1)]) rfl ?_
    refine zr_goto (tgt := 7) dX12_drawRounds_22 (by decide) ?_
    exact zV.pick [1, 2, 0] rfl T
set_option maxRecDepth 100000 in
set_option maxHeartbeats 4000000 in
theorem t_X12_drawRounds_27 {d : Nat} {x1 : Int32} {x3 : Int32} {M : zMem} {K : zK} 
    (T : (x1 ≤ x3 → K none M) ∧ (¬ (x1 ≤ x3) → S_X12_drawsRound d  M (zU (fun M23 => S_X12_drawRounds_27 (d + 1) x1 (x3 + 1) M23 K)))) : S_X12_drawRounds_27 (d + 1) x1 x3 M K := by
  show zV m_X12_drawRounds (d + 1) 27 [(0, .ref 229), (1, .int x1), (3, .int x3)] [] M K
  refine zr_iload_n dX12_drawRounds_27 rfl 2 rfl ?_
  refine zr_iload_n dX12_drawRounds_28 rfl 1 rfl ?_
  refine zr_icmp_ge (tgt := 42) dX12_drawRounds_29 (by decide) (fun h21 => ?_) (fun h21 => ?_)
  · have T := T.1 h21
    exact zm_vret dX12_drawRounds_42 rfl T
  · have T := T.2 h21
    refine zr_aload_n dX12_drawRounds_32 rfl 0 rfl ?_
    refine zm_callV_v (c := 12) (b := 229) dX12_drawRounds_33 w_X12_drawsRound l_X12_443 rfl (by decide) (by decide) s_X12_drawsRound [] rfl rfl (Nat.le_of_ble_eq_true rfl) (Nat.le_of_ble_eq_true rfl) ?_
    refine zV.post T ?_
    rintro v M23 ⟨rfl, T⟩
    refine ⟨rfl, ?_⟩
    refine zr_iinc (n := 2) (v := x3 + 1) dX12_drawRounds_36 rfl rfl (by decide) (L2 := [(3, .int (x3 + 1)), (0, .ref 229), (1, .int x1)]) rfl ?_
    refine zr_goto (tgt := 27) dX12_drawRounds_39 (by decide) ?_
    exact zV.pick [1, 2, 0] rfl T
set_option maxRecDepth 100000 in
set_option maxHeartbeats 4000000 in
theorem t_X12_drawsRound {d : Nat}  {M : zMem} {K : zK} 
    (T : S_X12_draw d 8 M (zI (fun r21 M22 => S_X12_draw d (M22.1 231 1) M22 (zI (fun r23 M24 => (2 ≤ r21 → (¬ r21 = 2 → S_X12_draw d (M24.1 231 1) M24 (zI (fun r27 M28 => (¬ r27 = r23 → (7 ≤ r21 → S_X12_live d 3 r23 r27 0 M28 (zU (fun M32 => K none M32))) ∧ (¬ (7 ≤ r21) → S_X12_doIf d 2 r23 r27 0 M28 (zU (fun M34 => K none M34)))) ∧ (r27 = r23 → K none M28)))) ∧ (r21 = 2 → S_X12_draw d (M24.1 231 0) M24 (zI (fun r35 M36 => S_X12_doIf d 1 r23 r35 0 M36 (zU (fun M38 => K none M38)))))) ∧ (¬ (2 ≤ r21) → S_X12_draw d (M24.1 231 0) M24 (zI (fun r39 M40 => S_X12_draw d 10 M40 (zI (fun r41 M42 => S_X12_doIf d 0 r23 r39 r41 M42 (zU (fun M44 => K none M44)))))))))))) : S_X12_drawsRound (d + 1)  M K := by
  show zV m_X12_drawsRound (d + 1) 0 [(0, .ref 229)] [] M K
  refine zr_aload_n dX12_drawsRound_0 rfl 0 rfl ?_
  refine zr_bipush (v := 8) dX12_drawsRound_1 (by decide) ?_
  refine zm_callV_i (c := 12) (b := 229) dX12_drawsRound_3 w_X12_draw l_X12_437 rfl (by decide) (by decide) s_X12_draw [.int 8] rfl rfl (Nat.le_of_ble_eq_true rfl) (Nat.le_of_ble_eq_true rfl) ?_
  refine zV.post T ?_
  rintro v M22 ⟨r21, rfl, T⟩
  refine ⟨r21, rfl, ?_⟩
  refine zr_istore_n dX12_drawsRound_6 rfl (by decide) (L2 := [(1, .int r21), (0, .ref 229)]) rfl ?_
  refine zr_aload_n dX12_drawsRound_7 rfl 1 rfl ?_
  refine zr_aload_n dX12_drawsRound_8 rfl 1 rfl ?_
  refine zm_getr (a := 231) dX12_drawsRound_9 f_X12_98 (by decide) (by decide) (by decide) (by decide) ?_
  refine zr_iconst (v := 1) dX12_drawsRound_12 (by decide) ?_
  refine zm_iald (n := 647) (o := 1) dX12_drawsRound_13 (by decide) (by decide) (zin (by decide)) (by decide) ?_
  refine zm_callV_i (c := 12) (b := 229) dX12_drawsRound_14 w_X12_draw l_X12_437 rfl (by decide) (by decide) s_X12_draw [.int (M22.1 231 1)] rfl rfl (Nat.le_of_ble_eq_true rfl) (Nat.le_of_ble_eq_true rfl) ?_
  refine zV.post T ?_
  rintro v M24 ⟨r23, rfl, T⟩
  refine ⟨r23, rfl, ?_⟩
  refine zr_istore_n dX12_drawsRound_17 rfl (by decide) (L2 := [(2, .int r23), (1, .int r21), (0, .ref 229)]) rfl ?_
  refine zr_iload_n dX12_drawsRound_18 rfl 1 rfl ?_
  refine zr_iconst (v := 2) dX12_drawsRound_19 (by decide) ?_
  refine zr_icmp_ge (tgt := 48) dX12_drawsRound_20 (by decide) (fun h25 => ?_) (fun h25 => ?_)
  · have T := T.1 h25
    refine zr_iload_n dX12_drawsRound_48 rfl 1 rfl ?_
    refine zr_iconst (v := 2) dX12_drawsRound_49 (by decide) ?_
    refine zr_icmp_ne (tgt := 71) dX12_drawsRound_50 (by decide) (fun h26 => ?_) (fun h26 => ?_)
    · have T := T.1 h26
      refine zr_aload_n dX12_drawsRound_71 rfl 2 rfl ?_
      refine zr_aload_n dX12_drawsRound_72 rfl 2 rfl ?_
      refine zm_getr (a := 231) dX12_drawsRound_73 f_X12_98 (by decide) (by decide) (by decide) (by decide) ?_
      refine zr_iconst (v := 1) dX12_drawsRound_76 (by decide) ?_
      refine zm_iald (n := 647) (o := 1) dX12_drawsRound_77 (by decide) (by decide) (zin (by decide)) (by decide) ?_
      refine zm_callV_i (c := 12) (b := 229) dX12_drawsRound_78 w_X12_draw l_X12_437 rfl (by decide) (by decide) s_X12_draw [.int (M24.1 231 1)] rfl rfl (Nat.le_of_ble_eq_true rfl) (Nat.le_of_ble_eq_true rfl) ?_
      refine zV.post T ?_
      rintro v M28 ⟨r27, rfl, T⟩
      refine ⟨r27, rfl, ?_⟩
      refine zr_istore_n dX12_drawsRound_81 rfl (by decide) (L2 := [(3, .int r27), (2, .int r23), (1, .int r21), (0, .ref 229)]) rfl ?_
      refine zr_iload_n dX12_drawsRound_82 rfl 0 rfl ?_
      refine zr_iload_n dX12_drawsRound_83 rfl 1 rfl ?_
      refine zr_icmp_ne (tgt := 88) dX12_drawsRound_84 (by decide) (fun h29 => ?_) (fun h29 => ?_)
      · have T := T.1 h29
        refine zr_iload_n dX12_drawsRound_88 rfl 2 rfl ?_
        refine zr_bipush (v := 7) dX12_drawsRound_89 (by decide) ?_
        refine zr_icmp_ge (tgt := 105) dX12_drawsRound_91 (by decide) (fun h30 => ?_) (fun h30 => ?_)
        · have T := T.1 h30
          refine zr_aload_n dX12_drawsRound_105 rfl 3 rfl ?_
          refine zr_iconst (v := 3) dX12_drawsRound_106 (by decide) ?_
          refine zr_iload_n dX12_drawsRound_107 rfl 1 rfl ?_
          refine zr_iload_n dX12_drawsRound_108 rfl 0 rfl ?_
          refine zr_iconst (v := 0) dX12_drawsRound_109 (by decide) ?_
          refine zm_callV_v (c := 12) (b := 229) dX12_drawsRound_110 w_X12_live l_X12_400 rfl (by decide) (by decide) s_X12_live [.int 3, .int r23, .int r27, .int 0] rfl rfl (Nat.le_of_ble_eq_true rfl) (Nat.le_of_ble_eq_true rfl) ?_
          refine zV.post T ?_
          rintro v M32 ⟨rfl, T⟩
          refine ⟨rfl, ?_⟩
          exact zm_vret dX12_drawsRound_113 rfl T
        · have T := T.2 h30
          refine zr_aload_n dX12_drawsRound_94 rfl 3 rfl ?_
          refine zr_iconst (v := 2) dX12_drawsRound_95 (by decide) ?_
          refine zr_iload_n dX12_drawsRound_96 rfl 1 rfl ?_
          refine zr_iload_n dX12_drawsRound_97 rfl 0 rfl ?_
          refine zr_iconst (v := 0) dX12_drawsRound_98 (by decide) ?_
          refine zm_callV_v (c := 12) (b := 229) dX12_drawsRound_99 w_X12_doIf l_X12_440 rfl (by decide) (by decide) s_X12_doIf [.int 2, .int r23, .int r27, .int 0] rfl rfl (Nat.le_of_ble_eq_true rfl) (Nat.le_of_ble_eq_true rfl) ?_
          refine zV.post T ?_
          rintro v M34 ⟨rfl, T⟩
          refine ⟨rfl, ?_⟩
          refine zr_goto (tgt := 113) dX12_drawsRound_102 (by decide) ?_
          exact zm_vret dX12_drawsRound_113 rfl T
      · have T := T.2 h29
        exact zm_vret dX12_drawsRound_87 rfl T
    · have T := T.2 h26
      refine zr_aload_n dX12_drawsRound_53 rfl 2 rfl ?_
      refine zr_iconst (v := 1) dX12_drawsRound_54 (by decide) ?_
      refine zr_iload_n dX12_drawsRound_55 rfl 0 rfl ?_
      refine zr_aload_n dX12_drawsRound_56 rfl 2 rfl ?_
      refine zr_aload_n dX12_drawsRound_57 rfl 2 rfl ?_
      refine zm_getr (a := 231) dX12_drawsRound_58 f_X12_98 (by decide) (by decide) (by decide) (by decide) ?_
      refine zr_iconst (v := 0) dX12_drawsRound_61 (by decide) ?_
      refine zm_iald (n := 647) (o := 0) dX12_drawsRound_62 (by decide) (by decide) (zin (by decide)) (by decide) ?_
      refine zm_callV_i (c := 12) (b := 229) dX12_drawsRound_63 w_X12_draw l_X12_437 rfl (by decide) (by decide) s_X12_draw [.int (M24.1 231 0)] rfl rfl (Nat.le_of_ble_eq_true rfl) (Nat.le_of_ble_eq_true rfl) ?_
      refine zV.post T ?_
      rintro v M36 ⟨r35, rfl, T⟩
      refine ⟨r35, rfl, ?_⟩
      refine zr_iconst (v := 0) dX12_drawsRound_66 (by decide) ?_
      refine zm_callV_v (c := 12) (b := 229) dX12_drawsRound_67 w_X12_doIf l_X12_440 rfl (by decide) (by decide) s_X12_doIf [.int 1, .int r23, .int r35, .int 0] rfl rfl (Nat.le_of_ble_eq_true rfl) (Nat.le_of_ble_eq_true rfl) ?_
      refine zV.post T ?_
      rintro v M38 ⟨rfl, T⟩
      refine ⟨rfl, ?_⟩
      exact zm_vret dX12_drawsRound_70 rfl T
  · have T := T.2 h25
    refine zr_aload_n dX12_drawsRound_23 rfl 2 rfl ?_
    refine zr_aload_n dX12_drawsRound_24 rfl 2 rfl ?_
    refine zm_getr (a := 231) dX12_drawsRound_25 f_X12_98 (by decide) (by decide) (by decide) (by decide) ?_
    refine zr_iconst (v := 0) dX12_drawsRound_28 (by decide) ?_
    refine zm_iald (n := 647) (o := 0) dX12_drawsRound_29 (by decide) (by decide) (zin (by decide)) (by decide) ?_
    refine zm_callV_i (c := 12) (b := 229) dX12_drawsRound_30 w_X12_draw l_X12_437 rfl (by decide) (by decide) s_X12_draw [.int (M24.1 231 0)] rfl rfl (Nat.le_of_ble_eq_true rfl) (Nat.le_of_ble_eq_true rfl) ?_
    refine zV.post T ?_
    rintro v M40 ⟨r39, rfl, T⟩
    refine ⟨r39, rfl, ?_⟩
    refine zr_istore_n dX12_drawsRound_33 rfl (by decide) (L2 := [(3, .int r39), (2, .int r23), (1, .int r21), (0, .ref 229)]) rfl ?_
    refine zr_aload_n dX12_drawsRound_34 rfl 3 rfl ?_
    refine zr_iconst (v := 0) dX12_drawsRound_35 (by decide) ?_
    refine zr_iload_n dX12_drawsRound_36 rfl 1 rfl ?_
    refine zr_iload_n dX12_drawsRound_37 rfl 0 rfl ?_
    refine zr_aload_n dX12_drawsRound_38 rfl 3 rfl ?_
    refine zr_bipush (v := 10) dX12_drawsRound_39 (by decide) ?_
    refine zm_callV_i (c := 12) (b := 229) dX12_drawsRound_41 w_X12_draw l_X12_437 rfl (by decide) (by decide) s_X12_draw [.int 10] rfl rfl (Nat.le_of_ble_eq_true rfl) (Nat.le_of_ble_eq_true rfl) ?_
    refine zV.post T ?_
    rintro v M42 ⟨r41, rfl, T⟩
    refine ⟨r41, rfl, ?_⟩
    refine zm_callV_v (c := 12) (b := 229) dX12_drawsRound_44 w_X12_doIf l_X12_440 rfl (by decide) (by decide) s_X12_doIf [.int 0, .int r23, .int r39, .int r41] rfl rfl (Nat.le_of_ble_eq_true rfl) (Nat.le_of_ble_eq_true rfl) ?_
    refine zV.post T ?_
    rintro v M44 ⟨rfl, T⟩
    refine ⟨rfl, ?_⟩
    exact zm_vret dX12_drawsRound_47 rfl T
set_option maxRecDepth 100000 in
set_option maxHeartbeats 4000000 in
theorem t_X12_draw {d : Nat} {x1 : Int32} {M : zMem} {K : zK} 
    (T : (∀ M21 : zMem, M21 = wI M 229 50 (((M.1 229 50) * 1103515245) + 12345) → (¬ x1 = 0) ∧ (K (some (.int (((Int32.toUInt32 (M21.1 229 50) >>> (Int32.toUInt32 8 &&& Int32.toUInt32 31)).toInt32) - ((Int32.toUInt32 (M21.1 229 50) >>> (Int32.toUInt32 8 &&& Int32.toUInt32 31)).toInt32) / x1 * x1))) M21))) : S_X12_draw d x1 M K := by
  show zV m_X12_draw d 0 [(0, .ref 229), (1, .int x1)] [] M K
  refine zr_aload_n dX12_draw_0 rfl 0 rfl ?_
  refine zr_aload_n dX12_draw_1 rfl 0 rfl ?_
  refine zm_geti dX12_draw_2 f_X12_433 (by decide) (by decide) (by decide) ?_
  refine zr_ldcw (v := 1103515245) dX12_draw_5 k_X12_436 ?_
  refine zr_imul dX12_draw_8 ?_
  refine zr_sipush (v := 12345) dX12_draw_9 (by decide) ?_
  refine zr_iadd dX12_draw_12 ?_
  refine zn_puti dX12_draw_13 f_X12_433 (by decide) (by decide) (by decide) (fun M21 e22 => ?_)
  have T := T M21 e22
  refine zr_aload_n dX12_draw_16 rfl 0 rfl ?_
  refine zm_geti dX12_draw_17 f_X12_433 (by decide) (by decide) (by decide) ?_
  refine zr_bipush (v := 8) dX12_draw_20 (by decide) ?_
  refine zr_iushr dX12_draw_22 ?_
  refine zr_iload_n dX12_draw_23 rfl 1 rfl ?_
  obtain ⟨hz23, T⟩ := T
  refine zr_irem dX12_draw_24 hz23 ?_
  exact zm_iret dX12_draw_25 rfl T
set_option maxRecDepth 100000 in
set_option maxHeartbeats 4000000 in
theorem t_X12_doIf {d : Nat} {x1 : Int32} {x2 : Int32} {x3 : Int32} {x4 : Int32} {M : zMem} {K : zK} 
    (T : S_X12_why d x1 x2 x3 x4 M (zI (fun r21 M22 => (¬ r21 = 0 → vp_in r21 4 ∧ (vp_in r21 4 ∧ ((∀ M26 : zMem, M26 = wI M22 258 (Int32.toNatClampNeg r21) ((M22.1 258 (Int32.toNatClampNeg r21)) + 1) → K none M26)))) ∧ (r21 = 0 → S_X12_live d x1 x2 x3 x4 M22 (zU (fun M29 => K none M29)))))) : S_X12_doIf (d + 1) x1 x2 x3 x4 M K := by
  show zV m_X12_doIf (d + 1) 0 [(0, .ref 229), (1, .int x1), (2, .int x2), (3, .int x3), (4, .int x4)] [] M K
  refine zr_aload_n dX12_doIf_0 rfl 0 rfl ?_
  refine zr_iload_n dX12_doIf_1 rfl 1 rfl ?_
  refine zr_iload_n dX12_doIf_2 rfl 2 rfl ?_
  refine zr_iload_n dX12_doIf_3 rfl 3 rfl ?_
  refine zr_iload dX12_doIf_4 4 rfl ?_
  refine zm_callV_i (c := 12) (b := 229) dX12_doIf_6 w_X12_why l_X12_393 rfl (by decide) (by decide) s_X12_why [.int x1, .int x2, .int x3, .int x4] rfl rfl (Nat.le_of_ble_eq_true rfl) (Nat.le_of_ble_eq_true rfl) ?_
  refine zV.post T ?_
  rintro v M22 ⟨r21, rfl, T⟩
  refine ⟨r21, rfl, ?_⟩
  refine zr_istore dX12_doIf_9 (by decide) (L2 := [(5, .int r21), (0, .ref 229), (1, .int x1), (2, .int x2), (3, .int x3), (4, .int x4)]) rfl ?_
  refine zr_iload dX12_doIf_11 0 rfl ?_
  refine zr_if_ne (tgt := 28) dX12_doIf_13 (by decide) (fun h23 => ?_) (fun h23 => ?_)
  · have T := T.1 h23
    refine zr_aload_n dX12_doIf_28 rfl 1 rfl ?_
    refine zm_getr (a := 258) dX12_doIf_29 f_X12_184 (by decide) (by decide) (by decide) (by decide) ?_
    refine zr_iload dX12_doIf_32 0 rfl ?_
    refine zr_dup2 dX12_doIf_34 rfl rfl ?_
    obtain ⟨hq24, T⟩ := T
    refine zm_iald (n := 4) (o := (Int32.toNatClampNeg r21)) dX12_doIf_35 (by decide) (by decide) hq24 rfl ?_
    refine zr_iconst (v := 1) dX12_doIf_36 (by decide) ?_
    refine zr_iadd dX12_doIf_37 ?_
    obtain ⟨hq25, T⟩ := T
    refine zn_iast (n := 4) (o := (Int32.toNatClampNeg r21)) dX12_doIf_38 (by decide) (by decide) hq25 rfl (fun M26 e27 => ?_)
    have T := T M26 e27
    exact zm_vret dX12_doIf_39 rfl T
  · have T := T.2 h23
    refine zr_aload_n dX12_doIf_16 rfl 1 rfl ?_
    refine zr_iload_n dX12_doIf_17 rfl 2 rfl ?_
    refine zr_iload_n dX12_doIf_18 rfl 3 rfl ?_
    refine zr_iload_n dX12_doIf_19 rfl 4 rfl ?_
    refine zr_iload dX12_doIf_20 5 rfl ?_
    refine zm_callV_v (c := 12) (b := 229) dX12_doIf_22 w_X12_live l_X12_400 rfl (by decide) (by decide) s_X12_live [.int x1, .int x2, .int x3, .int x4] rfl rfl (Nat.le_of_ble_eq_true rfl) (Nat.le_of_ble_eq_true rfl) ?_
    refine zV.post T ?_
    rintro v M29 ⟨rfl, T⟩
    refine ⟨rfl, ?_⟩
    refine zr_goto (tgt := 39) dX12_doIf_25 (by decide) ?_
    exact zm_vret dX12_doIf_39 rfl T
set_option maxRecDepth 100000 in
set_option maxHeartbeats 4000000 in
theorem t_X12_refused {d : Nat} {x1 : Int32} {M : zMem} {K : zK} 
    (T : (∀ M21 : zMem, M21 = wI M 229 0 0 → ((M21.1 229 49) = 0 → K (some (.int (-1))) M21) ∧ (¬ ((M21.1 229 49) = 0) → S_X12_isIn d x1 1 3 M21 (zB (fun r24 M25 => (r24 = false → K (some (.int (-1))) M25) ∧ (r24 = true → vp_in x1 4 ∧ (K (some (.int (M25.1 259 (Int32.toNatClampNeg x1)))) M25))))))) : S_X12_refused (d + 1) x1 M K := by
  show zV m_X12_refused (d + 1) 0 [(0, .ref 229), (1, .int x1)] [] M K
  refine zr_aload_n dX12_refused_0 rfl 0 rfl ?_
  refine zr_iconst (v := 0) dX12_refused_1 (by decide) ?_
  refine zn_puti dX12_refused_2 f_X12_1 (by decide) (by decide) (by decide) (fun M21 e22 => ?_)
  have T := T M21 e22
  refine zr_aload_n dX12_refused_5 rfl 0 rfl ?_
  refine zm_geti dX12_refused_6 f_X12_452 (by decide) (by decide) (by decide) ?_
  refine zr_if_eq (tgt := 30) dX12_refused_9 (by decide) (fun h23 => ?_) (fun h23 => ?_)
  · have T := T.1 h23
    refine zr_iconst (v := (-1)) dX12_refused_30 (by decide) ?_
    exact zm_iret dX12_refused_31 rfl T
  · have T := T.2 h23
    refine zr_iload_n dX12_refused_12 rfl 1 rfl ?_
    refine zr_iconst (v := 1) dX12_refused_13 (by decide) ?_
    refine zr_iconst (v := 3) dX12_refused_14 (by decide) ?_
    refine zm_callS_b dX12_refused_15 w_X12_isIn l_X12_75 s_X12_isIn [.int x1, .int 1, .int 3] rfl rfl (Nat.le_of_ble_eq_true rfl) (Nat.le_of_ble_eq_true rfl) ?_
    refine zV.post T ?_
    rintro v M25 ⟨r24, rfl, T⟩
    refine ⟨r24, rfl, ?_⟩
    refine zm_ifb_eq (tgt := 30) dX12_refused_18 (by decide) (fun h26 => ?_) (fun h26 => ?_)
    · have T := T.1 h26
      refine zr_iconst (v := (-1)) dX12_refused_30 (by decide) ?_
      exact zm_iret dX12_refused_31 rfl T
    · have T := T.2 h26
      refine zr_aload_n dX12_refused_21 rfl 0 rfl ?_
      refine zm_getr (a := 259) dX12_refused_22 f_X12_187 (by decide) (by decide) (by decide) (by decide) ?_
      refine zr_iload_n dX12_refused_25 rfl 1 rfl ?_
      obtain ⟨hq27, T⟩ := T
      refine zm_iald (n := 4) (o := (Int32.toNatClampNeg x1)) dX12_refused_26 (by decide) (by decide) hq27 rfl ?_
      refine zr_goto (tgt := 31) dX12_refused_27 (by decide) ?_
      exact zm_iret dX12_refused_31 rfl T
set_option maxRecDepth 100000 in
set_option maxHeartbeats 4000000 in
theorem t_X12_odds {d : Nat} {x1 : Int32} {x2 : Int32} {M : zMem} {K : zK} 
    (T : (∀ M21 : zMem, M21 = wI M 229 0 0 → S_X12_isIn d x1 1 20 M21 (zB (fun r23 M24 => (r23 = true → S_X12_save d 236 0 M24 (zU (fun M27 => S_X12_odds_31 (d + 1) x1 x2 0 0 M27 K))) ∧ (r23 = false → K (some (.int (-1))) M24))))) : S_X12_odds (d + 1) x1 x2 M K := by
  show zV m_X12_odds (d + 1) 0 [(0, .ref 229), (1, .int x1), (2, .int x2)] [] M K
  refine zr_aload_n dX12_odds_0 rfl 0 rfl ?_
  refine zr_iconst (v := 0) dX12_odds_1 (by decide) ?_
  refine zn_puti dX12_odds_2 f_X12_1 (by decide) (by decide) (by decide) (fun M21 e22 => ?_)
  have T := T M21 e22
  refine zr_iload_n dX12_odds_5 rfl 1 rfl ?_
  refine zr_iconst (v := 1) dX12_odds_6 (by decide) ?_
  refine zr_bipush (v := 20) dX12_odds_7 (by decide) ?_
  refine zm_callS_b dX12_odds_9 w_X12_isIn l_X12_75 s_X12_isIn [.int x1, .int 1, .int 20] rfl rfl (Nat.le_of_ble_eq_true rfl) (Nat.le_of_ble_eq_true rfl) ?_
  refine zV.post T ?_
  rintro v M24 ⟨r23, rfl, T⟩
  refine ⟨r23, rfl, ?_⟩
  refine zm_ifb_ne (tgt := 17) dX12_odds_12 (by decide) (fun h25 => ?_) (fun h25 => ?_)
  · have T := T.1 h25
    refine zr_aload_n dX12_odds_17 rfl 0 rfl ?_
    refine zr_aload_n dX12_odds_18 rfl 0 rfl ?_
    refine zm_getr (a := 236) dX12_odds_19 f_X12_113 (by decide) (by decide) (by decide) (by decide) ?_
    refine zr_iconst (v := 0) dX12_odds_22 (by decide) ?_
    refine zm_callV_v (c := 12) (b := 229) dX12_odds_23 w_X12_save l_X12_373 rfl (by decide) (by decide) s_X12_save [.ref 236, .int 0] rfl rfl (Nat.le_of_ble_eq_true rfl) (Nat.le_of_ble_eq_true rfl) ?_
    refine zV.post T ?_
    rintro v M27 ⟨rfl, T⟩
    refine ⟨rfl, ?_⟩
    refine zr_iconst (v := 0) dX12_odds_26 (by decide) ?_
    refine zr_istore_n dX12_odds_27 rfl (by decide) (L2 := [(3, .int 0), (0, .ref 229), (1, .int x1), (2, .int x2)]) rfl ?_
    refine zr_iconst (v := 0) dX12_odds_28 (by decide) ?_
    refine zr_istore dX12_odds_29 (by decide) (L2 := [(4, .int 0), (3, .int 0), (0, .ref 229), (1, .int x1), (2, .int x2)]) rfl ?_
    exact zV.pick [2, 3, 4, 1, 0] rfl T
  · have T := T.2 h25
    refine zr_iconst (v := (-1)) dX12_odds_15 (by decide) ?_
    exact zm_iret dX12_odds_16 rfl T
set_option maxRecDepth 100000 in
set_option maxHeartbeats 4000000 in
theorem t_X12_odds_31 {d : Nat} {x1 : Int32} {x2 : Int32} {x3 : Int32} {x4 : Int32} {M : zMem} {K : zK} 
    (T : (x1 ≤ x4 → K (some (.int x3)) M) ∧ (¬ (x1 ≤ x4) → S_X12_isBare d  M (zB (fun r22 M23 => (r22 = true → S_X12_odds_54 (d + 1) x1 x2 x3 x4 M23 K) ∧ (r22 = false → S_X12_drawRounds d 20 (x2 + x4) M23 (zU (fun M26 => S_X12_odds_54 (d + 1) x1 x2 x3 x4 M26 K))))))) : S_X12_odds_31 (d + 1) x1 x2 x3 x4 M K := by
  show zV m_X12_odds (d + 1) 31 [(0, .ref 229), (1, .int x1), (2, .int x2), (3, .int x3), (4, .int x4)] [] M K
  refine zr_iload dX12_odds_31 4 rfl ?_
  refine zr_iload_n dX12_odds_33 rfl 1 rfl ?_
  refine zr_icmp_ge (tgt := 80) dX12_odds_34 (by decide) (fun h21 => ?_) (fun h21 => ?_)
  · have T := T.1 h21
    refine zr_iload_n dX12_odds_80 rfl 3 rfl ?_
    exact zm_iret dX12_odds_81 rfl T
  · have T := T.2 h21
    refine zr_aload_n dX12_odds_37 rfl 0 rfl ?_
    refine zm_callV_b (c := 12) (b := 229) dX12_odds_38 w_X12_isBare l_X12_446 rfl (by decide) (by decide) s_X12_isBare [] rfl rfl (Nat.le_of_ble_eq_true rfl) (Nat.le_of_ble_eq_true rfl) ?_
    refine zV.post T ?_
    rintro v M23 ⟨r22, rfl, T⟩
    refine ⟨r22, rfl, ?_⟩
    refine zm_ifb_ne (tgt := 54) dX12_odds_41 (by decide) (fun h24 => ?_) (fun h24 => ?_)
    · have T := T.1 h24
      exact zV.pick [0, 1, 2, 3, 4] rfl T
    · have T := T.2 h24
      refine zr_aload_n dX12_odds_44 rfl 0 rfl ?_
      refine zr_bipush (v := 20) dX12_odds_45 (by decide) ?_
      refine zr_iload_n dX12_odds_47 rfl 2 rfl ?_
      refine zr_iload dX12_odds_48 4 rfl ?_
      refine zr_iadd dX12_odds_50 ?_
      refine zm_callV_v (c := 12) (b := 229) dX12_odds_51 w_X12_drawRounds l_X12_449 rfl (by decide) (by decide) s_X12_drawRounds [.int 20, .int (x2 + x4)] rfl rfl (Nat.le_of_ble_eq_true rfl) (Nat.le_of_ble_eq_true rfl) ?_
      refine zV.post T ?_
      rintro v M26 ⟨rfl, T⟩
      refine ⟨rfl, ?_⟩
      exact zV.pick [0, 1, 2, 3, 4] rfl T
set_option maxRecDepth 100000 in
set_option maxHeartbeats 4000000 in
theorem t_X12_odds_54 {d : Nat} {x1 : Int32} {x2 : Int32} {x3 : Int32} {x4 : Int32} {M : zMem} {K : zK} 
    (T : S_X12_rootMany d  M (zI (fun r21 M22 => (1 < r21 → S_X12_comeBack d 236 0 M22 (zU (fun M25 => S_X12_odds_31 (d + 1) x1 x2 x3 (x4 + 1) M25 K))) ∧ (¬ (1 < r21) → S_X12_comeBack d 236 0 M22 (zU (fun M27 => S_X12_odds_31 (d + 1) x1 x2 (x3 + 1) (x4 + 1) M27 K)))))) : S_X12_odds_54 (d + 1) x1 x2 x3 x4 M K := by
  show zV m_X12_odds (d + 1) 54 [(0, .ref 229), (1, .int x1), (2, .int x2), (3, .int x3), (4, .int x4)] [] M K
  refine zr_aload_n dX12_odds_54 rfl 0 rfl ?_
  refine zm_callV_i (c := 12) (b := 229) dX12_odds_55 w_X12_rootMany l_X12_344 rfl (by decide) (by decide) s_X12_rootMany [] rfl rfl (Nat.le_of_ble_eq_true rfl) (Nat.le_of_ble_eq_true rfl) ?_
  refine zV.post T ?_
  rintro v M22 ⟨r21, rfl, T⟩
  refine ⟨r21, rfl, ?_⟩
  refine zr_iconst (v := 1) dX12_odds_58 (by decide) ?_
  refine zr_icmp_gt (tgt := 65) dX12_odds_59 (by decide) (fun h23 => ?_) (fun h23 => ?_)
  · have T := T.1 h23
    refine zr_aload_n dX12_odds_65 rfl 0 rfl ?_
    refine zr_aload_n dX12_odds_66 rfl 0 rfl ?_
    refine zm_getr (a := 236) dX12_odds_67 f_X12_113 (by decide) (by decide) (by decide) (by decide) ?_
    refine zr_iconst (v := 0) dX12_odds_70 (by decide) ?_
    refine zm_callV_v (c := 12) (b := 229) dX12_odds_71 w_X12_comeBack l_X12_408 rfl (by decide) (by decide) s_X12_comeBack [.ref 236, .int 0] rfl rfl (Nat.le_of_ble_eq_true rfl) (Nat.le_of_ble_eq_true rfl) ?_
    refine zV.post T ?_
    rintro v M25 ⟨rfl, T⟩
    refine ⟨rfl, ?_⟩
    refine zr_iinc (n := 4) (v := x4 + 1) dX12_odds_74 rfl rfl (by decide) (L2 := [(4, .int (x4 + 1)), (0, .ref 229), (1, .int x1), (2, .int x2), (3, .int x3)]) rfl ?_
    refine zr_goto (tgt := 31) dX12_odds_77 (by decide) ?_
    exact zV.pick [1, 2, 3, 4, 0] rfl T
  · have T := T.2 h23
    refine zr_iinc (n := 3) (v := x3 + 1) dX12_odds_62 rfl rfl (by decide) (L2 := [(3, .int (x3 + 1)), (0, .ref 229), (1, .int x1), (2, .int x2), (4, .int x4)]) rfl ?_
    refine zr_aload_n dX12_odds_65 rfl 1 rfl ?_
    refine zr_aload_n dX12_odds_66 rfl 1 rfl ?_
    refine zm_getr (a := 236) dX12_odds_67 f_X12_113 (by decide) (by decide) (by decide) (by decide) ?_
    refine zr_iconst (v := 0) dX12_odds_70 (by decide) ?_
    refine zm_callV_v (c := 12) (b := 229) dX12_odds_71 w_X12_comeBack l_X12_408 rfl (by decide) (by decide) s_X12_comeBack [.ref 236, .int 0] rfl rfl (Nat.le_of_ble_eq_true rfl) (Nat.le_of_ble_eq_true rfl) ?_
    refine zV.post T ?_
    rintro v M27 ⟨rfl, T⟩
    refine ⟨rfl, ?_⟩
    refine zr_iinc (n := 4) (v := x4 + 1) dX12_odds_74 rfl rfl (by decide) (L2 := [(4, .int (x4 + 1)), (3, .int (x3 + 1)), (0, .ref 229), (1, .int x1), (2, .int x2)]) rfl ?_
    refine zr_goto (tgt := 31) dX12_odds_77 (by decide) ?_
    exact zV.pick [2, 3, 4, 1, 0] rfl T
set_option maxRecDepth 100000 in
set_option maxHeartbeats 4000000 in
theorem t_X12_book {d : Nat} {x1 : Int32} {M : zMem} {K : zK} 
    (T : (∀ M21 : zMem, M21 = wI M 229 0 0 → S_X12_isIn d x1 0 1 M21 (zB (fun r23 M24 => (r23 = true → S_X12_begin d 400 M24 (zU (fun M27 => (∀ M28 : zMem, M28 = wI M27 229 53 0 → (∀ M30 : zMem, M30 = wI M28 229 27 (-1) → S_X12_book_35 (d + 1) x1 M30 K))))) ∧ (r23 = false → K (some (.int (-1000))) M24))))) : S_X12_book (d + 1) x1 M K := by
  show zV m_X12_book (d + 1) 0 [(0, .ref 229), (1, .int x1)] [] M K
  refine zr_aload_n dX12_book_0 rfl 0 rfl ?_
  refine zr_iconst (v := 0) dX12_book_1 (by decide) ?_
  refine zn_puti dX12_book_2 f_X12_1 (by decide) (by decide) (by decide) (fun M21 e22 => ?_)
  have T := T M21 e22
  refine zr_iload_n dX12_book_5 rfl 1 rfl ?_
  refine zr_iconst (v := 0) dX12_book_6 (by decide) ?_
  refine zr_iconst (v := 1) dX12_book_7 (by decide) ?_
  refine zm_callS_b dX12_book_8 w_X12_isIn l_X12_75 s_X12_isIn [.int x1, .int 0, .int 1] rfl rfl (Nat.le_of_ble_eq_true rfl) (Nat.le_of_ble_eq_true rfl) ?_
  refine zV.post T ?_
  rintro v M24 ⟨r23, rfl, T⟩
  refine ⟨r23, rfl, ?_⟩
  refine zm_ifb_ne (tgt := 18) dX12_book_11 (by decide) (fun h25 => ?_) (fun h25 => ?_)
  · have T := T.1 h25
    refine zr_aload_n dX12_book_18 rfl 0 rfl ?_
    refine zr_sipush (v := 400) dX12_book_19 (by decide) ?_
    refine zm_callV_v (c := 12) (b := 229) dX12_book_22 w_X12_begin l_X12_251 rfl (by decide) (by decide) s_X12_begin [.int 400] rfl rfl (Nat.le_of_ble_eq_true rfl) (Nat.le_of_ble_eq_true rfl) ?_
    refine zV.post T ?_
    rintro v M27 ⟨rfl, T⟩
    refine ⟨rfl, ?_⟩
    refine zr_aload_n dX12_book_25 rfl 0 rfl ?_
    refine zr_iconst (v := 0) dX12_book_26 (by decide) ?_
    refine zn_puti dX12_book_27 f_X12_459 (by decide) (by decide) (by decide) (fun M28 e29 => ?_)
    have T := T M28 e29
    refine zr_aload_n dX12_book_30 rfl 0 rfl ?_
    refine zr_iconst (v := (-1)) dX12_book_31 (by decide) ?_
    refine zn_puti dX12_book_32 f_X12_133 (by decide) (by decide) (by decide) (fun M30 e31 => ?_)
    have T := T M30 e31
    exact zV.pick [0, 1] rfl T
  · have T := T.2 h25
    refine zr_sipush (v := (-1000)) dX12_book_14 (by decide) ?_
    exact zm_iret dX12_book_17 rfl T
set_option maxRecDepth 100000 in
set_option maxHeartbeats 4000000 in
theorem t_X12_book_35 {d : Nat} {x1 : Int32} {M : zMem} {K : zK} 
    (T : ((M.1 229 7) = 0 → S_X12_save d 236 0 M (zU (fun M23 => S_X12_book_91 (d + 1) x1 0 0 M23 K))) ∧ (¬ ((M.1 229 7) = 0) → S_X12_readBookLine d  M (zB (fun r24 M25 => (r24 = true → (∀ M27 : zMem, M27 = wI M25 229 53 ((M25.1 229 53) + 1) → S_X12_book_35 (d + 1) x1 M27 K)) ∧ (r24 = false → (∀ M29 : zMem, M29 = wI M25 229 27 (M25.1 229 53) → K (some (.int ((-2) - (M29.1 229 11)))) M29)))))) : S_X12_book_35 (d + 1) x1 M K := by
  show zV m_X12_book (d + 1) 35 [(0, .ref 229), (1, .int x1)] [] M K
  refine zr_aload_n dX12_book_35 rfl 0 rfl ?_
  refine zm_geti dX12_book_36 f_X12_30 (by decide) (by decide) (by decide) ?_
  refine zr_if_eq (tgt := 78) dX12_book_39 (by decide) (fun h21 => ?_) (fun h21 => ?_)
  · have T := T.1 h21
    refine zr_aload_n dX12_book_78 rfl 0 rfl ?_
    refine zr_aload_n dX12_book_79 rfl 0 rfl ?_
    refine zm_getr (a := 236) dX12_book_80 f_X12_113 (by decide) (by decide) (by decide) (by decide) ?_
    refine zr_iconst (v := 0) dX12_book_83 (by decide) ?_
    refine zm_callV_v (c := 12) (b := 229) dX12_book_84 w_X12_save l_X12_373 rfl (by decide) (by decide) s_X12_save [.ref 236, .int 0] rfl rfl (Nat.le_of_ble_eq_true rfl) (Nat.le_of_ble_eq_true rfl) ?_
    refine zV.post T ?_
    rintro v M23 ⟨rfl, T⟩
    refine ⟨rfl, ?_⟩
    refine zr_iconst (v := 0) dX12_book_87 (by decide) ?_
    refine zr_istore_n dX12_book_88 rfl (by decide) (L2 := [(2, .int 0), (0, .ref 229), (1, .int x1)]) rfl ?_
    refine zr_iconst (v := 0) dX12_book_89 (by decide) ?_
    refine zr_istore_n dX12_book_90 rfl (by decide) (L2 := [(3, .int 0), (2, .int 0), (0, .ref 229), (1, .int x1)]) rfl ?_
    exact zV.pick [2, 3, 1, 0] rfl T
  · have T := T.2 h21
    refine zr_aload_n dX12_book_42 rfl 0 rfl ?_
    refine zm_callV_b (c := 12) (b := 229) dX12_book_43 w_X12_readBookLine l_X12_471 rfl (by decide) (by decide) s_X12_readBookLine [] rfl rfl (Nat.le_of_ble_eq_true rfl) (Nat.le_of_ble_eq_true rfl) ?_
    refine zV.post T ?_
    rintro v M25 ⟨r24, rfl, T⟩
    refine ⟨r24, rfl, ?_⟩
    refine zm_ifb_ne (tgt := 65) dX12_book_46 (by decide) (fun h26 => ?_) (fun h26 => ?_)
    · have T := T.1 h26
      refine zr_aload_n dX12_book_65 rfl 0 rfl ?_
      refine zr_dup dX12_book_66 rfl ?_
      refine zm_geti dX12_book_67 f_X12_459 (by decide) (by decide) (by decide) ?_
      refine zr_iconst (v := 1) dX12_book_70 (by decide) ?_
      refine zr_iadd dX12_book_71 ?_
      refine zn_puti dX12_book_72 f_X12_459 (by decide) (by decide) (by decide) (fun M27 e28 => ?_)
      have T := T M27 e28
      refine zr_goto (tgt := 35) dX12_book_75 (by decide) ?_
      exact zV.pick [0, 1] rfl T
    · have T := T.2 h26
      refine zr_aload_n dX12_book_49 rfl 0 rfl ?_
      refine zr_aload_n dX12_book_50 rfl 0 rfl ?_
      refine zm_geti dX12_book_51 f_X12_459 (by decide) (by decide) (by decide) ?_
      refine zn_puti dX12_book_54 f_X12_133 (by decide) (by decide) (by decide) (fun M29 e30 => ?_)
      have T := T M29 e30
      refine zr_bipush (v := (-2)) dX12_book_57 (by decide) ?_
      refine zr_aload_n dX12_book_59 rfl 0 rfl ?_
      refine zm_geti dX12_book_60 f_X12_69 (by decide) (by decide) (by decide) ?_
      refine zr_isub dX12_book_63 ?_
      exact zm_iret dX12_book_64 rfl T
set_option maxRecDepth 100000 in
set_option maxHeartbeats 4000000 in
theorem t_X12_book_91 {d : Nat} {x1 : Int32} {x2 : Int32} {x3 : Int32} {M : zMem} {K : zK} 
    (T : ((M.1 229 53) ≤ x2 → S_X12_book_121 (d + 1) x1 x2 x3 M K) ∧ (¬ ((M.1 229 53) ≤ x2) → (¬ x3 = 0 → S_X12_book_121 (d + 1) x1 x2 x3 M K) ∧ (x3 = 0 → S_X12_goBy d (4 * x2) M (zI (fun r23 M24 => (¬ r23 = 0 → S_X12_book_91 (d + 1) x1 x2 r23 M24 K) ∧ (r23 = 0 → S_X12_book_91 (d + 1) x1 (x2 + 1) r23 M24 K)))))) : S_X12_book_91 (d + 1) x1 x2 x3 M K := by
  show zV m_X12_book (d + 1) 91 [(0, .ref 229), (1, .int x1), (2, .int x2), (3, .int x3)] [] M K
  refine zr_iload_n dX12_book_91 rfl 2 rfl ?_
  refine zr_aload_n dX12_book_92 rfl 0 rfl ?_
  refine zm_geti dX12_book_93 f_X12_459 (by decide) (by decide) (by decide) ?_
  refine zr_icmp_ge (tgt := 121) dX12_book_96 (by decide) (fun h21 => ?_) (fun h21 => ?_)
  · have T := T.1 h21
    exact zV.pick [0, 1, 2, 3] rfl T
  · have T := T.2 h21
    refine zr_iload_n dX12_book_99 rfl 3 rfl ?_
    refine zr_if_ne (tgt := 121) dX12_book_100 (by decide) (fun h22 => ?_) (fun h22 => ?_)
    · have T := T.1 h22
      exact zV.pick [0, 1, 2, 3] rfl T
    · have T := T.2 h22
      refine zr_aload_n dX12_book_103 rfl 0 rfl ?_
      refine zr_iconst (v := 4) dX12_book_104 (by decide) ?_
      refine zr_iload_n dX12_book_105 rfl 2 rfl ?_
      refine zr_imul dX12_book_106 ?_
      refine zm_callV_i (c := 12) (b := 229) dX12_book_107 w_X12_goBy l_X12_474 rfl (by decide) (by decide) s_X12_goBy [.int (4 * x2)] rfl rfl (Nat.le_of_ble_eq_true rfl) (Nat.le_of_ble_eq_true rfl) ?_
      refine zV.post T ?_
      rintro v M24 ⟨r23, rfl, T⟩
      refine ⟨r23, rfl, ?_⟩
      refine zr_istore_n dX12_book_110 rfl (by decide) (L2 := [(3, .int r23), (0, .ref 229), (1, .int x1), (2, .int x2)]) rfl ?_
      refine zr_iload_n dX12_book_111 rfl 0 rfl ?_
      refine zr_if_ne (tgt := 91) dX12_book_112 (by decide) (fun h25 => ?_) (fun h25 => ?_)
      · have T := T.1 h25
        exact zV.pick [1, 2, 3, 0] rfl T
      · have T := T.2 h25
        refine zr_iinc (n := 3) (v := x2 + 1) dX12_book_115 rfl rfl (by decide) (L2 := [(2, .int (x2 + 1)), (3, .int r23), (0, .ref 229), (1, .int x1)]) rfl ?_
        refine zr_goto (tgt := 91) dX12_book_118 (by decide) ?_
        exact zV.pick [2, 3, 0, 1] rfl T
set_option maxRecDepth 100000 in
set_option maxHeartbeats 4000000 in
theorem t_X12_book_121 {d : Nat} {x1 : Int32} {x2 : Int32} {x3 : Int32} {M : zMem} {K : zK} 
    (T : (∀ M21 : zMem, M21 = wI M 261 0 x3 → (∀ M23 : zMem, M23 = wI M21 261 1 x2 → (∀ M25 : zMem, M25 = wI M23 261 2 (M23.1 231 204) → S_X12_rootMany d  M25 (zI (fun r27 M28 => (∀ M29 : zMem, M29 = wI M28 261 3 r27 → (∀ M31 : zMem, M31 = wI M29 229 54 1 → (¬ x1 = 1 → S_X12_stay d 0 M31 (zU (fun M35 => (¬ x3 = 0 → K (some (.int x2)) M35) ∧ (x3 = 0 → K (some (.int (-1))) M35)))) ∧ (x1 = 1 → (x2 ≤ 0 → S_X12_stay d 0 M31 (zU (fun M39 => (¬ x3 = 0 → K (some (.int x2)) M39) ∧ (x3 = 0 → K (some (.int (-1))) M39)))) ∧ (¬ (x2 ≤ 0) → S_X12_stay d 1 M31 (zU (fun M42 => (¬ x3 = 0 → K (some (.int x2)) M42) ∧ (x3 = 0 → K (some (.int (-1))) M42))))))))))))) : S_X12_book_121 (d + 1) x1 x2 x3 M K := by
  show zV m_X12_book (d + 1) 121 [(0, .ref 229), (1, .int x1), (2, .int x2), (3, .int x3)] [] M K
  refine zr_aload_n dX12_book_121 rfl 0 rfl ?_
  refine zm_getr (a := 261) dX12_book_122 f_X12_193 (by decide) (by decide) (by decide) (by decide) ?_
  refine zr_iconst (v := 0) dX12_book_125 (by decide) ?_
  refine zr_iload_n dX12_book_126 rfl 3 rfl ?_
  refine zn_iast (n := 4) (o := 0) dX12_book_127 (by decide) (by decide) (zin (by decide)) (by decide) (fun M21 e22 => ?_)
  have T := T M21 e22
  refine zr_aload_n dX12_book_128 rfl 0 rfl ?_
  refine zm_getr (a := 261) dX12_book_129 f_X12_193 (by decide) (by decide) (by decide) (by decide) ?_
  refine zr_iconst (v := 1) dX12_book_132 (by decide) ?_
  refine zr_iload_n dX12_book_133 rfl 2 rfl ?_
  refine zn_iast (n := 4) (o := 1) dX12_book_134 (by decide) (by decide) (zin (by decide)) (by decide) (fun M23 e24 => ?_)
  have T := T M23 e24
  refine zr_aload_n dX12_book_135 rfl 0 rfl ?_
  refine zm_getr (a := 261) dX12_book_136 f_X12_193 (by decide) (by decide) (by decide) (by decide) ?_
  refine zr_iconst (v := 2) dX12_book_139 (by decide) ?_
  refine zr_aload_n dX12_book_140 rfl 0 rfl ?_
  refine zm_getr (a := 231) dX12_book_141 f_X12_98 (by decide) (by decide) (by decide) (by decide) ?_
  refine zr_sipush (v := 204) dX12_book_144 (by decide) ?_
  refine zm_iald (n := 647) (o := 204) dX12_book_147 (by decide) (by decide) (zin (by decide)) (by decide) ?_
  refine zn_iast (n := 4) (o := 2) dX12_book_148 (by decide) (by decide) (zin (by decide)) (by decide) (fun M25 e26 => ?_)
  have T := T M25 e26
  refine zr_aload_n dX12_book_149 rfl 0 rfl ?_
  refine zm_getr (a := 261) dX12_book_150 f_X12_193 (by decide) (by decide) (by decide) (by decide) ?_
  refine zr_iconst (v := 3) dX12_book_153 (by decide) ?_
  refine zr_aload_n dX12_book_154 rfl 0 rfl ?_
  refine zm_callV_i (c := 12) (b := 229) dX12_book_155 w_X12_rootMany l_X12_344 rfl (by decide) (by decide) s_X12_rootMany [] rfl rfl (Nat.le_of_ble_eq_true rfl) (Nat.le_of_ble_eq_true rfl) ?_
  refine zV.post T ?_
  rintro v M28 ⟨r27, rfl, T⟩
  refine ⟨r27, rfl, ?_⟩
  refine zn_iast (n := 4) (o := 3) dX12_book_158 (by decide) (by decide) (zin (by decide)) (by decide) (fun M29 e30 => ?_)
  have T := T M29 e30
  refine zr_aload_n dX12_book_159 rfl 0 rfl ?_
  refine zr_iconst (v := 1) dX12_book_160 (by decide) ?_
  refine zn_putz dX12_book_161 f_X12_477 (by decide) (by decide) (by decide) (by decide) (fun M31 e32 => ?_)
  have T := T M31 e32
  refine zr_aload_n dX12_book_164 rfl 0 rfl ?_
  refine zr_iload_n dX12_book_165 rfl 1 rfl ?_
  refine zr_iconst (v := 1) dX12_book_166 (by decide) ?_
  refine zr_icmp_ne (tgt := 178) dX12_book_167 (by decide) (fun h33 => ?_) (fun h33 => ?_)
  · have T := T.1 h33
    refine zr_iconst (v := 0) dX12_book_178 (by decide) ?_
    refine zm_callV_v (c := 12) (b := 229) dX12_book_179 w_X12_stay l_X12_480 rfl (by decide) (by decide) s_X12_stay [.int 0] rfl rfl (Nat.le_of_ble_eq_true rfl) (Nat.le_of_ble_eq_true rfl) ?_
    refine zV.post T ?_
    rintro v M35 ⟨rfl, T⟩
    refine ⟨rfl, ?_⟩
    refine zr_iload_n dX12_book_182 rfl 3 rfl ?_
    refine zr_if_ne (tgt := 190) dX12_book_183 (by decide) (fun h36 => ?_) (fun h36 => ?_)
    · have T := T.1 h36
      refine zr_iload_n dX12_book_190 rfl 2 rfl ?_
      exact zm_iret dX12_book_191 rfl T
    · have T := T.2 h36
      refine zr_iconst (v := (-1)) dX12_book_186 (by decide) ?_
      refine zr_goto (tgt := 191) dX12_book_187 (by decide) ?_
      exact zm_iret dX12_book_191 rfl T
  · have T := T.2 h33
    refine zr_iload_n dX12_book_170 rfl 2 rfl ?_
    refine zr_if_le (tgt := 178) dX12_book_171 (by decide) (fun h37 => ?_) (fun h37 => ?_)
    · have T := T.1 h37
      refine zr_iconst (v := 0) dX12_book_178 (by decide) ?_
      refine zm_callV_v (c := 12) (b := 229) dX12_book_179 w_X12_stay l_X12_480 rfl (by decide) (by decide) s_X12_stay [.int 0] rfl rfl (Nat.le_of_ble_eq_true rfl) (Nat.le_of_ble_eq_true rfl) ?_
      refine zV.post T ?_
      rintro v M39 ⟨rfl, T⟩
      refine ⟨rfl, ?_⟩
      refine zr_iload_n dX12_book_182 rfl 3 rfl ?_
      refine zr_if_ne (tgt := 190) dX12_book_183 (by decide) (fun h40 => ?_) (fun h40 => ?_)
      · have T := T.1 h40
        refine zr_iload_n dX12_book_190 rfl 2 rfl ?_
        exact zm_iret dX12_book_191 rfl T
      · have T := T.2 h40
        refine zr_iconst (v := (-1)) dX12_book_186 (by decide) ?_
        refine zr_goto (tgt := 191) dX12_book_187 (by decide) ?_
        exact zm_iret dX12_book_191 rfl T
    · have T := T.2 h37
      refine zr_iconst (v := 1) dX12_book_174 (by decide) ?_
      refine zr_goto (tgt := 179) dX12_book_175 (by decide) ?_
      refine zm_callV_v (c := 12) (b := 229) dX12_book_179 w_X12_stay l_X12_480 rfl (by decide) (by decide) s_X12_stay [.int 1] rfl rfl (Nat.le_of_ble_eq_true rfl) (Nat.le_of_ble_eq_true rfl) ?_
      refine zV.post T ?_
      rintro v M42 ⟨rfl, T⟩
      refine ⟨rfl, ?_⟩
      refine zr_iload_n dX12_book_182 rfl 3 rfl ?_
      refine zr_if_ne (tgt := 190) dX12_book_183 (by decide) (fun h43 => ?_) (fun h43 => ?_)
      · have T := T.1 h43
        refine zr_iload_n dX12_book_190 rfl 2 rfl ?_
        exact zm_iret dX12_book_191 rfl T
      · have T := T.2 h43
        refine zr_iconst (v := (-1)) dX12_book_186 (by decide) ?_
        refine zr_goto (tgt := 191) dX12_book_187 (by decide) ?_
        exact zm_iret dX12_book_191 rfl T
set_option maxRecDepth 100000 in
set_option maxHeartbeats 4000000 in
theorem t_X12_readBookLine {d : Nat}  {M : zMem} {K : zK} 
    (T : S_X12_readBookLine_4 (d + 1) (-1) 0 M K) : S_X12_readBookLine (d + 1)  M K := by
  show zV m_X12_readBookLine (d + 1) 0 [(0, .ref 229)] [] M K
  refine zr_iconst (v := (-1)) dX12_readBookLine_0 (by decide) ?_
  refine zr_istore_n dX12_readBookLine_1 rfl (by decide) (L2 := [(1, .int (-1)), (0, .ref 229)]) rfl ?_
  refine zr_iconst (v := 0) dX12_readBookLine_2 (by decide) ?_
  refine zr_istore_n dX12_readBookLine_3 rfl (by decide) (L2 := [(2, .int 0), (1, .int (-1)), (0, .ref 229)]) rfl ?_
  exact zV.pick [2, 1, 0] rfl T
set_option maxRecDepth 100000 in
set_option maxHeartbeats 4000000 in
theorem t_X12_readBookLine_4 {d : Nat} {x1 : Int32} {x2 : Int32} {M : zMem} {K : zK} 
    (T : (4 < x2 → (¬ x1 = (-1) → (¬ (M.1 229 53) = 40 → vp_in (4 * (M.1 229 53)) 160 ∧ ((∀ M25 : zMem, M25 = wI M 260 (Int32.toNatClampNeg (4 * (M.1 229 53))) x1 → vp_in ((4 * (M.1 229 53)) + 3) 160 ∧ ((∀ M28 : zMem, M28 = wI M25 260 (Int32.toNatClampNeg ((4 * (M.1 229 53)) + 3)) 0 → S_X12_go d  M28 (zU (fun M31 => S_X12_readPeerName d  M31 (zB (fun r32 M33 => S_X12_keep d ((4 * (M.1 229 53)) + 1) (bi r32) M33 (zB (fun r34 M35 => (r34 = true → (x1 < 2 → S_X12_readNamed d 0 (M35.1 231 0) M35 (zB (fun r38 M39 => S_X12_keep d ((4 * (M.1 229 53)) + 2) (bi r38) M39 (zB (fun r40 M41 => (r40 = true → (x1 = 1 → S_X12_readEnd d  M41 (zB (fun r44 M45 => (r44 = false → K (some (.int 0)) M45) ∧ (r44 = true → K (some (.int 1)) M45)))) ∧ (¬ (x1 = 1) → S_X12_readNumber d 0 999 M41 (zB (fun r47 M48 => S_X12_keep d ((4 * (M.1 229 53)) + 3) (bi r47) M48 (zB (fun r49 M50 => (r49 = false → K (some (.int 0)) M50) ∧ (r49 = true → S_X12_readEnd d  M50 (zB (fun r52 M53 => (r52 = false → K (some (.int 0)) M53) ∧ (r52 = true → K (some (.int 1)) M53)))))))))) ∧ (r40 = false → K (some (.int 0)) M41)))))) ∧ (¬ (x1 < 2) → S_X12_readOther d ((4 * (M.1 229 53)) + 1) M35 (zB (fun r55 M56 => (r55 = false → K (some (.int 0)) M56) ∧ (r55 = true → S_X12_readEnd d  M56 (zB (fun r58 M59 => (r58 = false → K (some (.int 0)) M59) ∧ (r58 = true → K (some (.int 1)) M59)))))))) ∧ (r34 = false → K (some (.int 0)) M35)))))))))))) ∧ ((M.1 229 53) = 40 → S_X12_bad d 4 M (zB (fun r61 M62 => K (some (.int (bi r61))) M62)))) ∧ (x1 = (-1) → S_X12_bad d 1 M (zB (fun r63 M64 => K (some (.int (bi r63))) M64)))) ∧ (¬ (4 < x2) → S_X12_isWord d (9 + x2) M (zB (fun r65 M66 => (r65 = false → S_X12_readBookLine_4 (d + 1) x1 (x2 + 1) M66 K) ∧ (r65 = true → S_X12_readBookLine_4 (d + 1) x2 (x2 + 1) M66 K))))) : S_X12_readBookLine_4 (d + 1) x1 x2 M K := by
  show zV m_X12_readBookLine (d + 1) 4 [(0, .ref 229), (1, .int x1), (2, .int x2)] [] M K
  refine zr_iload_n dX12_readBookLine_4 rfl 2 rfl ?_
  refine zr_iconst (v := 4) dX12_readBookLine_5 (by decide) ?_
  refine zr_icmp_gt (tgt := 28) dX12_readBookLine_6 (by decide) (fun h21 => ?_) (fun h21 => ?_)
  · have T := T.1 h21
    refine zr_iload_n dX12_readBookLine_28 rfl 1 rfl ?_
    refine zr_iconst (v := (-1)) dX12_readBookLine_29 (by decide) ?_
    refine zr_icmp_ne (tgt := 39) dX12_readBookLine_30 (by decide) (fun h22 => ?_) (fun h22 => ?_)
    · have T := T.1 h22
      refine zr_aload_n dX12_readBookLine_39 rfl 0 rfl ?_
      refine zm_geti dX12_readBookLine_40 f_X12_459 (by decide) (by decide) (by decide) ?_
      refine zr_bipush (v := 40) dX12_readBookLine_43 (by decide) ?_
      refine zr_icmp_ne (tgt := 54) dX12_readBookLine_45 (by decide) (fun h23 => ?_) (fun h23 => ?_)
      · have T := T.1 h23
        refine zr_iconst (v := 4) dX12_readBookLine_54 (by decide) ?_
        refine zr_aload_n dX12_readBookLine_55 rfl 0 rfl ?_
        refine zm_geti dX12_readBookLine_56 f_X12_459 (by decide) (by decide) (by decide) ?_
        refine zr_imul dX12_readBookLine_59 ?_
        refine zr_istore_n dX12_readBookLine_60 rfl (by decide) (L2 := [(2, .int (4 * (M.1 229 53))), (0, .ref 229), (1, .int x1)]) rfl ?_
        refine zr_aload_n dX12_readBookLine_61 rfl 1 rfl ?_
        refine zm_getr (a := 260) dX12_readBookLine_62 f_X12_190 (by decide) (by decide) (by decide) (by decide) ?_
        refine zr_iload_n dX12_readBookLine_65 rfl 0 rfl ?_
        refine zr_iload_n dX12_readBookLine_66 rfl 2 rfl ?_
        obtain ⟨hq24, T⟩ := T
        refine zn_iast (n := 160) (o := (Int32.toNatClampNeg (4 * (M.1 229 53)))) dX12_readBookLine_67 (by decide) (by decide) hq24 rfl (fun M25 e26 => ?_)
        have T := T M25 e26
        refine zr_aload_n dX12_readBookLine_68 rfl 1 rfl ?_
        refine zm_getr (a := 260) dX12_readBookLine_69 f_X12_190 (by decide) (by decide) (by decide) (by decide) ?_
        refine zr_iload_n dX12_readBookLine_72 rfl 0 rfl ?_
        refine zr_iconst (v := 3) dX12_readBookLine_73 (by decide) ?_
        refine zr_iadd dX12_readBookLine_74 ?_
        refine zr_iconst (v := 0) dX12_readBookLine_75 (by decide) ?_
        obtain ⟨hq27, T⟩ := T
        refine zn_iast (n := 160) (o := (Int32.toNatClampNeg ((4 * (M.1 229 53)) + 3))) dX12_readBookLine_76 (by decide) (by decide) hq27 rfl (fun M28 e29 => ?_)
        have T := T M28 e29
        refine zr_aload_n dX12_readBookLine_77 rfl 1 rfl ?_
        refine zm_callV_v (c := 12) (b := 229) dX12_readBookLine_78 w_X12_go l_X12_82 rfl (by decide) (by decide) s_X12_go [] rfl rfl (Nat.le_of_ble_eq_true rfl) (Nat.le_of_ble_eq_true rfl) ?_
        refine zV.post T ?_
        rintro v M31 ⟨rfl, T⟩
        refine ⟨rfl, ?_⟩
        refine zr_aload_n dX12_readBookLine_81 rfl 1 rfl ?_
        refine zr_iload_n dX12_readBookLine_82 rfl 0 rfl ?_
        refine zr_iconst (v := 1) dX12_readBookLine_83 (by decide) ?_
        refine zr_iadd dX12_readBookLine_84 ?_
        refine zr_aload_n dX12_readBookLine_85 rfl 1 rfl ?_
        refine zm_callV_b (c := 12) (b := 229) dX12_readBookLine_86 w_X12_readPeerName l_X12_462 rfl (by decide) (by decide) s_X12_readPeerName [] rfl rfl (Nat.le_of_ble_eq_true rfl) (Nat.le_of_ble_eq_true rfl) ?_
        refine zV.post T ?_
        rintro v M33 ⟨r32, rfl, T⟩
        refine ⟨r32, rfl, ?_⟩
        refine zm_callV_b (c := 12) (b := 229) dX12_readBookLine_89 w_X12_keep l_X12_465 rfl (by decide) (by decide) s_X12_keep [.int ((4 * (M.1 229 53)) + 1), .int (bi r32)] rfl rfl (Nat.le_of_ble_eq_true rfl) (Nat.le_of_ble_eq_true rfl) ?_
        refine zV.post T ?_
        rintro v M35 ⟨r34, rfl, T⟩
        refine ⟨r34, rfl, ?_⟩
        refine zm_ifb_ne (tgt := 97) dX12_readBookLine_92 (by decide) (fun h36 => ?_) (fun h36 => ?_)
        · have T := T.1 h36
          refine zr_iload_n dX12_readBookLine_97 rfl 2 rfl ?_
          refine zr_iconst (v := 2) dX12_readBookLine_98 (by decide) ?_
          refine zr_icmp_lt (tgt := 125) dX12_readBookLine_99 (by decide) (fun h37 => ?_) (fun h37 => ?_)
          · have T := T.1 h37
            refine zr_aload_n dX12_readBookLine_125 rfl 1 rfl ?_
            refine zr_iload_n dX12_readBookLine_126 rfl 0 rfl ?_
            refine zr_iconst (v := 2) dX12_readBookLine_127 (by decide) ?_
            refine zr_iadd dX12_readBookLine_128 ?_
            refine zr_aload_n dX12_readBookLine_129 rfl 1 rfl ?_
            refine zr_iconst (v := 0) dX12_readBookLine_130 (by decide) ?_
            refine zr_aload_n dX12_readBookLine_131 rfl 1 rfl ?_
            refine zm_getr (a := 231) dX12_readBookLine_132 f_X12_98 (by decide) (by decide) (by decide) (by decide) ?_
            refine zr_iconst (v := 0) dX12_readBookLine_135 (by decide) ?_
            refine zm_iald (n := 647) (o := 0) dX12_readBookLine_136 (by decide) (by decide) (zin (by decide)) (by decide) ?_
            refine zm_callV_b (c := 12) (b := 229) dX12_readBookLine_137 w_X12_readNamed l_X12_456 rfl (by decide) (by decide) s_X12_readNamed [.int 0, .int (M35.1 231 0)] rfl rfl (Nat.le_of_ble_eq_true rfl) (Nat.le_of_ble_eq_true rfl) ?_
            refine zV.post T ?_
            rintro v M39 ⟨r38, rfl, T⟩
            refine ⟨r38, rfl, ?_⟩
            refine zm_callV_b (c := 12) (b := 229) dX12_readBookLine_140 w_X12_keep l_X12_465 rfl (by decide) (by decide) s_X12_keep [.int ((4 * (M.1 229 53)) + 2), .int (bi r38)] rfl rfl (Nat.le_of_ble_eq_true rfl) (Nat.le_of_ble_eq_true rfl) ?_
            refine zV.post T ?_
            rintro v M41 ⟨r40, rfl, T⟩
            refine ⟨r40, rfl, ?_⟩
            refine zm_ifb_ne (tgt := 148) dX12_readBookLine_143 (by decide) (fun h42 => ?_) (fun h42 => ?_)
            · have T := T.1 h42
              refine zr_iload_n dX12_readBookLine_148 rfl 2 rfl ?_
              refine zr_iconst (v := 1) dX12_readBookLine_149 (by decide) ?_
              refine zr_icmp_eq (tgt := 171) dX12_readBookLine_150 (by decide) (fun h43 => ?_) (fun h43 => ?_)
              · have T := T.1 h43
                refine zr_aload_n dX12_readBookLine_171 rfl 1 rfl ?_
                refine zm_callV_b (c := 12) (b := 229) dX12_readBookLine_172 w_X12_readEnd l_X12_257 rfl (by decide) (by decide) s_X12_readEnd [] rfl rfl (Nat.le_of_ble_eq_true rfl) (Nat.le_of_ble_eq_true rfl) ?_
                refine zV.post T ?_
                rintro v M45 ⟨r44, rfl, T⟩
                refine ⟨r44, rfl, ?_⟩
                refine zm_ifb_eq (tgt := 182) dX12_readBookLine_175 (by decide) (fun h46 => ?_) (fun h46 => ?_)
                · have T := T.1 h46
                  refine zr_iconst (v := 0) dX12_readBookLine_182 (by decide) ?_
                  exact zm_zret dX12_readBookLine_183 rfl (by decide) T
                · have T := T.2 h46
                  refine zr_iconst (v := 1) dX12_readBookLine_178 (by decide) ?_
                  refine zr_goto (tgt := 183) dX12_readBookLine_179 (by decide) ?_
                  exact zm_zret dX12_readBookLine_183 rfl (by decide) T
              · have T := T.2 h43
                refine zr_aload_n dX12_readBookLine_153 rfl 1 rfl ?_
                refine zr_iload_n dX12_readBookLine_154 rfl 0 rfl ?_
                refine zr_iconst (v := 3) dX12_readBookLine_155 (by decide) ?_
                refine zr_iadd dX12_readBookLine_156 ?_
                refine zr_aload_n dX12_readBookLine_157 rfl 1 rfl ?_
                refine zr_iconst (v := 0) dX12_readBookLine_158 (by decide) ?_
                refine zr_sipush (v := 999) dX12_readBookLine_159 (by decide) ?_
                refine zm_callV_b (c := 12) (b := 229) dX12_readBookLine_162 w_X12_readNumber l_X12_226 rfl (by decide) (by decide) s_X12_readNumber [.int 0, .int 999] rfl rfl (Nat.le_of_ble_eq_true rfl) (Nat.le_of_ble_eq_true rfl) ?_
                refine zV.post T ?_
                rintro v M48 ⟨r47, rfl, T⟩
                refine ⟨r47, rfl, ?_⟩
                refine zm_callV_b (c := 12) (b := 229) dX12_readBookLine_165 w_X12_keep l_X12_465 rfl (by decide) (by decide) s_X12_keep [.int ((4 * (M.1 229 53)) + 3), .int (bi r47)] rfl rfl (Nat.le_of_ble_eq_true rfl) (Nat.le_of_ble_eq_true rfl) ?_
                refine zV.post T ?_
                rintro v M50 ⟨r49, rfl, T⟩
                refine ⟨r49, rfl, ?_⟩
                refine zm_ifb_eq (tgt := 182) dX12_readBookLine_168 (by decide) (fun h51 => ?_) (fun h51 => ?_)
                · have T := T.1 h51
                  refine zr_iconst (v := 0) dX12_readBookLine_182 (by decide) ?_
                  exact zm_zret dX12_readBookLine_183 rfl (by decide) T
                · have T := T.2 h51
                  refine zr_aload_n dX12_readBookLine_171 rfl 1 rfl ?_
                  refine zm_callV_b (c := 12) (b := 229) dX12_readBookLine_172 w_X12_readEnd l_X12_257 rfl (by decide) (by decide) s_X12_readEnd [] rfl rfl (Nat.le_of_ble_eq_true rfl) (Nat.le_of_ble_eq_true rfl) ?_
                  refine zV.post T ?_
                  rintro v M53 ⟨r52, rfl, T⟩
                  refine ⟨r52, rfl, ?_⟩
                  refine zm_ifb_eq (tgt := 182) dX12_readBookLine_175 (by decide) (fun h54 => ?_) (fun h54 => ?_)
                  · have T := T.1 h54
                    refine zr_iconst (v := 0) dX12_readBookLine_182 (by decide) ?_
                    exact zm_zret dX12_readBookLine_183 rfl (by decide) T
                  · have T := T.2 h54
                    refine zr_iconst (v := 1) dX12_readBookLine_178 (by decide) ?_
                    refine zr_goto (tgt := 183) dX12_readBookLine_179 (by decide) ?_
                    exact zm_zret dX12_readBookLine_183 rfl (by decide) T
            · have T := T.2 h42
              refine zr_iconst (v := 0) dX12_readBookLine_146 (by decide) ?_
              exact zm_zret dX12_readBookLine_147 rfl (by decide) T
          · have T := T.2 h37
            refine zr_aload_n dX12_readBookLine_102 rfl 1 rfl ?_
            refine zr_iload_n dX12_readBookLine_103 rfl 0 rfl ?_
            refine zr_iconst (v := 1) dX12_readBookLine_104 (by decide) ?_
            refine zr_iadd dX12_readBookLine_105 ?_
            refine zm_callV_b (c := 12) (b := 229) dX12_readBookLine_106 w_X12_readOther l_X12_468 rfl (by decide) (by decide) s_X12_readOther [.int ((4 * (M.1 229 53)) + 1)] rfl rfl (Nat.le_of_ble_eq_true rfl) (Nat.le_of_ble_eq_true rfl) ?_
            refine zV.post T ?_
            rintro v M56 ⟨r55, rfl, T⟩
            refine ⟨r55, rfl, ?_⟩
            refine zm_ifb_eq (tgt := 123) dX12_readBookLine_109 (by decide) (fun h57 => ?_) (fun h57 => ?_)
            · have T := T.1 h57
              refine zr_iconst (v := 0) dX12_readBookLine_123 (by decide) ?_
              exact zm_zret dX12_readBookLine_124 rfl (by decide) T
            · have T := T.2 h57
              refine zr_aload_n dX12_readBookLine_112 rfl 1 rfl ?_
              refine zm_callV_b (c := 12) (b := 229) dX12_readBookLine_113 w_X12_readEnd l_X12_257 rfl (by decide) (by decide) s_X12_readEnd [] rfl rfl (Nat.le_of_ble_eq_true rfl) (Nat.le_of_ble_eq_true rfl) ?_
              refine zV.post T ?_
              rintro v M59 ⟨r58, rfl, T⟩
              refine ⟨r58, rfl, ?_⟩
              refine zm_ifb_eq (tgt := 123) dX12_readBookLine_116 (by decide) (fun h60 => ?_) (fun h60 => ?_)
              · have T := T.1 h60
                refine zr_iconst (v := 0) dX12_readBookLine_123 (by decide) ?_
                exact zm_zret dX12_readBookLine_124 rfl (by decide) T
              · have T := T.2 h60
                refine zr_iconst (v := 1) dX12_readBookLine_119 (by decide) ?_
                refine zr_goto (tgt := 124) dX12_readBookLine_120 (by decide) ?_
                exact zm_zret dX12_readBookLine_124 rfl (by decide) T
        · have T := T.2 h36
          refine zr_iconst (v := 0) dX12_readBookLine_95 (by decide) ?_
          exact zm_zret dX12_readBookLine_96 rfl (by decide) T
      · have T := T.2 h23
        refine zr_aload_n dX12_readBookLine_48 rfl 0 rfl ?_
        refine zr_iconst (v := 4) dX12_readBookLine_49 (by decide) ?_
        refine zm_callV_b (c := 12) (b := 229) dX12_readBookLine_50 w_X12_bad l_X12_72 rfl (by decide) (by decide) s_X12_bad [.int 4] rfl rfl (Nat.le_of_ble_eq_true rfl) (Nat.le_of_ble_eq_true rfl) ?_
        refine zV.post T ?_
        rintro v M62 ⟨r61, rfl, T⟩
        refine ⟨r61, rfl, ?_⟩
        exact zm_zret dX12_readBookLine_53 rfl (bi_01 _) T
    · have T := T.2 h22
      refine zr_aload_n dX12_readBookLine_33 rfl 0 rfl ?_
      refine zr_iconst (v := 1) dX12_readBookLine_34 (by decide) ?_
      refine zm_callV_b (c := 12) (b := 229) dX12_readBookLine_35 w_X12_bad l_X12_72 rfl (by decide) (by decide) s_X12_bad [.int 1] rfl rfl (Nat.le_of_ble_eq_true rfl) (Nat.le_of_ble_eq_true rfl) ?_
      refine zV.post T ?_
      rintro v M64 ⟨r63, rfl, T⟩
      refine ⟨r63, rfl, ?_⟩
      exact zm_zret dX12_readBookLine_38 rfl (bi_01 _) T
  · have T := T.2 h21
    refine zr_aload_n dX12_readBookLine_9 rfl 0 rfl ?_
    refine zr_bipush (v := 9) dX12_readBookLine_10 (by decide) ?_
    refine zr_iload_n dX12_readBookLine_12 rfl 2 rfl ?_
    refine zr_iadd dX12_readBookLine_13 ?_
    refine zm_callV_b (c := 12) (b := 229) dX12_readBookLine_14 w_X12_isWord l_X12_213 rfl (by decide) (by decide) s_X12_isWord [.int (9 + x2)] rfl rfl (Nat.le_of_ble_eq_true rfl) (Nat.le_of_ble_eq_true rfl) ?_
    refine zV.post T ?_
    rintro v M66 ⟨r65, rfl, T⟩
    refine ⟨r65, rfl, ?_⟩
    refine zm_ifb_eq (tgt := 22) dX12_readBookLine_17 (by decide) (fun h67 => ?_) (fun h67 => ?_)
    · have T := T.1 h67
      refine zr_iinc (n := 2) (v := x2 + 1) dX12_readBookLine_22 rfl rfl (by decide) (L2 := [(2, .int (x2 + 1)), (0, .ref 229), (1, .int x1)]) rfl ?_
      refine zr_goto (tgt := 4) dX12_readBookLine_25 (by decide) ?_
      exact zV.pick [1, 2, 0] rfl T
    · have T := T.2 h67
      refine zr_iload_n dX12_readBookLine_20 rfl 2 rfl ?_
      refine zr_istore_n dX12_readBookLine_21 rfl (by decide) (L2 := [(1, .int x2), (0, .ref 229), (2, .int x2)]) rfl ?_
      refine zr_iinc (n := 2) (v := x2 + 1) dX12_readBookLine_22 rfl rfl (by decide) (L2 := [(2, .int (x2 + 1)), (1, .int x2), (0, .ref 229)]) rfl ?_
      refine zr_goto (tgt := 4) dX12_readBookLine_25 (by decide) ?_
      exact zV.pick [2, 1, 0] rfl T
set_option maxRecDepth 100000 in
set_option maxHeartbeats 4000000 in
theorem t_X12_readPeerName {d : Nat}  {M : zMem} {K : zK} 
    (T : S_X12_readNamed d 24 (M.1 231 1) M (zB (fun r21 M22 => K (some (.int (bi r21))) M22))) : S_X12_readPeerName (d + 1)  M K := by
  show zV m_X12_readPeerName (d + 1) 0 [(0, .ref 229)] [] M K
  refine zr_aload_n dX12_readPeerName_0 rfl 0 rfl ?_
  refine zr_bipush (v := 24) dX12_readPeerName_1 (by decide) ?_
  refine zr_aload_n dX12_readPeerName_3 rfl 0 rfl ?_
  refine zm_getr (a := 231) dX12_readPeerName_4 f_X12_98 (by decide) (by decide) (by decide) (by decide) ?_
  refine zr_iconst (v := 1) dX12_readPeerName_7 (by decide) ?_
  refine zm_iald (n := 647) (o := 1) dX12_readPeerName_8 (by decide) (by decide) (zin (by decide)) (by decide) ?_
  refine zm_callV_b (c := 12) (b := 229) dX12_readPeerName_9 w_X12_readNamed l_X12_456 rfl (by decide) (by decide) s_X12_readNamed [.int 24, .int (M.1 231 1)] rfl rfl (Nat.le_of_ble_eq_true rfl) (Nat.le_of_ble_eq_true rfl) ?_
  refine zV.post T ?_
  rintro v M22 ⟨r21, rfl, T⟩
  refine ⟨r21, rfl, ?_⟩
  exact zm_zret dX12_readPeerName_12 rfl (bi_01 _) T
set_option maxRecDepth 100000 in
set_option maxHeartbeats 4000000 in
theorem t_X12_readNamed {d : Nat} {x1 : Int32} {x2 : Int32} {M : zMem} {K : zK} 
    (T : S_X12_isName d  M (zB (fun r21 M22 => (r21 = true → S_X12_findIn d 237 x1 x2 (M22.2 229 12) M22 (zI (fun r24 M25 => (∀ M26 : zMem, M26 = wI M25 229 13 r24 → (¬ (M26.1 229 13) = (-1) → S_X12_go d  M26 (zU (fun M30 => K (some (.int 1)) M30))) ∧ ((M26.1 229 13) = (-1) → S_X12_bad d 3 M26 (zB (fun r31 M32 => K (some (.int (bi r31))) M32))))))) ∧ (r21 = false → S_X12_bad d 1 M22 (zB (fun r33 M34 => K (some (.int (bi r33))) M34)))))) : S_X12_readNamed (d + 1) x1 x2 M K := by
  show zV m_X12_readNamed (d + 1) 0 [(0, .ref 229), (1, .int x1), (2, .int x2)] [] M K
  refine zr_aload_n dX12_readNamed_0 rfl 0 rfl ?_
  refine zm_callV_b (c := 12) (b := 229) dX12_readNamed_1 w_X12_isName l_X12_202 rfl (by decide) (by decide) s_X12_isName [] rfl rfl (Nat.le_of_ble_eq_true rfl) (Nat.le_of_ble_eq_true rfl) ?_
  refine zV.post T ?_
  rintro v M22 ⟨r21, rfl, T⟩
  refine ⟨r21, rfl, ?_⟩
  refine zm_ifb_ne (tgt := 13) dX12_readNamed_4 (by decide) (fun h23 => ?_) (fun h23 => ?_)
  · have T := T.1 h23
    refine zr_aload_n dX12_readNamed_13 rfl 0 rfl ?_
    refine zr_aload_n dX12_readNamed_14 rfl 0 rfl ?_
    refine zm_getr (a := 237) dX12_readNamed_15 f_X12_116 (by decide) (by decide) (by decide) (by decide) ?_
    refine zr_iload_n dX12_readNamed_18 rfl 1 rfl ?_
    refine zr_iload_n dX12_readNamed_19 rfl 2 rfl ?_
    refine zr_aload_n dX12_readNamed_20 rfl 0 rfl ?_
    refine zm_getl dX12_readNamed_21 f_X12_43 (by decide) (by decide) (by decide) ?_
    refine zm_callS_i dX12_readNamed_24 w_X12_findIn l_X12_206 s_X12_findIn [.ref 237, .int x1, .int x2, .long (M22.2 229 12)] rfl rfl (Nat.le_of_ble_eq_true rfl) (Nat.le_of_ble_eq_true rfl) ?_
    refine zV.post T ?_
    rintro v M25 ⟨r24, rfl, T⟩
    refine ⟨r24, rfl, ?_⟩
    refine zn_puti dX12_readNamed_27 f_X12_79 (by decide) (by decide) (by decide) (fun M26 e27 => ?_)
    have T := T M26 e27
    refine zr_aload_n dX12_readNamed_30 rfl 0 rfl ?_
    refine zm_geti dX12_readNamed_31 f_X12_79 (by decide) (by decide) (by decide) ?_
    refine zr_iconst (v := (-1)) dX12_readNamed_34 (by decide) ?_
    refine zr_icmp_ne (tgt := 44) dX12_readNamed_35 (by decide) (fun h28 => ?_) (fun h28 => ?_)
    · have T := T.1 h28
      refine zr_aload_n dX12_readNamed_44 rfl 0 rfl ?_
      refine zm_callV_v (c := 12) (b := 229) dX12_readNamed_45 w_X12_go l_X12_82 rfl (by decide) (by decide) s_X12_go [] rfl rfl (Nat.le_of_ble_eq_true rfl) (Nat.le_of_ble_eq_true rfl) ?_
      refine zV.post T ?_
      rintro v M30 ⟨rfl, T⟩
      refine ⟨rfl, ?_⟩
      refine zr_iconst (v := 1) dX12_readNamed_48 (by decide) ?_
      exact zm_zret dX12_readNamed_49 rfl (by decide) T
    · have T := T.2 h28
      refine zr_aload_n dX12_readNamed_38 rfl 0 rfl ?_
      refine zr_iconst (v := 3) dX12_readNamed_39 (by decide) ?_
      refine zm_callV_b (c := 12) (b := 229) dX12_readNamed_40 w_X12_bad l_X12_72 rfl (by decide) (by decide) s_X12_bad [.int 3] rfl rfl (Nat.le_of_ble_eq_true rfl) (Nat.le_of_ble_eq_true rfl) ?_
      refine zV.post T ?_
      rintro v M32 ⟨r31, rfl, T⟩
      refine ⟨r31, rfl, ?_⟩
      exact zm_zret dX12_readNamed_43 rfl (bi_01 _) T
  · have T := T.2 h23
    refine zr_aload_n dX12_readNamed_7 rfl 0 rfl ?_
    refine zr_iconst (v := 1) dX12_readNamed_8 (by decide) ?_
    refine zm_callV_b (c := 12) (b := 229) dX12_readNamed_9 w_X12_bad l_X12_72 rfl (by decide) (by decide) s_X12_bad [.int 1] rfl rfl (Nat.le_of_ble_eq_true rfl) (Nat.le_of_ble_eq_true rfl) ?_
    refine zV.post T ?_
    rintro v M34 ⟨r33, rfl, T⟩
    refine ⟨r33, rfl, ?_⟩
    exact zm_zret dX12_readNamed_12 rfl (bi_01 _) T
set_option maxRecDepth 100000 in
set_option maxHeartbeats 4000000 in
theorem t_X12_keep {d : Nat} {x1 : Int32} {x2 : Int32} {M : zMem} {K : zK} 
    (T : (x2 = 0 → (x2 = 0 ∨ x2 = 1) ∧ K (some (.int x2)) M) ∧ (¬ (x2 = 0) → vp_in x1 160 ∧ ((∀ M23 : zMem, M23 = wI M 260 (Int32.toNatClampNeg x1) (M.1 229 13) → (x2 = 0 ∨ x2 = 1) ∧ K (some (.int x2)) M23)))) : S_X12_keep d x1 x2 M K := by
  show zV m_X12_keep d 0 [(0, .ref 229), (1, .int x1), (2, .int x2)] [] M K
  refine zr_iload_n dX12_keep_0 rfl 2 rfl ?_
  refine zr_if_eq (tgt := 14) dX12_keep_1 (by decide) (fun h21 => ?_) (fun h21 => ?_)
  · have T := T.1 h21
    refine zr_iload_n dX12_keep_14 rfl 2 rfl ?_
    exact zm_zret dX12_keep_15 rfl T.1 T.2
  · have T := T.2 h21
    refine zr_aload_n dX12_keep_4 rfl 0 rfl ?_
    refine zm_getr (a := 260) dX12_keep_5 f_X12_190 (by decide) (by decide) (by decide) (by decide) ?_
    refine zr_iload_n dX12_keep_8 rfl 1 rfl ?_
    refine zr_aload_n dX12_keep_9 rfl 0 rfl ?_
    refine zm_geti dX12_keep_10 f_X12_79 (by decide) (by decide) (by decide) ?_
    obtain ⟨hq22, T⟩ := T
    refine zn_iast (n := 160) (o := (Int32.toNatClampNeg x1)) dX12_keep_13 (by decide) (by decide) hq22 rfl (fun M23 e24 => ?_)
    have T := T M23 e24
    refine zr_iload_n dX12_keep_14 rfl 2 rfl ?_
    exact zm_zret dX12_keep_15 rfl T.1 T.2
set_option maxRecDepth 100000 in
set_option maxHeartbeats 4000000 in
theorem t_X12_readOther {d : Nat} {x1 : Int32} {M : zMem} {K : zK} 
    (T : S_X12_isName d  M (zB (fun r21 M22 => (r21 = true → S_X12_findIn d 237 24 (M22.1 231 1) (M22.2 229 12) M22 (zI (fun r24 M25 => vp_in (x1 + 1) 160 ∧ ((∀ M27 : zMem, M27 = wI M25 260 (Int32.toNatClampNeg (x1 + 1)) r24 → vp_in (x1 + 1) 160 ∧ (((M27.1 260 (Int32.toNatClampNeg (x1 + 1))) = (-1) → S_X12_bad d 3 M27 (zB (fun r31 M32 => K (some (.int (bi r31))) M32))) ∧ (¬ ((M27.1 260 (Int32.toNatClampNeg (x1 + 1))) = (-1)) → vp_in (x1 + 1) 160 ∧ (vp_in x1 160 ∧ ((¬ (M27.1 260 (Int32.toNatClampNeg (x1 + 1))) = (M27.1 260 (Int32.toNatClampNeg x1)) → S_X12_go d  M27 (zU (fun M37 => K (some (.int 1)) M37))) ∧ ((M27.1 260 (Int32.toNatClampNeg (x1 + 1))) = (M27.1 260 (Int32.toNatClampNeg x1)) → S_X12_bad d 3 M27 (zB (fun r38 M39 => K (some (.int (bi r38))) M39)))))))))))) ∧ (r21 = false → S_X12_bad d 1 M22 (zB (fun r40 M41 => K (some (.int (bi r40))) M41)))))) : S_X12_readOther (d + 1) x1 M K := by
  show zV m_X12_readOther (d + 1) 0 [(0, .ref 229), (1, .int x1)] [] M K
  refine zr_aload_n dX12_readOther_0 rfl 0 rfl ?_
  refine zm_callV_b (c := 12) (b := 229) dX12_readOther_1 w_X12_isName l_X12_202 rfl (by decide) (by decide) s_X12_isName [] rfl rfl (Nat.le_of_ble_eq_true rfl) (Nat.le_of_ble_eq_true rfl) ?_
  refine zV.post T ?_
  rintro v M22 ⟨r21, rfl, T⟩
  refine ⟨r21, rfl, ?_⟩
  refine zm_ifb_ne (tgt := 13) dX12_readOther_4 (by decide) (fun h23 => ?_) (fun h23 => ?_)
  · have T := T.1 h23
    refine zr_aload_n dX12_readOther_13 rfl 0 rfl ?_
    refine zm_getr (a := 260) dX12_readOther_14 f_X12_190 (by decide) (by decide) (by decide) (by decide) ?_
    refine zr_iload_n dX12_readOther_17 rfl 1 rfl ?_
    refine zr_iconst (v := 1) dX12_readOther_18 (by decide) ?_
    refine zr_iadd dX12_readOther_19 ?_
    refine zr_aload_n dX12_readOther_20 rfl 0 rfl ?_
    refine zm_getr (a := 237) dX12_readOther_21 f_X12_116 (by decide) (by decide) (by decide) (by decide) ?_
    refine zr_bipush (v := 24) dX12_readOther_24 (by decide) ?_
    refine zr_aload_n dX12_readOther_26 rfl 0 rfl ?_
    refine zm_getr (a := 231) dX12_readOther_27 f_X12_98 (by decide) (by decide) (by decide) (by decide) ?_
    refine zr_iconst (v := 1) dX12_readOther_30 (by decide) ?_
    refine zm_iald (n := 647) (o := 1) dX12_readOther_31 (by decide) (by decide) (zin (by decide)) (by decide) ?_
    refine zr_aload_n dX12_readOther_32 rfl 0 rfl ?_
    refine zm_getl dX12_readOther_33 f_X12_43 (by decide) (by decide) (by decide) ?_
    refine zm_callS_i dX12_readOther_36 w_X12_findIn l_X12_206 s_X12_findIn [.ref 237, .int 24, .int (M22.1 231 1), .long (M22.2 229 12)] rfl rfl (Nat.le_of_ble_eq_true rfl) (Nat.le_of_ble_eq_true rfl) ?_
    refine zV.post T ?_
    rintro v M25 ⟨r24, rfl, T⟩
    refine ⟨r24, rfl, ?_⟩
    obtain ⟨hq26, T⟩ := T
    refine zn_iast (n := 160) (o := (Int32.toNatClampNeg (x1 + 1))) dX12_readOther_39 (by decide) (by decide) hq26 rfl (fun M27 e28 => ?_)
    have T := T M27 e28
    refine zr_aload_n dX12_readOther_40 rfl 0 rfl ?_
    refine zm_getr (a := 260) dX12_readOther_41 f_X12_190 (by decide) (by decide) (by decide) (by decide) ?_
    refine zr_iload_n dX12_readOther_44 rfl 1 rfl ?_
    refine zr_iconst (v := 1) dX12_readOther_45 (by decide) ?_
    refine zr_iadd dX12_readOther_46 ?_
    obtain ⟨hq29, T⟩ := T
    refine zm_iald (n := 160) (o := (Int32.toNatClampNeg (x1 + 1))) dX12_readOther_47 (by decide) (by decide) hq29 rfl ?_
    refine zr_iconst (v := (-1)) dX12_readOther_48 (by decide) ?_
    refine zr_icmp_eq (tgt := 69) dX12_readOther_49 (by decide) (fun h30 => ?_) (fun h30 => ?_)
    · have T := T.1 h30
      refine zr_aload_n dX12_readOther_69 rfl 0 rfl ?_
      refine zr_iconst (v := 3) dX12_readOther_70 (by decide) ?_
      refine zm_callV_b (c := 12) (b := 229) dX12_readOther_71 w_X12_bad l_X12_72 rfl (by decide) (by decide) s_X12_bad [.int 3] rfl rfl (Nat.le_of_ble_eq_true rfl) (Nat.le_of_ble_eq_true rfl) ?_
      refine zV.post T ?_
      rintro v M32 ⟨r31, rfl, T⟩
      refine ⟨r31, rfl, ?_⟩
      exact zm_zret dX12_readOther_74 rfl (bi_01 _) T
    · have T := T.2 h30
      refine zr_aload_n dX12_readOther_52 rfl 0 rfl ?_
      refine zm_getr (a := 260) dX12_readOther_53 f_X12_190 (by decide) (by decide) (by decide) (by decide) ?_
      refine zr_iload_n dX12_readOther_56 rfl 1 rfl ?_
      refine zr_iconst (v := 1) dX12_readOther_57 (by decide) ?_
      refine zr_iadd dX12_readOther_58 ?_
      obtain ⟨hq33, T⟩ := T
      refine zm_iald (n := 160) (o := (Int32.toNatClampNeg (x1 + 1))) dX12_readOther_59 (by decide) (by decide) hq33 rfl ?_
      refine zr_aload_n dX12_readOther_60 rfl 0 rfl ?_
      refine zm_getr (a := 260) dX12_readOther_61 f_X12_190 (by decide) (by decide) (by decide) (by decide) ?_
      refine zr_iload_n dX12_readOther_64 rfl 1 rfl ?_
      obtain ⟨hq34, T⟩ := T
      refine zm_iald (n := 160) (o := (Int32.toNatClampNeg x1)) dX12_readOther_65 (by decide) (by decide) hq34 rfl ?_
      refine zr_icmp_ne (tgt := 75) dX12_readOther_66 (by decide) (fun h35 => ?_) (fun h35 => ?_)
      · have T := T.1 h35
        refine zr_aload_n dX12_readOther_75 rfl 0 rfl ?_
        refine zm_callV_v (c := 12) (b := 229) dX12_readOther_76 w_X12_go l_X12_82 rfl (by decide) (by decide) s_X12_go [] rfl rfl (Nat.le_of_ble_eq_true rfl) (Nat.le_of_ble_eq_true rfl) ?_
        refine zV.post T ?_
        rintro v M37 ⟨rfl, T⟩
        refine ⟨rfl, ?_⟩
        refine zr_iconst (v := 1) dX12_readOther_79 (by decide) ?_
        exact zm_zret dX12_readOther_80 rfl (by decide) T
      · have T := T.2 h35
        refine zr_aload_n dX12_readOther_69 rfl 0 rfl ?_
        refine zr_iconst (v := 3) dX12_readOther_70 (by decide) ?_
        refine zm_callV_b (c := 12) (b := 229) dX12_readOther_71 w_X12_bad l_X12_72 rfl (by decide) (by decide) s_X12_bad [.int 3] rfl rfl (Nat.le_of_ble_eq_true rfl) (Nat.le_of_ble_eq_true rfl) ?_
        refine zV.post T ?_
        rintro v M39 ⟨r38, rfl, T⟩
        refine ⟨r38, rfl, ?_⟩
        exact zm_zret dX12_readOther_74 rfl (bi_01 _) T
  · have T := T.2 h23
    refine zr_aload_n dX12_readOther_7 rfl 0 rfl ?_
    refine zr_iconst (v := 1) dX12_readOther_8 (by decide) ?_
    refine zm_callV_b (c := 12) (b := 229) dX12_readOther_9 w_X12_bad l_X12_72 rfl (by decide) (by decide) s_X12_bad [.int 1] rfl rfl (Nat.le_of_ble_eq_true rfl) (Nat.le_of_ble_eq_true rfl) ?_
    refine zV.post T ?_
    rintro v M41 ⟨r40, rfl, T⟩
    refine ⟨r40, rfl, ?_⟩
    exact zm_zret dX12_readOther_12 rfl (bi_01 _) T
set_option maxRecDepth 100000 in
set_option maxHeartbeats 4000000 in
theorem t_X12_goBy {d : Nat} {x1 : Int32} {M : zMem} {K : zK} 
    (T : vp_in x1 160 ∧ (vp_in (x1 + 1) 160 ∧ (vp_in (x1 + 2) 160 ∧ (vp_in (x1 + 3) 160 ∧ (S_X12_why d (M.1 260 (Int32.toNatClampNeg x1)) (M.1 260 (Int32.toNatClampNeg (x1 + 1))) (M.1 260 (Int32.toNatClampNeg (x1 + 2))) (M.1 260 (Int32.toNatClampNeg (x1 + 3))) M (zI (fun r25 M26 => (r25 = 0 → vp_in (x1 + 1) 160 ∧ (vp_in (x1 + 2) 160 ∧ (vp_in (x1 + 3) 160 ∧ (S_X12_live d (M.1 260 (Int32.toNatClampNeg x1)) (M26.1 260 (Int32.toNatClampNeg (x1 + 1))) (M26.1 260 (Int32.toNatClampNeg (x1 + 2))) (M26.1 260 (Int32.toNatClampNeg (x1 + 3))) M26 (zU (fun M32 => K (some (.int 0)) M32)))))) ∧ (¬ (r25 = 0) → K (some (.int ((10 * (M.1 260 (Int32.toNatClampNeg x1))) + r25))) M26)))))))) : S_X12_goBy (d + 1) x1 M K := by
  show zV m_X12_goBy (d + 1) 0 [(0, .ref 229), (1, .int x1)] [] M K
  refine zr_aload_n dX12_goBy_0 rfl 0 rfl ?_
  refine zm_getr (a := 260) dX12_goBy_1 f_X12_190 (by decide) (by decide) (by decide) (by decide) ?_
  refine zr_iload_n dX12_goBy_4 rfl 1 rfl ?_
  obtain ⟨hq21, T⟩ := T
  refine zm_iald (n := 160) (o := (Int32.toNatClampNeg x1)) dX12_goBy_5 (by decide) (by decide) hq21 rfl ?_
  refine zr_istore_n dX12_goBy_6 rfl (by decide) (L2 := [(2, .int (M.1 260 (Int32.toNatClampNeg x1))), (0, .ref 229), (1, .int x1)]) rfl ?_
  refine zr_aload_n dX12_goBy_7 rfl 1 rfl ?_
  refine zr_iload_n dX12_goBy_8 rfl 0 rfl ?_
  refine zr_aload_n dX12_goBy_9 rfl 1 rfl ?_
  refine zm_getr (a := 260) dX12_goBy_10 f_X12_190 (by decide) (by decide) (by decide) (by decide) ?_
  refine zr_iload_n dX12_goBy_13 rfl 2 rfl ?_
  refine zr_iconst (v := 1) dX12_goBy_14 (by decide) ?_
  refine zr_iadd dX12_goBy_15 ?_
  obtain ⟨hq22, T⟩ := T
  refine zm_iald (n := 160) (o := (Int32.toNatClampNeg (x1 + 1))) dX12_goBy_16 (by decide) (by decide) hq22 rfl ?_
  refine zr_aload_n dX12_goBy_17 rfl 1 rfl ?_
  refine zm_getr (a := 260) dX12_goBy_18 f_X12_190 (by decide) (by decide) (by decide) (by decide) ?_
  refine zr_iload_n dX12_goBy_21 rfl 2 rfl ?_
  refine zr_iconst (v := 2) dX12_goBy_22 (by decide) ?_
  refine zr_iadd dX12_goBy_23 ?_
  obtain ⟨hq23, T⟩ := T
  refine zm_iald (n := 160) (o := (Int32.toNatClampNeg (x1 + 2))) dX12_goBy_24 (by decide) (by decide) hq23 rfl ?_
  refine zr_aload_n dX12_goBy_25 rfl 1 rfl ?_
  refine zm_getr (a := 260) dX12_goBy_26 f_X12_190 (by decide) (by decide) (by decide) (by decide) ?_
  refine zr_iload_n dX12_goBy_29 rfl 2 rfl ?_
  refine zr_iconst (v := 3) dX12_goBy_30 (by decide) ?_
  refine zr_iadd dX12_goBy_31 ?_
  obtain ⟨hq24, T⟩ := T
  refine zm_iald (n := 160) (o := (Int32.toNatClampNeg (x1 + 3))) dX12_goBy_32 (by decide) (by decide) hq24 rfl ?_
  refine zm_callV_i (c := 12) (b := 229) dX12_goBy_33 w_X12_why l_X12_393 rfl (by decide) (by decide) s_X12_why [.int (M.1 260 (Int32.toNatClampNeg x1)), .int (M.1 260 (Int32.toNatClampNeg (x1 + 1))), .int (M.1 260 (Int32.toNatClampNeg (x1 + 2))), .int (M.1 260 (Int32.toNatClampNeg (x1 + 3)))] rfl rfl (Nat.le_of_ble_eq_true rfl) (Nat.le_of_ble_eq_true rfl) ?_
  refine zV.post T ?_
  rintro v M26 ⟨r25, rfl, T⟩
  refine ⟨r25, rfl, ?_⟩
  refine zr_istore_n dX12_goBy_36 rfl (by decide) (L2 := [(3, .int r25), (2, .int (M.1 260 (Int32.toNatClampNeg x1))), (0, .ref 229), (1, .int x1)]) rfl ?_
  refine zr_iload_n dX12_goBy_37 rfl 0 rfl ?_
  refine zr_if_eq (tgt := 48) dX12_goBy_38 (by decide) (fun h27 => ?_) (fun h27 => ?_)
  · have T := T.1 h27
    refine zr_aload_n dX12_goBy_48 rfl 2 rfl ?_
    refine zr_iload_n dX12_goBy_49 rfl 1 rfl ?_
    refine zr_aload_n dX12_goBy_50 rfl 2 rfl ?_
    refine zm_getr (a := 260) dX12_goBy_51 f_X12_190 (by decide) (by decide) (by decide) (by decide) ?_
    refine zr_iload_n dX12_goBy_54 rfl 3 rfl ?_
    refine zr_iconst (v := 1) dX12_goBy_55 (by decide) ?_
    refine zr_iadd dX12_goBy_56 ?_
    obtain ⟨hq28, T⟩ := T
    refine zm_iald (n := 160) (o := (Int32.toNatClampNeg (x1 + 1))) dX12_goBy_57 (by decide) (by decide) hq28 rfl ?_
    refine zr_aload_n dX12_goBy_58 rfl 2 rfl ?_
    refine zm_getr (a := 260) dX12_goBy_59 f_X12_190 (by decide) (by decide) (by decide) (by decide) ?_
    refine zr_iload_n dX12_goBy_62 rfl 3 rfl ?_
    refine zr_iconst (v := 2) dX12_goBy_63 (by decide) ?_
    refine zr_iadd dX12_goBy_64 ?_
    obtain ⟨hq29, T⟩ := T
    refine zm_iald (n := 160) (o := (Int32.toNatClampNeg (x1 + 2))) dX12_goBy_65 (by decide) (by decide) hq29 rfl ?_
    refine zr_aload_n dX12_goBy_66 rfl 2 rfl ?_
    refine zm_getr (a := 260) dX12_goBy_67 f_X12_190 (by decide) (by decide) (by decide) (by decide) ?_
    refine zr_iload_n dX12_goBy_70 rfl 3 rfl ?_
    refine zr_iconst (v := 3) dX12_goBy_71 (by decide) ?_
    refine zr_iadd dX12_goBy_72 ?_
    obtain ⟨hq30, T⟩ := T
    refine zm_iald (n := 160) (o := (Int32.toNatClampNeg (x1 + 3))) dX12_goBy_73 (by decide) (by decide) hq30 rfl ?_
    refine zm_callV_v (c := 12) (b := 229) dX12_goBy_74 w_X12_live l_X12_400 rfl (by decide) (by decide) s_X12_live [.int (M.1 260 (Int32.toNatClampNeg x1)), .int (M26.1 260 (Int32.toNatClampNeg (x1 + 1))), .int (M26.1 260 (Int32.toNatClampNeg (x1 + 2))), .int (M26.1 260 (Int32.toNatClampNeg (x1 + 3)))] rfl rfl (Nat.le_of_ble_eq_true rfl) (Nat.le_of_ble_eq_true rfl) ?_
    refine zV.post T ?_
    rintro v M32 ⟨rfl, T⟩
    refine ⟨rfl, ?_⟩
    refine zr_iconst (v := 0) dX12_goBy_77 (by decide) ?_
    exact zm_iret dX12_goBy_78 rfl T
  · have T := T.2 h27
    refine zr_bipush (v := 10) dX12_goBy_41 (by decide) ?_
    refine zr_iload_n dX12_goBy_43 rfl 1 rfl ?_
    refine zr_imul dX12_goBy_44 ?_
    refine zr_iload_n dX12_goBy_45 rfl 0 rfl ?_
    refine zr_iadd dX12_goBy_46 ?_
    exact zm_iret dX12_goBy_47 rfl T
set_option maxRecDepth 100000 in
set_option maxHeartbeats 4000000 in
theorem t_X12_stay {d : Nat} {x1 : Int32} {M : zMem} {K : zK} 
    (T : S_X12_save d 235 0 M (zU (fun M22 => S_X12_comeBack d 236 0 M22 (zU (fun M24 => (¬ x1 = 0 → S_X12_snap d  M24 (zU (fun M27 => S_X12_comeBack d 235 0 M27 (zU (fun M29 => K none M29))))) ∧ (x1 = 0 → K none M24)))))) : S_X12_stay (d + 1) x1 M K := by
  show zV m_X12_stay (d + 1) 0 [(0, .ref 229), (1, .int x1)] [] M K
  refine zr_aload_n dX12_stay_0 rfl 0 rfl ?_
  refine zr_aload_n dX12_stay_1 rfl 0 rfl ?_
  refine zm_getr (a := 235) dX12_stay_2 f_X12_110 (by decide) (by decide) (by decide) (by decide) ?_
  refine zr_iconst (v := 0) dX12_stay_5 (by decide) ?_
  refine zm_callV_v (c := 12) (b := 229) dX12_stay_6 w_X12_save l_X12_373 rfl (by decide) (by decide) s_X12_save [.ref 235, .int 0] rfl rfl (Nat.le_of_ble_eq_true rfl) (Nat.le_of_ble_eq_true rfl) ?_
  refine zV.post T ?_
  rintro v M22 ⟨rfl, T⟩
  refine ⟨rfl, ?_⟩
  refine zr_aload_n dX12_stay_9 rfl 0 rfl ?_
  refine zr_aload_n dX12_stay_10 rfl 0 rfl ?_
  refine zm_getr (a := 236) dX12_stay_11 f_X12_113 (by decide) (by decide) (by decide) (by decide) ?_
  refine zr_iconst (v := 0) dX12_stay_14 (by decide) ?_
  refine zm_callV_v (c := 12) (b := 229) dX12_stay_15 w_X12_comeBack l_X12_408 rfl (by decide) (by decide) s_X12_comeBack [.ref 236, .int 0] rfl rfl (Nat.le_of_ble_eq_true rfl) (Nat.le_of_ble_eq_true rfl) ?_
  refine zV.post T ?_
  rintro v M24 ⟨rfl, T⟩
  refine ⟨rfl, ?_⟩
  refine zr_iload_n dX12_stay_18 rfl 1 rfl ?_
  refine zr_if_ne (tgt := 23) dX12_stay_19 (by decide) (fun h25 => ?_) (fun h25 => ?_)
  · have T := T.1 h25
    refine zr_aload_n dX12_stay_23 rfl 0 rfl ?_
    refine zm_callV_v (c := 12) (b := 229) dX12_stay_24 w_X12_snap l_X12_397 rfl (by decide) (by decide) s_X12_snap [] rfl rfl (Nat.le_of_ble_eq_true rfl) (Nat.le_of_ble_eq_true rfl) ?_
    refine zV.post T ?_
    rintro v M27 ⟨rfl, T⟩
    refine ⟨rfl, ?_⟩
    refine zr_aload_n dX12_stay_27 rfl 0 rfl ?_
    refine zr_aload_n dX12_stay_28 rfl 0 rfl ?_
    refine zm_getr (a := 235) dX12_stay_29 f_X12_110 (by decide) (by decide) (by decide) (by decide) ?_
    refine zr_iconst (v := 0) dX12_stay_32 (by decide) ?_
    refine zm_callV_v (c := 12) (b := 229) dX12_stay_33 w_X12_comeBack l_X12_408 rfl (by decide) (by decide) s_X12_comeBack [.ref 235, .int 0] rfl rfl (Nat.le_of_ble_eq_true rfl) (Nat.le_of_ble_eq_true rfl) ?_
    refine zV.post T ?_
    rintro v M29 ⟨rfl, T⟩
    refine ⟨rfl, ?_⟩
    exact zm_vret dX12_stay_36 rfl T
  · have T := T.2 h25
    exact zm_vret dX12_stay_22 rfl T
set_option maxRecDepth 100000 in
set_option maxHeartbeats 4000000 in
theorem t_X12_told {d : Nat} {x1 : Int32} {M : zMem} {K : zK} 
    (T : (∀ M21 : zMem, M21 = wI M 229 0 0 → ((M21.1 229 54) = 0 → K (some (.int (-1))) M21) ∧ (¬ ((M21.1 229 54) = 0) → S_X12_isIn d x1 0 3 M21 (zB (fun r24 M25 => (r24 = false → K (some (.int (-1))) M25) ∧ (r24 = true → vp_in x1 4 ∧ (K (some (.int (M25.1 261 (Int32.toNatClampNeg x1)))) M25))))))) : S_X12_told (d + 1) x1 M K := by
  show zV m_X12_told (d + 1) 0 [(0, .ref 229), (1, .int x1)] [] M K
  refine zr_aload_n dX12_told_0 rfl 0 rfl ?_
  refine zr_iconst (v := 0) dX12_told_1 (by decide) ?_
  refine zn_puti dX12_told_2 f_X12_1 (by decide) (by decide) (by decide) (fun M21 e22 => ?_)
  have T := T M21 e22
  refine zr_aload_n dX12_told_5 rfl 0 rfl ?_
  refine zm_geti dX12_told_6 f_X12_477 (by decide) (by decide) (by decide) ?_
  refine zr_if_eq (tgt := 30) dX12_told_9 (by decide) (fun h23 => ?_) (fun h23 => ?_)
  · have T := T.1 h23
    refine zr_iconst (v := (-1)) dX12_told_30 (by decide) ?_
    exact zm_iret dX12_told_31 rfl T
  · have T := T.2 h23
    refine zr_iload_n dX12_told_12 rfl 1 rfl ?_
    refine zr_iconst (v := 0) dX12_told_13 (by decide) ?_
    refine zr_iconst (v := 3) dX12_told_14 (by decide) ?_
    refine zm_callS_b dX12_told_15 w_X12_isIn l_X12_75 s_X12_isIn [.int x1, .int 0, .int 3] rfl rfl (Nat.le_of_ble_eq_true rfl) (Nat.le_of_ble_eq_true rfl) ?_
    refine zV.post T ?_
    rintro v M25 ⟨r24, rfl, T⟩
    refine ⟨r24, rfl, ?_⟩
    refine zm_ifb_eq (tgt := 30) dX12_told_18 (by decide) (fun h26 => ?_) (fun h26 => ?_)
    · have T := T.1 h26
      refine zr_iconst (v := (-1)) dX12_told_30 (by decide) ?_
      exact zm_iret dX12_told_31 rfl T
    · have T := T.2 h26
      refine zr_aload_n dX12_told_21 rfl 0 rfl ?_
      refine zm_getr (a := 261) dX12_told_22 f_X12_193 (by decide) (by decide) (by decide) (by decide) ?_
      refine zr_iload_n dX12_told_25 rfl 1 rfl ?_
      obtain ⟨hq27, T⟩ := T
      refine zm_iald (n := 4) (o := (Int32.toNatClampNeg x1)) dX12_told_26 (by decide) (by decide) hq27 rfl ?_
      refine zr_goto (tgt := 31) dX12_told_27 (by decide) ?_
      exact zm_iret dX12_told_31 rfl T
set_option maxRecDepth 100000 in
set_option maxHeartbeats 4000000 in
theorem t_X12_sentence {d : Nat}  {M : zMem} {K : zK} 
    (T : S_X12_begin d 200 M (zU (fun M22 => (∀ M23 : zMem, M23 = wI M22 229 27 0 → (∀ M25 : zMem, M25 = wI M23 229 56 0 → (∀ M27 : zMem, M27 = wI M25 229 57 0 → (∀ M29 : zMem, M29 = wI M27 229 58 0 → S_X12_readOr d  M29 (zB (fun r31 M32 => (r31 = true → ((M32.1 229 7) = 0 → (∀ M35 : zMem, M35 = wI M32 229 27 (-1) → (∀ M37 : zMem, M37 = wI M35 231 405 1 → (∀ M39 : zMem, M39 = wI M37 231 406 (M37.1 229 59) → S_X12_sentence_89 (d + 1) 0 M39 K)))) ∧ (¬ ((M32.1 229 7) = 0) → S_X12_bad d 1 M32 (zB (fun r41 M42 => K (some (.int ((-1) - (M42.1 229 11)))) M42)))) ∧ (r31 = false → K (some (.int ((-1) - (M32.1 229 11)))) M32)))))))))) : S_X12_sentence (d + 1)  M K := by
  show zV m_X12_sentence (d + 1) 0 [(0, .ref 229)] [] M K
  refine zr_aload_n dX12_sentence_0 rfl 0 rfl ?_
  refine zr_sipush (v := 200) dX12_sentence_1 (by decide) ?_
  refine zm_callV_v (c := 12) (b := 229) dX12_sentence_4 w_X12_begin l_X12_251 rfl (by decide) (by decide) s_X12_begin [.int 200] rfl rfl (Nat.le_of_ble_eq_true rfl) (Nat.le_of_ble_eq_true rfl) ?_
  refine zV.post T ?_
  rintro v M22 ⟨rfl, T⟩
  refine ⟨rfl, ?_⟩
  refine zr_aload_n dX12_sentence_7 rfl 0 rfl ?_
  refine zr_iconst (v := 0) dX12_sentence_8 (by decide) ?_
  refine zn_puti dX12_sentence_9 f_X12_133 (by decide) (by decide) (by decide) (fun M23 e24 => ?_)
  have T := T M23 e24
  refine zr_aload_n dX12_sentence_12 rfl 0 rfl ?_
  refine zr_iconst (v := 0) dX12_sentence_13 (by decide) ?_
  refine zn_puti dX12_sentence_14 f_X12_484 (by decide) (by decide) (by decide) (fun M25 e26 => ?_)
  have T := T M25 e26
  refine zr_aload_n dX12_sentence_17 rfl 0 rfl ?_
  refine zr_iconst (v := 0) dX12_sentence_18 (by decide) ?_
  refine zn_puti dX12_sentence_19 f_X12_499 (by decide) (by decide) (by decide) (fun M27 e28 => ?_)
  have T := T M27 e28
  refine zr_aload_n dX12_sentence_22 rfl 0 rfl ?_
  refine zr_iconst (v := 0) dX12_sentence_23 (by decide) ?_
  refine zn_puti dX12_sentence_24 f_X12_502 (by decide) (by decide) (by decide) (fun M29 e30 => ?_)
  have T := T M29 e30
  refine zr_aload_n dX12_sentence_27 rfl 0 rfl ?_
  refine zm_callV_b (c := 12) (b := 229) dX12_sentence_28 w_X12_readOr l_X12_517 rfl (by decide) (by decide) s_X12_readOr [] rfl rfl (Nat.le_of_ble_eq_true rfl) (Nat.le_of_ble_eq_true rfl) ?_
  refine zV.post T ?_
  rintro v M32 ⟨r31, rfl, T⟩
  refine ⟨r31, rfl, ?_⟩
  refine zm_ifb_ne (tgt := 41) dX12_sentence_31 (by decide) (fun h33 => ?_) (fun h33 => ?_)
  · have T := T.1 h33
    refine zr_aload_n dX12_sentence_41 rfl 0 rfl ?_
    refine zm_geti dX12_sentence_42 f_X12_30 (by decide) (by decide) (by decide) ?_
    refine zr_if_eq (tgt := 61) dX12_sentence_45 (by decide) (fun h34 => ?_) (fun h34 => ?_)
    · have T := T.1 h34
      refine zr_aload_n dX12_sentence_61 rfl 0 rfl ?_
      refine zr_iconst (v := (-1)) dX12_sentence_62 (by decide) ?_
      refine zn_puti dX12_sentence_63 f_X12_133 (by decide) (by decide) (by decide) (fun M35 e36 => ?_)
      have T := T M35 e36
      refine zr_aload_n dX12_sentence_66 rfl 0 rfl ?_
      refine zm_getr (a := 231) dX12_sentence_67 f_X12_98 (by decide) (by decide) (by decide) (by decide) ?_
      refine zr_sipush (v := 405) dX12_sentence_70 (by decide) ?_
      refine zr_iconst (v := 1) dX12_sentence_73 (by decide) ?_
      refine zn_iast (n := 647) (o := 405) dX12_sentence_74 (by decide) (by decide) (zin (by decide)) (by decide) (fun M37 e38 => ?_)
      have T := T M37 e38
      refine zr_aload_n dX12_sentence_75 rfl 0 rfl ?_
      refine zm_getr (a := 231) dX12_sentence_76 f_X12_98 (by decide) (by decide) (by decide) (by decide) ?_
      refine zr_sipush (v := 406) dX12_sentence_79 (by decide) ?_
      refine zr_aload_n dX12_sentence_82 rfl 0 rfl ?_
      refine zm_geti dX12_sentence_83 f_X12_490 (by decide) (by decide) (by decide) ?_
      refine zn_iast (n := 647) (o := 406) dX12_sentence_86 (by decide) (by decide) (zin (by decide)) (by decide) (fun M39 e40 => ?_)
      have T := T M39 e40
      refine zr_iconst (v := 0) dX12_sentence_87 (by decide) ?_
      refine zr_istore_n dX12_sentence_88 rfl (by decide) (L2 := [(1, .int 0), (0, .ref 229)]) rfl ?_
      exact zV.pick [1, 0] rfl T
    · have T := T.2 h34
      refine zr_aload_n dX12_sentence_48 rfl 0 rfl ?_
      refine zr_iconst (v := 1) dX12_sentence_49 (by decide) ?_
      refine zm_callV_b (c := 12) (b := 229) dX12_sentence_50 w_X12_bad l_X12_72 rfl (by decide) (by decide) s_X12_bad [.int 1] rfl rfl (Nat.le_of_ble_eq_true rfl) (Nat.le_of_ble_eq_true rfl) ?_
      refine zV.post T ?_
      rintro v M42 ⟨r41, rfl, T⟩
      refine ⟨r41, rfl, ?_⟩
      refine zr_pop dX12_sentence_53 rfl ?_
      refine zr_iconst (v := (-1)) dX12_sentence_54 (by decide) ?_
      refine zr_aload_n dX12_sentence_55 rfl 0 rfl ?_
      refine zm_geti dX12_sentence_56 f_X12_69 (by decide) (by decide) (by decide) ?_
      refine zr_isub dX12_sentence_59 ?_
      exact zm_iret dX12_sentence_60 rfl T
  · have T := T.2 h33
    refine zr_iconst (v := (-1)) dX12_sentence_34 (by decide) ?_
    refine zr_aload_n dX12_sentence_35 rfl 0 rfl ?_
    refine zm_geti dX12_sentence_36 f_X12_69 (by decide) (by decide) (by decide) ?_
    refine zr_isub dX12_sentence_39 ?_
    exact zm_iret dX12_sentence_40 rfl T
set_option maxRecDepth 100000 in
set_option maxHeartbeats 4000000 in
theorem t_X12_sentence_89 {d : Nat} {x1 : Int32} {M : zMem} {K : zK} 
    (T : (240 ≤ x1 → K (some (.int (M.1 229 57))) M) ∧ (¬ (240 ≤ x1) → vp_in x1 240 ∧ (vp_in (407 + x1) 647 ∧ ((∀ M24 : zMem, M24 = wI M 231 (Int32.toNatClampNeg (407 + x1)) (M.1 262 (Int32.toNatClampNeg x1)) → S_X12_sentence_89 (d + 1) (x1 + 1) M24 K))))) : S_X12_sentence_89 (d + 1) x1 M K := by
  show zV m_X12_sentence (d + 1) 89 [(0, .ref 229), (1, .int x1)] [] M K
  refine zr_iload_n dX12_sentence_89 rfl 1 rfl ?_
  refine zr_sipush (v := 240) dX12_sentence_90 (by decide) ?_
  refine zr_icmp_ge (tgt := 118) dX12_sentence_93 (by decide) (fun h21 => ?_) (fun h21 => ?_)
  · have T := T.1 h21
    refine zr_aload_n dX12_sentence_118 rfl 0 rfl ?_
    refine zm_geti dX12_sentence_119 f_X12_499 (by decide) (by decide) (by decide) ?_
    exact zm_iret dX12_sentence_122 rfl T
  · have T := T.2 h21
    refine zr_aload_n dX12_sentence_96 rfl 0 rfl ?_
    refine zm_getr (a := 231) dX12_sentence_97 f_X12_98 (by decide) (by decide) (by decide) (by decide) ?_
    refine zr_sipush (v := 407) dX12_sentence_100 (by decide) ?_
    refine zr_iload_n dX12_sentence_103 rfl 1 rfl ?_
    refine zr_iadd dX12_sentence_104 ?_
    refine zr_aload_n dX12_sentence_105 rfl 0 rfl ?_
    refine zm_getr (a := 262) dX12_sentence_106 f_X12_196 (by decide) (by decide) (by decide) (by decide) ?_
    refine zr_iload_n dX12_sentence_109 rfl 1 rfl ?_
    obtain ⟨hq22, T⟩ := T
    refine zm_iald (n := 240) (o := (Int32.toNatClampNeg x1)) dX12_sentence_110 (by decide) (by decide) hq22 rfl ?_
    obtain ⟨hq23, T⟩ := T
    refine zn_iast (n := 647) (o := (Int32.toNatClampNeg (407 + x1))) dX12_sentence_111 (by decide) (by decide) hq23 rfl (fun M24 e25 => ?_)
    have T := T M24 e25
    refine zr_iinc (n := 1) (v := x1 + 1) dX12_sentence_112 rfl rfl (by decide) (L2 := [(1, .int (x1 + 1)), (0, .ref 229)]) rfl ?_
    refine zr_goto (tgt := 89) dX12_sentence_115 (by decide) ?_
    exact zV.pick [1, 0] rfl T
set_option maxRecDepth 100000 in
set_option maxHeartbeats 4000000 in
theorem t_X12_readOr {d : Nat}  {M : zMem} {K : zK} 
    (T : S_X12_readAnd d  M (zB (fun r21 M22 => (r21 = true → S_X12_readOr_14 (d + 1) (M22.1 229 59) M22 K) ∧ (r21 = false → K (some (.int 0)) M22)))) : S_X12_readOr (d + 1)  M K := by
  show zV m_X12_readOr (d + 1) 0 [(0, .ref 229)] [] M K
  refine zr_aload_n dX12_readOr_0 rfl 0 rfl ?_
  refine zm_callV_b (c := 12) (b := 229) dX12_readOr_1 w_X12_readAnd l_X12_487 rfl (by decide) (by decide) s_X12_readAnd [] rfl rfl (Nat.le_of_ble_eq_true rfl) (Nat.le_of_ble_eq_true rfl) ?_
  refine zV.post T ?_
  rintro v M22 ⟨r21, rfl, T⟩
  refine ⟨r21, rfl, ?_⟩
  refine zm_ifb_ne (tgt := 9) dX12_readOr_4 (by decide) (fun h23 => ?_) (fun h23 => ?_)
  · have T := T.1 h23
    refine zr_aload_n dX12_readOr_9 rfl 0 rfl ?_
    refine zm_geti dX12_readOr_10 f_X12_490 (by decide) (by decide) (by decide) ?_
    refine zr_istore_n dX12_readOr_13 rfl (by decide) (L2 := [(1, .int (M22.1 229 59)), (0, .ref 229)]) rfl ?_
    exact zV.pick [1, 0] rfl T
  · have T := T.2 h23
    refine zr_iconst (v := 0) dX12_readOr_7 (by decide) ?_
    exact zm_zret dX12_readOr_8 rfl (by decide) T
set_option maxRecDepth 100000 in
set_option maxHeartbeats 4000000 in
theorem t_X12_readOr_14 {d : Nat} {x1 : Int32} {M : zMem} {K : zK} 
    (T : S_X12_isWord d 14 M (zB (fun r21 M22 => (r21 = false → (∀ M24 : zMem, M24 = wI M22 229 59 x1 → K (some (.int 1)) M24)) ∧ (r21 = true → S_X12_go d  M22 (zU (fun M27 => S_X12_readAnd d  M27 (zB (fun r28 M29 => (r28 = true → S_X12_saysOne d 3 x1 (M29.1 229 59) 0 M29 (zI (fun r31 M32 => S_X12_readOr_14 (d + 1) r31 M32 K))) ∧ (r28 = false → K (some (.int 0)) M29))))))))) : S_X12_readOr_14 (d + 1) x1 M K := by
  show zV m_X12_readOr (d + 1) 14 [(0, .ref 229), (1, .int x1)] [] M K
  refine zr_aload_n dX12_readOr_14 rfl 0 rfl ?_
  refine zr_bipush (v := 14) dX12_readOr_15 (by decide) ?_
  refine zm_callV_b (c := 12) (b := 229) dX12_readOr_17 w_X12_isWord l_X12_213 rfl (by decide) (by decide) s_X12_isWord [.int 14] rfl rfl (Nat.le_of_ble_eq_true rfl) (Nat.le_of_ble_eq_true rfl) ?_
  refine zV.post T ?_
  rintro v M22 ⟨r21, rfl, T⟩
  refine ⟨r21, rfl, ?_⟩
  refine zm_ifb_eq (tgt := 51) dX12_readOr_20 (by decide) (fun h23 => ?_) (fun h23 => ?_)
  · have T := T.1 h23
    refine zr_aload_n dX12_readOr_51 rfl 0 rfl ?_
    refine zr_iload_n dX12_readOr_52 rfl 1 rfl ?_
    refine zn_puti dX12_readOr_53 f_X12_490 (by decide) (by decide) (by decide) (fun M24 e25 => ?_)
    have T := T M24 e25
    refine zr_iconst (v := 1) dX12_readOr_56 (by decide) ?_
    exact zm_zret dX12_readOr_57 rfl (by decide) T
  · have T := T.2 h23
    refine zr_aload_n dX12_readOr_23 rfl 0 rfl ?_
    refine zm_callV_v (c := 12) (b := 229) dX12_readOr_24 w_X12_go l_X12_82 rfl (by decide) (by decide) s_X12_go [] rfl rfl (Nat.le_of_ble_eq_true rfl) (Nat.le_of_ble_eq_true rfl) ?_
    refine zV.post T ?_
    rintro v M27 ⟨rfl, T⟩
    refine ⟨rfl, ?_⟩
    refine zr_aload_n dX12_readOr_27 rfl 0 rfl ?_
    refine zm_callV_b (c := 12) (b := 229) dX12_readOr_28 w_X12_readAnd l_X12_487 rfl (by decide) (by decide) s_X12_readAnd [] rfl rfl (Nat.le_of_ble_eq_true rfl) (Nat.le_of_ble_eq_true rfl) ?_
    refine zV.post T ?_
    rintro v M29 ⟨r28, rfl, T⟩
    refine ⟨r28, rfl, ?_⟩
    refine zm_ifb_ne (tgt := 36) dX12_readOr_31 (by decide) (fun h30 => ?_) (fun h30 => ?_)
    · have T := T.1 h30
      refine zr_aload_n dX12_readOr_36 rfl 0 rfl ?_
      refine zr_iconst (v := 3) dX12_readOr_37 (by decide) ?_
      refine zr_iload_n dX12_readOr_38 rfl 1 rfl ?_
      refine zr_aload_n dX12_readOr_39 rfl 0 rfl ?_
      refine zm_geti dX12_readOr_40 f_X12_490 (by decide) (by decide) (by decide) ?_
      refine zr_iconst (v := 0) dX12_readOr_43 (by decide) ?_
      refine zm_callV_i (c := 12) (b := 229) dX12_readOr_44 w_X12_saysOne l_X12_493 rfl (by decide) (by decide) s_X12_saysOne [.int 3, .int x1, .int (M29.1 229 59), .int 0] rfl rfl (Nat.le_of_ble_eq_true rfl) (Nat.le_of_ble_eq_true rfl) ?_
      refine zV.post T ?_
      rintro v M32 ⟨r31, rfl, T⟩
      refine ⟨r31, rfl, ?_⟩
      refine zr_istore_n dX12_readOr_47 rfl (by decide) (L2 := [(1, .int r31), (0, .ref 229)]) rfl ?_
      refine zr_goto (tgt := 14) dX12_readOr_48 (by decide) ?_
      exact zV.pick [1, 0] rfl T
    · have T := T.2 h30
      refine zr_iconst (v := 0) dX12_readOr_34 (by decide) ?_
      exact zm_zret dX12_readOr_35 rfl (by decide) T
set_option maxRecDepth 100000 in
set_option maxHeartbeats 4000000 in
theorem t_X12_readAnd {d : Nat}  {M : zMem} {K : zK} 
    (T : S_X12_readSaid d  M (zB (fun r21 M22 => (r21 = true → S_X12_readAnd_14 (d + 1) (M22.1 229 59) M22 K) ∧ (r21 = false → K (some (.int 0)) M22)))) : S_X12_readAnd (d + 1)  M K := by
  show zV m_X12_readAnd (d + 1) 0 [(0, .ref 229)] [] M K
  refine zr_aload_n dX12_readAnd_0 rfl 0 rfl ?_
  refine zm_callV_b (c := 12) (b := 229) dX12_readAnd_1 w_X12_readSaid l_X12_496 rfl (by decide) (by decide) s_X12_readSaid [] rfl rfl (Nat.le_of_ble_eq_true rfl) (Nat.le_of_ble_eq_true rfl) ?_
  refine zV.post T ?_
  rintro v M22 ⟨r21, rfl, T⟩
  refine ⟨r21, rfl, ?_⟩
  refine zm_ifb_ne (tgt := 9) dX12_readAnd_4 (by decide) (fun h23 => ?_) (fun h23 => ?_)
  · have T := T.1 h23
    refine zr_aload_n dX12_readAnd_9 rfl 0 rfl ?_
    refine zm_geti dX12_readAnd_10 f_X12_490 (by decide) (by decide) (by decide) ?_
    refine zr_istore_n dX12_readAnd_13 rfl (by decide) (L2 := [(1, .int (M22.1 229 59)), (0, .ref 229)]) rfl ?_
    exact zV.pick [1, 0] rfl T
  · have T := T.2 h23
    refine zr_iconst (v := 0) dX12_readAnd_7 (by decide) ?_
    exact zm_zret dX12_readAnd_8 rfl (by decide) T
set_option maxRecDepth 100000 in
set_option maxHeartbeats 4000000 in
theorem t_X12_readAnd_14 {d : Nat} {x1 : Int32} {M : zMem} {K : zK} 
    (T : S_X12_isWord d 15 M (zB (fun r21 M22 => (r21 = false → (∀ M24 : zMem, M24 = wI M22 229 59 x1 → K (some (.int 1)) M24)) ∧ (r21 = true → S_X12_go d  M22 (zU (fun M27 => S_X12_readSaid d  M27 (zB (fun r28 M29 => (r28 = true → S_X12_saysOne d 2 x1 (M29.1 229 59) 0 M29 (zI (fun r31 M32 => S_X12_readAnd_14 (d + 1) r31 M32 K))) ∧ (r28 = false → K (some (.int 0)) M29))))))))) : S_X12_readAnd_14 (d + 1) x1 M K := by
  show zV m_X12_readAnd (d + 1) 14 [(0, .ref 229), (1, .int x1)] [] M K
  refine zr_aload_n dX12_readAnd_14 rfl 0 rfl ?_
  refine zr_bipush (v := 15) dX12_readAnd_15 (by decide) ?_
  refine zm_callV_b (c := 12) (b := 229) dX12_readAnd_17 w_X12_isWord l_X12_213 rfl (by decide) (by decide) s_X12_isWord [.int 15] rfl rfl (Nat.le_of_ble_eq_true rfl) (Nat.le_of_ble_eq_true rfl) ?_
  refine zV.post T ?_
  rintro v M22 ⟨r21, rfl, T⟩
  refine ⟨r21, rfl, ?_⟩
  refine zm_ifb_eq (tgt := 51) dX12_readAnd_20 (by decide) (fun h23 => ?_) (fun h23 => ?_)
  · have T := T.1 h23
    refine zr_aload_n dX12_readAnd_51 rfl 0 rfl ?_
    refine zr_iload_n dX12_readAnd_52 rfl 1 rfl ?_
    refine zn_puti dX12_readAnd_53 f_X12_490 (by decide) (by decide) (by decide) (fun M24 e25 => ?_)
    have T := T M24 e25
    refine zr_iconst (v := 1) dX12_readAnd_56 (by decide) ?_
    exact zm_zret dX12_readAnd_57 rfl (by decide) T
  · have T := T.2 h23
    refine zr_aload_n dX12_readAnd_23 rfl 0 rfl ?_
    refine zm_callV_v (c := 12) (b := 229) dX12_readAnd_24 w_X12_go l_X12_82 rfl (by decide) (by decide) s_X12_go [] rfl rfl (Nat.le_of_ble_eq_true rfl) (Nat.le_of_ble_eq_true rfl) ?_
    refine zV.post T ?_
    rintro v M27 ⟨rfl, T⟩
    refine ⟨rfl, ?_⟩
    refine zr_aload_n dX12_readAnd_27 rfl 0 rfl ?_
    refine zm_callV_b (c := 12) (b := 229) dX12_readAnd_28 w_X12_readSaid l_X12_496 rfl (by decide) (by decide) s_X12_readSaid [] rfl rfl (Nat.le_of_ble_eq_true rfl) (Nat.le_of_ble_eq_true rfl) ?_
    refine zV.post T ?_
    rintro v M29 ⟨r28, rfl, T⟩
    refine ⟨r28, rfl, ?_⟩
    refine zm_ifb_ne (tgt := 36) dX12_readAnd_31 (by decide) (fun h30 => ?_) (fun h30 => ?_)
    · have T := T.1 h30
      refine zr_aload_n dX12_readAnd_36 rfl 0 rfl ?_
      refine zr_iconst (v := 2) dX12_readAnd_37 (by decide) ?_
      refine zr_iload_n dX12_readAnd_38 rfl 1 rfl ?_
      refine zr_aload_n dX12_readAnd_39 rfl 0 rfl ?_
      refine zm_geti dX12_readAnd_40 f_X12_490 (by decide) (by decide) (by decide) ?_
      refine zr_iconst (v := 0) dX12_readAnd_43 (by decide) ?_
      refine zm_callV_i (c := 12) (b := 229) dX12_readAnd_44 w_X12_saysOne l_X12_493 rfl (by decide) (by decide) s_X12_saysOne [.int 2, .int x1, .int (M29.1 229 59), .int 0] rfl rfl (Nat.le_of_ble_eq_true rfl) (Nat.le_of_ble_eq_true rfl) ?_
      refine zV.post T ?_
      rintro v M32 ⟨r31, rfl, T⟩
      refine ⟨r31, rfl, ?_⟩
      refine zr_istore_n dX12_readAnd_47 rfl (by decide) (L2 := [(1, .int r31), (0, .ref 229)]) rfl ?_
      refine zr_goto (tgt := 14) dX12_readAnd_48 (by decide) ?_
      exact zV.pick [1, 0] rfl T
    · have T := T.2 h30
      refine zr_iconst (v := 0) dX12_readAnd_34 (by decide) ?_
      exact zm_zret dX12_readAnd_35 rfl (by decide) T
set_option maxRecDepth 100000 in
set_option maxHeartbeats 4000000 in
theorem t_X12_readSaid {d : Nat}  {M : zMem} {K : zK} 
    (T : S_X12_isSign d 40 M (zB (fun r21 M22 => S_X12_readSaid_10 (d + 1) (bi r21) 16 M22 K))) : S_X12_readSaid (d + 1)  M K := by
  show zV m_X12_readSaid (d + 1) 0 [(0, .ref 229)] [] M K
  refine zr_aload_n dX12_readSaid_0 rfl 0 rfl ?_
  refine zr_bipush (v := 40) dX12_readSaid_1 (by decide) ?_
  refine zm_callV_b (c := 12) (b := 229) dX12_readSaid_3 w_X12_isSign l_X12_86 rfl (by decide) (by decide) s_X12_isSign [.int 40] rfl rfl (Nat.le_of_ble_eq_true rfl) (Nat.le_of_ble_eq_true rfl) ?_
  refine zV.post T ?_
  rintro v M22 ⟨r21, rfl, T⟩
  refine ⟨r21, rfl, ?_⟩
  refine zr_istore_n dX12_readSaid_6 rfl (by decide) (L2 := [(1, .int (bi r21)), (0, .ref 229)]) rfl ?_
  refine zr_bipush (v := 16) dX12_readSaid_7 (by decide) ?_
  refine zr_istore_n dX12_readSaid_9 rfl (by decide) (L2 := [(2, .int 16), (1, .int (bi r21)), (0, .ref 229)]) rfl ?_
  exact zV.pick [2, 1, 0] rfl T
set_option maxRecDepth 100000 in
set_option maxHeartbeats 4000000 in
theorem t_X12_readSaid_10 {d : Nat} {x1 : Int32} {x2 : Int32} {M : zMem} {K : zK} 
    (T : (23 < x2 → S_X12_readSaid_30 (d + 1) x1 x2 M K) ∧ (¬ (23 < x2) → S_X12_isWord d x2 M (zB (fun r22 M23 => (r22 = true → S_X12_readSaid_30 (d + 1) x1 x2 M23 K) ∧ (r22 = false → S_X12_readSaid_10 (d + 1) x1 (x2 + 1) M23 K))))) : S_X12_readSaid_10 (d + 1) x1 x2 M K := by
  show zV m_X12_readSaid (d + 1) 10 [(0, .ref 229), (1, .int x1), (2, .int x2)] [] M K
  refine zr_iload_n dX12_readSaid_10 rfl 2 rfl ?_
  refine zr_bipush (v := 23) dX12_readSaid_11 (by decide) ?_
  refine zr_icmp_gt (tgt := 30) dX12_readSaid_13 (by decide) (fun h21 => ?_) (fun h21 => ?_)
  · have T := T.1 h21
    exact zV.pick [0, 1, 2] rfl T
  · have T := T.2 h21
    refine zr_aload_n dX12_readSaid_16 rfl 0 rfl ?_
    refine zr_iload_n dX12_readSaid_17 rfl 2 rfl ?_
    refine zm_callV_b (c := 12) (b := 229) dX12_readSaid_18 w_X12_isWord l_X12_213 rfl (by decide) (by decide) s_X12_isWord [.int x2] rfl rfl (Nat.le_of_ble_eq_true rfl) (Nat.le_of_ble_eq_true rfl) ?_
    refine zV.post T ?_
    rintro v M23 ⟨r22, rfl, T⟩
    refine ⟨r22, rfl, ?_⟩
    refine zm_ifb_ne (tgt := 30) dX12_readSaid_21 (by decide) (fun h24 => ?_) (fun h24 => ?_)
    · have T := T.1 h24
      exact zV.pick [0, 1, 2] rfl T
    · have T := T.2 h24
      refine zr_iinc (n := 2) (v := x2 + 1) dX12_readSaid_24 rfl rfl (by decide) (L2 := [(2, .int (x2 + 1)), (0, .ref 229), (1, .int x1)]) rfl ?_
      refine zr_goto (tgt := 10) dX12_readSaid_27 (by decide) ?_
      exact zV.pick [1, 2, 0] rfl T
set_option maxRecDepth 100000 in
set_option maxHeartbeats 4000000 in
theorem t_X12_readSaid_30 {d : Nat} {x1 : Int32} {x2 : Int32} {M : zMem} {K : zK} 
    (T : (¬ x1 = 0 → S_X12_readSaid_46 (d + 1) x1 x2 M K) ∧ (x1 = 0 → (x2 ≤ 23 → S_X12_readSaid_46 (d + 1) x1 x2 M K) ∧ (¬ (x2 ≤ 23) → S_X12_bad d 1 M (zB (fun r23 M24 => K (some (.int (bi r23))) M24))))) : S_X12_readSaid_30 (d + 1) x1 x2 M K := by
  show zV m_X12_readSaid (d + 1) 30 [(0, .ref 229), (1, .int x1), (2, .int x2)] [] M K
  refine zr_iload_n dX12_readSaid_30 rfl 1 rfl ?_
  refine zr_if_ne (tgt := 46) dX12_readSaid_31 (by decide) (fun h21 => ?_) (fun h21 => ?_)
  · have T := T.1 h21
    exact zV.pick [0, 1, 2] rfl T
  · have T := T.2 h21
    refine zr_iload_n dX12_readSaid_34 rfl 2 rfl ?_
    refine zr_bipush (v := 23) dX12_readSaid_35 (by decide) ?_
    refine zr_icmp_le (tgt := 46) dX12_readSaid_37 (by decide) (fun h22 => ?_) (fun h22 => ?_)
    · have T := T.1 h22
      exact zV.pick [0, 1, 2] rfl T
    · have T := T.2 h22
      refine zr_aload_n dX12_readSaid_40 rfl 0 rfl ?_
      refine zr_iconst (v := 1) dX12_readSaid_41 (by decide) ?_
      refine zm_callV_b (c := 12) (b := 229) dX12_readSaid_42 w_X12_bad l_X12_72 rfl (by decide) (by decide) s_X12_bad [.int 1] rfl rfl (Nat.le_of_ble_eq_true rfl) (Nat.le_of_ble_eq_true rfl) ?_
      refine zV.post T ?_
      rintro v M24 ⟨r23, rfl, T⟩
      refine ⟨r23, rfl, ?_⟩
      exact zm_zret dX12_readSaid_45 rfl (bi_01 _) T
set_option maxRecDepth 100000 in
set_option maxHeartbeats 4000000 in
theorem t_X12_readSaid_46 {d : Nat} {x1 : Int32} {x2 : Int32} {M : zMem} {K : zK} 
    (T : ((M.1 229 57) = 20 → S_X12_bad d 4 M (zB (fun r22 M23 => K (some (.int (bi r22))) M23))) ∧ (¬ ((M.1 229 57) = 20) → (¬ (M.1 229 58) = 8 → (∀ M25 : zMem, M25 = wI M 229 57 ((M.1 229 57) + 1) → (∀ M27 : zMem, M27 = wI M25 229 58 ((M25.1 229 58) + 1) → S_X12_go d  M27 (zU (fun M30 => (x1 = 0 → (¬ x2 = 16 → (18 ≤ x2 → (20 ≤ x2 → S_X12_readCompare d x2 M30 (zB (fun r35 M36 => (∀ M37 : zMem, M37 = wI M36 229 58 ((M36.1 229 58) - 1) → K (some (.int (bi r35))) M37)))) ∧ (¬ (20 ≤ x2) → S_X12_readOf d x2 M30 (zB (fun r39 M40 => (∀ M41 : zMem, M41 = wI M40 229 58 ((M40.1 229 58) - 1) → K (some (.int (bi r39))) M41))))) ∧ (¬ (18 ≤ x2) → S_X12_saysOne d (50 + x2) 0 0 0 M30 (zI (fun r43 M44 => (∀ M45 : zMem, M45 = wI M44 229 59 r43 → (∀ M47 : zMem, M47 = wI M45 229 58 ((M45.1 229 58) - 1) → K (some (.int 1)) M47)))))) ∧ (x2 = 16 → S_X12_readNot d  M30 (zB (fun r49 M50 => (∀ M51 : zMem, M51 = wI M50 229 58 ((M50.1 229 58) - 1) → K (some (.int (bi r49))) M51))))) ∧ (¬ (x1 = 0) → S_X12_readBracket d  M30 (zB (fun r53 M54 => (∀ M55 : zMem, M55 = wI M54 229 58 ((M54.1 229 58) - 1) → K (some (.int (bi r53))) M55))))))))) ∧ ((M.1 229 58) = 8 → S_X12_bad d 4 M (zB (fun r57 M58 => K (some (.int (bi r57))) M58))))) : S_X12_readSaid_46 (d + 1) x1 x2 M K := by
  show zV m_X12_readSaid (d + 1) 46 [(0, .ref 229), (1, .int x1), (2, .int x2)] [] M K
  refine zr_aload_n dX12_readSaid_46 rfl 0 rfl ?_
  refine zm_geti dX12_readSaid_47 f_X12_499 (by decide) (by decide) (by decide) ?_
  refine zr_bipush (v := 20) dX12_readSaid_50 (by decide) ?_
  refine zr_icmp_eq (tgt := 64) dX12_readSaid_52 (by decide) (fun h21 => ?_) (fun h21 => ?_)
  · have T := T.1 h21
    refine zr_aload_n dX12_readSaid_64 rfl 0 rfl ?_
    refine zr_iconst (v := 4) dX12_readSaid_65 (by decide) ?_
    refine zm_callV_b (c := 12) (b := 229) dX12_readSaid_66 w_X12_bad l_X12_72 rfl (by decide) (by decide) s_X12_bad [.int 4] rfl rfl (Nat.le_of_ble_eq_true rfl) (Nat.le_of_ble_eq_true rfl) ?_
    refine zV.post T ?_
    rintro v M23 ⟨r22, rfl, T⟩
    refine ⟨r22, rfl, ?_⟩
    exact zm_zret dX12_readSaid_69 rfl (bi_01 _) T
  · have T := T.2 h21
    refine zr_aload_n dX12_readSaid_55 rfl 0 rfl ?_
    refine zm_geti dX12_readSaid_56 f_X12_502 (by decide) (by decide) (by decide) ?_
    refine zr_bipush (v := 8) dX12_readSaid_59 (by decide) ?_
    refine zr_icmp_ne (tgt := 70) dX12_readSaid_61 (by decide) (fun h24 => ?_) (fun h24 => ?_)
    · have T := T.1 h24
      refine zr_aload_n dX12_readSaid_70 rfl 0 rfl ?_
      refine zr_dup dX12_readSaid_71 rfl ?_
      refine zm_geti dX12_readSaid_72 f_X12_499 (by decide) (by decide) (by decide) ?_
      refine zr_iconst (v := 1) dX12_readSaid_75 (by decide) ?_
      refine zr_iadd dX12_readSaid_76 ?_
      refine zn_puti dX12_readSaid_77 f_X12_499 (by decide) (by decide) (by decide) (fun M25 e26 => ?_)
      have T := T M25 e26
      refine zr_aload_n dX12_readSaid_80 rfl 0 rfl ?_
      refine zr_dup dX12_readSaid_81 rfl ?_
      refine zm_geti dX12_readSaid_82 f_X12_502 (by decide) (by decide) (by decide) ?_
      refine zr_iconst (v := 1) dX12_readSaid_85 (by decide) ?_
      refine zr_iadd dX12_readSaid_86 ?_
      refine zn_puti dX12_readSaid_87 f_X12_502 (by decide) (by decide) (by decide) (fun M27 e28 => ?_)
      have T := T M27 e28
      refine zr_aload_n dX12_readSaid_90 rfl 0 rfl ?_
      refine zm_callV_v (c := 12) (b := 229) dX12_readSaid_91 w_X12_go l_X12_82 rfl (by decide) (by decide) s_X12_go [] rfl rfl (Nat.le_of_ble_eq_true rfl) (Nat.le_of_ble_eq_true rfl) ?_
      refine zV.post T ?_
      rintro v M30 ⟨rfl, T⟩
      refine ⟨rfl, ?_⟩
      refine zr_iconst (v := 1) dX12_readSaid_94 (by decide) ?_
      refine zr_istore_n dX12_readSaid_95 rfl (by decide) (L2 := [(3, .int 1), (0, .ref 229), (1, .int x1), (2, .int x2)]) rfl ?_
      refine zr_iload_n dX12_readSaid_96 rfl 2 rfl ?_
      refine zr_if_eq (tgt := 108) dX12_readSaid_97 (by decide) (fun h31 => ?_) (fun h31 => ?_)
      · have T := T.1 h31
        refine zr_iload_n dX12_readSaid_108 rfl 3 rfl ?_
        refine zr_bipush (v := 16) dX12_readSaid_109 (by decide) ?_
        refine zr_icmp_ne (tgt := 122) dX12_readSaid_111 (by decide) (fun h32 => ?_) (fun h32 => ?_)
        · have T := T.1 h32
          refine zr_iload_n dX12_readSaid_122 rfl 3 rfl ?_
          refine zr_bipush (v := 18) dX12_readSaid_123 (by decide) ?_
          refine zr_icmp_ge (tgt := 146) dX12_readSaid_125 (by decide) (fun h33 => ?_) (fun h33 => ?_)
          · have T := T.1 h33
            refine zr_iload_n dX12_readSaid_146 rfl 3 rfl ?_
            refine zr_bipush (v := 20) dX12_readSaid_147 (by decide) ?_
            refine zr_icmp_ge (tgt := 160) dX12_readSaid_149 (by decide) (fun h34 => ?_) (fun h34 => ?_)
            · have T := T.1 h34
              refine zr_aload_n dX12_readSaid_160 rfl 1 rfl ?_
              refine zr_iload_n dX12_readSaid_161 rfl 3 rfl ?_
              refine zm_callV_b (c := 12) (b := 229) dX12_readSaid_162 w_X12_readCompare l_X12_514 rfl (by decide) (by decide) s_X12_readCompare [.int x2] rfl rfl (Nat.le_of_ble_eq_true rfl) (Nat.le_of_ble_eq_true rfl) ?_
              refine zV.post T ?_
              rintro v M36 ⟨r35, rfl, T⟩
              refine ⟨r35, rfl, ?_⟩
              refine zr_istore_n dX12_readSaid_165 rfl (by decide) (L2 := [(3, .int (bi r35)), (0, .ref 229), (1, .int x1), (2, .int x2)]) rfl ?_
              refine zr_aload_n dX12_readSaid_166 rfl 1 rfl ?_
              refine zr_dup dX12_readSaid_167 rfl ?_
              refine zm_geti dX12_readSaid_168 f_X12_502 (by decide) (by decide) (by decide) ?_
              refine zr_iconst (v := 1) dX12_readSaid_171 (by decide) ?_
              refine zr_isub dX12_readSaid_172 ?_
              refine zn_puti dX12_readSaid_173 f_X12_502 (by decide) (by decide) (by decide) (fun M37 e38 => ?_)
              have T := T M37 e38
              refine zr_iload_n dX12_readSaid_176 rfl 0 rfl ?_
              exact zm_zret dX12_readSaid_177 rfl (bi_01 _) T
            · have T := T.2 h34
              refine zr_aload_n dX12_readSaid_152 rfl 1 rfl ?_
              refine zr_iload_n dX12_readSaid_153 rfl 3 rfl ?_
              refine zm_callV_b (c := 12) (b := 229) dX12_readSaid_154 w_X12_readOf l_X12_511 rfl (by decide) (by decide) s_X12_readOf [.int x2] rfl rfl (Nat.le_of_ble_eq_true rfl) (Nat.le_of_ble_eq_true rfl) ?_
              refine zV.post T ?_
              rintro v M40 ⟨r39, rfl, T⟩
              refine ⟨r39, rfl, ?_⟩
              refine zr_goto (tgt := 165) dX12_readSaid_157 (by decide) ?_
              refine zr_istore_n dX12_readSaid_165 rfl (by decide) (L2 := [(3, .int (bi r39)), (0, .ref 229), (1, .int x1), (2, .int x2)]) rfl ?_
              refine zr_aload_n dX12_readSaid_166 rfl 1 rfl ?_
              refine zr_dup dX12_readSaid_167 rfl ?_
              refine zm_geti dX12_readSaid_168 f_X12_502 (by decide) (by decide) (by decide) ?_
              refine zr_iconst (v := 1) dX12_readSaid_171 (by decide) ?_
              refine zr_isub dX12_readSaid_172 ?_
              refine zn_puti dX12_readSaid_173 f_X12_502 (by decide) (by decide) (by decide) (fun M41 e42 => ?_)
              have T := T M41 e42
              refine zr_iload_n dX12_readSaid_176 rfl 0 rfl ?_
              exact zm_zret dX12_readSaid_177 rfl (bi_01 _) T
          · have T := T.2 h33
            refine zr_aload_n dX12_readSaid_128 rfl 1 rfl ?_
            refine zr_aload_n dX12_readSaid_129 rfl 1 rfl ?_
            refine zr_bipush (v := 50) dX12_readSaid_130 (by decide) ?_
            refine zr_iload_n dX12_readSaid_132 rfl 3 rfl ?_
            refine zr_iadd dX12_readSaid_133 ?_
            refine zr_iconst (v := 0) dX12_readSaid_134 (by decide) ?_
            refine zr_iconst (v := 0) dX12_readSaid_135 (by decide) ?_
            refine zr_iconst (v := 0) dX12_readSaid_136 (by decide) ?_
            refine zm_callV_i (c := 12) (b := 229) dX12_readSaid_137 w_X12_saysOne l_X12_493 rfl (by decide) (by decide) s_X12_saysOne [.int (50 + x2), .int 0, .int 0, .int 0] rfl rfl (Nat.le_of_ble_eq_true rfl) (Nat.le_of_ble_eq_true rfl) ?_
            refine zV.post T ?_
            rintro v M44 ⟨r43, rfl, T⟩
            refine ⟨r43, rfl, ?_⟩
            refine zn_puti dX12_readSaid_140 f_X12_490 (by decide) (by decide) (by decide) (fun M45 e46 => ?_)
            have T := T M45 e46
            refine zr_goto (tgt := 166) dX12_readSaid_143 (by decide) ?_
            refine zr_aload_n dX12_readSaid_166 rfl 1 rfl ?_
            refine zr_dup dX12_readSaid_167 rfl ?_
            refine zm_geti dX12_readSaid_168 f_X12_502 (by decide) (by decide) (by decide) ?_
            refine zr_iconst (v := 1) dX12_readSaid_171 (by decide) ?_
            refine zr_isub dX12_readSaid_172 ?_
            refine zn_puti dX12_readSaid_173 f_X12_502 (by decide) (by decide) (by decide) (fun M47 e48 => ?_)
            have T := T M47 e48
            refine zr_iload_n dX12_readSaid_176 rfl 0 rfl ?_
            exact zm_zret dX12_readSaid_177 rfl (by decide) T
        · have T := T.2 h32
          refine zr_aload_n dX12_readSaid_114 rfl 1 rfl ?_
          refine zm_callV_b (c := 12) (b := 229) dX12_readSaid_115 w_X12_readNot l_X12_508 rfl (by decide) (by decide) s_X12_readNot [] rfl rfl (Nat.le_of_ble_eq_true rfl) (Nat.le_of_ble_eq_true rfl) ?_
          refine zV.post T ?_
          rintro v M50 ⟨r49, rfl, T⟩
          refine ⟨r49, rfl, ?_⟩
          refine zr_istore_n dX12_readSaid_118 rfl (by decide) (L2 := [(3, .int (bi r49)), (0, .ref 229), (1, .int x1), (2, .int x2)]) rfl ?_
          refine zr_goto (tgt := 166) dX12_readSaid_119 (by decide) ?_
          refine zr_aload_n dX12_readSaid_166 rfl 1 rfl ?_
          refine zr_dup dX12_readSaid_167 rfl ?_
          refine zm_geti dX12_readSaid_168 f_X12_502 (by decide) (by decide) (by decide) ?_
          refine zr_iconst (v := 1) dX12_readSaid_171 (by decide) ?_
          refine zr_isub dX12_readSaid_172 ?_
          refine zn_puti dX12_readSaid_173 f_X12_502 (by decide) (by decide) (by decide) (fun M51 e52 => ?_)
          have T := T M51 e52
          refine zr_iload_n dX12_readSaid_176 rfl 0 rfl ?_
          exact zm_zret dX12_readSaid_177 rfl (bi_01 _) T
      · have T := T.2 h31
        refine zr_aload_n dX12_readSaid_100 rfl 1 rfl ?_
        refine zm_callV_b (c := 12) (b := 229) dX12_readSaid_101 w_X12_readBracket l_X12_505 rfl (by decide) (by decide) s_X12_readBracket [] rfl rfl (Nat.le_of_ble_eq_true rfl) (Nat.le_of_ble_eq_true rfl) ?_
        refine zV.post T ?_
        rintro v M54 ⟨r53, rfl, T⟩
        refine ⟨r53, rfl, ?_⟩
        refine zr_istore_n dX12_readSaid_104 rfl (by decide) (L2 := [(3, .int (bi r53)), (0, .ref 229), (1, .int x1), (2, .int x2)]) rfl ?_
        refine zr_goto (tgt := 166) dX12_readSaid_105 (by decide) ?_
        refine zr_aload_n dX12_readSaid_166 rfl 1 rfl ?_
        refine zr_dup dX12_readSaid_167 rfl ?_
        refine zm_geti dX12_readSaid_168 f_X12_502 (by decide) (by decide) (by decide) ?_
        refine zr_iconst (v := 1) dX12_readSaid_171 (by decide) ?_
        refine zr_isub dX12_readSaid_172 ?_
        refine zn_puti dX12_readSaid_173 f_X12_502 (by decide) (by decide) (by decide) (fun M55 e56 => ?_)
        have T := T M55 e56
        refine zr_iload_n dX12_readSaid_176 rfl 0 rfl ?_
        exact zm_zret dX12_readSaid_177 rfl (bi_01 _) T
    · have T := T.2 h24
      refine zr_aload_n dX12_readSaid_64 rfl 0 rfl ?_
      refine zr_iconst (v := 4) dX12_readSaid_65 (by decide) ?_
      refine zm_callV_b (c := 12) (b := 229) dX12_readSaid_66 w_X12_bad l_X12_72 rfl (by decide) (by decide) s_X12_bad [.int 4] rfl rfl (Nat.le_of_ble_eq_true rfl) (Nat.le_of_ble_eq_true rfl) ?_
      refine zV.post T ?_
      rintro v M58 ⟨r57, rfl, T⟩
      refine ⟨r57, rfl, ?_⟩
      exact zm_zret dX12_readSaid_69 rfl (bi_01 _) T
set_option maxRecDepth 100000 in
set_option maxHeartbeats 4000000 in
theorem t_X12_readBracket {d : Nat}  {M : zMem} {K : zK} 
    (T : S_X12_readOr d  M (zB (fun r21 M22 => (r21 = true → S_X12_isSign d 41 M22 (zB (fun r24 M25 => (r24 = true → S_X12_go d  M25 (zU (fun M28 => K (some (.int 1)) M28))) ∧ (r24 = false → S_X12_bad d 1 M25 (zB (fun r29 M30 => K (some (.int (bi r29))) M30)))))) ∧ (r21 = false → K (some (.int 0)) M22)))) : S_X12_readBracket (d + 1)  M K := by
  show zV m_X12_readBracket (d + 1) 0 [(0, .ref 229)] [] M K
  refine zr_aload_n dX12_readBracket_0 rfl 0 rfl ?_
  refine zm_callV_b (c := 12) (b := 229) dX12_readBracket_1 w_X12_readOr l_X12_517 rfl (by decide) (by decide) s_X12_readOr [] rfl rfl (Nat.le_of_ble_eq_true rfl) (Nat.le_of_ble_eq_true rfl) ?_
  refine zV.post T ?_
  rintro v M22 ⟨r21, rfl, T⟩
  refine ⟨r21, rfl, ?_⟩
  refine zm_ifb_ne (tgt := 9) dX12_readBracket_4 (by decide) (fun h23 => ?_) (fun h23 => ?_)
  · have T := T.1 h23
    refine zr_aload_n dX12_readBracket_9 rfl 0 rfl ?_
    refine zr_bipush (v := 41) dX12_readBracket_10 (by decide) ?_
    refine zm_callV_b (c := 12) (b := 229) dX12_readBracket_12 w_X12_isSign l_X12_86 rfl (by decide) (by decide) s_X12_isSign [.int 41] rfl rfl (Nat.le_of_ble_eq_true rfl) (Nat.le_of_ble_eq_true rfl) ?_
    refine zV.post T ?_
    rintro v M25 ⟨r24, rfl, T⟩
    refine ⟨r24, rfl, ?_⟩
    refine zm_ifb_ne (tgt := 24) dX12_readBracket_15 (by decide) (fun h26 => ?_) (fun h26 => ?_)
    · have T := T.1 h26
      refine zr_aload_n dX12_readBracket_24 rfl 0 rfl ?_
      refine zm_callV_v (c := 12) (b := 229) dX12_readBracket_25 w_X12_go l_X12_82 rfl (by decide) (by decide) s_X12_go [] rfl rfl (Nat.le_of_ble_eq_true rfl) (Nat.le_of_ble_eq_true rfl) ?_
      refine zV.post T ?_
      rintro v M28 ⟨rfl, T⟩
      refine ⟨rfl, ?_⟩
      refine zr_iconst (v := 1) dX12_readBracket_28 (by decide) ?_
      exact zm_zret dX12_readBracket_29 rfl (by decide) T
    · have T := T.2 h26
      refine zr_aload_n dX12_readBracket_18 rfl 0 rfl ?_
      refine zr_iconst (v := 1) dX12_readBracket_19 (by decide) ?_
      refine zm_callV_b (c := 12) (b := 229) dX12_readBracket_20 w_X12_bad l_X12_72 rfl (by decide) (by decide) s_X12_bad [.int 1] rfl rfl (Nat.le_of_ble_eq_true rfl) (Nat.le_of_ble_eq_true rfl) ?_
      refine zV.post T ?_
      rintro v M30 ⟨r29, rfl, T⟩
      refine ⟨r29, rfl, ?_⟩
      exact zm_zret dX12_readBracket_23 rfl (bi_01 _) T
  · have T := T.2 h23
    refine zr_iconst (v := 0) dX12_readBracket_7 (by decide) ?_
    exact zm_zret dX12_readBracket_8 rfl (by decide) T
set_option maxRecDepth 100000 in
set_option maxHeartbeats 4000000 in
theorem t_X12_readNot {d : Nat}  {M : zMem} {K : zK} 
    (T : S_X12_readSaid d  M (zB (fun r21 M22 => (r21 = true → S_X12_saysOne d 1 (M22.1 229 59) 0 0 M22 (zI (fun r24 M25 => (∀ M26 : zMem, M26 = wI M25 229 59 r24 → K (some (.int 1)) M26)))) ∧ (r21 = false → K (some (.int 0)) M22)))) : S_X12_readNot (d + 1)  M K := by
  show zV m_X12_readNot (d + 1) 0 [(0, .ref 229)] [] M K
  refine zr_aload_n dX12_readNot_0 rfl 0 rfl ?_
  refine zm_callV_b (c := 12) (b := 229) dX12_readNot_1 w_X12_readSaid l_X12_496 rfl (by decide) (by decide) s_X12_readSaid [] rfl rfl (Nat.le_of_ble_eq_true rfl) (Nat.le_of_ble_eq_true rfl) ?_
  refine zV.post T ?_
  rintro v M22 ⟨r21, rfl, T⟩
  refine ⟨r21, rfl, ?_⟩
  refine zm_ifb_ne (tgt := 9) dX12_readNot_4 (by decide) (fun h23 => ?_) (fun h23 => ?_)
  · have T := T.1 h23
    refine zr_aload_n dX12_readNot_9 rfl 0 rfl ?_
    refine zr_aload_n dX12_readNot_10 rfl 0 rfl ?_
    refine zr_iconst (v := 1) dX12_readNot_11 (by decide) ?_
    refine zr_aload_n dX12_readNot_12 rfl 0 rfl ?_
    refine zm_geti dX12_readNot_13 f_X12_490 (by decide) (by decide) (by decide) ?_
    refine zr_iconst (v := 0) dX12_readNot_16 (by decide) ?_
    refine zr_iconst (v := 0) dX12_readNot_17 (by decide) ?_
    refine zm_callV_i (c := 12) (b := 229) dX12_readNot_18 w_X12_saysOne l_X12_493 rfl (by decide) (by decide) s_X12_saysOne [.int 1, .int (M22.1 229 59), .int 0, .int 0] rfl rfl (Nat.le_of_ble_eq_true rfl) (Nat.le_of_ble_eq_true rfl) ?_
    refine zV.post T ?_
    rintro v M25 ⟨r24, rfl, T⟩
    refine ⟨r24, rfl, ?_⟩
    refine zn_puti dX12_readNot_21 f_X12_490 (by decide) (by decide) (by decide) (fun M26 e27 => ?_)
    have T := T M26 e27
    refine zr_iconst (v := 1) dX12_readNot_24 (by decide) ?_
    exact zm_zret dX12_readNot_25 rfl (by decide) T
  · have T := T.2 h23
    refine zr_iconst (v := 0) dX12_readNot_7 (by decide) ?_
    exact zm_zret dX12_readNot_8 rfl (by decide) T
set_option maxRecDepth 100000 in
set_option maxHeartbeats 4000000 in
theorem t_X12_saysOne {d : Nat} {x1 : Int32} {x2 : Int32} {x3 : Int32} {x4 : Int32} {M : zMem} {K : zK} 
    (T : vp_in (4 * (M.1 229 56)) 240 ∧ ((∀ M22 : zMem, M22 = wI M 262 (Int32.toNatClampNeg (4 * (M.1 229 56))) x1 → vp_in ((4 * (M.1 229 56)) + 1) 240 ∧ ((∀ M25 : zMem, M25 = wI M22 262 (Int32.toNatClampNeg ((4 * (M.1 229 56)) + 1)) x2 → vp_in ((4 * (M.1 229 56)) + 2) 240 ∧ ((∀ M28 : zMem, M28 = wI M25 262 (Int32.toNatClampNeg ((4 * (M.1 229 56)) + 2)) x3 → vp_in ((4 * (M.1 229 56)) + 3) 240 ∧ ((∀ M31 : zMem, M31 = wI M28 262 (Int32.toNatClampNeg ((4 * (M.1 229 56)) + 3)) x4 → (∀ M33 : zMem, M33 = wI M31 229 56 ((M31.1 229 56) + 1) → K (some (.int ((M33.1 229 56) - 1))) M33)))))))))) : S_X12_saysOne d x1 x2 x3 x4 M K := by
  show zV m_X12_saysOne d 0 [(0, .ref 229), (1, .int x1), (2, .int x2), (3, .int x3), (4, .int x4)] [] M K
  refine zr_iconst (v := 4) dX12_saysOne_0 (by decide) ?_
  refine zr_aload_n dX12_saysOne_1 rfl 0 rfl ?_
  refine zm_geti dX12_saysOne_2 f_X12_484 (by decide) (by decide) (by decide) ?_
  refine zr_imul dX12_saysOne_5 ?_
  refine zr_istore dX12_saysOne_6 (by decide) (L2 := [(5, .int (4 * (M.1 229 56))), (0, .ref 229), (1, .int x1), (2, .int x2), (3, .int x3), (4, .int x4)]) rfl ?_
  refine zr_aload_n dX12_saysOne_8 rfl 1 rfl ?_
  refine zm_getr (a := 262) dX12_saysOne_9 f_X12_196 (by decide) (by decide) (by decide) (by decide) ?_
  refine zr_iload dX12_saysOne_12 0 rfl ?_
  refine zr_iload_n dX12_saysOne_14 rfl 2 rfl ?_
  obtain ⟨hq21, T⟩ := T
  refine zn_iast (n := 240) (o := (Int32.toNatClampNeg (4 * (M.1 229 56)))) dX12_saysOne_15 (by decide) (by decide) hq21 rfl (fun M22 e23 => ?_)
  have T := T M22 e23
  refine zr_aload_n dX12_saysOne_16 rfl 1 rfl ?_
  refine zm_getr (a := 262) dX12_saysOne_17 f_X12_196 (by decide) (by decide) (by decide) (by decide) ?_
  refine zr_iload dX12_saysOne_20 0 rfl ?_
  refine zr_iconst (v := 1) dX12_saysOne_22 (by decide) ?_
  refine zr_iadd dX12_saysOne_23 ?_
  refine zr_iload_n dX12_saysOne_24 rfl 3 rfl ?_
  obtain ⟨hq24, T⟩ := T
  refine zn_iast (n := 240) (o := (Int32.toNatClampNeg ((4 * (M.1 229 56)) + 1))) dX12_saysOne_25 (by decide) (by decide) hq24 rfl (fun M25 e26 => ?_)
  have T := T M25 e26
  refine zr_aload_n dX12_saysOne_26 rfl 1 rfl ?_
  refine zm_getr (a := 262) dX12_saysOne_27 f_X12_196 (by decide) (by decide) (by decide) (by decide) ?_
  refine zr_iload dX12_saysOne_30 0 rfl ?_
  refine zr_iconst (v := 2) dX12_saysOne_32 (by decide) ?_
  refine zr_iadd dX12_saysOne_33 ?_
  refine zr_iload_n dX12_saysOne_34 rfl 4 rfl ?_
  obtain ⟨hq27, T⟩ := T
  refine zn_iast (n := 240) (o := (Int32.toNatClampNeg ((4 * (M.1 229 56)) + 2))) dX12_saysOne_35 (by decide) (by decide) hq27 rfl (fun M28 e29 => ?_)
  have T := T M28 e29
  refine zr_aload_n dX12_saysOne_36 rfl 1 rfl ?_
  refine zm_getr (a := 262) dX12_saysOne_37 f_X12_196 (by decide) (by decide) (by decide) (by decide) ?_
  refine zr_iload dX12_saysOne_40 0 rfl ?_
  refine zr_iconst (v := 3) dX12_saysOne_42 (by decide) ?_
  refine zr_iadd dX12_saysOne_43 ?_
  refine zr_iload dX12_saysOne_44 5 rfl ?_
  obtain ⟨hq30, T⟩ := T
  refine zn_iast (n := 240) (o := (Int32.toNatClampNeg ((4 * (M.1 229 56)) + 3))) dX12_saysOne_46 (by decide) (by decide) hq30 rfl (fun M31 e32 => ?_)
  have T := T M31 e32
  refine zr_aload_n dX12_saysOne_47 rfl 1 rfl ?_
  refine zr_dup dX12_saysOne_48 rfl ?_
  refine zm_geti dX12_saysOne_49 f_X12_484 (by decide) (by decide) (by decide) ?_
  refine zr_iconst (v := 1) dX12_saysOne_52 (by decide) ?_
  refine zr_iadd dX12_saysOne_53 ?_
  refine zn_puti dX12_saysOne_54 f_X12_484 (by decide) (by decide) (by decide) (fun M33 e34 => ?_)
  have T := T M33 e34
  refine zr_aload_n dX12_saysOne_57 rfl 1 rfl ?_
  refine zm_geti dX12_saysOne_58 f_X12_484 (by decide) (by decide) (by decide) ?_
  refine zr_iconst (v := 1) dX12_saysOne_61 (by decide) ?_
  refine zr_isub dX12_saysOne_62 ?_
  exact zm_iret dX12_saysOne_63 rfl T
set_option maxRecDepth 100000 in
set_option maxHeartbeats 4000000 in
theorem t_X12_readOf {d : Nat} {x1 : Int32} {M : zMem} {K : zK} 
    (T : S_X12_readPeerName d  M (zB (fun r21 M22 => (r21 = true → S_X12_saysOne d (50 + x1) (M22.1 229 13) 0 0 M22 (zI (fun r24 M25 => (∀ M26 : zMem, M26 = wI M25 229 59 r24 → K (some (.int 1)) M26)))) ∧ (r21 = false → K (some (.int 0)) M22)))) : S_X12_readOf (d + 1) x1 M K := by
  show zV m_X12_readOf (d + 1) 0 [(0, .ref 229), (1, .int x1)] [] M K
  refine zr_aload_n dX12_readOf_0 rfl 0 rfl ?_
  refine zm_callV_b (c := 12) (b := 229) dX12_readOf_1 w_X12_readPeerName l_X12_462 rfl (by decide) (by decide) s_X12_readPeerName [] rfl rfl (Nat.le_of_ble_eq_true rfl) (Nat.le_of_ble_eq_true rfl) ?_
  refine zV.post T ?_
  rintro v M22 ⟨r21, rfl, T⟩
  refine ⟨r21, rfl, ?_⟩
  refine zm_ifb_ne (tgt := 9) dX12_readOf_4 (by decide) (fun h23 => ?_) (fun h23 => ?_)
  · have T := T.1 h23
    refine zr_aload_n dX12_readOf_9 rfl 0 rfl ?_
    refine zr_aload_n dX12_readOf_10 rfl 0 rfl ?_
    refine zr_bipush (v := 50) dX12_readOf_11 (by decide) ?_
    refine zr_iload_n dX12_readOf_13 rfl 1 rfl ?_
    refine zr_iadd dX12_readOf_14 ?_
    refine zr_aload_n dX12_readOf_15 rfl 0 rfl ?_
    refine zm_geti dX12_readOf_16 f_X12_79 (by decide) (by decide) (by decide) ?_
    refine zr_iconst (v := 0) dX12_readOf_19 (by decide) ?_
    refine zr_iconst (v := 0) dX12_readOf_20 (by decide) ?_
    refine zm_callV_i (c := 12) (b := 229) dX12_readOf_21 w_X12_saysOne l_X12_493 rfl (by decide) (by decide) s_X12_saysOne [.int (50 + x1), .int (M22.1 229 13), .int 0, .int 0] rfl rfl (Nat.le_of_ble_eq_true rfl) (Nat.le_of_ble_eq_true rfl) ?_
    refine zV.post T ?_
    rintro v M25 ⟨r24, rfl, T⟩
    refine ⟨r24, rfl, ?_⟩
    refine zn_puti dX12_readOf_24 f_X12_490 (by decide) (by decide) (by decide) (fun M26 e27 => ?_)
    have T := T M26 e27
    refine zr_iconst (v := 1) dX12_readOf_27 (by decide) ?_
    exact zm_zret dX12_readOf_28 rfl (by decide) T
  · have T := T.2 h23
    refine zr_iconst (v := 0) dX12_readOf_7 (by decide) ?_
    exact zm_zret dX12_readOf_8 rfl (by decide) T
set_option maxRecDepth 100000 in
set_option maxHeartbeats 4000000 in
theorem t_X12_readCompare {d : Nat} {x1 : Int32} {M : zMem} {K : zK} 
    (T : S_X12_isSign d 60 M (zB (fun r21 M22 => (r21 = true → S_X12_readCompare_33 (d + 1) x1 M22 K) ∧ (r21 = false → S_X12_isSign d 61 M22 (zB (fun r24 M25 => (r24 = true → S_X12_readCompare_33 (d + 1) x1 M25 K) ∧ (r24 = false → S_X12_isSign d 62 M25 (zB (fun r27 M28 => (r27 = true → S_X12_readCompare_33 (d + 1) x1 M28 K) ∧ (r27 = false → S_X12_bad d 1 M28 (zB (fun r30 M31 => K (some (.int (bi r30))) M31)))))))))))) : S_X12_readCompare (d + 1) x1 M K := by
  show zV m_X12_readCompare (d + 1) 0 [(0, .ref 229), (1, .int x1)] [] M K
  refine zr_aload_n dX12_readCompare_0 rfl 0 rfl ?_
  refine zr_bipush (v := 60) dX12_readCompare_1 (by decide) ?_
  refine zm_callV_b (c := 12) (b := 229) dX12_readCompare_3 w_X12_isSign l_X12_86 rfl (by decide) (by decide) s_X12_isSign [.int 60] rfl rfl (Nat.le_of_ble_eq_true rfl) (Nat.le_of_ble_eq_true rfl) ?_
  refine zV.post T ?_
  rintro v M22 ⟨r21, rfl, T⟩
  refine ⟨r21, rfl, ?_⟩
  refine zm_ifb_ne (tgt := 33) dX12_readCompare_6 (by decide) (fun h23 => ?_) (fun h23 => ?_)
  · have T := T.1 h23
    exact zV.pick [0, 1] rfl T
  · have T := T.2 h23
    refine zr_aload_n dX12_readCompare_9 rfl 0 rfl ?_
    refine zr_bipush (v := 61) dX12_readCompare_10 (by decide) ?_
    refine zm_callV_b (c := 12) (b := 229) dX12_readCompare_12 w_X12_isSign l_X12_86 rfl (by decide) (by decide) s_X12_isSign [.int 61] rfl rfl (Nat.le_of_ble_eq_true rfl) (Nat.le_of_ble_eq_true rfl) ?_
    refine zV.post T ?_
    rintro v M25 ⟨r24, rfl, T⟩
    refine ⟨r24, rfl, ?_⟩
    refine zm_ifb_ne (tgt := 33) dX12_readCompare_15 (by decide) (fun h26 => ?_) (fun h26 => ?_)
    · have T := T.1 h26
      exact zV.pick [0, 1] rfl T
    · have T := T.2 h26
      refine zr_aload_n dX12_readCompare_18 rfl 0 rfl ?_
      refine zr_bipush (v := 62) dX12_readCompare_19 (by decide) ?_
      refine zm_callV_b (c := 12) (b := 229) dX12_readCompare_21 w_X12_isSign l_X12_86 rfl (by decide) (by decide) s_X12_isSign [.int 62] rfl rfl (Nat.le_of_ble_eq_true rfl) (Nat.le_of_ble_eq_true rfl) ?_
      refine zV.post T ?_
      rintro v M28 ⟨r27, rfl, T⟩
      refine ⟨r27, rfl, ?_⟩
      refine zm_ifb_ne (tgt := 33) dX12_readCompare_24 (by decide) (fun h29 => ?_) (fun h29 => ?_)
      · have T := T.1 h29
        exact zV.pick [0, 1] rfl T
      · have T := T.2 h29
        refine zr_aload_n dX12_readCompare_27 rfl 0 rfl ?_
        refine zr_iconst (v := 1) dX12_readCompare_28 (by decide) ?_
        refine zm_callV_b (c := 12) (b := 229) dX12_readCompare_29 w_X12_bad l_X12_72 rfl (by decide) (by decide) s_X12_bad [.int 1] rfl rfl (Nat.le_of_ble_eq_true rfl) (Nat.le_of_ble_eq_true rfl) ?_
        refine zV.post T ?_
        rintro v M31 ⟨r30, rfl, T⟩
        refine ⟨r30, rfl, ?_⟩
        exact zm_zret dX12_readCompare_32 rfl (bi_01 _) T
set_option maxRecDepth 100000 in
set_option maxHeartbeats 4000000 in
theorem t_X12_readCompare_33 {d : Nat} {x1 : Int32} {M : zMem} {K : zK} 
    (T : S_X12_go d  M (zU (fun M22 => S_X12_readNumber d 0 999 M22 (zB (fun r23 M24 => (r23 = true → S_X12_saysOne d (50 + x1) 0 (M24.1 229 13) (M.1 229 9) M24 (zI (fun r26 M27 => (∀ M28 : zMem, M28 = wI M27 229 59 r26 → K (some (.int 1)) M28)))) ∧ (r23 = false → K (some (.int 0)) M24)))))) : S_X12_readCompare_33 (d + 1) x1 M K := by
  show zV m_X12_readCompare (d + 1) 33 [(0, .ref 229), (1, .int x1)] [] M K
  refine zr_aload_n dX12_readCompare_33 rfl 0 rfl ?_
  refine zm_geti dX12_readCompare_34 f_X12_40 (by decide) (by decide) (by decide) ?_
  refine zr_istore_n dX12_readCompare_37 rfl (by decide) (L2 := [(2, .int (M.1 229 9)), (0, .ref 229), (1, .int x1)]) rfl ?_
  refine zr_aload_n dX12_readCompare_38 rfl 1 rfl ?_
  refine zm_callV_v (c := 12) (b := 229) dX12_readCompare_39 w_X12_go l_X12_82 rfl (by decide) (by decide) s_X12_go [] rfl rfl (Nat.le_of_ble_eq_true rfl) (Nat.le_of_ble_eq_true rfl) ?_
  refine zV.post T ?_
  rintro v M22 ⟨rfl, T⟩
  refine ⟨rfl, ?_⟩
  refine zr_aload_n dX12_readCompare_42 rfl 1 rfl ?_
  refine zr_iconst (v := 0) dX12_readCompare_43 (by decide) ?_
  refine zr_sipush (v := 999) dX12_readCompare_44 (by decide) ?_
  refine zm_callV_b (c := 12) (b := 229) dX12_readCompare_47 w_X12_readNumber l_X12_226 rfl (by decide) (by decide) s_X12_readNumber [.int 0, .int 999] rfl rfl (Nat.le_of_ble_eq_true rfl) (Nat.le_of_ble_eq_true rfl) ?_
  refine zV.post T ?_
  rintro v M24 ⟨r23, rfl, T⟩
  refine ⟨r23, rfl, ?_⟩
  refine zm_ifb_ne (tgt := 55) dX12_readCompare_50 (by decide) (fun h25 => ?_) (fun h25 => ?_)
  · have T := T.1 h25
    refine zr_aload_n dX12_readCompare_55 rfl 1 rfl ?_
    refine zr_aload_n dX12_readCompare_56 rfl 1 rfl ?_
    refine zr_bipush (v := 50) dX12_readCompare_57 (by decide) ?_
    refine zr_iload_n dX12_readCompare_59 rfl 2 rfl ?_
    refine zr_iadd dX12_readCompare_60 ?_
    refine zr_iconst (v := 0) dX12_readCompare_61 (by decide) ?_
    refine zr_aload_n dX12_readCompare_62 rfl 1 rfl ?_
    refine zm_geti dX12_readCompare_63 f_X12_79 (by decide) (by decide) (by decide) ?_
    refine zr_iload_n dX12_readCompare_66 rfl 0 rfl ?_
    refine zm_callV_i (c := 12) (b := 229) dX12_readCompare_67 w_X12_saysOne l_X12_493 rfl (by decide) (by decide) s_X12_saysOne [.int (50 + x1), .int 0, .int (M24.1 229 13), .int (M.1 229 9)] rfl rfl (Nat.le_of_ble_eq_true rfl) (Nat.le_of_ble_eq_true rfl) ?_
    refine zV.post T ?_
    rintro v M27 ⟨r26, rfl, T⟩
    refine ⟨r26, rfl, ?_⟩
    refine zn_puti dX12_readCompare_70 f_X12_490 (by decide) (by decide) (by decide) (fun M28 e29 => ?_)
    have T := T M28 e29
    refine zr_iconst (v := 1) dX12_readCompare_73 (by decide) ?_
    exact zm_zret dX12_readCompare_74 rfl (by decide) T
  · have T := T.2 h25
    refine zr_iconst (v := 0) dX12_readCompare_53 (by decide) ?_
    exact zm_zret dX12_readCompare_54 rfl (by decide) T
set_option maxRecDepth 100000 in
set_option maxHeartbeats 4000000 in
theorem t_X12_said {d : Nat} {x1 : Int32} {M : zMem} {K : zK} 
    (T : (∀ M21 : zMem, M21 = wI M 229 0 0 → (¬ (M21.1 231 405) = 0 → S_X12_said_22 (d + 1) x1 0 0 M21 K) ∧ ((M21.1 231 405) = 0 → K (some (.int (-1))) M21))) : S_X12_said (d + 1) x1 M K := by
  show zV m_X12_said (d + 1) 0 [(0, .ref 229), (1, .int x1)] [] M K
  refine zr_aload_n dX12_said_0 rfl 0 rfl ?_
  refine zr_iconst (v := 0) dX12_said_1 (by decide) ?_
  refine zn_puti dX12_said_2 f_X12_1 (by decide) (by decide) (by decide) (fun M21 e22 => ?_)
  have T := T M21 e22
  refine zr_aload_n dX12_said_5 rfl 0 rfl ?_
  refine zm_getr (a := 231) dX12_said_6 f_X12_98 (by decide) (by decide) (by decide) (by decide) ?_
  refine zr_sipush (v := 405) dX12_said_9 (by decide) ?_
  refine zm_iald (n := 647) (o := 405) dX12_said_12 (by decide) (by decide) (zin (by decide)) (by decide) ?_
  refine zr_if_ne (tgt := 18) dX12_said_13 (by decide) (fun h23 => ?_) (fun h23 => ?_)
  · have T := T.1 h23
    refine zr_iconst (v := 0) dX12_said_18 (by decide) ?_
    refine zr_istore_n dX12_said_19 rfl (by decide) (L2 := [(2, .int 0), (0, .ref 229), (1, .int x1)]) rfl ?_
    refine zr_iconst (v := 0) dX12_said_20 (by decide) ?_
    refine zr_istore_n dX12_said_21 rfl (by decide) (L2 := [(3, .int 0), (2, .int 0), (0, .ref 229), (1, .int x1)]) rfl ?_
    exact zV.pick [2, 3, 1, 0] rfl T
  · have T := T.2 h23
    refine zr_iconst (v := (-1)) dX12_said_16 (by decide) ?_
    exact zm_iret dX12_said_17 rfl T
set_option maxRecDepth 100000 in
set_option maxHeartbeats 4000000 in
theorem t_X12_said_22 {d : Nat} {x1 : Int32} {x2 : Int32} {x3 : Int32} {M : zMem} {K : zK} 
    (T : ((M.1 231 0) ≤ x3 → (¬ x1 = (-1) → K (some (.int (-1))) M) ∧ (x1 = (-1) → K (some (.int x2)) M)) ∧ (¬ ((M.1 231 0) ≤ x3) → S_X12_holds d (M.1 231 406) x3 M (zB (fun r23 M24 => (r23 = true → (¬ x2 = x1 → S_X12_said_22 (d + 1) x1 (x2 + 1) (x3 + 1) M24 K) ∧ (x2 = x1 → K (some (.int x3)) M24)) ∧ (r23 = false → S_X12_said_22 (d + 1) x1 x2 (x3 + 1) M24 K))))) : S_X12_said_22 (d + 1) x1 x2 x3 M K := by
  show zV m_X12_said (d + 1) 22 [(0, .ref 229), (1, .int x1), (2, .int x2), (3, .int x3)] [] M K
  refine zr_iload_n dX12_said_22 rfl 3 rfl ?_
  refine zr_aload_n dX12_said_23 rfl 0 rfl ?_
  refine zm_getr (a := 231) dX12_said_24 f_X12_98 (by decide) (by decide) (by decide) (by decide) ?_
  refine zr_iconst (v := 0) dX12_said_27 (by decide) ?_
  refine zm_iald (n := 647) (o := 0) dX12_said_28 (by decide) (by decide) (zin (by decide)) (by decide) ?_
  refine zr_icmp_ge (tgt := 67) dX12_said_29 (by decide) (fun h21 => ?_) (fun h21 => ?_)
  · have T := T.1 h21
    refine zr_iload_n dX12_said_67 rfl 1 rfl ?_
    refine zr_iconst (v := (-1)) dX12_said_68 (by decide) ?_
    refine zr_icmp_ne (tgt := 76) dX12_said_69 (by decide) (fun h22 => ?_) (fun h22 => ?_)
    · have T := T.1 h22
      refine zr_iconst (v := (-1)) dX12_said_76 (by decide) ?_
      exact zm_iret dX12_said_77 rfl T
    · have T := T.2 h22
      refine zr_iload_n dX12_said_72 rfl 2 rfl ?_
      refine zr_goto (tgt := 77) dX12_said_73 (by decide) ?_
      exact zm_iret dX12_said_77 rfl T
  · have T := T.2 h21
    refine zr_aload_n dX12_said_32 rfl 0 rfl ?_
    refine zr_aload_n dX12_said_33 rfl 0 rfl ?_
    refine zm_getr (a := 231) dX12_said_34 f_X12_98 (by decide) (by decide) (by decide) (by decide) ?_
    refine zr_sipush (v := 406) dX12_said_37 (by decide) ?_
    refine zm_iald (n := 647) (o := 406) dX12_said_40 (by decide) (by decide) (zin (by decide)) (by decide) ?_
    refine zr_iload_n dX12_said_41 rfl 3 rfl ?_
    refine zm_callV_b (c := 12) (b := 229) dX12_said_42 w_X12_holds l_X12_520 rfl (by decide) (by decide) s_X12_holds [.int (M.1 231 406), .int x3] rfl rfl (Nat.le_of_ble_eq_true rfl) (Nat.le_of_ble_eq_true rfl) ?_
    refine zV.post T ?_
    rintro v M24 ⟨r23, rfl, T⟩
    refine ⟨r23, rfl, ?_⟩
    refine zm_ifb_ne (tgt := 51) dX12_said_45 (by decide) (fun h25 => ?_) (fun h25 => ?_)
    · have T := T.1 h25
      refine zr_iload_n dX12_said_51 rfl 2 rfl ?_
      refine zr_iload_n dX12_said_52 rfl 1 rfl ?_
      refine zr_icmp_ne (tgt := 58) dX12_said_53 (by decide) (fun h26 => ?_) (fun h26 => ?_)
      · have T := T.1 h26
        refine zr_iinc (n := 2) (v := x2 + 1) dX12_said_58 rfl rfl (by decide) (L2 := [(2, .int (x2 + 1)), (0, .ref 229), (1, .int x1), (3, .int x3)]) rfl ?_
        refine zr_iinc (n := 3) (v := x3 + 1) dX12_said_61 rfl rfl (by decide) (L2 := [(3, .int (x3 + 1)), (2, .int (x2 + 1)), (0, .ref 229), (1, .int x1)]) rfl ?_
        refine zr_goto (tgt := 22) dX12_said_64 (by decide) ?_
        exact zV.pick [2, 3, 1, 0] rfl T
      · have T := T.2 h26
        refine zr_iload_n dX12_said_56 rfl 3 rfl ?_
        exact zm_iret dX12_said_57 rfl T
    · have T := T.2 h25
      refine zr_goto (tgt := 61) dX12_said_48 (by decide) ?_
      refine zr_iinc (n := 3) (v := x3 + 1) dX12_said_61 rfl rfl (by decide) (L2 := [(3, .int (x3 + 1)), (0, .ref 229), (1, .int x1), (2, .int x2)]) rfl ?_
      refine zr_goto (tgt := 22) dX12_said_64 (by decide) ?_
      exact zV.pick [1, 2, 3, 0] rfl T
set_option maxRecDepth 100000 in
set_option maxHeartbeats 4000000 in
theorem t_X12_holds {d : Nat} {x1 : Int32} {x2 : Int32} {M : zMem} {K : zK} 
    (T : vp_in ((407 + (4 * x1)) + 1) 647 ∧ (vp_in ((407 + (4 * x1)) + 2) 647 ∧ (vp_in (407 + (4 * x1)) 647 ∧ (((M.1 231 (Int32.toNatClampNeg (407 + (4 * x1)))) = 1 → S_X12_holds d (M.1 231 (Int32.toNatClampNeg ((407 + (4 * x1)) + 1))) x2 M (zB (fun r24 M25 => (r24 = true → K (some (.int 0)) M25) ∧ (r24 = false → K (some (.int 1)) M25)))) ∧ ((M.1 231 (Int32.toNatClampNeg (407 + (4 * x1)))) = 2 → S_X12_holds d (M.1 231 (Int32.toNatClampNeg ((407 + (4 * x1)) + 1))) x2 M (zB (fun r27 M28 => (r27 = false → K (some (.int 0)) M28) ∧ (r27 = true → S_X12_holds d (M.1 231 (Int32.toNatClampNeg ((407 + (4 * x1)) + 2))) x2 M28 (zB (fun r30 M31 => (r30 = false → K (some (.int 0)) M31) ∧ (r30 = true → K (some (.int 1)) M31))))))) ∧ ((M.1 231 (Int32.toNatClampNeg (407 + (4 * x1)))) = 3 → S_X12_holds d (M.1 231 (Int32.toNatClampNeg ((407 + (4 * x1)) + 1))) x2 M (zB (fun r33 M34 => (r33 = true → K (some (.int 1)) M34) ∧ (r33 = false → S_X12_holds d (M.1 231 (Int32.toNatClampNeg ((407 + (4 * x1)) + 2))) x2 M34 (zB (fun r36 M37 => (r36 = false → K (some (.int 0)) M37) ∧ (r36 = true → K (some (.int 1)) M37))))))) ∧ ((M.1 231 (Int32.toNatClampNeg (407 + (4 * x1)))) = 67 → S_X12_isTorn d x2 M (zB (fun r39 M40 => K (some (.int (bi r39))) M40))) ∧ ((M.1 231 (Int32.toNatClampNeg (407 + (4 * x1)))) = 68 → S_X12_hasEntry d (M.1 231 (Int32.toNatClampNeg ((407 + (4 * x1)) + 1))) x2 M (zB (fun r41 M42 => (r41 = false → K (some (.int 0)) M42) ∧ (r41 = true → S_X12_at d (M.1 231 (Int32.toNatClampNeg ((407 + (4 * x1)) + 1))) x2 M42 (zI (fun r44 M45 => vp_in (213 + r44) 647 ∧ (((M45.1 231 (Int32.toNatClampNeg (213 + r44))) = (-1) → K (some (.int 0)) M45) ∧ (¬ ((M45.1 231 (Int32.toNatClampNeg (213 + r44))) = (-1)) → K (some (.int 1)) M45)))))))) ∧ ((M.1 231 (Int32.toNatClampNeg (407 + (4 * x1)))) = 69 → S_X12_hasEntry d (M.1 231 (Int32.toNatClampNeg ((407 + (4 * x1)) + 1))) x2 M (zB (fun r48 M49 => (r48 = false → K (some (.int 0)) M49) ∧ (r48 = true → S_X12_at d (M.1 231 (Int32.toNatClampNeg ((407 + (4 * x1)) + 1))) x2 M49 (zI (fun r51 M52 => vp_in (213 + r51) 647 ∧ ((¬ (M52.1 231 (Int32.toNatClampNeg (213 + r51))) = (-1) → K (some (.int 0)) M52) ∧ ((M52.1 231 (Int32.toNatClampNeg (213 + r51))) = (-1) → K (some (.int 1)) M52)))))))) ∧ (¬ (M.1 231 (Int32.toNatClampNeg (407 + (4 * x1)))) = 1 → ¬ (M.1 231 (Int32.toNatClampNeg (407 + (4 * x1)))) = 2 → ¬ (M.1 231 (Int32.toNatClampNeg (407 + (4 * x1)))) = 3 → ¬ (M.1 231 (Int32.toNatClampNeg (407 + (4 * x1)))) = 67 → ¬ (M.1 231 (Int32.toNatClampNeg (407 + (4 * x1)))) = 68 → ¬ (M.1 231 (Int32.toNatClampNeg (407 + (4 * x1)))) = 69 → vp_in (407 + (4 * x1)) 647 ∧ ((¬ ((M.1 231 (Int32.toNatClampNeg (407 + (4 * x1)))) - 50) = 20 → (¬ ((M.1 231 (Int32.toNatClampNeg (407 + (4 * x1)))) - 50) = 21 → (¬ ((M.1 231 (Int32.toNatClampNeg (407 + (4 * x1)))) - 50) = 22 → vp_in ((407 + (4 * x1)) + 3) 647 ∧ ((¬ (M.1 231 (Int32.toNatClampNeg ((407 + (4 * x1)) + 3))) = 60 → vp_in ((407 + (4 * x1)) + 3) 647 ∧ ((¬ (M.1 231 (Int32.toNatClampNeg ((407 + (4 * x1)) + 3))) = 61 → (x2 ≤ (M.1 231 (Int32.toNatClampNeg ((407 + (4 * x1)) + 2))) → K (some (.int 0)) M) ∧ (¬ (x2 ≤ (M.1 231 (Int32.toNatClampNeg ((407 + (4 * x1)) + 2)))) → K (some (.int 1)) M)) ∧ ((M.1 231 (Int32.toNatClampNeg ((407 + (4 * x1)) + 3))) = 61 → (¬ x2 = (M.1 231 (Int32.toNatClampNeg ((407 + (4 * x1)) + 2))) → K (some (.int 0)) M) ∧ (x2 = (M.1 231 (Int32.toNatClampNeg ((407 + (4 * x1)) + 2))) → K (some (.int 1)) M)))) ∧ ((M.1 231 (Int32.toNatClampNeg ((407 + (4 * x1)) + 3))) = 60 → ((M.1 231 (Int32.toNatClampNeg ((407 + (4 * x1)) + 2))) ≤ x2 → K (some (.int 0)) M) ∧ (¬ ((M.1 231 (Int32.toNatClampNeg ((407 + (4 * x1)) + 2))) ≤ x2) → K (some (.int 1)) M)))) ∧ (((M.1 231 (Int32.toNatClampNeg (407 + (4 * x1)))) - 50) = 22 → S_X12_latestOf d x2 M (zI (fun r66 M67 => vp_in ((407 + (4 * x1)) + 3) 647 ∧ ((¬ (M67.1 231 (Int32.toNatClampNeg ((407 + (4 * x1)) + 3))) = 60 → vp_in ((407 + (4 * x1)) + 3) 647 ∧ ((¬ (M67.1 231 (Int32.toNatClampNeg ((407 + (4 * x1)) + 3))) = 61 → (r66 ≤ (M.1 231 (Int32.toNatClampNeg ((407 + (4 * x1)) + 2))) → K (some (.int 0)) M67) ∧ (¬ (r66 ≤ (M.1 231 (Int32.toNatClampNeg ((407 + (4 * x1)) + 2)))) → K (some (.int 1)) M67)) ∧ ((M67.1 231 (Int32.toNatClampNeg ((407 + (4 * x1)) + 3))) = 61 → (¬ r66 = (M.1 231 (Int32.toNatClampNeg ((407 + (4 * x1)) + 2))) → K (some (.int 0)) M67) ∧ (r66 = (M.1 231 (Int32.toNatClampNeg ((407 + (4 * x1)) + 2))) → K (some (.int 1)) M67)))) ∧ ((M67.1 231 (Int32.toNatClampNeg ((407 + (4 * x1)) + 3))) = 60 → ((M.1 231 (Int32.toNatClampNeg ((407 + (4 * x1)) + 2))) ≤ r66 → K (some (.int 0)) M67) ∧ (¬ ((M.1 231 (Int32.toNatClampNeg ((407 + (4 * x1)) + 2))) ≤ r66) → K (some (.int 1)) M67))))))) ∧ (((M.1 231 (Int32.toNatClampNeg (407 + (4 * x1)))) - 50) = 21 → S_X12_copiesOf d x2 M (zI (fun r75 M76 => vp_in ((407 + (4 * x1)) + 3) 647 ∧ ((¬ (M76.1 231 (Int32.toNatClampNeg ((407 + (4 * x1)) + 3))) = 60 → vp_in ((407 + (4 * x1)) + 3) 647 ∧ ((¬ (M76.1 231 (Int32.toNatClampNeg ((407 + (4 * x1)) + 3))) = 61 → (r75 ≤ (M.1 231 (Int32.toNatClampNeg ((407 + (4 * x1)) + 2))) → K (some (.int 0)) M76) ∧ (¬ (r75 ≤ (M.1 231 (Int32.toNatClampNeg ((407 + (4 * x1)) + 2)))) → K (some (.int 1)) M76)) ∧ ((M76.1 231 (Int32.toNatClampNeg ((407 + (4 * x1)) + 3))) = 61 → (¬ r75 = (M.1 231 (Int32.toNatClampNeg ((407 + (4 * x1)) + 2))) → K (some (.int 0)) M76) ∧ (r75 = (M.1 231 (Int32.toNatClampNeg ((407 + (4 * x1)) + 2))) → K (some (.int 1)) M76)))) ∧ ((M76.1 231 (Int32.toNatClampNeg ((407 + (4 * x1)) + 3))) = 60 → ((M.1 231 (Int32.toNatClampNeg ((407 + (4 * x1)) + 2))) ≤ r75 → K (some (.int 0)) M76) ∧ (¬ ((M.1 231 (Int32.toNatClampNeg ((407 + (4 * x1)) + 2))) ≤ r75) → K (some (.int 1)) M76))))))) ∧ (((M.1 231 (Int32.toNatClampNeg (407 + (4 * x1)))) - 50) = 20 → vp_in x2 24 ∧ (vp_in ((407 + (4 * x1)) + 3) 647 ∧ ((¬ (M.1 231 (Int32.toNatClampNeg ((407 + (4 * x1)) + 3))) = 60 → vp_in ((407 + (4 * x1)) + 3) 647 ∧ ((¬ (M.1 231 (Int32.toNatClampNeg ((407 + (4 * x1)) + 3))) = 61 → ((M.1 243 (Int32.toNatClampNeg x2)) ≤ (M.1 231 (Int32.toNatClampNeg ((407 + (4 * x1)) + 2))) → K (some (.int 0)) M) ∧ (¬ ((M.1 243 (Int32.toNatClampNeg x2)) ≤ (M.1 231 (Int32.toNatClampNeg ((407 + (4 * x1)) + 2)))) → K (some (.int 1)) M)) ∧ ((M.1 231 (Int32.toNatClampNeg ((407 + (4 * x1)) + 3))) = 61 → (¬ (M.1 243 (Int32.toNatClampNeg x2)) = (M.1 231 (Int32.toNatClampNeg ((407 + (4 * x1)) + 2))) → K (some (.int 0)) M) ∧ ((M.1 243 (Int32.toNatClampNeg x2)) = (M.1 231 (Int32.toNatClampNeg ((407 + (4 * x1)) + 2))) → K (some (.int 1)) M)))) ∧ ((M.1 231 (Int32.toNatClampNeg ((407 + (4 * x1)) + 3))) = 60 → ((M.1 231 (Int32.toNatClampNeg ((407 + (4 * x1)) + 2))) ≤ (M.1 243 (Int32.toNatClampNeg x2)) → K (some (.int 0)) M) ∧ (¬ ((M.1 231 (Int32.toNatClampNeg ((407 + (4 * x1)) + 2))) ≤ (M.1 243 (Int32.toNatClampNeg x2))) → K (some (.int 1)) M))))))))))) : S_X12_holds (d + 1) x1 x2 M K := by
  show zV m_X12_holds (d + 1) 0 [(0, .ref 229), (1, .int x1), (2, .int x2)] [] M K
  refine zr_sipush (v := 407) dX12_holds_0 (by decide) ?_
  refine zr_iconst (v := 4) dX12_holds_3 (by decide) ?_
  refine zr_iload_n dX12_holds_4 rfl 1 rfl ?_
  refine zr_imul dX12_holds_5 ?_
  refine zr_iadd dX12_holds_6 ?_
  refine zr_istore_n dX12_holds_7 rfl (by decide) (L2 := [(3, .int (407 + (4 * x1))), (0, .ref 229), (1, .int x1), (2, .int x2)]) rfl ?_
  refine zr_aload_n dX12_holds_8 rfl 1 rfl ?_
  refine zm_getr (a := 231) dX12_holds_9 f_X12_98 (by decide) (by decide) (by decide) (by decide) ?_
  refine zr_iload_n dX12_holds_12 rfl 0 rfl ?_
  refine zr_iconst (v := 1) dX12_holds_13 (by decide) ?_
  refine zr_iadd dX12_holds_14 ?_
  obtain ⟨hq21, T⟩ := T
  refine zm_iald (n := 647) (o := (Int32.toNatClampNeg ((407 + (4 * x1)) + 1))) dX12_holds_15 (by decide) (by decide) hq21 rfl ?_
  refine zr_istore dX12_holds_16 (by decide) (L2 := [(4, .int (M.1 231 (Int32.toNatClampNeg ((407 + (4 * x1)) + 1)))), (3, .int (407 + (4 * x1))), (0, .ref 229), (1, .int x1), (2, .int x2)]) rfl ?_
  refine zr_aload_n dX12_holds_18 rfl 2 rfl ?_
  refine zm_getr (a := 231) dX12_holds_19 f_X12_98 (by decide) (by decide) (by decide) (by decide) ?_
  refine zr_iload_n dX12_holds_22 rfl 1 rfl ?_
  refine zr_iconst (v := 2) dX12_holds_23 (by decide) ?_
  refine zr_iadd dX12_holds_24 ?_
  obtain ⟨hq22, T⟩ := T
  refine zm_iald (n := 647) (o := (Int32.toNatClampNeg ((407 + (4 * x1)) + 2))) dX12_holds_25 (by decide) (by decide) hq22 rfl ?_
  refine zr_istore dX12_holds_26 (by decide) (L2 := [(5, .int (M.1 231 (Int32.toNatClampNeg ((407 + (4 * x1)) + 2)))), (4, .int (M.1 231 (Int32.toNatClampNeg ((407 + (4 * x1)) + 1)))), (3, .int (407 + (4 * x1))), (0, .ref 229), (1, .int x1), (2, .int x2)]) rfl ?_
  refine zr_aload_n dX12_holds_28 rfl 3 rfl ?_
  refine zm_getr (a := 231) dX12_holds_29 f_X12_98 (by decide) (by decide) (by decide) (by decide) ?_
  refine zr_iload_n dX12_holds_32 rfl 2 rfl ?_
  obtain ⟨hq23, T⟩ := T
  refine zm_iald (n := 647) (o := (Int32.toNatClampNeg (407 + (4 * x1)))) dX12_holds_33 (by decide) (by decide) hq23 rfl ?_
  by_cases h92 : (M.1 231 (Int32.toNatClampNeg (407 + (4 * x1)))) = 1
  · have T := T.1 h92
    refine zr_lookup (tgt := 92) dX12_holds_34 (by decide) (by rw [h92]) (by decide) ?_
    refine zr_aload_n dX12_holds_92 rfl 3 rfl ?_
    refine zr_iload dX12_holds_93 1 rfl ?_
    refine zr_iload_n dX12_holds_95 rfl 5 rfl ?_
    refine zm_callV_b (c := 12) (b := 229) dX12_holds_96 w_X12_holds l_X12_520 rfl (by decide) (by decide) s_X12_holds [.int (M.1 231 (Int32.toNatClampNeg ((407 + (4 * x1)) + 1))), .int x2] rfl rfl (Nat.le_of_ble_eq_true rfl) (Nat.le_of_ble_eq_true rfl) ?_
    refine zV.post T ?_
    rintro v M25 ⟨r24, rfl, T⟩
    refine ⟨r24, rfl, ?_⟩
    refine zm_ifb_ne (tgt := 106) dX12_holds_99 (by decide) (fun h26 => ?_) (fun h26 => ?_)
    · have T := T.1 h26
      refine zr_iconst (v := 0) dX12_holds_106 (by decide) ?_
      exact zm_zret dX12_holds_107 rfl (by decide) T
    · have T := T.2 h26
      refine zr_iconst (v := 1) dX12_holds_102 (by decide) ?_
      refine zr_goto (tgt := 107) dX12_holds_103 (by decide) ?_
      exact zm_zret dX12_holds_107 rfl (by decide) T
  by_cases h93 : (M.1 231 (Int32.toNatClampNeg (407 + (4 * x1)))) = 2
  · have T := T.2.1 h93
    refine zr_lookup (tgt := 108) dX12_holds_34 (by decide) (by rw [h93]) (by decide) ?_
    refine zr_aload_n dX12_holds_108 rfl 3 rfl ?_
    refine zr_iload dX12_holds_109 1 rfl ?_
    refine zr_iload_n dX12_holds_111 rfl 5 rfl ?_
    refine zm_callV_b (c := 12) (b := 229) dX12_holds_112 w_X12_holds l_X12_520 rfl (by decide) (by decide) s_X12_holds [.int (M.1 231 (Int32.toNatClampNeg ((407 + (4 * x1)) + 1))), .int x2] rfl rfl (Nat.le_of_ble_eq_true rfl) (Nat.le_of_ble_eq_true rfl) ?_
    refine zV.post T ?_
    rintro v M28 ⟨r27, rfl, T⟩
    refine ⟨r27, rfl, ?_⟩
    refine zm_ifb_eq (tgt := 132) dX12_holds_115 (by decide) (fun h29 => ?_) (fun h29 => ?_)
    · have T := T.1 h29
      refine zr_iconst (v := 0) dX12_holds_132 (by decide) ?_
      exact zm_zret dX12_holds_133 rfl (by decide) T
    · have T := T.2 h29
      refine zr_aload_n dX12_holds_118 rfl 3 rfl ?_
      refine zr_iload dX12_holds_119 0 rfl ?_
      refine zr_iload_n dX12_holds_121 rfl 5 rfl ?_
      refine zm_callV_b (c := 12) (b := 229) dX12_holds_122 w_X12_holds l_X12_520 rfl (by decide) (by decide) s_X12_holds [.int (M.1 231 (Int32.toNatClampNeg ((407 + (4 * x1)) + 2))), .int x2] rfl rfl (Nat.le_of_ble_eq_true rfl) (Nat.le_of_ble_eq_true rfl) ?_
      refine zV.post T ?_
      rintro v M31 ⟨r30, rfl, T⟩
      refine ⟨r30, rfl, ?_⟩
      refine zm_ifb_eq (tgt := 132) dX12_holds_125 (by decide) (fun h32 => ?_) (fun h32 => ?_)
      · have T := T.1 h32
        refine zr_iconst (v := 0) dX12_holds_132 (by decide) ?_
        exact zm_zret dX12_holds_133 rfl (by decide) T
      · have T := T.2 h32
        refine zr_iconst (v := 1) dX12_holds_128 (by decide) ?_
        refine zr_goto (tgt := 133) dX12_holds_129 (by decide) ?_
        exact zm_zret dX12_holds_133 rfl (by decide) T
  by_cases h94 : (M.1 231 (Int32.toNatClampNeg (407 + (4 * x1)))) = 3
  · have T := T.2.2.1 h94
    refine zr_lookup (tgt := 134) dX12_holds_34 (by decide) (by rw [h94]) (by decide) ?_
    refine zr_aload_n dX12_holds_134 rfl 3 rfl ?_
    refine zr_iload dX12_holds_135 1 rfl ?_
    refine zr_iload_n dX12_holds_137 rfl 5 rfl ?_
    refine zm_callV_b (c := 12) (b := 229) dX12_holds_138 w_X12_holds l_X12_520 rfl (by decide) (by decide) s_X12_holds [.int (M.1 231 (Int32.toNatClampNeg ((407 + (4 * x1)) + 1))), .int x2] rfl rfl (Nat.le_of_ble_eq_true rfl) (Nat.le_of_ble_eq_true rfl) ?_
    refine zV.post T ?_
    rintro v M34 ⟨r33, rfl, T⟩
    refine ⟨r33, rfl, ?_⟩
    refine zm_ifb_ne (tgt := 154) dX12_holds_141 (by decide) (fun h35 => ?_) (fun h35 => ?_)
    · have T := T.1 h35
      refine zr_iconst (v := 1) dX12_holds_154 (by decide) ?_
      refine zr_goto (tgt := 159) dX12_holds_155 (by decide) ?_
      exact zm_zret dX12_holds_159 rfl (by decide) T
    · have T := T.2 h35
      refine zr_aload_n dX12_holds_144 rfl 3 rfl ?_
      refine zr_iload dX12_holds_145 0 rfl ?_
      refine zr_iload_n dX12_holds_147 rfl 5 rfl ?_
      refine zm_callV_b (c := 12) (b := 229) dX12_holds_148 w_X12_holds l_X12_520 rfl (by decide) (by decide) s_X12_holds [.int (M.1 231 (Int32.toNatClampNeg ((407 + (4 * x1)) + 2))), .int x2] rfl rfl (Nat.le_of_ble_eq_true rfl) (Nat.le_of_ble_eq_true rfl) ?_
      refine zV.post T ?_
      rintro v M37 ⟨r36, rfl, T⟩
      refine ⟨r36, rfl, ?_⟩
      refine zm_ifb_eq (tgt := 158) dX12_holds_151 (by decide) (fun h38 => ?_) (fun h38 => ?_)
      · have T := T.1 h38
        refine zr_iconst (v := 0) dX12_holds_158 (by decide) ?_
        exact zm_zret dX12_holds_159 rfl (by decide) T
      · have T := T.2 h38
        refine zr_iconst (v := 1) dX12_holds_154 (by decide) ?_
        refine zr_goto (tgt := 159) dX12_holds_155 (by decide) ?_
        exact zm_zret dX12_holds_159 rfl (by decide) T
  by_cases h95 : (M.1 231 (Int32.toNatClampNeg (407 + (4 * x1)))) = 67
  · have T := T.2.2.2.1 h95
    refine zr_lookup (tgt := 160) dX12_holds_34 (by decide) (by rw [h95]) (by decide) ?_
    refine zr_aload_n dX12_holds_160 rfl 3 rfl ?_
    refine zr_iload_n dX12_holds_161 rfl 5 rfl ?_
    refine zm_callV_b (c := 12) (b := 229) dX12_holds_162 w_X12_isTorn l_X12_341 rfl (by decide) (by decide) s_X12_isTorn [.int x2] rfl rfl (Nat.le_of_ble_eq_true rfl) (Nat.le_of_ble_eq_true rfl) ?_
    refine zV.post T ?_
    rintro v M40 ⟨r39, rfl, T⟩
    refine ⟨r39, rfl, ?_⟩
    exact zm_zret dX12_holds_165 rfl (bi_01 _) T
  by_cases h96 : (M.1 231 (Int32.toNatClampNeg (407 + (4 * x1)))) = 68
  · have T := T.2.2.2.2.1 h96
    refine zr_lookup (tgt := 166) dX12_holds_34 (by decide) (by rw [h96]) (by decide) ?_
    refine zr_aload_n dX12_holds_166 rfl 3 rfl ?_
    refine zr_iload dX12_holds_167 1 rfl ?_
    refine zr_iload_n dX12_holds_169 rfl 5 rfl ?_
    refine zm_callV_b (c := 12) (b := 229) dX12_holds_170 w_X12_hasEntry l_X12_294 rfl (by decide) (by decide) s_X12_hasEntry [.int (M.1 231 (Int32.toNatClampNeg ((407 + (4 * x1)) + 1))), .int x2] rfl rfl (Nat.le_of_ble_eq_true rfl) (Nat.le_of_ble_eq_true rfl) ?_
    refine zV.post T ?_
    rintro v M42 ⟨r41, rfl, T⟩
    refine ⟨r41, rfl, ?_⟩
    refine zm_ifb_eq (tgt := 199) dX12_holds_173 (by decide) (fun h43 => ?_) (fun h43 => ?_)
    · have T := T.1 h43
      refine zr_iconst (v := 0) dX12_holds_199 (by decide) ?_
      exact zm_zret dX12_holds_200 rfl (by decide) T
    · have T := T.2 h43
      refine zr_aload_n dX12_holds_176 rfl 3 rfl ?_
      refine zm_getr (a := 231) dX12_holds_177 f_X12_98 (by decide) (by decide) (by decide) (by decide) ?_
      refine zr_sipush (v := 213) dX12_holds_180 (by decide) ?_
      refine zr_iload dX12_holds_183 1 rfl ?_
      refine zr_iload_n dX12_holds_185 rfl 5 rfl ?_
      refine zm_callS_i dX12_holds_186 w_X12_at l_X12_291 s_X12_at [.int (M.1 231 (Int32.toNatClampNeg ((407 + (4 * x1)) + 1))), .int x2] rfl rfl (Nat.le_of_ble_eq_true rfl) (Nat.le_of_ble_eq_true rfl) ?_
      refine zV.post T ?_
      rintro v M45 ⟨r44, rfl, T⟩
      refine ⟨r44, rfl, ?_⟩
      refine zr_iadd dX12_holds_189 ?_
      obtain ⟨hq46, T⟩ := T
      refine zm_iald (n := 647) (o := (Int32.toNatClampNeg (213 + r44))) dX12_holds_190 (by decide) (by decide) hq46 rfl ?_
      refine zr_iconst (v := (-1)) dX12_holds_191 (by decide) ?_
      refine zr_icmp_eq (tgt := 199) dX12_holds_192 (by decide) (fun h47 => ?_) (fun h47 => ?_)
      · have T := T.1 h47
        refine zr_iconst (v := 0) dX12_holds_199 (by decide) ?_
        exact zm_zret dX12_holds_200 rfl (by decide) T
      · have T := T.2 h47
        refine zr_iconst (v := 1) dX12_holds_195 (by decide) ?_
        refine zr_goto (tgt := 200) dX12_holds_196 (by decide) ?_
        exact zm_zret dX12_holds_200 rfl (by decide) T
  by_cases h97 : (M.1 231 (Int32.toNatClampNeg (407 + (4 * x1)))) = 69
  · have T := T.2.2.2.2.2.1 h97
    refine zr_lookup (tgt := 201) dX12_holds_34 (by decide) (by rw [h97]) (by decide) ?_
    refine zr_aload_n dX12_holds_201 rfl 3 rfl ?_
    refine zr_iload dX12_holds_202 1 rfl ?_
    refine zr_iload_n dX12_holds_204 rfl 5 rfl ?_
    refine zm_callV_b (c := 12) (b := 229) dX12_holds_205 w_X12_hasEntry l_X12_294 rfl (by decide) (by decide) s_X12_hasEntry [.int (M.1 231 (Int32.toNatClampNeg ((407 + (4 * x1)) + 1))), .int x2] rfl rfl (Nat.le_of_ble_eq_true rfl) (Nat.le_of_ble_eq_true rfl) ?_
    refine zV.post T ?_
    rintro v M49 ⟨r48, rfl, T⟩
    refine ⟨r48, rfl, ?_⟩
    refine zm_ifb_eq (tgt := 234) dX12_holds_208 (by decide) (fun h50 => ?_) (fun h50 => ?_)
    · have T := T.1 h50
      refine zr_iconst (v := 0) dX12_holds_234 (by decide) ?_
      exact zm_zret dX12_holds_235 rfl (by decide) T
    · have T := T.2 h50
      refine zr_aload_n dX12_holds_211 rfl 3 rfl ?_
      refine zm_getr (a := 231) dX12_holds_212 f_X12_98 (by decide) (by decide) (by decide) (by decide) ?_
      refine zr_sipush (v := 213) dX12_holds_215 (by decide) ?_
      refine zr_iload dX12_holds_218 1 rfl ?_
      refine zr_iload_n dX12_holds_220 rfl 5 rfl ?_
      refine zm_callS_i dX12_holds_221 w_X12_at l_X12_291 s_X12_at [.int (M.1 231 (Int32.toNatClampNeg ((407 + (4 * x1)) + 1))), .int x2] rfl rfl (Nat.le_of_ble_eq_true rfl) (Nat.le_of_ble_eq_true rfl) ?_
      refine zV.post T ?_
      rintro v M52 ⟨r51, rfl, T⟩
      refine ⟨r51, rfl, ?_⟩
      refine zr_iadd dX12_holds_224 ?_
      obtain ⟨hq53, T⟩ := T
      refine zm_iald (n := 647) (o := (Int32.toNatClampNeg (213 + r51))) dX12_holds_225 (by decide) (by decide) hq53 rfl ?_
      refine zr_iconst (v := (-1)) dX12_holds_226 (by decide) ?_
      refine zr_icmp_ne (tgt := 234) dX12_holds_227 (by decide) (fun h54 => ?_) (fun h54 => ?_)
      · have T := T.1 h54
        refine zr_iconst (v := 0) dX12_holds_234 (by decide) ?_
        exact zm_zret dX12_holds_235 rfl (by decide) T
      · have T := T.2 h54
        refine zr_iconst (v := 1) dX12_holds_230 (by decide) ?_
        refine zr_goto (tgt := 235) dX12_holds_231 (by decide) ?_
        exact zm_zret dX12_holds_235 rfl (by decide) T
  · have T := T.2.2.2.2.2.2 h92 h93 h94 h95 h96 h97
    refine zr_lookup (off := 202) (tgt := 236) dX12_holds_34 (by decide) (by refine (lv_osw (k := 1) h92 (by decide)).trans ?_; refine (lv_osw (k := 2) h93 (by decide)).trans ?_; refine (lv_osw (k := 3) h94 (by decide)).trans ?_; refine (lv_osw (k := 67) h95 (by decide)).trans ?_; refine (lv_osw (k := 68) h96 (by decide)).trans ?_; refine (lv_osw (k := 69) h97 (by decide)).trans ?_; rfl) (by decide) ?_
    refine zr_aload_n dX12_holds_236 rfl 3 rfl ?_
    refine zm_getr (a := 231) dX12_holds_237 f_X12_98 (by decide) (by decide) (by decide) (by decide) ?_
    refine zr_iload_n dX12_holds_240 rfl 2 rfl ?_
    obtain ⟨hq55, T⟩ := T
    refine zm_iald (n := 647) (o := (Int32.toNatClampNeg (407 + (4 * x1)))) dX12_holds_241 (by decide) (by decide) hq55 rfl ?_
    refine zr_bipush (v := 50) dX12_holds_242 (by decide) ?_
    refine zr_isub dX12_holds_244 ?_
    refine zr_istore dX12_holds_245 (by decide) (L2 := [(6, .int ((M.1 231 (Int32.toNatClampNeg (407 + (4 * x1)))) - 50)), (5, .int (M.1 231 (Int32.toNatClampNeg ((407 + (4 * x1)) + 2)))), (4, .int (M.1 231 (Int32.toNatClampNeg ((407 + (4 * x1)) + 1)))), (3, .int (407 + (4 * x1))), (0, .ref 229), (1, .int x1), (2, .int x2)]) rfl ?_
    refine zr_iload dX12_holds_247 0 rfl ?_
    refine zr_bipush (v := 20) dX12_holds_249 (by decide) ?_
    refine zr_icmp_ne (tgt := 263) dX12_holds_251 (by decide) (fun h56 => ?_) (fun h56 => ?_)
    · have T := T.1 h56
      refine zr_iload dX12_holds_263 0 rfl ?_
      refine zr_bipush (v := 21) dX12_holds_265 (by decide) ?_
      refine zr_icmp_ne (tgt := 278) dX12_holds_267 (by decide) (fun h57 => ?_) (fun h57 => ?_)
      · have T := T.1 h57
        refine zr_iload dX12_holds_278 0 rfl ?_
        refine zr_bipush (v := 22) dX12_holds_280 (by decide) ?_
        refine zr_icmp_ne (tgt := 293) dX12_holds_282 (by decide) (fun h58 => ?_) (fun h58 => ?_)
        · have T := T.1 h58
          refine zr_iload_n dX12_holds_293 rfl 6 rfl ?_
          refine zr_istore dX12_holds_294 (by decide) (L2 := [(7, .int x2), (6, .int ((M.1 231 (Int32.toNatClampNeg (407 + (4 * x1)))) - 50)), (5, .int (M.1 231 (Int32.toNatClampNeg ((407 + (4 * x1)) + 2)))), (4, .int (M.1 231 (Int32.toNatClampNeg ((407 + (4 * x1)) + 1)))), (3, .int (407 + (4 * x1))), (0, .ref 229), (1, .int x1), (2, .int x2)]) rfl ?_
          refine zr_aload_n dX12_holds_296 rfl 5 rfl ?_
          refine zm_getr (a := 231) dX12_holds_297 f_X12_98 (by decide) (by decide) (by decide) (by decide) ?_
          refine zr_iload_n dX12_holds_300 rfl 4 rfl ?_
          refine zr_iconst (v := 3) dX12_holds_301 (by decide) ?_
          refine zr_iadd dX12_holds_302 ?_
          obtain ⟨hq59, T⟩ := T
          refine zm_iald (n := 647) (o := (Int32.toNatClampNeg ((407 + (4 * x1)) + 3))) dX12_holds_303 (by decide) (by decide) hq59 rfl ?_
          refine zr_bipush (v := 60) dX12_holds_304 (by decide) ?_
          refine zr_icmp_ne (tgt := 324) dX12_holds_306 (by decide) (fun h60 => ?_) (fun h60 => ?_)
          · have T := T.1 h60
            refine zr_aload_n dX12_holds_324 rfl 5 rfl ?_
            refine zm_getr (a := 231) dX12_holds_325 f_X12_98 (by decide) (by decide) (by decide) (by decide) ?_
            refine zr_iload_n dX12_holds_328 rfl 4 rfl ?_
            refine zr_iconst (v := 3) dX12_holds_329 (by decide) ?_
            refine zr_iadd dX12_holds_330 ?_
            obtain ⟨hq61, T⟩ := T
            refine zm_iald (n := 647) (o := (Int32.toNatClampNeg ((407 + (4 * x1)) + 3))) dX12_holds_331 (by decide) (by decide) hq61 rfl ?_
            refine zr_bipush (v := 61) dX12_holds_332 (by decide) ?_
            refine zr_icmp_ne (tgt := 352) dX12_holds_334 (by decide) (fun h62 => ?_) (fun h62 => ?_)
            · have T := T.1 h62
              refine zr_iload dX12_holds_352 0 rfl ?_
              refine zr_iload dX12_holds_354 2 rfl ?_
              refine zr_icmp_le (tgt := 363) dX12_holds_356 (by decide) (fun h63 => ?_) (fun h63 => ?_)
              · have T := T.1 h63
                refine zr_iconst (v := 0) dX12_holds_363 (by decide) ?_
                exact zm_zret dX12_holds_364 rfl (by decide) T
              · have T := T.2 h63
                refine zr_iconst (v := 1) dX12_holds_359 (by decide) ?_
                refine zr_goto (tgt := 364) dX12_holds_360 (by decide) ?_
                exact zm_zret dX12_holds_364 rfl (by decide) T
            · have T := T.2 h62
              refine zr_iload dX12_holds_337 0 rfl ?_
              refine zr_iload dX12_holds_339 2 rfl ?_
              refine zr_icmp_ne (tgt := 348) dX12_holds_341 (by decide) (fun h64 => ?_) (fun h64 => ?_)
              · have T := T.1 h64
                refine zr_iconst (v := 0) dX12_holds_348 (by decide) ?_
                refine zr_goto (tgt := 364) dX12_holds_349 (by decide) ?_
                exact zm_zret dX12_holds_364 rfl (by decide) T
              · have T := T.2 h64
                refine zr_iconst (v := 1) dX12_holds_344 (by decide) ?_
                refine zr_goto (tgt := 364) dX12_holds_345 (by decide) ?_
                exact zm_zret dX12_holds_364 rfl (by decide) T
          · have T := T.2 h60
            refine zr_iload dX12_holds_309 0 rfl ?_
            refine zr_iload dX12_holds_311 2 rfl ?_
            refine zr_icmp_ge (tgt := 320) dX12_holds_313 (by decide) (fun h65 => ?_) (fun h65 => ?_)
            · have T := T.1 h65
              refine zr_iconst (v := 0) dX12_holds_320 (by decide) ?_
              refine zr_goto (tgt := 364) dX12_holds_321 (by decide) ?_
              exact zm_zret dX12_holds_364 rfl (by decide) T
            · have T := T.2 h65
              refine zr_iconst (v := 1) dX12_holds_316 (by decide) ?_
              refine zr_goto (tgt := 364) dX12_holds_317 (by decide) ?_
              exact zm_zret dX12_holds_364 rfl (by decide) T
        · have T := T.2 h58
          refine zr_aload_n dX12_holds_285 rfl 4 rfl ?_
          refine zr_iload_n dX12_holds_286 rfl 6 rfl ?_
          refine zm_callV_i (c := 12) (b := 229) dX12_holds_287 w_X12_latestOf l_X12_526 rfl (by decide) (by decide) s_X12_latestOf [.int x2] rfl rfl (Nat.le_of_ble_eq_true rfl) (Nat.le_of_ble_eq_true rfl) ?_
          refine zV.post T ?_
          rintro v M67 ⟨r66, rfl, T⟩
          refine ⟨r66, rfl, ?_⟩
          refine zr_goto (tgt := 294) dX12_holds_290 (by decide) ?_
          refine zr_istore dX12_holds_294 (by decide) (L2 := [(7, .int r66), (6, .int ((M.1 231 (Int32.toNatClampNeg (407 + (4 * x1)))) - 50)), (5, .int (M.1 231 (Int32.toNatClampNeg ((407 + (4 * x1)) + 2)))), (4, .int (M.1 231 (Int32.toNatClampNeg ((407 + (4 * x1)) + 1)))), (3, .int (407 + (4 * x1))), (0, .ref 229), (1, .int x1), (2, .int x2)]) rfl ?_
          refine zr_aload_n dX12_holds_296 rfl 5 rfl ?_
          refine zm_getr (a := 231) dX12_holds_297 f_X12_98 (by decide) (by decide) (by decide) (by decide) ?_
          refine zr_iload_n dX12_holds_300 rfl 4 rfl ?_
          refine zr_iconst (v := 3) dX12_holds_301 (by decide) ?_
          refine zr_iadd dX12_holds_302 ?_
          obtain ⟨hq68, T⟩ := T
          refine zm_iald (n := 647) (o := (Int32.toNatClampNeg ((407 + (4 * x1)) + 3))) dX12_holds_303 (by decide) (by decide) hq68 rfl ?_
          refine zr_bipush (v := 60) dX12_holds_304 (by decide) ?_
          refine zr_icmp_ne (tgt := 324) dX12_holds_306 (by decide) (fun h69 => ?_) (fun h69 => ?_)
          · have T := T.1 h69
            refine zr_aload_n dX12_holds_324 rfl 5 rfl ?_
            refine zm_getr (a := 231) dX12_holds_325 f_X12_98 (by decide) (by decide) (by decide) (by decide) ?_
            refine zr_iload_n dX12_holds_328 rfl 4 rfl ?_
            refine zr_iconst (v := 3) dX12_holds_329 (by decide) ?_
            refine zr_iadd dX12_holds_330 ?_
            obtain ⟨hq70, T⟩ := T
            refine zm_iald (n := 647) (o := (Int32.toNatClampNeg ((407 + (4 * x1)) + 3))) dX12_holds_331 (by decide) (by decide) hq70 rfl ?_
            refine zr_bipush (v := 61) dX12_holds_332 (by decide) ?_
            refine zr_icmp_ne (tgt := 352) dX12_holds_334 (by decide) (fun h71 => ?_) (fun h71 => ?_)
            · have T := T.1 h71
              refine zr_iload dX12_holds_352 0 rfl ?_
              refine zr_iload dX12_holds_354 2 rfl ?_
              refine zr_icmp_le (tgt := 363) dX12_holds_356 (by decide) (fun h72 => ?_) (fun h72 => ?_)
              · have T := T.1 h72
                refine zr_iconst (v := 0) dX12_holds_363 (by decide) ?_
                exact zm_zret dX12_holds_364 rfl (by decide) T
              · have T := T.2 h72
                refine zr_iconst (v := 1) dX12_holds_359 (by decide) ?_
                refine zr_goto (tgt := 364) dX12_holds_360 (by decide) ?_
                exact zm_zret dX12_holds_364 rfl (by decide) T
            · have T := T.2 h71
              refine zr_iload dX12_holds_337 0 rfl ?_
              refine zr_iload dX12_holds_339 2 rfl ?_
              refine zr_icmp_ne (tgt := 348) dX12_holds_341 (by decide) (fun h73 => ?_) (fun h73 => ?_)
              · have T := T.1 h73
                refine zr_iconst (v := 0) dX12_holds_348 (by decide) ?_
                refine zr_goto (tgt := 364) dX12_holds_349 (by decide) ?_
                exact zm_zret dX12_holds_364 rfl (by decide) T
              · have T := T.2 h73
                refine zr_iconst (v := 1) dX12_holds_344 (by decide) ?_
                refine zr_goto (tgt := 364) dX12_holds_345 (by decide) ?_
                exact zm_zret dX12_holds_364 rfl (by decide) T
          · have T := T.2 h69
            refine zr_iload dX12_holds_309 0 rfl ?_
            refine zr_iload dX12_holds_311 2 rfl ?_
            refine zr_icmp_ge (tgt := 320) dX12_holds_313 (by decide) (fun h74 => ?_) (fun h74 => ?_)
            · have T := T.1 h74
              refine zr_iconst (v := 0) dX12_holds_320 (by decide) ?_
              refine zr_goto (tgt := 364) dX12_holds_321 (by decide) ?_
              exact zm_zret dX12_holds_364 rfl (by decide) T
            · have T := T.2 h74
              refine zr_iconst (v := 1) dX12_holds_316 (by decide) ?_
              refine zr_goto (tgt := 364) dX12_holds_317 (by decide) ?_
              exact zm_zret dX12_holds_364 rfl (by decide) T
      · have T := T.2 h57
        refine zr_aload_n dX12_holds_270 rfl 4 rfl ?_
        refine zr_iload_n dX12_holds_271 rfl 6 rfl ?_
        refine zm_callV_i (c := 12) (b := 229) dX12_holds_272 w_X12_copiesOf l_X12_523 rfl (by decide) (by decide) s_X12_copiesOf [.int x2] rfl rfl (Nat.le_of_ble_eq_true rfl) (Nat.le_of_ble_eq_true rfl) ?_
        refine zV.post T ?_
        rintro v M76 ⟨r75, rfl, T⟩
        refine ⟨r75, rfl, ?_⟩
        refine zr_goto (tgt := 294) dX12_holds_275 (by decide) ?_
        refine zr_istore dX12_holds_294 (by decide) (L2 := [(7, .int r75), (6, .int ((M.1 231 (Int32.toNatClampNeg (407 + (4 * x1)))) - 50)), (5, .int (M.1 231 (Int32.toNatClampNeg ((407 + (4 * x1)) + 2)))), (4, .int (M.1 231 (Int32.toNatClampNeg ((407 + (4 * x1)) + 1)))), (3, .int (407 + (4 * x1))), (0, .ref 229), (1, .int x1), (2, .int x2)]) rfl ?_
        refine zr_aload_n dX12_holds_296 rfl 5 rfl ?_
        refine zm_getr (a := 231) dX12_holds_297 f_X12_98 (by decide) (by decide) (by decide) (by decide) ?_
        refine zr_iload_n dX12_holds_300 rfl 4 rfl ?_
        refine zr_iconst (v := 3) dX12_holds_301 (by decide) ?_
        refine zr_iadd dX12_holds_302 ?_
        obtain ⟨hq77, T⟩ := T
        refine zm_iald (n := 647) (o := (Int32.toNatClampNeg ((407 + (4 * x1)) + 3))) dX12_holds_303 (by decide) (by decide) hq77 rfl ?_
        refine zr_bipush (v := 60) dX12_holds_304 (by decide) ?_
        refine zr_icmp_ne (tgt := 324) dX12_holds_306 (by decide) (fun h78 => ?_) (fun h78 => ?_)
        · have T := T.1 h78
          refine zr_aload_n dX12_holds_324 rfl 5 rfl ?_
          refine zm_getr (a := 231) dX12_holds_325 f_X12_98 (by decide) (by decide) (by decide) (by decide) ?_
          refine zr_iload_n dX12_holds_328 rfl 4 rfl ?_
          refine zr_iconst (v := 3) dX12_holds_329 (by decide) ?_
          refine zr_iadd dX12_holds_330 ?_
          obtain ⟨hq79, T⟩ := T
          refine zm_iald (n := 647) (o := (Int32.toNatClampNeg ((407 + (4 * x1)) + 3))) dX12_holds_331 (by decide) (by decide) hq79 rfl ?_
          refine zr_bipush (v := 61) dX12_holds_332 (by decide) ?_
          refine zr_icmp_ne (tgt := 352) dX12_holds_334 (by decide) (fun h80 => ?_) (fun h80 => ?_)
          · have T := T.1 h80
            refine zr_iload dX12_holds_352 0 rfl ?_
            refine zr_iload dX12_holds_354 2 rfl ?_
            refine zr_icmp_le (tgt := 363) dX12_holds_356 (by decide) (fun h81 => ?_) (fun h81 => ?_)
            · have T := T.1 h81
              refine zr_iconst (v := 0) dX12_holds_363 (by decide) ?_
              exact zm_zret dX12_holds_364 rfl (by decide) T
            · have T := T.2 h81
              refine zr_iconst (v := 1) dX12_holds_359 (by decide) ?_
              refine zr_goto (tgt := 364) dX12_holds_360 (by decide) ?_
              exact zm_zret dX12_holds_364 rfl (by decide) T
          · have T := T.2 h80
            refine zr_iload dX12_holds_337 0 rfl ?_
            refine zr_iload dX12_holds_339 2 rfl ?_
            refine zr_icmp_ne (tgt := 348) dX12_holds_341 (by decide) (fun h82 => ?_) (fun h82 => ?_)
            · have T := T.1 h82
              refine zr_iconst (v := 0) dX12_holds_348 (by decide) ?_
              refine zr_goto (tgt := 364) dX12_holds_349 (by decide) ?_
              exact zm_zret dX12_holds_364 rfl (by decide) T
            · have T := T.2 h82
              refine zr_iconst (v := 1) dX12_holds_344 (by decide) ?_
              refine zr_goto (tgt := 364) dX12_holds_345 (by decide) ?_
              exact zm_zret dX12_holds_364 rfl (by decide) T
        · have T := T.2 h78
          refine zr_iload dX12_holds_309 0 rfl ?_
          refine zr_iload dX12_holds_311 2 rfl ?_
          refine zr_icmp_ge (tgt := 320) dX12_holds_313 (by decide) (fun h83 => ?_) (fun h83 => ?_)
          · have T := T.1 h83
            refine zr_iconst (v := 0) dX12_holds_320 (by decide) ?_
            refine zr_goto (tgt := 364) dX12_holds_321 (by decide) ?_
            exact zm_zret dX12_holds_364 rfl (by decide) T
          · have T := T.2 h83
            refine zr_iconst (v := 1) dX12_holds_316 (by decide) ?_
            refine zr_goto (tgt := 364) dX12_holds_317 (by decide) ?_
            exact zm_zret dX12_holds_364 rfl (by decide) T
    · have T := T.2 h56
      refine zr_aload_n dX12_holds_254 rfl 4 rfl ?_
      refine zm_getr (a := 243) dX12_holds_255 f_X12_139 (by decide) (by decide) (by decide) (by decide) ?_
      refine zr_iload_n dX12_holds_258 rfl 6 rfl ?_
      obtain ⟨hq84, T⟩ := T
      refine zm_iald (n := 24) (o := (Int32.toNatClampNeg x2)) dX12_holds_259 (by decide) (by decide) hq84 rfl ?_
      refine zr_goto (tgt := 294) dX12_holds_260 (by decide) ?_
      refine zr_istore dX12_holds_294 (by decide) (L2 := [(7, .int (M.1 243 (Int32.toNatClampNeg x2))), (6, .int ((M.1 231 (Int32.toNatClampNeg (407 + (4 * x1)))) - 50)), (5, .int (M.1 231 (Int32.toNatClampNeg ((407 + (4 * x1)) + 2)))), (4, .int (M.1 231 (Int32.toNatClampNeg ((407 + (4 * x1)) + 1)))), (3, .int (407 + (4 * x1))), (0, .ref 229), (1, .int x1), (2, .int x2)]) rfl ?_
      refine zr_aload_n dX12_holds_296 rfl 5 rfl ?_
      refine zm_getr (a := 231) dX12_holds_297 f_X12_98 (by decide) (by decide) (by decide) (by decide) ?_
      refine zr_iload_n dX12_holds_300 rfl 4 rfl ?_
      refine zr_iconst (v := 3) dX12_holds_301 (by decide) ?_
      refine zr_iadd dX12_holds_302 ?_
      obtain ⟨hq85, T⟩ := T
      refine zm_iald (n := 647) (o := (Int32.toNatClampNeg ((407 + (4 * x1)) + 3))) dX12_holds_303 (by decide) (by decide) hq85 rfl ?_
      refine zr_bipush (v := 60) dX12_holds_304 (by decide) ?_
      refine zr_icmp_ne (tgt := 324) dX12_holds_306 (by decide) (fun h86 => ?_) (fun h86 => ?_)
      · have T := T.1 h86
        refine zr_aload_n dX12_holds_324 rfl 5 rfl ?_
        refine zm_getr (a := 231) dX12_holds_325 f_X12_98 (by decide) (by decide) (by decide) (by decide) ?_
        refine zr_iload_n dX12_holds_328 rfl 4 rfl ?_
        refine zr_iconst (v := 3) dX12_holds_329 (by decide) ?_
        refine zr_iadd dX12_holds_330 ?_
        obtain ⟨hq87, T⟩ := T
        refine zm_iald (n := 647) (o := (Int32.toNatClampNeg ((407 + (4 * x1)) + 3))) dX12_holds_331 (by decide) (by decide) hq87 rfl ?_
        refine zr_bipush (v := 61) dX12_holds_332 (by decide) ?_
        refine zr_icmp_ne (tgt := 352) dX12_holds_334 (by decide) (fun h88 => ?_) (fun h88 => ?_)
        · have T := T.1 h88
          refine zr_iload dX12_holds_352 0 rfl ?_
          refine zr_iload dX12_holds_354 2 rfl ?_
          refine zr_icmp_le (tgt := 363) dX12_holds_356 (by decide) (fun h89 => ?_) (fun h89 => ?_)
          · have T := T.1 h89
            refine zr_iconst (v := 0) dX12_holds_363 (by decide) ?_
            exact zm_zret dX12_holds_364 rfl (by decide) T
          · have T := T.2 h89
            refine zr_iconst (v := 1) dX12_holds_359 (by decide) ?_
            refine zr_goto (tgt := 364) dX12_holds_360 (by decide) ?_
            exact zm_zret dX12_holds_364 rfl (by decide) T
        · have T := T.2 h88
          refine zr_iload dX12_holds_337 0 rfl ?_
          refine zr_iload dX12_holds_339 2 rfl ?_
          refine zr_icmp_ne (tgt := 348) dX12_holds_341 (by decide) (fun h90 => ?_) (fun h90 => ?_)
          · have T := T.1 h90
            refine zr_iconst (v := 0) dX12_holds_348 (by decide) ?_
            refine zr_goto (tgt := 364) dX12_holds_349 (by decide) ?_
            exact zm_zret dX12_holds_364 rfl (by decide) T
          · have T := T.2 h90
            refine zr_iconst (v := 1) dX12_holds_344 (by decide) ?_
            refine zr_goto (tgt := 364) dX12_holds_345 (by decide) ?_
            exact zm_zret dX12_holds_364 rfl (by decide) T
      · have T := T.2 h86
        refine zr_iload dX12_holds_309 0 rfl ?_
        refine zr_iload dX12_holds_311 2 rfl ?_
        refine zr_icmp_ge (tgt := 320) dX12_holds_313 (by decide) (fun h91 => ?_) (fun h91 => ?_)
        · have T := T.1 h91
          refine zr_iconst (v := 0) dX12_holds_320 (by decide) ?_
          refine zr_goto (tgt := 364) dX12_holds_321 (by decide) ?_
          exact zm_zret dX12_holds_364 rfl (by decide) T
        · have T := T.2 h91
          refine zr_iconst (v := 1) dX12_holds_316 (by decide) ?_
          refine zr_goto (tgt := 364) dX12_holds_317 (by decide) ?_
          exact zm_zret dX12_holds_364 rfl (by decide) T
set_option maxRecDepth 100000 in
set_option maxHeartbeats 4000000 in
theorem t_X12_copiesOf {d : Nat} {x1 : Int32} {M : zMem} {K : zK} 
    (T : S_X12_copiesOf_4 (d + 1) x1 0 0 M K) : S_X12_copiesOf (d + 1) x1 M K := by
  show zV m_X12_copiesOf (d + 1) 0 [(0, .ref 229), (1, .int x1)] [] M K
  refine zr_iconst (v := 0) dX12_copiesOf_0 (by decide) ?_
  refine zr_istore_n dX12_copiesOf_1 rfl (by decide) (L2 := [(2, .int 0), (0, .ref 229), (1, .int x1)]) rfl ?_
  refine zr_iconst (v := 0) dX12_copiesOf_2 (by decide) ?_
  refine zr_istore_n dX12_copiesOf_3 rfl (by decide) (L2 := [(3, .int 0), (2, .int 0), (0, .ref 229), (1, .int x1)]) rfl ?_
  exact zV.pick [2, 3, 1, 0] rfl T
set_option maxRecDepth 100000 in
set_option maxHeartbeats 4000000 in
theorem t_X12_copiesOf_4 {d : Nat} {x1 : Int32} {x2 : Int32} {x3 : Int32} {M : zMem} {K : zK} 
    (T : ((M.1 231 1) ≤ x3 → K (some (.int x2)) M) ∧ (¬ ((M.1 231 1) ≤ x3) → S_X12_hasEntry d x3 x1 M (zB (fun r22 M23 => (r22 = false → S_X12_copiesOf_4 (d + 1) x1 x2 (x3 + 1) M23 K) ∧ (r22 = true → S_X12_copiesOf_4 (d + 1) x1 (x2 + 1) (x3 + 1) M23 K))))) : S_X12_copiesOf_4 (d + 1) x1 x2 x3 M K := by
  show zV m_X12_copiesOf (d + 1) 4 [(0, .ref 229), (1, .int x1), (2, .int x2), (3, .int x3)] [] M K
  refine zr_iload_n dX12_copiesOf_4 rfl 3 rfl ?_
  refine zr_aload_n dX12_copiesOf_5 rfl 0 rfl ?_
  refine zm_getr (a := 231) dX12_copiesOf_6 f_X12_98 (by decide) (by decide) (by decide) (by decide) ?_
  refine zr_iconst (v := 1) dX12_copiesOf_9 (by decide) ?_
  refine zm_iald (n := 647) (o := 1) dX12_copiesOf_10 (by decide) (by decide) (zin (by decide)) (by decide) ?_
  refine zr_icmp_ge (tgt := 32) dX12_copiesOf_11 (by decide) (fun h21 => ?_) (fun h21 => ?_)
  · have T := T.1 h21
    refine zr_iload_n dX12_copiesOf_32 rfl 2 rfl ?_
    exact zm_iret dX12_copiesOf_33 rfl T
  · have T := T.2 h21
    refine zr_aload_n dX12_copiesOf_14 rfl 0 rfl ?_
    refine zr_iload_n dX12_copiesOf_15 rfl 3 rfl ?_
    refine zr_iload_n dX12_copiesOf_16 rfl 1 rfl ?_
    refine zm_callV_b (c := 12) (b := 229) dX12_copiesOf_17 w_X12_hasEntry l_X12_294 rfl (by decide) (by decide) s_X12_hasEntry [.int x3, .int x1] rfl rfl (Nat.le_of_ble_eq_true rfl) (Nat.le_of_ble_eq_true rfl) ?_
    refine zV.post T ?_
    rintro v M23 ⟨r22, rfl, T⟩
    refine ⟨r22, rfl, ?_⟩
    refine zm_ifb_eq (tgt := 26) dX12_copiesOf_20 (by decide) (fun h24 => ?_) (fun h24 => ?_)
    · have T := T.1 h24
      refine zr_iinc (n := 3) (v := x3 + 1) dX12_copiesOf_26 rfl rfl (by decide) (L2 := [(3, .int (x3 + 1)), (0, .ref 229), (1, .int x1), (2, .int x2)]) rfl ?_
      refine zr_goto (tgt := 4) dX12_copiesOf_29 (by decide) ?_
      exact zV.pick [1, 2, 3, 0] rfl T
    · have T := T.2 h24
      refine zr_iinc (n := 2) (v := x2 + 1) dX12_copiesOf_23 rfl rfl (by decide) (L2 := [(2, .int (x2 + 1)), (0, .ref 229), (1, .int x1), (3, .int x3)]) rfl ?_
      refine zr_iinc (n := 3) (v := x3 + 1) dX12_copiesOf_26 rfl rfl (by decide) (L2 := [(3, .int (x3 + 1)), (2, .int (x2 + 1)), (0, .ref 229), (1, .int x1)]) rfl ?_
      refine zr_goto (tgt := 4) dX12_copiesOf_29 (by decide) ?_
      exact zV.pick [2, 3, 1, 0] rfl T
set_option maxRecDepth 100000 in
set_option maxHeartbeats 4000000 in
theorem t_X12_latestOf {d : Nat} {x1 : Int32} {M : zMem} {K : zK} 
    (T : S_X12_latestOf_4 (d + 1) x1 0 0 M K) : S_X12_latestOf (d + 1) x1 M K := by
  show zV m_X12_latestOf (d + 1) 0 [(0, .ref 229), (1, .int x1)] [] M K
  refine zr_iconst (v := 0) dX12_latestOf_0 (by decide) ?_
  refine zr_istore_n dX12_latestOf_1 rfl (by decide) (L2 := [(2, .int 0), (0, .ref 229), (1, .int x1)]) rfl ?_
  refine zr_iconst (v := 0) dX12_latestOf_2 (by decide) ?_
  refine zr_istore_n dX12_latestOf_3 rfl (by decide) (L2 := [(3, .int 0), (2, .int 0), (0, .ref 229), (1, .int x1)]) rfl ?_
  exact zV.pick [2, 3, 1, 0] rfl T
set_option maxRecDepth 100000 in
set_option maxHeartbeats 4000000 in
theorem t_X12_latestOf_4 {d : Nat} {x1 : Int32} {x2 : Int32} {x3 : Int32} {M : zMem} {K : zK} 
    (T : ((M.1 231 1) ≤ x3 → K (some (.int x2)) M) ∧ (¬ ((M.1 231 1) ≤ x3) → S_X12_at d x3 x1 M (zI (fun r22 M23 => vp_in (309 + r22) 647 ∧ (((M23.1 231 (Int32.toNatClampNeg (309 + r22))) ≤ x2 → S_X12_latestOf_4 (d + 1) x1 x2 (x3 + 1) M23 K) ∧ (¬ ((M23.1 231 (Int32.toNatClampNeg (309 + r22))) ≤ x2) → S_X12_at d x3 x1 M23 (zI (fun r26 M27 => vp_in (309 + r26) 647 ∧ (S_X12_latestOf_4 (d + 1) x1 (M27.1 231 (Int32.toNatClampNeg (309 + r26))) (x3 + 1) M27 K))))))))) : S_X12_latestOf_4 (d + 1) x1 x2 x3 M K := by
  show zV m_X12_latestOf (d + 1) 4 [(0, .ref 229), (1, .int x1), (2, .int x2), (3, .int x3)] [] M K
  refine zr_iload_n dX12_latestOf_4 rfl 3 rfl ?_
  refine zr_aload_n dX12_latestOf_5 rfl 0 rfl ?_
  refine zm_getr (a := 231) dX12_latestOf_6 f_X12_98 (by decide) (by decide) (by decide) (by decide) ?_
  refine zr_iconst (v := 1) dX12_latestOf_9 (by decide) ?_
  refine zm_iald (n := 647) (o := 1) dX12_latestOf_10 (by decide) (by decide) (zin (by decide)) (by decide) ?_
  refine zr_icmp_ge (tgt := 53) dX12_latestOf_11 (by decide) (fun h21 => ?_) (fun h21 => ?_)
  · have T := T.1 h21
    refine zr_iload_n dX12_latestOf_53 rfl 2 rfl ?_
    exact zm_iret dX12_latestOf_54 rfl T
  · have T := T.2 h21
    refine zr_aload_n dX12_latestOf_14 rfl 0 rfl ?_
    refine zm_getr (a := 231) dX12_latestOf_15 f_X12_98 (by decide) (by decide) (by decide) (by decide) ?_
    refine zr_sipush (v := 309) dX12_latestOf_18 (by decide) ?_
    refine zr_iload_n dX12_latestOf_21 rfl 3 rfl ?_
    refine zr_iload_n dX12_latestOf_22 rfl 1 rfl ?_
    refine zm_callS_i dX12_latestOf_23 w_X12_at l_X12_291 s_X12_at [.int x3, .int x1] rfl rfl (Nat.le_of_ble_eq_true rfl) (Nat.le_of_ble_eq_true rfl) ?_
    refine zV.post T ?_
    rintro v M23 ⟨r22, rfl, T⟩
    refine ⟨r22, rfl, ?_⟩
    refine zr_iadd dX12_latestOf_26 ?_
    obtain ⟨hq24, T⟩ := T
    refine zm_iald (n := 647) (o := (Int32.toNatClampNeg (309 + r22))) dX12_latestOf_27 (by decide) (by decide) hq24 rfl ?_
    refine zr_iload_n dX12_latestOf_28 rfl 2 rfl ?_
    refine zr_icmp_le (tgt := 47) dX12_latestOf_29 (by decide) (fun h25 => ?_) (fun h25 => ?_)
    · have T := T.1 h25
      refine zr_iinc (n := 3) (v := x3 + 1) dX12_latestOf_47 rfl rfl (by decide) (L2 := [(3, .int (x3 + 1)), (0, .ref 229), (1, .int x1), (2, .int x2)]) rfl ?_
      refine zr_goto (tgt := 4) dX12_latestOf_50 (by decide) ?_
      exact zV.pick [1, 2, 3, 0] rfl T
    · have T := T.2 h25
      refine zr_aload_n dX12_latestOf_32 rfl 0 rfl ?_
      refine zm_getr (a := 231) dX12_latestOf_33 f_X12_98 (by decide) (by decide) (by decide) (by decide) ?_
      refine zr_sipush (v := 309) dX12_latestOf_36 (by decide) ?_
      refine zr_iload_n dX12_latestOf_39 rfl 3 rfl ?_
      refine zr_iload_n dX12_latestOf_40 rfl 1 rfl ?_
      refine zm_callS_i dX12_latestOf_41 w_X12_at l_X12_291 s_X12_at [.int x3, .int x1] rfl rfl (Nat.le_of_ble_eq_true rfl) (Nat.le_of_ble_eq_true rfl) ?_
      refine zV.post T ?_
      rintro v M27 ⟨r26, rfl, T⟩
      refine ⟨r26, rfl, ?_⟩
      refine zr_iadd dX12_latestOf_44 ?_
      obtain ⟨hq28, T⟩ := T
      refine zm_iald (n := 647) (o := (Int32.toNatClampNeg (309 + r26))) dX12_latestOf_45 (by decide) (by decide) hq28 rfl ?_
      refine zr_istore_n dX12_latestOf_46 rfl (by decide) (L2 := [(2, .int (M27.1 231 (Int32.toNatClampNeg (309 + r26)))), (0, .ref 229), (1, .int x1), (3, .int x3)]) rfl ?_
      refine zr_iinc (n := 3) (v := x3 + 1) dX12_latestOf_47 rfl rfl (by decide) (L2 := [(3, .int (x3 + 1)), (2, .int (M27.1 231 (Int32.toNatClampNeg (309 + r26)))), (0, .ref 229), (1, .int x1)]) rfl ?_
      refine zr_goto (tgt := 4) dX12_latestOf_50 (by decide) ?_
      exact zV.pick [2, 3, 1, 0] rfl T
set_option maxRecDepth 100000 in
set_option maxHeartbeats 4000000 in
theorem t_X12_image {d : Nat} {x1 : Int32} {M : zMem} {K : zK} 
    (T : (∀ M21 : zMem, M21 = wI M 229 0 0 → S_X12_isIn d x1 0 1 M21 (zB (fun r23 M24 => (r23 = true → S_X12_image_18 (d + 1) x1 0 M24 K) ∧ (r23 = false → K (some (.int 0)) M24))))) : S_X12_image (d + 1) x1 M K := by
  show zV m_X12_image (d + 1) 0 [(0, .ref 229), (1, .int x1)] [] M K
  refine zr_aload_n dX12_image_0 rfl 0 rfl ?_
  refine zr_iconst (v := 0) dX12_image_1 (by decide) ?_
  refine zn_puti dX12_image_2 f_X12_1 (by decide) (by decide) (by decide) (fun M21 e22 => ?_)
  have T := T M21 e22
  refine zr_iload_n dX12_image_5 rfl 1 rfl ?_
  refine zr_iconst (v := 0) dX12_image_6 (by decide) ?_
  refine zr_iconst (v := 1) dX12_image_7 (by decide) ?_
  refine zm_callS_b dX12_image_8 w_X12_isIn l_X12_75 s_X12_isIn [.int x1, .int 0, .int 1] rfl rfl (Nat.le_of_ble_eq_true rfl) (Nat.le_of_ble_eq_true rfl) ?_
  refine zV.post T ?_
  rintro v M24 ⟨r23, rfl, T⟩
  refine ⟨r23, rfl, ?_⟩
  refine zm_ifb_ne (tgt := 16) dX12_image_11 (by decide) (fun h25 => ?_) (fun h25 => ?_)
  · have T := T.1 h25
    refine zr_iconst (v := 0) dX12_image_16 (by decide) ?_
    refine zr_istore_n dX12_image_17 rfl (by decide) (L2 := [(2, .int 0), (0, .ref 229), (1, .int x1)]) rfl ?_
    exact zV.pick [1, 2, 0] rfl T
  · have T := T.2 h25
    refine zr_iconst (v := 0) dX12_image_14 (by decide) ?_
    exact zm_zret dX12_image_15 rfl (by decide) T
set_option maxRecDepth 100000 in
set_option maxHeartbeats 4000000 in
theorem t_X12_image_18 {d : Nat} {x1 : Int32} {x2 : Int32} {M : zMem} {K : zK} 
    (T : (647 ≤ x2 → S_X12_image_51 (d + 1) x1 0 M K) ∧ (¬ (647 ≤ x2) → vp_in x2 647 ∧ (vp_in ((647 * x1) + x2) 1294 ∧ ((∀ M24 : zMem, M24 = wI M 233 (Int32.toNatClampNeg ((647 * x1) + x2)) (M.1 231 (Int32.toNatClampNeg x2)) → S_X12_image_18 (d + 1) x1 (x2 + 1) M24 K))))) : S_X12_image_18 (d + 1) x1 x2 M K := by
  show zV m_X12_image (d + 1) 18 [(0, .ref 229), (1, .int x1), (2, .int x2)] [] M K
  refine zr_iload_n dX12_image_18 rfl 2 rfl ?_
  refine zr_sipush (v := 647) dX12_image_19 (by decide) ?_
  refine zr_icmp_ge (tgt := 49) dX12_image_22 (by decide) (fun h21 => ?_) (fun h21 => ?_)
  · have T := T.1 h21
    refine zr_iconst (v := 0) dX12_image_49 (by decide) ?_
    refine zr_istore_n dX12_image_50 rfl (by decide) (L2 := [(2, .int 0), (0, .ref 229), (1, .int x1)]) rfl ?_
    exact zV.pick [1, 2, 0] rfl T
  · have T := T.2 h21
    refine zr_aload_n dX12_image_25 rfl 0 rfl ?_
    refine zm_getr (a := 233) dX12_image_26 f_X12_104 (by decide) (by decide) (by decide) (by decide) ?_
    refine zr_sipush (v := 647) dX12_image_29 (by decide) ?_
    refine zr_iload_n dX12_image_32 rfl 1 rfl ?_
    refine zr_imul dX12_image_33 ?_
    refine zr_iload_n dX12_image_34 rfl 2 rfl ?_
    refine zr_iadd dX12_image_35 ?_
    refine zr_aload_n dX12_image_36 rfl 0 rfl ?_
    refine zm_getr (a := 231) dX12_image_37 f_X12_98 (by decide) (by decide) (by decide) (by decide) ?_
    refine zr_iload_n dX12_image_40 rfl 2 rfl ?_
    obtain ⟨hq22, T⟩ := T
    refine zm_iald (n := 647) (o := (Int32.toNatClampNeg x2)) dX12_image_41 (by decide) (by decide) hq22 rfl ?_
    obtain ⟨hq23, T⟩ := T
    refine zn_iast (n := 1294) (o := (Int32.toNatClampNeg ((647 * x1) + x2))) dX12_image_42 (by decide) (by decide) hq23 rfl (fun M24 e25 => ?_)
    have T := T M24 e25
    refine zr_iinc (n := 2) (v := x2 + 1) dX12_image_43 rfl rfl (by decide) (L2 := [(2, .int (x2 + 1)), (0, .ref 229), (1, .int x1)]) rfl ?_
    refine zr_goto (tgt := 18) dX12_image_46 (by decide) ?_
    exact zV.pick [1, 2, 0] rfl T
set_option maxRecDepth 100000 in
set_option maxHeartbeats 4000000 in
theorem t_X12_image_51 {d : Nat} {x1 : Int32} {x2 : Int32} {M : zMem} {K : zK} 
    (T : (28 ≤ x2 → vp_in x1 2 ∧ ((∀ M23 : zMem, M23 = wI M 240 (Int32.toNatClampNeg x1) 1 → K (some (.int 1)) M23))) ∧ (¬ (28 ≤ x2) → vp_in x2 28 ∧ (vp_in ((28 * x1) + x2) 56 ∧ ((∀ M27 : zMem, M27 = wL M 239 (Int32.toNatClampNeg ((28 * x1) + x2)) (M.2 237 (Int32.toNatClampNeg x2)) → S_X12_image_51 (d + 1) x1 (x2 + 1) M27 K))))) : S_X12_image_51 (d + 1) x1 x2 M K := by
  show zV m_X12_image (d + 1) 51 [(0, .ref 229), (1, .int x1), (2, .int x2)] [] M K
  refine zr_iload_n dX12_image_51 rfl 2 rfl ?_
  refine zr_bipush (v := 28) dX12_image_52 (by decide) ?_
  refine zr_icmp_ge (tgt := 80) dX12_image_54 (by decide) (fun h21 => ?_) (fun h21 => ?_)
  · have T := T.1 h21
    refine zr_aload_n dX12_image_80 rfl 0 rfl ?_
    refine zm_getr (a := 240) dX12_image_81 f_X12_126 (by decide) (by decide) (by decide) (by decide) ?_
    refine zr_iload_n dX12_image_84 rfl 1 rfl ?_
    refine zr_iconst (v := 1) dX12_image_85 (by decide) ?_
    obtain ⟨hq22, T⟩ := T
    refine zn_zast (n := 2) (o := (Int32.toNatClampNeg x1)) dX12_image_86 (by decide) (by decide) hq22 rfl (by decide) (fun M23 e24 => ?_)
    have T := T M23 e24
    refine zr_iconst (v := 1) dX12_image_87 (by decide) ?_
    exact zm_zret dX12_image_88 rfl (by decide) T
  · have T := T.2 h21
    refine zr_aload_n dX12_image_57 rfl 0 rfl ?_
    refine zm_getr (a := 239) dX12_image_58 f_X12_123 (by decide) (by decide) (by decide) (by decide) ?_
    refine zr_bipush (v := 28) dX12_image_61 (by decide) ?_
    refine zr_iload_n dX12_image_63 rfl 1 rfl ?_
    refine zr_imul dX12_image_64 ?_
    refine zr_iload_n dX12_image_65 rfl 2 rfl ?_
    refine zr_iadd dX12_image_66 ?_
    refine zr_aload_n dX12_image_67 rfl 0 rfl ?_
    refine zm_getr (a := 237) dX12_image_68 f_X12_116 (by decide) (by decide) (by decide) (by decide) ?_
    refine zr_iload_n dX12_image_71 rfl 2 rfl ?_
    obtain ⟨hq25, T⟩ := T
    refine zm_lald (n := 28) (o := (Int32.toNatClampNeg x2)) dX12_image_72 (by decide) (by decide) hq25 rfl ?_
    obtain ⟨hq26, T⟩ := T
    refine zn_last (n := 56) (o := (Int32.toNatClampNeg ((28 * x1) + x2))) dX12_image_73 (by decide) (by decide) hq26 rfl (fun M27 e28 => ?_)
    have T := T M27 e28
    refine zr_iinc (n := 2) (v := x2 + 1) dX12_image_74 rfl rfl (by decide) (L2 := [(2, .int (x2 + 1)), (0, .ref 229), (1, .int x1)]) rfl ?_
    refine zr_goto (tgt := 51) dX12_image_77 (by decide) ?_
    exact zV.pick [1, 2, 0] rfl T
set_option maxRecDepth 100000 in
set_option maxHeartbeats 4000000 in
theorem t_X12_restore {d : Nat} {x1 : Int32} {M : zMem} {K : zK} 
    (T : (∀ M21 : zMem, M21 = wI M 229 0 0 → S_X12_isIn d x1 0 1 M21 (zB (fun r23 M24 => (r23 = false → K (some (.int 0)) M24) ∧ (r23 = true → vp_in x1 2 ∧ ((¬ (M24.1 240 (Int32.toNatClampNeg x1)) = 0 → S_X12_restore_27 (d + 1) x1 0 M24 K) ∧ ((M24.1 240 (Int32.toNatClampNeg x1)) = 0 → K (some (.int 0)) M24))))))) : S_X12_restore (d + 1) x1 M K := by
  show zV m_X12_restore (d + 1) 0 [(0, .ref 229), (1, .int x1)] [] M K
  refine zr_aload_n dX12_restore_0 rfl 0 rfl ?_
  refine zr_iconst (v := 0) dX12_restore_1 (by decide) ?_
  refine zn_puti dX12_restore_2 f_X12_1 (by decide) (by decide) (by decide) (fun M21 e22 => ?_)
  have T := T M21 e22
  refine zr_iload_n dX12_restore_5 rfl 1 rfl ?_
  refine zr_iconst (v := 0) dX12_restore_6 (by decide) ?_
  refine zr_iconst (v := 1) dX12_restore_7 (by decide) ?_
  refine zm_callS_b dX12_restore_8 w_X12_isIn l_X12_75 s_X12_isIn [.int x1, .int 0, .int 1] rfl rfl (Nat.le_of_ble_eq_true rfl) (Nat.le_of_ble_eq_true rfl) ?_
  refine zV.post T ?_
  rintro v M24 ⟨r23, rfl, T⟩
  refine ⟨r23, rfl, ?_⟩
  refine zm_ifb_eq (tgt := 23) dX12_restore_11 (by decide) (fun h25 => ?_) (fun h25 => ?_)
  · have T := T.1 h25
    refine zr_iconst (v := 0) dX12_restore_23 (by decide) ?_
    exact zm_zret dX12_restore_24 rfl (by decide) T
  · have T := T.2 h25
    refine zr_aload_n dX12_restore_14 rfl 0 rfl ?_
    refine zm_getr (a := 240) dX12_restore_15 f_X12_126 (by decide) (by decide) (by decide) (by decide) ?_
    refine zr_iload_n dX12_restore_18 rfl 1 rfl ?_
    obtain ⟨hq26, T⟩ := T
    refine zm_zald (n := 2) (o := (Int32.toNatClampNeg x1)) dX12_restore_19 (by decide) (by decide) hq26 rfl ?_
    refine zr_if_ne (tgt := 25) dX12_restore_20 (by decide) (fun h27 => ?_) (fun h27 => ?_)
    · have T := T.1 h27
      refine zr_iconst (v := 0) dX12_restore_25 (by decide) ?_
      refine zr_istore_n dX12_restore_26 rfl (by decide) (L2 := [(2, .int 0), (0, .ref 229), (1, .int x1)]) rfl ?_
      exact zV.pick [1, 2, 0] rfl T
    · have T := T.2 h27
      refine zr_iconst (v := 0) dX12_restore_23 (by decide) ?_
      exact zm_zret dX12_restore_24 rfl (by decide) T
set_option maxRecDepth 100000 in
set_option maxHeartbeats 4000000 in
theorem t_X12_restore_27 {d : Nat} {x1 : Int32} {x2 : Int32} {M : zMem} {K : zK} 
    (T : (647 ≤ x2 → S_X12_restore_60 (d + 1) x1 0 M K) ∧ (¬ (647 ≤ x2) → vp_in ((647 * x1) + x2) 1294 ∧ (vp_in x2 647 ∧ ((∀ M24 : zMem, M24 = wI M 231 (Int32.toNatClampNeg x2) (M.1 233 (Int32.toNatClampNeg ((647 * x1) + x2))) → S_X12_restore_27 (d + 1) x1 (x2 + 1) M24 K))))) : S_X12_restore_27 (d + 1) x1 x2 M K := by
  show zV m_X12_restore (d + 1) 27 [(0, .ref 229), (1, .int x1), (2, .int x2)] [] M K
  refine zr_iload_n dX12_restore_27 rfl 2 rfl ?_
  refine zr_sipush (v := 647) dX12_restore_28 (by decide) ?_
  refine zr_icmp_ge (tgt := 58) dX12_restore_31 (by decide) (fun h21 => ?_) (fun h21 => ?_)
  · have T := T.1 h21
    refine zr_iconst (v := 0) dX12_restore_58 (by decide) ?_
    refine zr_istore_n dX12_restore_59 rfl (by decide) (L2 := [(2, .int 0), (0, .ref 229), (1, .int x1)]) rfl ?_
    exact zV.pick [1, 2, 0] rfl T
  · have T := T.2 h21
    refine zr_aload_n dX12_restore_34 rfl 0 rfl ?_
    refine zm_getr (a := 231) dX12_restore_35 f_X12_98 (by decide) (by decide) (by decide) (by decide) ?_
    refine zr_iload_n dX12_restore_38 rfl 2 rfl ?_
    refine zr_aload_n dX12_restore_39 rfl 0 rfl ?_
    refine zm_getr (a := 233) dX12_restore_40 f_X12_104 (by decide) (by decide) (by decide) (by decide) ?_
    refine zr_sipush (v := 647) dX12_restore_43 (by decide) ?_
    refine zr_iload_n dX12_restore_46 rfl 1 rfl ?_
    refine zr_imul dX12_restore_47 ?_
    refine zr_iload_n dX12_restore_48 rfl 2 rfl ?_
    refine zr_iadd dX12_restore_49 ?_
    obtain ⟨hq22, T⟩ := T
    refine zm_iald (n := 1294) (o := (Int32.toNatClampNeg ((647 * x1) + x2))) dX12_restore_50 (by decide) (by decide) hq22 rfl ?_
    obtain ⟨hq23, T⟩ := T
    refine zn_iast (n := 647) (o := (Int32.toNatClampNeg x2)) dX12_restore_51 (by decide) (by decide) hq23 rfl (fun M24 e25 => ?_)
    have T := T M24 e25
    refine zr_iinc (n := 2) (v := x2 + 1) dX12_restore_52 rfl rfl (by decide) (L2 := [(2, .int (x2 + 1)), (0, .ref 229), (1, .int x1)]) rfl ?_
    refine zr_goto (tgt := 27) dX12_restore_55 (by decide) ?_
    exact zV.pick [1, 2, 0] rfl T
set_option maxRecDepth 100000 in
set_option maxHeartbeats 4000000 in
theorem t_X12_restore_60 {d : Nat} {x1 : Int32} {x2 : Int32} {M : zMem} {K : zK} 
    (T : (28 ≤ x2 → S_X12_layKeys d  M (zU (fun M23 => (∀ M24 : zMem, M24 = wI M23 229 25 0 → K (some (.int 1)) M24)))) ∧ (¬ (28 ≤ x2) → vp_in ((28 * x1) + x2) 56 ∧ (vp_in x2 28 ∧ ((∀ M28 : zMem, M28 = wL M 237 (Int32.toNatClampNeg x2) (M.2 239 (Int32.toNatClampNeg ((28 * x1) + x2))) → S_X12_restore_60 (d + 1) x1 (x2 + 1) M28 K))))) : S_X12_restore_60 (d + 1) x1 x2 M K := by
  show zV m_X12_restore (d + 1) 60 [(0, .ref 229), (1, .int x1), (2, .int x2)] [] M K
  refine zr_iload_n dX12_restore_60 rfl 2 rfl ?_
  refine zr_bipush (v := 28) dX12_restore_61 (by decide) ?_
  refine zr_icmp_ge (tgt := 89) dX12_restore_63 (by decide) (fun h21 => ?_) (fun h21 => ?_)
  · have T := T.1 h21
    refine zr_aload_n dX12_restore_89 rfl 0 rfl ?_
    refine zm_callV_v (c := 12) (b := 229) dX12_restore_90 w_X12_layKeys l_X12_199 rfl (by decide) (by decide) s_X12_layKeys [] rfl rfl (Nat.le_of_ble_eq_true rfl) (Nat.le_of_ble_eq_true rfl) ?_
    refine zV.post T ?_
    rintro v M23 ⟨rfl, T⟩
    refine ⟨rfl, ?_⟩
    refine zr_aload_n dX12_restore_93 rfl 0 rfl ?_
    refine zr_iconst (v := 0) dX12_restore_94 (by decide) ?_
    refine zn_puti dX12_restore_95 f_X12_263 (by decide) (by decide) (by decide) (fun M24 e25 => ?_)
    have T := T M24 e25
    refine zr_iconst (v := 1) dX12_restore_98 (by decide) ?_
    exact zm_zret dX12_restore_99 rfl (by decide) T
  · have T := T.2 h21
    refine zr_aload_n dX12_restore_66 rfl 0 rfl ?_
    refine zm_getr (a := 237) dX12_restore_67 f_X12_116 (by decide) (by decide) (by decide) (by decide) ?_
    refine zr_iload_n dX12_restore_70 rfl 2 rfl ?_
    refine zr_aload_n dX12_restore_71 rfl 0 rfl ?_
    refine zm_getr (a := 239) dX12_restore_72 f_X12_123 (by decide) (by decide) (by decide) (by decide) ?_
    refine zr_bipush (v := 28) dX12_restore_75 (by decide) ?_
    refine zr_iload_n dX12_restore_77 rfl 1 rfl ?_
    refine zr_imul dX12_restore_78 ?_
    refine zr_iload_n dX12_restore_79 rfl 2 rfl ?_
    refine zr_iadd dX12_restore_80 ?_
    obtain ⟨hq26, T⟩ := T
    refine zm_lald (n := 56) (o := (Int32.toNatClampNeg ((28 * x1) + x2))) dX12_restore_81 (by decide) (by decide) hq26 rfl ?_
    obtain ⟨hq27, T⟩ := T
    refine zn_last (n := 28) (o := (Int32.toNatClampNeg x2)) dX12_restore_82 (by decide) (by decide) hq27 rfl (fun M28 e29 => ?_)
    have T := T M28 e29
    refine zr_iinc (n := 2) (v := x2 + 1) dX12_restore_83 rfl rfl (by decide) (L2 := [(2, .int (x2 + 1)), (0, .ref 229), (1, .int x1)]) rfl ?_
    refine zr_goto (tgt := 60) dX12_restore_86 (by decide) ?_
    exact zV.pick [1, 2, 0] rfl T
set_option maxRecDepth 100000 in
set_option maxHeartbeats 4000000 in
theorem t_X12_count {d : Nat} {x1 : Int32} {M : zMem} {K : zK} 
    (T : (∀ M21 : zMem, M21 = wI M 229 0 0 → (x1 = 0 → K (some (.int (M21.1 231 0))) M21) ∧ (x1 = 1 → K (some (.int (M21.1 231 1))) M21) ∧ (x1 = 2 → K (some (.int (M21.1 231 2))) M21) ∧ (x1 = 3 → K (some (.int (M21.1 231 3))) M21) ∧ (x1 = 4 → K (some (.int (M21.1 231 4))) M21) ∧ (x1 = 5 → K (some (.int (M21.1 229 2))) M21) ∧ (¬ x1 = 0 → ¬ x1 = 1 → ¬ x1 = 2 → ¬ x1 = 3 → ¬ x1 = 4 → ¬ x1 = 5 → K (some (.int (-1))) M21))) : S_X12_count d x1 M K := by
  show zV m_X12_count d 0 [(0, .ref 229), (1, .int x1)] [] M K
  refine zr_aload_n dX12_count_0 rfl 0 rfl ?_
  refine zr_iconst (v := 0) dX12_count_1 (by decide) ?_
  refine zn_puti dX12_count_2 f_X12_1 (by decide) (by decide) (by decide) (fun M21 e22 => ?_)
  have T := T M21 e22
  refine zr_iload_n dX12_count_5 rfl 1 rfl ?_
  by_cases h23 : x1 = 0
  · have T := T.1 h23
    refine zr_tableIn (tgt := 44) dX12_count_6 (by rw [h23]; decide) (by rw [h23]; decide) (by rw [h23]; rfl) (by decide) ?_
    refine zr_aload_n dX12_count_44 rfl 0 rfl ?_
    refine zm_getr (a := 231) dX12_count_45 f_X12_98 (by decide) (by decide) (by decide) (by decide) ?_
    refine zr_iconst (v := 0) dX12_count_48 (by decide) ?_
    refine zm_iald (n := 647) (o := 0) dX12_count_49 (by decide) (by decide) (zin (by decide)) (by decide) ?_
    exact zm_iret dX12_count_50 rfl T
  by_cases h24 : x1 = 1
  · have T := T.2.1 h24
    refine zr_tableIn (tgt := 51) dX12_count_6 (by rw [h24]; decide) (by rw [h24]; decide) (by rw [h24]; rfl) (by decide) ?_
    refine zr_aload_n dX12_count_51 rfl 0 rfl ?_
    refine zm_getr (a := 231) dX12_count_52 f_X12_98 (by decide) (by decide) (by decide) (by decide) ?_
    refine zr_iconst (v := 1) dX12_count_55 (by decide) ?_
    refine zm_iald (n := 647) (o := 1) dX12_count_56 (by decide) (by decide) (zin (by decide)) (by decide) ?_
    exact zm_iret dX12_count_57 rfl T
  by_cases h25 : x1 = 2
  · have T := T.2.2.1 h25
    refine zr_tableIn (tgt := 58) dX12_count_6 (by rw [h25]; decide) (by rw [h25]; decide) (by rw [h25]; rfl) (by decide) ?_
    refine zr_aload_n dX12_count_58 rfl 0 rfl ?_
    refine zm_getr (a := 231) dX12_count_59 f_X12_98 (by decide) (by decide) (by decide) (by decide) ?_
    refine zr_iconst (v := 2) dX12_count_62 (by decide) ?_
    refine zm_iald (n := 647) (o := 2) dX12_count_63 (by decide) (by decide) (zin (by decide)) (by decide) ?_
    exact zm_iret dX12_count_64 rfl T
  by_cases h26 : x1 = 3
  · have T := T.2.2.2.1 h26
    refine zr_tableIn (tgt := 65) dX12_count_6 (by rw [h26]; decide) (by rw [h26]; decide) (by rw [h26]; rfl) (by decide) ?_
    refine zr_aload_n dX12_count_65 rfl 0 rfl ?_
    refine zm_getr (a := 231) dX12_count_66 f_X12_98 (by decide) (by decide) (by decide) (by decide) ?_
    refine zr_iconst (v := 3) dX12_count_69 (by decide) ?_
    refine zm_iald (n := 647) (o := 3) dX12_count_70 (by decide) (by decide) (zin (by decide)) (by decide) ?_
    exact zm_iret dX12_count_71 rfl T
  by_cases h27 : x1 = 4
  · have T := T.2.2.2.2.1 h27
    refine zr_tableIn (tgt := 72) dX12_count_6 (by rw [h27]; decide) (by rw [h27]; decide) (by rw [h27]; rfl) (by decide) ?_
    refine zr_aload_n dX12_count_72 rfl 0 rfl ?_
    refine zm_getr (a := 231) dX12_count_73 f_X12_98 (by decide) (by decide) (by decide) (by decide) ?_
    refine zr_iconst (v := 4) dX12_count_76 (by decide) ?_
    refine zm_iald (n := 647) (o := 4) dX12_count_77 (by decide) (by decide) (zin (by decide)) (by decide) ?_
    exact zm_iret dX12_count_78 rfl T
  by_cases h28 : x1 = 5
  · have T := T.2.2.2.2.2.1 h28
    refine zr_tableIn (tgt := 79) dX12_count_6 (by rw [h28]; decide) (by rw [h28]; decide) (by rw [h28]; rfl) (by decide) ?_
    refine zr_aload_n dX12_count_79 rfl 0 rfl ?_
    refine zm_geti dX12_count_80 f_X12_11 (by decide) (by decide) (by decide) ?_
    exact zm_iret dX12_count_83 rfl T
  · have T := T.2.2.2.2.2.2 h23 h24 h25 h26 h27 h28
    refine zr_tableOut (tgt := 84) dX12_count_6 (z_out_0_5 h23 h24 h25 h26 h27 h28) (by decide) ?_
    refine zr_iconst (v := (-1)) dX12_count_84 (by decide) ?_
    exact zm_iret dX12_count_85 rfl T
