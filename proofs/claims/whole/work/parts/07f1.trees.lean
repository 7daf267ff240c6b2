set_option maxRecDepth 100000 in
set_option maxHeartbeats 4000000 in
theorem t_X12_hasEntry {d : Nat} {x1 : Int32} {x2 : Int32} {M : zMem} {K : zK} 
    (T : S_X12_at d x1 x2 M (zI (fun r21 M22 => vp_in (309 + r21) 647 ∧ (((M22.1 231 (Int32.toNatClampNeg (309 + r21))) ≤ 0 → K (some (.int 0)) M22) ∧ (¬ ((M22.1 231 (Int32.toNatClampNeg (309 + r21))) ≤ 0) → K (some (.int 1)) M22))))) : S_X12_hasEntry (d + 1) x1 x2 M K := by
  show zV m_X12_hasEntry (d + 1) 0 [(0, .ref 229), (1, .int x1), (2, .int x2)] [] M K
  refine zr_aload_n dX12_hasEntry_0 rfl 0 rfl ?_
  refine zm_getr (a := 231) dX12_hasEntry_1 f_X12_98 (by decide) (by decide) (by decide) (by decide) ?_
  refine zr_sipush (v := 309) dX12_hasEntry_4 (by decide) ?_
  refine zr_iload_n dX12_hasEntry_7 rfl 1 rfl ?_
  refine zr_iload_n dX12_hasEntry_8 rfl 2 rfl ?_
  refine zm_callS_i dX12_hasEntry_9 w_X12_at l_X12_291 s_X12_at [.int x1, .int x2] rfl rfl (Nat.le_of_ble_eq_true rfl) (Nat.le_of_ble_eq_true rfl) ?_
  refine zV.post T ?_
  rintro v M22 ⟨r21, rfl, T⟩
  refine ⟨r21, rfl, ?_⟩
  refine zr_iadd dX12_hasEntry_12 ?_
  obtain ⟨hq23, T⟩ := T
  refine zm_iald (n := 647) (o := (Int32.toNatClampNeg (309 + r21))) dX12_hasEntry_13 (by decide) (by decide) hq23 rfl ?_
  refine zr_if_le (tgt := 21) dX12_hasEntry_14 (by decide) (fun h24 => ?_) (fun h24 => ?_)
  · have T := T.1 h24
    refine zr_iconst (v := 0) dX12_hasEntry_21 (by decide) ?_
    exact zm_zret dX12_hasEntry_22 rfl (by decide) T
  · have T := T.2 h24
    refine zr_iconst (v := 1) dX12_hasEntry_17 (by decide) ?_
    refine zr_goto (tgt := 22) dX12_hasEntry_18 (by decide) ?_
    exact zm_zret dX12_hasEntry_22 rfl (by decide) T
set_option maxRecDepth 100000 in
set_option maxHeartbeats 4000000 in
theorem t_X12_at {d : Nat} {x0 : Int32} {x1 : Int32} {M : zMem} {K : zK} 
    (T : K (some (.int ((24 * x0) + x1))) M) : S_X12_at d x0 x1 M K := by
  show zV m_X12_at d 0 [(0, .int x0), (1, .int x1)] [] M K
  refine zr_bipush (v := 24) dX12_at_0 (by decide) ?_
  refine zr_iload_n dX12_at_2 rfl 0 rfl ?_
  refine zr_imul dX12_at_3 ?_
  refine zr_iload_n dX12_at_4 rfl 1 rfl ?_
  refine zr_iadd dX12_at_5 ?_
  exact zm_iret dX12_at_6 rfl T
set_option maxRecDepth 100000 in
set_option maxHeartbeats 4000000 in
theorem t_X12_digest {d : Nat} {x1 : Int32} {M : zMem} {K : zK} 
    (T : (∀ M21 : zMem, M21 = wI M 229 0 0 → S_X12_isKey d x1 M21 (zB (fun r23 M24 => (r23 = false → S_X12_refuse d  M24 (zI (fun r26 M27 => K (some (.int r26)) M27))) ∧ (r23 = true → vp_in x1 24 ∧ (K (some (.int (M24.1 242 (Int32.toNatClampNeg x1)))) M24)))))) : S_X12_digest (d + 1) x1 M K := by
  show zV m_X12_digest (d + 1) 0 [(0, .ref 229), (1, .int x1)] [] M K
  refine zr_aload_n dX12_digest_0 rfl 0 rfl ?_
  refine zr_iconst (v := 0) dX12_digest_1 (by decide) ?_
  refine zn_puti dX12_digest_2 f_X12_1 (by decide) (by decide) (by decide) (fun M21 e22 => ?_)
  have T := T M21 e22
  refine zr_aload_n dX12_digest_5 rfl 0 rfl ?_
  refine zr_iload_n dX12_digest_6 rfl 1 rfl ?_
  refine zm_callV_b (c := 12) (b := 229) dX12_digest_7 w_X12_isKey l_X12_326 rfl (by decide) (by decide) s_X12_isKey [.int x1] rfl rfl (Nat.le_of_ble_eq_true rfl) (Nat.le_of_ble_eq_true rfl) ?_
  refine zV.post T ?_
  rintro v M24 ⟨r23, rfl, T⟩
  refine ⟨r23, rfl, ?_⟩
  refine zm_ifb_eq (tgt := 22) dX12_digest_10 (by decide) (fun h25 => ?_) (fun h25 => ?_)
  · have T := T.1 h25
    refine zr_aload_n dX12_digest_22 rfl 0 rfl ?_
    refine zm_callV_i (c := 12) (b := 229) dX12_digest_23 w_X12_refuse l_X12_329 rfl (by decide) (by decide) s_X12_refuse [] rfl rfl (Nat.le_of_ble_eq_true rfl) (Nat.le_of_ble_eq_true rfl) ?_
    refine zV.post T ?_
    rintro v M27 ⟨r26, rfl, T⟩
    refine ⟨r26, rfl, ?_⟩
    exact zm_iret dX12_digest_26 rfl T
  · have T := T.2 h25
    refine zr_aload_n dX12_digest_13 rfl 0 rfl ?_
    refine zm_getr (a := 242) dX12_digest_14 f_X12_136 (by decide) (by decide) (by decide) (by decide) ?_
    refine zr_iload_n dX12_digest_17 rfl 1 rfl ?_
    obtain ⟨hq28, T⟩ := T
    refine zm_iald (n := 24) (o := (Int32.toNatClampNeg x1)) dX12_digest_18 (by decide) (by decide) hq28 rfl ?_
    refine zr_goto (tgt := 26) dX12_digest_19 (by decide) ?_
    exact zm_iret dX12_digest_26 rfl T
set_option maxRecDepth 100000 in
set_option maxHeartbeats 4000000 in
theorem t_X12_refuse {d : Nat}  {M : zMem} {K : zK} 
    (T : (∀ M21 : zMem, M21 = wI M 229 0 1 → K (some (.int 0)) M21)) : S_X12_refuse d  M K := by
  show zV m_X12_refuse d 0 [(0, .ref 229)] [] M K
  refine zr_aload_n dX12_refuse_0 rfl 0 rfl ?_
  refine zr_iconst (v := 1) dX12_refuse_1 (by decide) ?_
  refine zn_puti dX12_refuse_2 f_X12_1 (by decide) (by decide) (by decide) (fun M21 e22 => ?_)
  have T := T M21 e22
  refine zr_iconst (v := 0) dX12_refuse_5 (by decide) ?_
  exact zm_iret dX12_refuse_6 rfl T
set_option maxRecDepth 100000 in
set_option maxHeartbeats 4000000 in
theorem t_X12_peer {d : Nat} {x1 : Int32} {x2 : Int32} {M : zMem} {K : zK} 
    (T : (∀ M21 : zMem, M21 = wI M 229 0 0 → S_X12_isPeer d x1 M21 (zB (fun r23 M24 => (r23 = true → S_X12_layTree d 0 x1 M24 (zI (fun r26 M27 => (x2 = 0 → S_X12_entriesOf d x1 M27 (zI (fun r28 M29 => K (some (.int r28)) M29))) ∧ (x2 = 1 → S_X12_goneOf d x1 M27 (zI (fun r30 M31 => K (some (.int r30)) M31))) ∧ (x2 = 2 → K (some (.int (M27.1 246 0))) M27) ∧ (x2 = 3 → (¬ (M27.1 246 0) = 0 → K (some (.int (M27.1 247 0))) M27) ∧ ((M27.1 246 0) = 0 → K (some (.int (-1))) M27)) ∧ (x2 = 4 → vp_in (205 + x1) 647 ∧ (K (some (.int (M27.1 231 (Int32.toNatClampNeg (205 + x1))))) M27)) ∧ (x2 = 5 → S_X12_rootsLike d x1 M27 (zI (fun r34 M35 => K (some (.int r34)) M35))) ∧ (x2 = 6 → vp_in (209 + x1) 647 ∧ (K (some (.int (M27.1 231 (Int32.toNatClampNeg (209 + x1))))) M27)) ∧ (¬ x2 = 0 → ¬ x2 = 1 → ¬ x2 = 2 → ¬ x2 = 3 → ¬ x2 = 4 → ¬ x2 = 5 → ¬ x2 = 6 → K (some (.int (-1))) M27)))) ∧ (r23 = false → K (some (.int (-1))) M24))))) : S_X12_peer (d + 1) x1 x2 M K := by
  show zV m_X12_peer (d + 1) 0 [(0, .ref 229), (1, .int x1), (2, .int x2)] [] M K
  refine zr_aload_n dX12_peer_0 rfl 0 rfl ?_
  refine zr_iconst (v := 0) dX12_peer_1 (by decide) ?_
  refine zn_puti dX12_peer_2 f_X12_1 (by decide) (by decide) (by decide) (fun M21 e22 => ?_)
  have T := T M21 e22
  refine zr_aload_n dX12_peer_5 rfl 0 rfl ?_
  refine zr_iload_n dX12_peer_6 rfl 1 rfl ?_
  refine zm_callV_b (c := 12) (b := 229) dX12_peer_7 w_X12_isPeer l_X12_288 rfl (by decide) (by decide) s_X12_isPeer [.int x1] rfl rfl (Nat.le_of_ble_eq_true rfl) (Nat.le_of_ble_eq_true rfl) ?_
  refine zV.post T ?_
  rintro v M24 ⟨r23, rfl, T⟩
  refine ⟨r23, rfl, ?_⟩
  refine zm_ifb_ne (tgt := 15) dX12_peer_10 (by decide) (fun h25 => ?_) (fun h25 => ?_)
  · have T := T.1 h25
    refine zr_aload_n dX12_peer_15 rfl 0 rfl ?_
    refine zr_iconst (v := 0) dX12_peer_16 (by decide) ?_
    refine zr_iload_n dX12_peer_17 rfl 1 rfl ?_
    refine zm_callV_i (c := 12) (b := 229) dX12_peer_18 w_X12_layTree l_X12_308 rfl (by decide) (by decide) s_X12_layTree [.int 0, .int x1] rfl rfl (Nat.le_of_ble_eq_true rfl) (Nat.le_of_ble_eq_true rfl) ?_
    refine zV.post T ?_
    rintro v M27 ⟨r26, rfl, T⟩
    refine ⟨r26, rfl, ?_⟩
    refine zr_pop dX12_peer_21 rfl ?_
    refine zr_iload_n dX12_peer_22 rfl 2 rfl ?_
    by_cases h37 : x2 = 0
    · have T := T.1 h37
      refine zr_tableIn (tgt := 64) dX12_peer_23 (by rw [h37]; decide) (by rw [h37]; decide) (by rw [h37]; rfl) (by decide) ?_
      refine zr_aload_n dX12_peer_64 rfl 0 rfl ?_
      refine zr_iload_n dX12_peer_65 rfl 1 rfl ?_
      refine zm_callV_i (c := 12) (b := 229) dX12_peer_66 w_X12_entriesOf l_X12_332 rfl (by decide) (by decide) s_X12_entriesOf [.int x1] rfl rfl (Nat.le_of_ble_eq_true rfl) (Nat.le_of_ble_eq_true rfl) ?_
      refine zV.post T ?_
      rintro v M29 ⟨r28, rfl, T⟩
      refine ⟨r28, rfl, ?_⟩
      exact zm_iret dX12_peer_69 rfl T
    by_cases h38 : x2 = 1
    · have T := T.2.1 h38
      refine zr_tableIn (tgt := 70) dX12_peer_23 (by rw [h38]; decide) (by rw [h38]; decide) (by rw [h38]; rfl) (by decide) ?_
      refine zr_aload_n dX12_peer_70 rfl 0 rfl ?_
      refine zr_iload_n dX12_peer_71 rfl 1 rfl ?_
      refine zm_callV_i (c := 12) (b := 229) dX12_peer_72 w_X12_goneOf l_X12_335 rfl (by decide) (by decide) s_X12_goneOf [.int x1] rfl rfl (Nat.le_of_ble_eq_true rfl) (Nat.le_of_ble_eq_true rfl) ?_
      refine zV.post T ?_
      rintro v M31 ⟨r30, rfl, T⟩
      refine ⟨r30, rfl, ?_⟩
      exact zm_iret dX12_peer_75 rfl T
    by_cases h39 : x2 = 2
    · have T := T.2.2.1 h39
      refine zr_tableIn (tgt := 76) dX12_peer_23 (by rw [h39]; decide) (by rw [h39]; decide) (by rw [h39]; rfl) (by decide) ?_
      refine zr_aload_n dX12_peer_76 rfl 0 rfl ?_
      refine zm_getr (a := 246) dX12_peer_77 f_X12_148 (by decide) (by decide) (by decide) (by decide) ?_
      refine zr_iconst (v := 0) dX12_peer_80 (by decide) ?_
      refine zm_iald (n := 2) (o := 0) dX12_peer_81 (by decide) (by decide) (zin (by decide)) (by decide) ?_
      exact zm_iret dX12_peer_82 rfl T
    by_cases h40 : x2 = 3
    · have T := T.2.2.2.1 h40
      refine zr_tableIn (tgt := 83) dX12_peer_23 (by rw [h40]; decide) (by rw [h40]; decide) (by rw [h40]; rfl) (by decide) ?_
      refine zr_aload_n dX12_peer_83 rfl 0 rfl ?_
      refine zm_getr (a := 246) dX12_peer_84 f_X12_148 (by decide) (by decide) (by decide) (by decide) ?_
      refine zr_iconst (v := 0) dX12_peer_87 (by decide) ?_
      refine zm_iald (n := 2) (o := 0) dX12_peer_88 (by decide) (by decide) (zin (by decide)) (by decide) ?_
      refine zr_if_ne (tgt := 96) dX12_peer_89 (by decide) (fun h32 => ?_) (fun h32 => ?_)
      · have T := T.1 h32
        refine zr_aload_n dX12_peer_96 rfl 0 rfl ?_
        refine zm_getr (a := 247) dX12_peer_97 f_X12_151 (by decide) (by decide) (by decide) (by decide) ?_
        refine zr_iconst (v := 0) dX12_peer_100 (by decide) ?_
        refine zm_iald (n := 48) (o := 0) dX12_peer_101 (by decide) (by decide) (zin (by decide)) (by decide) ?_
        exact zm_iret dX12_peer_102 rfl T
      · have T := T.2 h32
        refine zr_iconst (v := (-1)) dX12_peer_92 (by decide) ?_
        refine zr_goto (tgt := 102) dX12_peer_93 (by decide) ?_
        exact zm_iret dX12_peer_102 rfl T
    by_cases h41 : x2 = 4
    · have T := T.2.2.2.2.1 h41
      refine zr_tableIn (tgt := 103) dX12_peer_23 (by rw [h41]; decide) (by rw [h41]; decide) (by rw [h41]; rfl) (by decide) ?_
      refine zr_aload_n dX12_peer_103 rfl 0 rfl ?_
      refine zm_getr (a := 231) dX12_peer_104 f_X12_98 (by decide) (by decide) (by decide) (by decide) ?_
      refine zr_sipush (v := 205) dX12_peer_107 (by decide) ?_
      refine zr_iload_n dX12_peer_110 rfl 1 rfl ?_
      refine zr_iadd dX12_peer_111 ?_
      obtain ⟨hq33, T⟩ := T
      refine zm_iald (n := 647) (o := (Int32.toNatClampNeg (205 + x1))) dX12_peer_112 (by decide) (by decide) hq33 rfl ?_
      exact zm_iret dX12_peer_113 rfl T
    by_cases h42 : x2 = 5
    · have T := T.2.2.2.2.2.1 h42
      refine zr_tableIn (tgt := 114) dX12_peer_23 (by rw [h42]; decide) (by rw [h42]; decide) (by rw [h42]; rfl) (by decide) ?_
      refine zr_aload_n dX12_peer_114 rfl 0 rfl ?_
      refine zr_iload_n dX12_peer_115 rfl 1 rfl ?_
      refine zm_callV_i (c := 12) (b := 229) dX12_peer_116 w_X12_rootsLike l_X12_320 rfl (by decide) (by decide) s_X12_rootsLike [.int x1] rfl rfl (Nat.le_of_ble_eq_true rfl) (Nat.le_of_ble_eq_true rfl) ?_
      refine zV.post T ?_
      rintro v M35 ⟨r34, rfl, T⟩
      refine ⟨r34, rfl, ?_⟩
      exact zm_iret dX12_peer_119 rfl T
    by_cases h43 : x2 = 6
    · have T := T.2.2.2.2.2.2.1 h43
      refine zr_tableIn (tgt := 120) dX12_peer_23 (by rw [h43]; decide) (by rw [h43]; decide) (by rw [h43]; rfl) (by decide) ?_
      refine zr_aload_n dX12_peer_120 rfl 0 rfl ?_
      refine zm_getr (a := 231) dX12_peer_121 f_X12_98 (by decide) (by decide) (by decide) (by decide) ?_
      refine zr_sipush (v := 209) dX12_peer_124 (by decide) ?_
      refine zr_iload_n dX12_peer_127 rfl 1 rfl ?_
      refine zr_iadd dX12_peer_128 ?_
      obtain ⟨hq36, T⟩ := T
      refine zm_iald (n := 647) (o := (Int32.toNatClampNeg (209 + x1))) dX12_peer_129 (by decide) (by decide) hq36 rfl ?_
      exact zm_iret dX12_peer_130 rfl T
    · have T := T.2.2.2.2.2.2.2 h37 h38 h39 h40 h41 h42 h43
      refine zr_tableOut (tgt := 131) dX12_peer_23 (z_out_0_6 h37 h38 h39 h40 h41 h42 h43) (by decide) ?_
      refine zr_iconst (v := (-1)) dX12_peer_131 (by decide) ?_
      exact zm_iret dX12_peer_132 rfl T
  · have T := T.2 h25
    refine zr_iconst (v := (-1)) dX12_peer_13 (by decide) ?_
    exact zm_iret dX12_peer_14 rfl T
set_option maxRecDepth 100000 in
set_option maxHeartbeats 4000000 in
theorem t_X12_isPeer {d : Nat} {x1 : Int32} {M : zMem} {K : zK} 
    (T : S_X12_isIn d x1 0 ((M.1 231 1) - 1) M (zB (fun r21 M22 => K (some (.int (bi r21))) M22))) : S_X12_isPeer (d + 1) x1 M K := by
  show zV m_X12_isPeer (d + 1) 0 [(0, .ref 229), (1, .int x1)] [] M K
  refine zr_iload_n dX12_isPeer_0 rfl 1 rfl ?_
  refine zr_iconst (v := 0) dX12_isPeer_1 (by decide) ?_
  refine zr_aload_n dX12_isPeer_2 rfl 0 rfl ?_
  refine zm_getr (a := 231) dX12_isPeer_3 f_X12_98 (by decide) (by decide) (by decide) (by decide) ?_
  refine zr_iconst (v := 1) dX12_isPeer_6 (by decide) ?_
  refine zm_iald (n := 647) (o := 1) dX12_isPeer_7 (by decide) (by decide) (zin (by decide)) (by decide) ?_
  refine zr_iconst (v := 1) dX12_isPeer_8 (by decide) ?_
  refine zr_isub dX12_isPeer_9 ?_
  refine zm_callS_b dX12_isPeer_10 w_X12_isIn l_X12_75 s_X12_isIn [.int x1, .int 0, .int ((M.1 231 1) - 1)] rfl rfl (Nat.le_of_ble_eq_true rfl) (Nat.le_of_ble_eq_true rfl) ?_
  refine zV.post T ?_
  rintro v M22 ⟨r21, rfl, T⟩
  refine ⟨r21, rfl, ?_⟩
  exact zm_zret dX12_isPeer_13 rfl (bi_01 _) T
set_option maxRecDepth 100000 in
set_option maxHeartbeats 4000000 in
theorem t_X12_layTree {d : Nat} {x1 : Int32} {x2 : Int32} {M : zMem} {K : zK} 
    (T : vp_in x1 2 ∧ ((∀ M22 : zMem, M22 = wI M 246 (Int32.toNatClampNeg x1) 0 → S_X12_layNodes d x1 x2 0 (M22.1 231 0) (-1) 0 M22 (zI (fun r24 M25 => K (some (.int r24)) M25))))) : S_X12_layTree (d + 1) x1 x2 M K := by
  show zV m_X12_layTree (d + 1) 0 [(0, .ref 229), (1, .int x1), (2, .int x2)] [] M K
  refine zr_aload_n dX12_layTree_0 rfl 0 rfl ?_
  refine zm_getr (a := 246) dX12_layTree_1 f_X12_148 (by decide) (by decide) (by decide) (by decide) ?_
  refine zr_iload_n dX12_layTree_4 rfl 1 rfl ?_
  refine zr_iconst (v := 0) dX12_layTree_5 (by decide) ?_
  obtain ⟨hq21, T⟩ := T
  refine zn_iast (n := 2) (o := (Int32.toNatClampNeg x1)) dX12_layTree_6 (by decide) (by decide) hq21 rfl (fun M22 e23 => ?_)
  have T := T M22 e23
  refine zr_aload_n dX12_layTree_7 rfl 0 rfl ?_
  refine zr_iload_n dX12_layTree_8 rfl 1 rfl ?_
  refine zr_iload_n dX12_layTree_9 rfl 2 rfl ?_
  refine zr_iconst (v := 0) dX12_layTree_10 (by decide) ?_
  refine zr_aload_n dX12_layTree_11 rfl 0 rfl ?_
  refine zm_getr (a := 231) dX12_layTree_12 f_X12_98 (by decide) (by decide) (by decide) (by decide) ?_
  refine zr_iconst (v := 0) dX12_layTree_15 (by decide) ?_
  refine zm_iald (n := 647) (o := 0) dX12_layTree_16 (by decide) (by decide) (zin (by decide)) (by decide) ?_
  refine zr_iconst (v := (-1)) dX12_layTree_17 (by decide) ?_
  refine zr_iconst (v := 0) dX12_layTree_18 (by decide) ?_
  refine zm_callV_i (c := 12) (b := 229) dX12_layTree_19 w_X12_layNodes l_X12_301 rfl (by decide) (by decide) s_X12_layNodes [.int x1, .int x2, .int 0, .int (M22.1 231 0), .int (-1), .int 0] rfl rfl (Nat.le_of_ble_eq_true rfl) (Nat.le_of_ble_eq_true rfl) ?_
  refine zV.post T ?_
  rintro v M25 ⟨r24, rfl, T⟩
  refine ⟨r24, rfl, ?_⟩
  exact zm_iret dX12_layTree_22 rfl T
set_option maxRecDepth 100000 in
set_option maxHeartbeats 4000000 in
theorem t_X12_layNodes {d : Nat} {x1 : Int32} {x2 : Int32} {x3 : Int32} {x4 : Int32} {x5 : Int32} {x6 : Int32} {M : zMem} {K : zK} 
    (T : S_X12_greatest d x2 x3 x4 M (zI (fun r21 M22 => (¬ r21 = (-1) → vp_in x1 2 ∧ (vp_in x1 2 ∧ (vp_in x1 2 ∧ ((∀ M27 : zMem, M27 = wI M22 246 (Int32.toNatClampNeg x1) ((M22.1 246 (Int32.toNatClampNeg x1)) + 1) → vp_in ((24 * x1) + (M22.1 246 (Int32.toNatClampNeg x1))) 48 ∧ ((∀ M30 : zMem, M30 = wI M27 247 (Int32.toNatClampNeg ((24 * x1) + (M22.1 246 (Int32.toNatClampNeg x1)))) r21 → vp_in ((24 * x1) + (M22.1 246 (Int32.toNatClampNeg x1))) 48 ∧ ((∀ M33 : zMem, M33 = wI M30 248 (Int32.toNatClampNeg ((24 * x1) + (M22.1 246 (Int32.toNatClampNeg x1)))) 0 → vp_in ((24 * x1) + (M22.1 246 (Int32.toNatClampNeg x1))) 48 ∧ ((∀ M36 : zMem, M36 = wI M33 249 (Int32.toNatClampNeg ((24 * x1) + (M22.1 246 (Int32.toNatClampNeg x1)))) (-1) → vp_in ((24 * x1) + (M22.1 246 (Int32.toNatClampNeg x1))) 48 ∧ ((∀ M39 : zMem, M39 = wI M36 251 (Int32.toNatClampNeg ((24 * x1) + (M22.1 246 (Int32.toNatClampNeg x1)))) 0 → vp_in ((24 * x1) + (M22.1 246 (Int32.toNatClampNeg x1))) 48 ∧ ((∀ M42 : zMem, M42 = wI M39 252 (Int32.toNatClampNeg ((24 * x1) + (M22.1 246 (Int32.toNatClampNeg x1)))) x5 → (x5 = (-1) → S_X12_layNodes_117 (d + 1) x1 x2 x4 x6 r21 ((24 * x1) + (M22.1 246 (Int32.toNatClampNeg x1))) (r21 + 1) x3 x3 M42 K) ∧ (¬ (x5 = (-1)) → vp_in ((24 * x1) + x5) 48 ∧ (vp_in ((24 * x1) + x5) 48 ∧ ((∀ M47 : zMem, M47 = wI M42 251 (Int32.toNatClampNeg ((24 * x1) + x5)) ((M42.1 251 (Int32.toNatClampNeg ((24 * x1) + x5))) + 1) → S_X12_layNodes_117 (d + 1) x1 x2 x4 x6 r21 ((24 * x1) + (M22.1 246 (Int32.toNatClampNeg x1))) (r21 + 1) x3 x3 M47 K))))))))))))))))))) ∧ (r21 = (-1) → K (some (.int 0)) M22)))) : S_X12_layNodes (d + 1) x1 x2 x3 x4 x5 x6 M K := by
  show zV m_X12_layNodes (d + 1) 0 [(0, .ref 229), (1, .int x1), (2, .int x2), (3, .int x3), (4, .int x4), (5, .int x5), (6, .int x6)] [] M K
  refine zr_aload_n dX12_layNodes_0 rfl 0 rfl ?_
  refine zr_iload_n dX12_layNodes_1 rfl 2 rfl ?_
  refine zr_iload_n dX12_layNodes_2 rfl 3 rfl ?_
  refine zr_iload dX12_layNodes_3 4 rfl ?_
  refine zm_callV_i (c := 12) (b := 229) dX12_layNodes_5 w_X12_greatest l_X12_297 rfl (by decide) (by decide) s_X12_greatest [.int x2, .int x3, .int x4] rfl rfl (Nat.le_of_ble_eq_true rfl) (Nat.le_of_ble_eq_true rfl) ?_
  refine zV.post T ?_
  rintro v M22 ⟨r21, rfl, T⟩
  refine ⟨r21, rfl, ?_⟩
  refine zr_istore dX12_layNodes_8 (by decide) (L2 := [(7, .int r21), (0, .ref 229), (1, .int x1), (2, .int x2), (3, .int x3), (4, .int x4), (5, .int x5), (6, .int x6)]) rfl ?_
  refine zr_iload dX12_layNodes_10 0 rfl ?_
  refine zr_iconst (v := (-1)) dX12_layNodes_12 (by decide) ?_
  refine zr_icmp_ne (tgt := 18) dX12_layNodes_13 (by decide) (fun h23 => ?_) (fun h23 => ?_)
  · have T := T.1 h23
    refine zr_bipush (v := 24) dX12_layNodes_18 (by decide) ?_
    refine zr_iload_n dX12_layNodes_20 rfl 2 rfl ?_
    refine zr_imul dX12_layNodes_21 ?_
    refine zr_aload_n dX12_layNodes_22 rfl 1 rfl ?_
    refine zm_getr (a := 246) dX12_layNodes_23 f_X12_148 (by decide) (by decide) (by decide) (by decide) ?_
    refine zr_iload_n dX12_layNodes_26 rfl 2 rfl ?_
    obtain ⟨hq24, T⟩ := T
    refine zm_iald (n := 2) (o := (Int32.toNatClampNeg x1)) dX12_layNodes_27 (by decide) (by decide) hq24 rfl ?_
    refine zr_iadd dX12_layNodes_28 ?_
    refine zr_istore dX12_layNodes_29 (by decide) (L2 := [(8, .int ((24 * x1) + (M22.1 246 (Int32.toNatClampNeg x1)))), (7, .int r21), (0, .ref 229), (1, .int x1), (2, .int x2), (3, .int x3), (4, .int x4), (5, .int x5), (6, .int x6)]) rfl ?_
    refine zr_aload_n dX12_layNodes_31 rfl 2 rfl ?_
    refine zm_getr (a := 246) dX12_layNodes_32 f_X12_148 (by decide) (by decide) (by decide) (by decide) ?_
    refine zr_iload_n dX12_layNodes_35 rfl 3 rfl ?_
    refine zr_dup2 dX12_layNodes_36 rfl rfl ?_
    obtain ⟨hq25, T⟩ := T
    refine zm_iald (n := 2) (o := (Int32.toNatClampNeg x1)) dX12_layNodes_37 (by decide) (by decide) hq25 rfl ?_
    refine zr_iconst (v := 1) dX12_layNodes_38 (by decide) ?_
    refine zr_iadd dX12_layNodes_39 ?_
    obtain ⟨hq26, T⟩ := T
    refine zn_iast (n := 2) (o := (Int32.toNatClampNeg x1)) dX12_layNodes_40 (by decide) (by decide) hq26 rfl (fun M27 e28 => ?_)
    have T := T M27 e28
    refine zr_aload_n dX12_layNodes_41 rfl 2 rfl ?_
    refine zm_getr (a := 247) dX12_layNodes_42 f_X12_151 (by decide) (by decide) (by decide) (by decide) ?_
    refine zr_iload dX12_layNodes_45 0 rfl ?_
    refine zr_iload dX12_layNodes_47 1 rfl ?_
    obtain ⟨hq29, T⟩ := T
    refine zn_iast (n := 48) (o := (Int32.toNatClampNeg ((24 * x1) + (M22.1 246 (Int32.toNatClampNeg x1))))) dX12_layNodes_49 (by decide) (by decide) hq29 rfl (fun M30 e31 => ?_)
    have T := T M30 e31
    refine zr_aload_n dX12_layNodes_50 rfl 2 rfl ?_
    refine zm_getr (a := 248) dX12_layNodes_51 f_X12_154 (by decide) (by decide) (by decide) (by decide) ?_
    refine zr_iload dX12_layNodes_54 0 rfl ?_
    refine zr_iconst (v := 0) dX12_layNodes_56 (by decide) ?_
    obtain ⟨hq32, T⟩ := T
    refine zn_iast (n := 48) (o := (Int32.toNatClampNeg ((24 * x1) + (M22.1 246 (Int32.toNatClampNeg x1))))) dX12_layNodes_57 (by decide) (by decide) hq32 rfl (fun M33 e34 => ?_)
    have T := T M33 e34
    refine zr_aload_n dX12_layNodes_58 rfl 2 rfl ?_
    refine zm_getr (a := 249) dX12_layNodes_59 f_X12_157 (by decide) (by decide) (by decide) (by decide) ?_
    refine zr_iload dX12_layNodes_62 0 rfl ?_
    refine zr_iconst (v := (-1)) dX12_layNodes_64 (by decide) ?_
    obtain ⟨hq35, T⟩ := T
    refine zn_iast (n := 48) (o := (Int32.toNatClampNeg ((24 * x1) + (M22.1 246 (Int32.toNatClampNeg x1))))) dX12_layNodes_65 (by decide) (by decide) hq35 rfl (fun M36 e37 => ?_)
    have T := T M36 e37
    refine zr_aload_n dX12_layNodes_66 rfl 2 rfl ?_
    refine zm_getr (a := 251) dX12_layNodes_67 f_X12_163 (by decide) (by decide) (by decide) (by decide) ?_
    refine zr_iload dX12_layNodes_70 0 rfl ?_
    refine zr_iconst (v := 0) dX12_layNodes_72 (by decide) ?_
    obtain ⟨hq38, T⟩ := T
    refine zn_iast (n := 48) (o := (Int32.toNatClampNeg ((24 * x1) + (M22.1 246 (Int32.toNatClampNeg x1))))) dX12_layNodes_73 (by decide) (by decide) hq38 rfl (fun M39 e40 => ?_)
    have T := T M39 e40
    refine zr_aload_n dX12_layNodes_74 rfl 2 rfl ?_
    refine zm_getr (a := 252) dX12_layNodes_75 f_X12_166 (by decide) (by decide) (by decide) (by decide) ?_
    refine zr_iload dX12_layNodes_78 0 rfl ?_
    refine zr_iload dX12_layNodes_80 7 rfl ?_
    obtain ⟨hq41, T⟩ := T
    refine zn_iast (n := 48) (o := (Int32.toNatClampNeg ((24 * x1) + (M22.1 246 (Int32.toNatClampNeg x1))))) dX12_layNodes_82 (by decide) (by decide) hq41 rfl (fun M42 e43 => ?_)
    have T := T M42 e43
    refine zr_iload dX12_layNodes_83 7 rfl ?_
    refine zr_iconst (v := (-1)) dX12_layNodes_85 (by decide) ?_
    refine zr_icmp_eq (tgt := 105) dX12_layNodes_86 (by decide) (fun h44 => ?_) (fun h44 => ?_)
    · have T := T.1 h44
      refine zr_iload dX12_layNodes_105 1 rfl ?_
      refine zr_iconst (v := 1) dX12_layNodes_107 (by decide) ?_
      refine zr_iadd dX12_layNodes_108 ?_
      refine zr_istore dX12_layNodes_109 (by decide) (L2 := [(9, .int (r21 + 1)), (8, .int ((24 * x1) + (M22.1 246 (Int32.toNatClampNeg x1)))), (7, .int r21), (0, .ref 229), (1, .int x1), (2, .int x2), (3, .int x3), (4, .int x4), (5, .int x5), (6, .int x6)]) rfl ?_
      refine zr_iload_n dX12_layNodes_111 rfl 6 rfl ?_
      refine zr_istore dX12_layNodes_112 (by decide) (L2 := [(10, .int x3), (9, .int (r21 + 1)), (8, .int ((24 * x1) + (M22.1 246 (Int32.toNatClampNeg x1)))), (7, .int r21), (0, .ref 229), (1, .int x1), (2, .int x2), (3, .int x3), (4, .int x4), (5, .int x5), (6, .int x6)]) rfl ?_
      refine zr_iload_n dX12_layNodes_114 rfl 7 rfl ?_
      refine zr_istore dX12_layNodes_115 (by decide) (L2 := [(11, .int x3), (10, .int x3), (9, .int (r21 + 1)), (8, .int ((24 * x1) + (M22.1 246 (Int32.toNatClampNeg x1)))), (7, .int r21), (0, .ref 229), (1, .int x1), (2, .int x2), (3, .int x3), (4, .int x4), (5, .int x5), (6, .int x6)]) rfl ?_
      exact zV.pick [5, 6, 7, 9, 11, 4, 3, 2, 1, 0] rfl T
    · have T := T.2 h44
      refine zr_aload_n dX12_layNodes_89 rfl 2 rfl ?_
      refine zm_getr (a := 251) dX12_layNodes_90 f_X12_163 (by decide) (by decide) (by decide) (by decide) ?_
      refine zr_bipush (v := 24) dX12_layNodes_93 (by decide) ?_
      refine zr_iload_n dX12_layNodes_95 rfl 3 rfl ?_
      refine zr_imul dX12_layNodes_96 ?_
      refine zr_iload dX12_layNodes_97 7 rfl ?_
      refine zr_iadd dX12_layNodes_99 ?_
      refine zr_dup2 dX12_layNodes_100 rfl rfl ?_
      obtain ⟨hq45, T⟩ := T
      refine zm_iald (n := 48) (o := (Int32.toNatClampNeg ((24 * x1) + x5))) dX12_layNodes_101 (by decide) (by decide) hq45 rfl ?_
      refine zr_iconst (v := 1) dX12_layNodes_102 (by decide) ?_
      refine zr_iadd dX12_layNodes_103 ?_
      obtain ⟨hq46, T⟩ := T
      refine zn_iast (n := 48) (o := (Int32.toNatClampNeg ((24 * x1) + x5))) dX12_layNodes_104 (by decide) (by decide) hq46 rfl (fun M47 e48 => ?_)
      have T := T M47 e48
      refine zr_iload dX12_layNodes_105 1 rfl ?_
      refine zr_iconst (v := 1) dX12_layNodes_107 (by decide) ?_
      refine zr_iadd dX12_layNodes_108 ?_
      refine zr_istore dX12_layNodes_109 (by decide) (L2 := [(9, .int (r21 + 1)), (8, .int ((24 * x1) + (M22.1 246 (Int32.toNatClampNeg x1)))), (7, .int r21), (0, .ref 229), (1, .int x1), (2, .int x2), (3, .int x3), (4, .int x4), (5, .int x5), (6, .int x6)]) rfl ?_
      refine zr_iload_n dX12_layNodes_111 rfl 6 rfl ?_
      refine zr_istore dX12_layNodes_112 (by decide) (L2 := [(10, .int x3), (9, .int (r21 + 1)), (8, .int ((24 * x1) + (M22.1 246 (Int32.toNatClampNeg x1)))), (7, .int r21), (0, .ref 229), (1, .int x1), (2, .int x2), (3, .int x3), (4, .int x4), (5, .int x5), (6, .int x6)]) rfl ?_
      refine zr_iload_n dX12_layNodes_114 rfl 7 rfl ?_
      refine zr_istore dX12_layNodes_115 (by decide) (L2 := [(11, .int x3), (10, .int x3), (9, .int (r21 + 1)), (8, .int ((24 * x1) + (M22.1 246 (Int32.toNatClampNeg x1)))), (7, .int r21), (0, .ref 229), (1, .int x1), (2, .int x2), (3, .int x3), (4, .int x4), (5, .int x5), (6, .int x6)]) rfl ?_
      exact zV.pick [5, 6, 7, 9, 11, 4, 3, 2, 1, 0] rfl T
  · have T := T.2 h23
    refine zr_iconst (v := 0) dX12_layNodes_16 (by decide) ?_
    exact zm_iret dX12_layNodes_17 rfl T
set_option maxRecDepth 100000 in
set_option maxHeartbeats 4000000 in
theorem t_X12_layNodes_117 {d : Nat} {x1 : Int32} {x2 : Int32} {x4 : Int32} {x6 : Int32} {x7 : Int32} {x8 : Int32} {x9 : Int32} {x10 : Int32} {x11 : Int32} {M : zMem} {K : zK} 
    (T : (x4 ≤ x11 → S_X12_layNodes d x1 x2 x10 x4 (x8 - (24 * x1)) (x6 + 1) M (zI (fun r22 M23 => S_X12_mix d x9 r22 M23 (zI (fun r24 M25 => vp_in x8 48 ∧ ((∀ M27 : zMem, M27 = wI M25 253 (Int32.toNatClampNeg x8) r24 → vp_in x8 48 ∧ (K (some (.int (M27.1 253 (Int32.toNatClampNeg x8)))) M27)))))))) ∧ (¬ (x4 ≤ x11) → vp_in x11 24 ∧ (S_X12_hasEntry d x2 (M.1 244 (Int32.toNatClampNeg x11)) M (zB (fun r31 M32 => (r31 = false → S_X12_layNodes_117 (d + 1) x1 x2 x4 x6 x7 x8 x9 x10 (x11 + 1) M32 K) ∧ (r31 = true → vp_in (M.1 244 (Int32.toNatClampNeg x11)) 24 ∧ (((M32.1 243 (Int32.toNatClampNeg (M.1 244 (Int32.toNatClampNeg x11)))) = x7 → S_X12_layNodes d x1 x2 x10 x11 (x8 - (24 * x1)) (x6 + 1) M32 (zI (fun r36 M37 => S_X12_mix d x9 r36 M37 (zI (fun r38 M39 => S_X12_entryDigest d x2 (M.1 244 (Int32.toNatClampNeg x11)) M39 (zI (fun r40 M41 => S_X12_mix d r38 r40 M41 (zI (fun r42 M43 => vp_in x8 48 ∧ (vp_in x8 48 ∧ ((∀ M46 : zMem, M46 = wI M43 248 (Int32.toNatClampNeg x8) ((M43.1 248 (Int32.toNatClampNeg x8)) ||| ((1 : Int32) <<< ((M.1 244 (Int32.toNatClampNeg x11)) &&& 31))) → vp_in x8 48 ∧ ((¬ (M46.1 249 (Int32.toNatClampNeg x8)) = (-1) → S_X12_layNodes_234 (d + 1) x1 x2 x4 x6 x7 x8 r42 x11 (M.1 244 (Int32.toNatClampNeg x11)) M46 K) ∧ ((M46.1 249 (Int32.toNatClampNeg x8)) = (-1) → vp_in x8 48 ∧ ((∀ M51 : zMem, M51 = wI M46 249 (Int32.toNatClampNeg x8) (M.1 244 (Int32.toNatClampNeg x11)) → S_X12_layNodes_234 (d + 1) x1 x2 x4 x6 x7 x8 r42 x11 (M.1 244 (Int32.toNatClampNeg x11)) M51 K)))))))))))))))) ∧ (¬ ((M32.1 243 (Int32.toNatClampNeg (M.1 244 (Int32.toNatClampNeg x11)))) = x7) → S_X12_layNodes_117 (d + 1) x1 x2 x4 x6 x7 x8 x9 x10 (x11 + 1) M32 K)))))))) : S_X12_layNodes_117 (d + 1) x1 x2 x4 x6 x7 x8 x9 x10 x11 M K := by
  show zV m_X12_layNodes (d + 1) 117 [(0, .ref 229), (1, .int x1), (2, .int x2), (4, .int x4), (6, .int x6), (7, .int x7), (8, .int x8), (9, .int x9), (10, .int x10), (11, .int x11)] [] M K
  refine zr_iload dX12_layNodes_117 9 rfl ?_
  refine zr_iload dX12_layNodes_119 3 rfl ?_
  refine zr_icmp_ge (tgt := 271) dX12_layNodes_121 (by decide) (fun h21 => ?_) (fun h21 => ?_)
  · have T := T.1 h21
    refine zr_aload_n dX12_layNodes_271 rfl 0 rfl ?_
    refine zm_getr (a := 253) dX12_layNodes_272 f_X12_169 (by decide) (by decide) (by decide) (by decide) ?_
    refine zr_iload dX12_layNodes_275 6 rfl ?_
    refine zr_iload dX12_layNodes_277 7 rfl ?_
    refine zr_aload_n dX12_layNodes_279 rfl 0 rfl ?_
    refine zr_iload_n dX12_layNodes_280 rfl 1 rfl ?_
    refine zr_iload_n dX12_layNodes_281 rfl 2 rfl ?_
    refine zr_iload dX12_layNodes_282 8 rfl ?_
    refine zr_iload dX12_layNodes_284 3 rfl ?_
    refine zr_iload dX12_layNodes_286 6 rfl ?_
    refine zr_bipush (v := 24) dX12_layNodes_288 (by decide) ?_
    refine zr_iload_n dX12_layNodes_290 rfl 1 rfl ?_
    refine zr_imul dX12_layNodes_291 ?_
    refine zr_isub dX12_layNodes_292 ?_
    refine zr_iload dX12_layNodes_293 4 rfl ?_
    refine zr_iconst (v := 1) dX12_layNodes_295 (by decide) ?_
    refine zr_iadd dX12_layNodes_296 ?_
    refine zm_callV_i (c := 12) (b := 229) dX12_layNodes_297 w_X12_layNodes l_X12_301 rfl (by decide) (by decide) s_X12_layNodes [.int x1, .int x2, .int x10, .int x4, .int (x8 - (24 * x1)), .int (x6 + 1)] rfl rfl (Nat.le_of_ble_eq_true rfl) (Nat.le_of_ble_eq_true rfl) ?_
    refine zV.post T ?_
    rintro v M23 ⟨r22, rfl, T⟩
    refine ⟨r22, rfl, ?_⟩
    refine zm_callS_i dX12_layNodes_300 w_X12_mix l_X12_278 s_X12_mix [.int x9, .int r22] rfl rfl (Nat.le_of_ble_eq_true rfl) (Nat.le_of_ble_eq_true rfl) ?_
    refine zV.post T ?_
    rintro v M25 ⟨r24, rfl, T⟩
    refine ⟨r24, rfl, ?_⟩
    obtain ⟨hq26, T⟩ := T
    refine zn_iast (n := 48) (o := (Int32.toNatClampNeg x8)) dX12_layNodes_303 (by decide) (by decide) hq26 rfl (fun M27 e28 => ?_)
    have T := T M27 e28
    refine zr_aload_n dX12_layNodes_304 rfl 0 rfl ?_
    refine zm_getr (a := 253) dX12_layNodes_305 f_X12_169 (by decide) (by decide) (by decide) (by decide) ?_
    refine zr_iload dX12_layNodes_308 6 rfl ?_
    obtain ⟨hq29, T⟩ := T
    refine zm_iald (n := 48) (o := (Int32.toNatClampNeg x8)) dX12_layNodes_310 (by decide) (by decide) hq29 rfl ?_
    exact zm_iret dX12_layNodes_311 rfl T
  · have T := T.2 h21
    refine zr_aload_n dX12_layNodes_124 rfl 0 rfl ?_
    refine zm_getr (a := 244) dX12_layNodes_125 f_X12_142 (by decide) (by decide) (by decide) (by decide) ?_
    refine zr_iload dX12_layNodes_128 9 rfl ?_
    obtain ⟨hq30, T⟩ := T
    refine zm_iald (n := 24) (o := (Int32.toNatClampNeg x11)) dX12_layNodes_130 (by decide) (by decide) hq30 rfl ?_
    refine zr_istore dX12_layNodes_131 (by decide) (L2 := [(12, .int (M.1 244 (Int32.toNatClampNeg x11))), (0, .ref 229), (1, .int x1), (2, .int x2), (4, .int x4), (6, .int x6), (7, .int x7), (8, .int x8), (9, .int x9), (10, .int x10), (11, .int x11)]) rfl ?_
    refine zr_aload_n dX12_layNodes_133 rfl 1 rfl ?_
    refine zr_iload_n dX12_layNodes_134 rfl 3 rfl ?_
    refine zr_iload dX12_layNodes_135 0 rfl ?_
    refine zm_callV_b (c := 12) (b := 229) dX12_layNodes_137 w_X12_hasEntry l_X12_294 rfl (by decide) (by decide) s_X12_hasEntry [.int x2, .int (M.1 244 (Int32.toNatClampNeg x11))] rfl rfl (Nat.le_of_ble_eq_true rfl) (Nat.le_of_ble_eq_true rfl) ?_
    refine zV.post T ?_
    rintro v M32 ⟨r31, rfl, T⟩
    refine ⟨r31, rfl, ?_⟩
    refine zm_ifb_eq (tgt := 265) dX12_layNodes_140 (by decide) (fun h33 => ?_) (fun h33 => ?_)
    · have T := T.1 h33
      refine zr_iinc (n := 10) (v := x11 + 1) dX12_layNodes_265 rfl rfl (by decide) (L2 := [(11, .int (x11 + 1)), (12, .int (M.1 244 (Int32.toNatClampNeg x11))), (0, .ref 229), (1, .int x1), (2, .int x2), (4, .int x4), (6, .int x6), (7, .int x7), (8, .int x8), (9, .int x9), (10, .int x10)]) rfl ?_
      refine zr_goto (tgt := 117) dX12_layNodes_268 (by decide) ?_
      exact zV.pick [2, 3, 4, 5, 6, 7, 8, 9, 10, 0] rfl T
    · have T := T.2 h33
      refine zr_aload_n dX12_layNodes_143 rfl 1 rfl ?_
      refine zm_getr (a := 243) dX12_layNodes_144 f_X12_139 (by decide) (by decide) (by decide) (by decide) ?_
      refine zr_iload dX12_layNodes_147 0 rfl ?_
      obtain ⟨hq34, T⟩ := T
      refine zm_iald (n := 24) (o := (Int32.toNatClampNeg (M.1 244 (Int32.toNatClampNeg x11)))) dX12_layNodes_149 (by decide) (by decide) hq34 rfl ?_
      refine zr_iload dX12_layNodes_150 6 rfl ?_
      refine zr_icmp_eq (tgt := 158) dX12_layNodes_152 (by decide) (fun h35 => ?_) (fun h35 => ?_)
      · have T := T.1 h35
        refine zr_iload dX12_layNodes_158 8 rfl ?_
        refine zr_aload_n dX12_layNodes_160 rfl 1 rfl ?_
        refine zr_iload_n dX12_layNodes_161 rfl 2 rfl ?_
        refine zr_iload_n dX12_layNodes_162 rfl 3 rfl ?_
        refine zr_iload dX12_layNodes_163 9 rfl ?_
        refine zr_iload dX12_layNodes_165 10 rfl ?_
        refine zr_iload dX12_layNodes_167 7 rfl ?_
        refine zr_bipush (v := 24) dX12_layNodes_169 (by decide) ?_
        refine zr_iload_n dX12_layNodes_171 rfl 2 rfl ?_
        refine zr_imul dX12_layNodes_172 ?_
        refine zr_isub dX12_layNodes_173 ?_
        refine zr_iload dX12_layNodes_174 5 rfl ?_
        refine zr_iconst (v := 1) dX12_layNodes_176 (by decide) ?_
        refine zr_iadd dX12_layNodes_177 ?_
        refine zm_callV_i (c := 12) (b := 229) dX12_layNodes_178 w_X12_layNodes l_X12_301 rfl (by decide) (by decide) s_X12_layNodes [.int x1, .int x2, .int x10, .int x11, .int (x8 - (24 * x1)), .int (x6 + 1)] rfl rfl (Nat.le_of_ble_eq_true rfl) (Nat.le_of_ble_eq_true rfl) ?_
        refine zV.post T ?_
        rintro v M37 ⟨r36, rfl, T⟩
        refine ⟨r36, rfl, ?_⟩
        refine zm_callS_i dX12_layNodes_181 w_X12_mix l_X12_278 s_X12_mix [.int x9, .int r36] rfl rfl (Nat.le_of_ble_eq_true rfl) (Nat.le_of_ble_eq_true rfl) ?_
        refine zV.post T ?_
        rintro v M39 ⟨r38, rfl, T⟩
        refine ⟨r38, rfl, ?_⟩
        refine zr_istore dX12_layNodes_184 (by decide) (L2 := [(9, .int r38), (12, .int (M.1 244 (Int32.toNatClampNeg x11))), (0, .ref 229), (1, .int x1), (2, .int x2), (4, .int x4), (6, .int x6), (7, .int x7), (8, .int x8), (10, .int x10), (11, .int x11)]) rfl ?_
        refine zr_iload dX12_layNodes_186 0 rfl ?_
        refine zr_aload_n dX12_layNodes_188 rfl 2 rfl ?_
        refine zr_iload_n dX12_layNodes_189 rfl 4 rfl ?_
        refine zr_iload dX12_layNodes_190 1 rfl ?_
        refine zm_callV_i (c := 12) (b := 229) dX12_layNodes_192 w_X12_entryDigest l_X12_305 rfl (by decide) (by decide) s_X12_entryDigest [.int x2, .int (M.1 244 (Int32.toNatClampNeg x11))] rfl rfl (Nat.le_of_ble_eq_true rfl) (Nat.le_of_ble_eq_true rfl) ?_
        refine zV.post T ?_
        rintro v M41 ⟨r40, rfl, T⟩
        refine ⟨r40, rfl, ?_⟩
        refine zm_callS_i dX12_layNodes_195 w_X12_mix l_X12_278 s_X12_mix [.int r38, .int r40] rfl rfl (Nat.le_of_ble_eq_true rfl) (Nat.le_of_ble_eq_true rfl) ?_
        refine zV.post T ?_
        rintro v M43 ⟨r42, rfl, T⟩
        refine ⟨r42, rfl, ?_⟩
        refine zr_istore dX12_layNodes_198 (by decide) (L2 := [(9, .int r42), (12, .int (M.1 244 (Int32.toNatClampNeg x11))), (0, .ref 229), (1, .int x1), (2, .int x2), (4, .int x4), (6, .int x6), (7, .int x7), (8, .int x8), (10, .int x10), (11, .int x11)]) rfl ?_
        refine zr_aload_n dX12_layNodes_200 rfl 2 rfl ?_
        refine zm_getr (a := 248) dX12_layNodes_201 f_X12_154 (by decide) (by decide) (by decide) (by decide) ?_
        refine zr_iload dX12_layNodes_204 8 rfl ?_
        refine zr_dup2 dX12_layNodes_206 rfl rfl ?_
        obtain ⟨hq44, T⟩ := T
        refine zm_iald (n := 48) (o := (Int32.toNatClampNeg x8)) dX12_layNodes_207 (by decide) (by decide) hq44 rfl ?_
        refine zr_iconst (v := 1) dX12_layNodes_208 (by decide) ?_
        refine zr_iload dX12_layNodes_209 1 rfl ?_
        refine zr_ishl dX12_layNodes_211 ?_
        refine zr_ior dX12_layNodes_212 ?_
        obtain ⟨hq45, T⟩ := T
        refine zn_iast (n := 48) (o := (Int32.toNatClampNeg x8)) dX12_layNodes_213 (by decide) (by decide) hq45 rfl (fun M46 e47 => ?_)
        have T := T M46 e47
        refine zr_aload_n dX12_layNodes_214 rfl 2 rfl ?_
        refine zm_getr (a := 249) dX12_layNodes_215 f_X12_157 (by decide) (by decide) (by decide) (by decide) ?_
        refine zr_iload dX12_layNodes_218 8 rfl ?_
        obtain ⟨hq48, T⟩ := T
        refine zm_iald (n := 48) (o := (Int32.toNatClampNeg x8)) dX12_layNodes_220 (by decide) (by decide) hq48 rfl ?_
        refine zr_iconst (v := (-1)) dX12_layNodes_221 (by decide) ?_
        refine zr_icmp_ne (tgt := 234) dX12_layNodes_222 (by decide) (fun h49 => ?_) (fun h49 => ?_)
        · have T := T.1 h49
          exact zV.pick [2, 3, 4, 5, 6, 7, 8, 0, 10, 1] rfl T
        · have T := T.2 h49
          refine zr_aload_n dX12_layNodes_225 rfl 2 rfl ?_
          refine zm_getr (a := 249) dX12_layNodes_226 f_X12_157 (by decide) (by decide) (by decide) (by decide) ?_
          refine zr_iload dX12_layNodes_229 8 rfl ?_
          refine zr_iload dX12_layNodes_231 1 rfl ?_
          obtain ⟨hq50, T⟩ := T
          refine zn_iast (n := 48) (o := (Int32.toNatClampNeg x8)) dX12_layNodes_233 (by decide) (by decide) hq50 rfl (fun M51 e52 => ?_)
          have T := T M51 e52
          exact zV.pick [2, 3, 4, 5, 6, 7, 8, 0, 10, 1] rfl T
      · have T := T.2 h35
        refine zr_goto (tgt := 265) dX12_layNodes_155 (by decide) ?_
        refine zr_iinc (n := 10) (v := x11 + 1) dX12_layNodes_265 rfl rfl (by decide) (L2 := [(11, .int (x11 + 1)), (12, .int (M.1 244 (Int32.toNatClampNeg x11))), (0, .ref 229), (1, .int x1), (2, .int x2), (4, .int x4), (6, .int x6), (7, .int x7), (8, .int x8), (9, .int x9), (10, .int x10)]) rfl ?_
        refine zr_goto (tgt := 117) dX12_layNodes_268 (by decide) ?_
        exact zV.pick [2, 3, 4, 5, 6, 7, 8, 9, 10, 0] rfl T
set_option maxRecDepth 100000 in
set_option maxHeartbeats 4000000 in
theorem t_X12_layNodes_234 {d : Nat} {x1 : Int32} {x2 : Int32} {x4 : Int32} {x6 : Int32} {x7 : Int32} {x8 : Int32} {x9 : Int32} {x11 : Int32} {x12 : Int32} {M : zMem} {K : zK} 
    (T : vp_in x8 48 ∧ ((∀ M22 : zMem, M22 = wI M 250 (Int32.toNatClampNeg x8) x12 → vp_in ((24 * x1) + x12) 48 ∧ ((∀ M25 : zMem, M25 = wI M22 254 (Int32.toNatClampNeg ((24 * x1) + x12)) (x6 + 1) → S_X12_layNodes_117 (d + 1) x1 x2 x4 x6 x7 x8 x9 (x11 + 1) (x11 + 1) M25 K))))) : S_X12_layNodes_234 (d + 1) x1 x2 x4 x6 x7 x8 x9 x11 x12 M K := by
  show zV m_X12_layNodes (d + 1) 234 [(0, .ref 229), (1, .int x1), (2, .int x2), (4, .int x4), (6, .int x6), (7, .int x7), (8, .int x8), (9, .int x9), (11, .int x11), (12, .int x12)] [] M K
  refine zr_aload_n dX12_layNodes_234 rfl 0 rfl ?_
  refine zm_getr (a := 250) dX12_layNodes_235 f_X12_160 (by decide) (by decide) (by decide) (by decide) ?_
  refine zr_iload dX12_layNodes_238 6 rfl ?_
  refine zr_iload dX12_layNodes_240 9 rfl ?_
  obtain ⟨hq21, T⟩ := T
  refine zn_iast (n := 48) (o := (Int32.toNatClampNeg x8)) dX12_layNodes_242 (by decide) (by decide) hq21 rfl (fun M22 e23 => ?_)
  have T := T M22 e23
  refine zr_aload_n dX12_layNodes_243 rfl 0 rfl ?_
  refine zm_getr (a := 254) dX12_layNodes_244 f_X12_172 (by decide) (by decide) (by decide) (by decide) ?_
  refine zr_bipush (v := 24) dX12_layNodes_247 (by decide) ?_
  refine zr_iload_n dX12_layNodes_249 rfl 1 rfl ?_
  refine zr_imul dX12_layNodes_250 ?_
  refine zr_iload dX12_layNodes_251 9 rfl ?_
  refine zr_iadd dX12_layNodes_253 ?_
  refine zr_iload dX12_layNodes_254 4 rfl ?_
  refine zr_iconst (v := 1) dX12_layNodes_256 (by decide) ?_
  refine zr_iadd dX12_layNodes_257 ?_
  obtain ⟨hq24, T⟩ := T
  refine zn_iast (n := 48) (o := (Int32.toNatClampNeg ((24 * x1) + x12))) dX12_layNodes_258 (by decide) (by decide) hq24 rfl (fun M25 e26 => ?_)
  have T := T M25 e26
  refine zr_iload dX12_layNodes_259 8 rfl ?_
  refine zr_iconst (v := 1) dX12_layNodes_261 (by decide) ?_
  refine zr_iadd dX12_layNodes_262 ?_
  refine zr_istore dX12_layNodes_263 (by decide) (L2 := [(10, .int (x11 + 1)), (0, .ref 229), (1, .int x1), (2, .int x2), (4, .int x4), (6, .int x6), (7, .int x7), (8, .int x8), (9, .int x9), (11, .int x11), (12, .int x12)]) rfl ?_
  refine zr_iinc (n := 9) (v := x11 + 1) dX12_layNodes_265 rfl rfl (by decide) (L2 := [(11, .int (x11 + 1)), (10, .int (x11 + 1)), (0, .ref 229), (1, .int x1), (2, .int x2), (4, .int x4), (6, .int x6), (7, .int x7), (8, .int x8), (9, .int x9), (12, .int x12)]) rfl ?_
  refine zr_goto (tgt := 117) dX12_layNodes_268 (by decide) ?_
  exact zV.pick [2, 3, 4, 5, 6, 7, 8, 9, 1, 0] rfl T
set_option maxRecDepth 100000 in
set_option maxHeartbeats 4000000 in
theorem t_X12_greatest {d : Nat} {x1 : Int32} {x2 : Int32} {x3 : Int32} {M : zMem} {K : zK} 
    (T : S_X12_greatest_6 (d + 1) x1 x3 (-1) x2 M K) : S_X12_greatest (d + 1) x1 x2 x3 M K := by
  show zV m_X12_greatest (d + 1) 0 [(0, .ref 229), (1, .int x1), (2, .int x2), (3, .int x3)] [] M K
  refine zr_iconst (v := (-1)) dX12_greatest_0 (by decide) ?_
  refine zr_istore dX12_greatest_1 (by decide) (L2 := [(4, .int (-1)), (0, .ref 229), (1, .int x1), (2, .int x2), (3, .int x3)]) rfl ?_
  refine zr_iload_n dX12_greatest_3 rfl 3 rfl ?_
  refine zr_istore dX12_greatest_4 (by decide) (L2 := [(5, .int x2), (4, .int (-1)), (0, .ref 229), (1, .int x1), (2, .int x2), (3, .int x3)]) rfl ?_
  exact zV.pick [2, 3, 5, 1, 0] rfl T
set_option maxRecDepth 100000 in
set_option maxHeartbeats 4000000 in
theorem t_X12_greatest_6 {d : Nat} {x1 : Int32} {x3 : Int32} {x4 : Int32} {x5 : Int32} {M : zMem} {K : zK} 
    (T : (x3 ≤ x5 → K (some (.int x4)) M) ∧ (¬ (x3 ≤ x5) → vp_in x5 24 ∧ (S_X12_hasEntry d x1 (M.1 244 (Int32.toNatClampNeg x5)) M (zB (fun r23 M24 => (r23 = false → S_X12_greatest_6 (d + 1) x1 x3 x4 (x5 + 1) M24 K) ∧ (r23 = true → vp_in x5 24 ∧ (vp_in (M24.1 244 (Int32.toNatClampNeg x5)) 24 ∧ (((M24.1 243 (Int32.toNatClampNeg (M24.1 244 (Int32.toNatClampNeg x5)))) ≤ x4 → S_X12_greatest_6 (d + 1) x1 x3 x4 (x5 + 1) M24 K) ∧ (¬ ((M24.1 243 (Int32.toNatClampNeg (M24.1 244 (Int32.toNatClampNeg x5)))) ≤ x4) → vp_in x5 24 ∧ (vp_in (M24.1 244 (Int32.toNatClampNeg x5)) 24 ∧ (S_X12_greatest_6 (d + 1) x1 x3 (M24.1 243 (Int32.toNatClampNeg (M24.1 244 (Int32.toNatClampNeg x5)))) (x5 + 1) M24 K))))))))))) : S_X12_greatest_6 (d + 1) x1 x3 x4 x5 M K := by
  show zV m_X12_greatest (d + 1) 6 [(0, .ref 229), (1, .int x1), (3, .int x3), (4, .int x4), (5, .int x5)] [] M K
  refine zr_iload dX12_greatest_6 4 rfl ?_
  refine zr_iload_n dX12_greatest_8 rfl 2 rfl ?_
  refine zr_icmp_ge (tgt := 64) dX12_greatest_9 (by decide) (fun h21 => ?_) (fun h21 => ?_)
  · have T := T.1 h21
    refine zr_iload dX12_greatest_64 3 rfl ?_
    exact zm_iret dX12_greatest_66 rfl T
  · have T := T.2 h21
    refine zr_aload_n dX12_greatest_12 rfl 0 rfl ?_
    refine zr_iload_n dX12_greatest_13 rfl 1 rfl ?_
    refine zr_aload_n dX12_greatest_14 rfl 0 rfl ?_
    refine zm_getr (a := 244) dX12_greatest_15 f_X12_142 (by decide) (by decide) (by decide) (by decide) ?_
    refine zr_iload dX12_greatest_18 4 rfl ?_
    obtain ⟨hq22, T⟩ := T
    refine zm_iald (n := 24) (o := (Int32.toNatClampNeg x5)) dX12_greatest_20 (by decide) (by decide) hq22 rfl ?_
    refine zm_callV_b (c := 12) (b := 229) dX12_greatest_21 w_X12_hasEntry l_X12_294 rfl (by decide) (by decide) s_X12_hasEntry [.int x1, .int (M.1 244 (Int32.toNatClampNeg x5))] rfl rfl (Nat.le_of_ble_eq_true rfl) (Nat.le_of_ble_eq_true rfl) ?_
    refine zV.post T ?_
    rintro v M24 ⟨r23, rfl, T⟩
    refine ⟨r23, rfl, ?_⟩
    refine zm_ifb_eq (tgt := 58) dX12_greatest_24 (by decide) (fun h25 => ?_) (fun h25 => ?_)
    · have T := T.1 h25
      refine zr_iinc (n := 4) (v := x5 + 1) dX12_greatest_58 rfl rfl (by decide) (L2 := [(5, .int (x5 + 1)), (0, .ref 229), (1, .int x1), (3, .int x3), (4, .int x4)]) rfl ?_
      refine zr_goto (tgt := 6) dX12_greatest_61 (by decide) ?_
      exact zV.pick [1, 2, 3, 4, 0] rfl T
    · have T := T.2 h25
      refine zr_aload_n dX12_greatest_27 rfl 0 rfl ?_
      refine zm_getr (a := 243) dX12_greatest_28 f_X12_139 (by decide) (by decide) (by decide) (by decide) ?_
      refine zr_aload_n dX12_greatest_31 rfl 0 rfl ?_
      refine zm_getr (a := 244) dX12_greatest_32 f_X12_142 (by decide) (by decide) (by decide) (by decide) ?_
      refine zr_iload dX12_greatest_35 4 rfl ?_
      obtain ⟨hq26, T⟩ := T
      refine zm_iald (n := 24) (o := (Int32.toNatClampNeg x5)) dX12_greatest_37 (by decide) (by decide) hq26 rfl ?_
      obtain ⟨hq27, T⟩ := T
      refine zm_iald (n := 24) (o := (Int32.toNatClampNeg (M24.1 244 (Int32.toNatClampNeg x5)))) dX12_greatest_38 (by decide) (by decide) hq27 rfl ?_
      refine zr_iload dX12_greatest_39 3 rfl ?_
      refine zr_icmp_le (tgt := 58) dX12_greatest_41 (by decide) (fun h28 => ?_) (fun h28 => ?_)
      · have T := T.1 h28
        refine zr_iinc (n := 4) (v := x5 + 1) dX12_greatest_58 rfl rfl (by decide) (L2 := [(5, .int (x5 + 1)), (0, .ref 229), (1, .int x1), (3, .int x3), (4, .int x4)]) rfl ?_
        refine zr_goto (tgt := 6) dX12_greatest_61 (by decide) ?_
        exact zV.pick [1, 2, 3, 4, 0] rfl T
      · have T := T.2 h28
        refine zr_aload_n dX12_greatest_44 rfl 0 rfl ?_
        refine zm_getr (a := 243) dX12_greatest_45 f_X12_139 (by decide) (by decide) (by decide) (by decide) ?_
        refine zr_aload_n dX12_greatest_48 rfl 0 rfl ?_
        refine zm_getr (a := 244) dX12_greatest_49 f_X12_142 (by decide) (by decide) (by decide) (by decide) ?_
        refine zr_iload dX12_greatest_52 4 rfl ?_
        obtain ⟨hq29, T⟩ := T
        refine zm_iald (n := 24) (o := (Int32.toNatClampNeg x5)) dX12_greatest_54 (by decide) (by decide) hq29 rfl ?_
        obtain ⟨hq30, T⟩ := T
        refine zm_iald (n := 24) (o := (Int32.toNatClampNeg (M24.1 244 (Int32.toNatClampNeg x5)))) dX12_greatest_55 (by decide) (by decide) hq30 rfl ?_
        refine zr_istore dX12_greatest_56 (by decide) (L2 := [(4, .int (M24.1 243 (Int32.toNatClampNeg (M24.1 244 (Int32.toNatClampNeg x5))))), (0, .ref 229), (1, .int x1), (3, .int x3), (5, .int x5)]) rfl ?_
        refine zr_iinc (n := 4) (v := x5 + 1) dX12_greatest_58 rfl rfl (by decide) (L2 := [(5, .int (x5 + 1)), (4, .int (M24.1 243 (Int32.toNatClampNeg (M24.1 244 (Int32.toNatClampNeg x5))))), (0, .ref 229), (1, .int x1), (3, .int x3)]) rfl ?_
        refine zr_goto (tgt := 6) dX12_greatest_61 (by decide) ?_
        exact zV.pick [2, 3, 4, 1, 0] rfl T
set_option maxRecDepth 100000 in
set_option maxHeartbeats 4000000 in
theorem t_X12_entryDigest {d : Nat} {x1 : Int32} {x2 : Int32} {M : zMem} {K : zK} 
    (T : vp_in x2 24 ∧ (S_X12_at d x1 x2 M (zI (fun r22 M23 => vp_in (309 + r22) 647 ∧ (S_X12_mix d (M.1 242 (Int32.toNatClampNeg x2)) (M23.1 231 (Int32.toNatClampNeg (309 + r22))) M23 (zI (fun r25 M26 => S_X12_at d x1 x2 M26 (zI (fun r27 M28 => vp_in (213 + r27) 647 ∧ (S_X12_mix d r25 ((M28.1 231 (Int32.toNatClampNeg (213 + r27))) + 1) M28 (zI (fun r30 M31 => K (some (.int r30)) M31)))))))))))) : S_X12_entryDigest (d + 1) x1 x2 M K := by
  show zV m_X12_entryDigest (d + 1) 0 [(0, .ref 229), (1, .int x1), (2, .int x2)] [] M K
  refine zr_aload_n dX12_entryDigest_0 rfl 0 rfl ?_
  refine zm_getr (a := 242) dX12_entryDigest_1 f_X12_136 (by decide) (by decide) (by decide) (by decide) ?_
  refine zr_iload_n dX12_entryDigest_4 rfl 2 rfl ?_
  obtain ⟨hq21, T⟩ := T
  refine zm_iald (n := 24) (o := (Int32.toNatClampNeg x2)) dX12_entryDigest_5 (by decide) (by decide) hq21 rfl ?_
  refine zr_aload_n dX12_entryDigest_6 rfl 0 rfl ?_
  refine zm_getr (a := 231) dX12_entryDigest_7 f_X12_98 (by decide) (by decide) (by decide) (by decide) ?_
  refine zr_sipush (v := 309) dX12_entryDigest_10 (by decide) ?_
  refine zr_iload_n dX12_entryDigest_13 rfl 1 rfl ?_
  refine zr_iload_n dX12_entryDigest_14 rfl 2 rfl ?_
  refine zm_callS_i dX12_entryDigest_15 w_X12_at l_X12_291 s_X12_at [.int x1, .int x2] rfl rfl (Nat.le_of_ble_eq_true rfl) (Nat.le_of_ble_eq_true rfl) ?_
  refine zV.post T ?_
  rintro v M23 ⟨r22, rfl, T⟩
  refine ⟨r22, rfl, ?_⟩
  refine zr_iadd dX12_entryDigest_18 ?_
  obtain ⟨hq24, T⟩ := T
  refine zm_iald (n := 647) (o := (Int32.toNatClampNeg (309 + r22))) dX12_entryDigest_19 (by decide) (by decide) hq24 rfl ?_
  refine zm_callS_i dX12_entryDigest_20 w_X12_mix l_X12_278 s_X12_mix [.int (M.1 242 (Int32.toNatClampNeg x2)), .int (M23.1 231 (Int32.toNatClampNeg (309 + r22)))] rfl rfl (Nat.le_of_ble_eq_true rfl) (Nat.le_of_ble_eq_true rfl) ?_
  refine zV.post T ?_
  rintro v M26 ⟨r25, rfl, T⟩
  refine ⟨r25, rfl, ?_⟩
  refine zr_aload_n dX12_entryDigest_23 rfl 0 rfl ?_
  refine zm_getr (a := 231) dX12_entryDigest_24 f_X12_98 (by decide) (by decide) (by decide) (by decide) ?_
  refine zr_sipush (v := 213) dX12_entryDigest_27 (by decide) ?_
  refine zr_iload_n dX12_entryDigest_30 rfl 1 rfl ?_
  refine zr_iload_n dX12_entryDigest_31 rfl 2 rfl ?_
  refine zm_callS_i dX12_entryDigest_32 w_X12_at l_X12_291 s_X12_at [.int x1, .int x2] rfl rfl (Nat.le_of_ble_eq_true rfl) (Nat.le_of_ble_eq_true rfl) ?_
  refine zV.post T ?_
  rintro v M28 ⟨r27, rfl, T⟩
  refine ⟨r27, rfl, ?_⟩
  refine zr_iadd dX12_entryDigest_35 ?_
  obtain ⟨hq29, T⟩ := T
  refine zm_iald (n := 647) (o := (Int32.toNatClampNeg (213 + r27))) dX12_entryDigest_36 (by decide) (by decide) hq29 rfl ?_
  refine zr_iconst (v := 1) dX12_entryDigest_37 (by decide) ?_
  refine zr_iadd dX12_entryDigest_38 ?_
  refine zm_callS_i dX12_entryDigest_39 w_X12_mix l_X12_278 s_X12_mix [.int r25, .int ((M28.1 231 (Int32.toNatClampNeg (213 + r27))) + 1)] rfl rfl (Nat.le_of_ble_eq_true rfl) (Nat.le_of_ble_eq_true rfl) ?_
  refine zV.post T ?_
  rintro v M31 ⟨r30, rfl, T⟩
  refine ⟨r30, rfl, ?_⟩
  exact zm_iret dX12_entryDigest_42 rfl T
set_option maxRecDepth 100000 in
set_option maxHeartbeats 4000000 in
theorem t_X12_entriesOf {d : Nat} {x1 : Int32} {M : zMem} {K : zK} 
    (T : S_X12_entriesOf_4 (d + 1) x1 0 0 M K) : S_X12_entriesOf (d + 1) x1 M K := by
  show zV m_X12_entriesOf (d + 1) 0 [(0, .ref 229), (1, .int x1)] [] M K
  refine zr_iconst (v := 0) dX12_entriesOf_0 (by decide) ?_
  refine zr_istore_n dX12_entriesOf_1 rfl (by decide) (L2 := [(2, .int 0), (0, .ref 229), (1, .int x1)]) rfl ?_
  refine zr_iconst (v := 0) dX12_entriesOf_2 (by decide) ?_
  refine zr_istore_n dX12_entriesOf_3 rfl (by decide) (L2 := [(3, .int 0), (2, .int 0), (0, .ref 229), (1, .int x1)]) rfl ?_
  exact zV.pick [2, 3, 1, 0] rfl T
set_option maxRecDepth 100000 in
set_option maxHeartbeats 4000000 in
theorem t_X12_entriesOf_4 {d : Nat} {x1 : Int32} {x2 : Int32} {x3 : Int32} {M : zMem} {K : zK} 
    (T : ((M.1 231 0) ≤ x3 → K (some (.int x2)) M) ∧ (¬ ((M.1 231 0) ≤ x3) → S_X12_hasEntry d x1 x3 M (zB (fun r22 M23 => (r22 = false → S_X12_entriesOf_4 (d + 1) x1 x2 (x3 + 1) M23 K) ∧ (r22 = true → S_X12_entriesOf_4 (d + 1) x1 (x2 + 1) (x3 + 1) M23 K))))) : S_X12_entriesOf_4 (d + 1) x1 x2 x3 M K := by
  show zV m_X12_entriesOf (d + 1) 4 [(0, .ref 229), (1, .int x1), (2, .int x2), (3, .int x3)] [] M K
  refine zr_iload_n dX12_entriesOf_4 rfl 3 rfl ?_
  refine zr_aload_n dX12_entriesOf_5 rfl 0 rfl ?_
  refine zm_getr (a := 231) dX12_entriesOf_6 f_X12_98 (by decide) (by decide) (by decide) (by decide) ?_
  refine zr_iconst (v := 0) dX12_entriesOf_9 (by decide) ?_
  refine zm_iald (n := 647) (o := 0) dX12_entriesOf_10 (by decide) (by decide) (zin (by decide)) (by decide) ?_
  refine zr_icmp_ge (tgt := 32) dX12_entriesOf_11 (by decide) (fun h21 => ?_) (fun h21 => ?_)
  · have T := T.1 h21
    refine zr_iload_n dX12_entriesOf_32 rfl 2 rfl ?_
    exact zm_iret dX12_entriesOf_33 rfl T
  · have T := T.2 h21
    refine zr_aload_n dX12_entriesOf_14 rfl 0 rfl ?_
    refine zr_iload_n dX12_entriesOf_15 rfl 1 rfl ?_
    refine zr_iload_n dX12_entriesOf_16 rfl 3 rfl ?_
    refine zm_callV_b (c := 12) (b := 229) dX12_entriesOf_17 w_X12_hasEntry l_X12_294 rfl (by decide) (by decide) s_X12_hasEntry [.int x1, .int x3] rfl rfl (Nat.le_of_ble_eq_true rfl) (Nat.le_of_ble_eq_true rfl) ?_
    refine zV.post T ?_
    rintro v M23 ⟨r22, rfl, T⟩
    refine ⟨r22, rfl, ?_⟩
    refine zm_ifb_eq (tgt := 26) dX12_entriesOf_20 (by decide) (fun h24 => ?_) (fun h24 => ?_)
    · have T := T.1 h24
      refine zr_iinc (n := 3) (v := x3 + 1) dX12_entriesOf_26 rfl rfl (by decide) (L2 := [(3, .int (x3 + 1)), (0, .ref 229), (1, .int x1), (2, .int x2)]) rfl ?_
      refine zr_goto (tgt := 4) dX12_entriesOf_29 (by decide) ?_
      exact zV.pick [1, 2, 3, 0] rfl T
    · have T := T.2 h24
      refine zr_iinc (n := 2) (v := x2 + 1) dX12_entriesOf_23 rfl rfl (by decide) (L2 := [(2, .int (x2 + 1)), (0, .ref 229), (1, .int x1), (3, .int x3)]) rfl ?_
      refine zr_iinc (n := 3) (v := x3 + 1) dX12_entriesOf_26 rfl rfl (by decide) (L2 := [(3, .int (x3 + 1)), (2, .int (x2 + 1)), (0, .ref 229), (1, .int x1)]) rfl ?_
      refine zr_goto (tgt := 4) dX12_entriesOf_29 (by decide) ?_
      exact zV.pick [2, 3, 1, 0] rfl T
set_option maxRecDepth 100000 in
set_option maxHeartbeats 4000000 in
theorem t_X12_goneOf {d : Nat} {x1 : Int32} {M : zMem} {K : zK} 
    (T : S_X12_goneOf_4 (d + 1) x1 0 0 M K) : S_X12_goneOf (d + 1) x1 M K := by
  show zV m_X12_goneOf (d + 1) 0 [(0, .ref 229), (1, .int x1)] [] M K
  refine zr_iconst (v := 0) dX12_goneOf_0 (by decide) ?_
  refine zr_istore_n dX12_goneOf_1 rfl (by decide) (L2 := [(2, .int 0), (0, .ref 229), (1, .int x1)]) rfl ?_
  refine zr_iconst (v := 0) dX12_goneOf_2 (by decide) ?_
  refine zr_istore_n dX12_goneOf_3 rfl (by decide) (L2 := [(3, .int 0), (2, .int 0), (0, .ref 229), (1, .int x1)]) rfl ?_
  exact zV.pick [2, 3, 1, 0] rfl T
set_option maxRecDepth 100000 in
set_option maxHeartbeats 4000000 in
theorem t_X12_goneOf_4 {d : Nat} {x1 : Int32} {x2 : Int32} {x3 : Int32} {M : zMem} {K : zK} 
    (T : ((M.1 231 0) ≤ x3 → K (some (.int x2)) M) ∧ (¬ ((M.1 231 0) ≤ x3) → S_X12_hasEntry d x1 x3 M (zB (fun r22 M23 => (r22 = false → S_X12_goneOf_4 (d + 1) x1 x2 (x3 + 1) M23 K) ∧ (r22 = true → S_X12_at d x1 x3 M23 (zI (fun r25 M26 => vp_in (213 + r25) 647 ∧ ((¬ (M26.1 231 (Int32.toNatClampNeg (213 + r25))) = (-1) → S_X12_goneOf_4 (d + 1) x1 x2 (x3 + 1) M26 K) ∧ ((M26.1 231 (Int32.toNatClampNeg (213 + r25))) = (-1) → S_X12_goneOf_4 (d + 1) x1 (x2 + 1) (x3 + 1) M26 K))))))))) : S_X12_goneOf_4 (d + 1) x1 x2 x3 M K := by
  show zV m_X12_goneOf (d + 1) 4 [(0, .ref 229), (1, .int x1), (2, .int x2), (3, .int x3)] [] M K
  refine zr_iload_n dX12_goneOf_4 rfl 3 rfl ?_
  refine zr_aload_n dX12_goneOf_5 rfl 0 rfl ?_
  refine zm_getr (a := 231) dX12_goneOf_6 f_X12_98 (by decide) (by decide) (by decide) (by decide) ?_
  refine zr_iconst (v := 0) dX12_goneOf_9 (by decide) ?_
  refine zm_iald (n := 647) (o := 0) dX12_goneOf_10 (by decide) (by decide) (zin (by decide)) (by decide) ?_
  refine zr_icmp_ge (tgt := 50) dX12_goneOf_11 (by decide) (fun h21 => ?_) (fun h21 => ?_)
  · have T := T.1 h21
    refine zr_iload_n dX12_goneOf_50 rfl 2 rfl ?_
    exact zm_iret dX12_goneOf_51 rfl T
  · have T := T.2 h21
    refine zr_aload_n dX12_goneOf_14 rfl 0 rfl ?_
    refine zr_iload_n dX12_goneOf_15 rfl 1 rfl ?_
    refine zr_iload_n dX12_goneOf_16 rfl 3 rfl ?_
    refine zm_callV_b (c := 12) (b := 229) dX12_goneOf_17 w_X12_hasEntry l_X12_294 rfl (by decide) (by decide) s_X12_hasEntry [.int x1, .int x3] rfl rfl (Nat.le_of_ble_eq_true rfl) (Nat.le_of_ble_eq_true rfl) ?_
    refine zV.post T ?_
    rintro v M23 ⟨r22, rfl, T⟩
    refine ⟨r22, rfl, ?_⟩
    refine zm_ifb_eq (tgt := 44) dX12_goneOf_20 (by decide) (fun h24 => ?_) (fun h24 => ?_)
    · have T := T.1 h24
      refine zr_iinc (n := 3) (v := x3 + 1) dX12_goneOf_44 rfl rfl (by decide) (L2 := [(3, .int (x3 + 1)), (0, .ref 229), (1, .int x1), (2, .int x2)]) rfl ?_
      refine zr_goto (tgt := 4) dX12_goneOf_47 (by decide) ?_
      exact zV.pick [1, 2, 3, 0] rfl T
    · have T := T.2 h24
      refine zr_aload_n dX12_goneOf_23 rfl 0 rfl ?_
      refine zm_getr (a := 231) dX12_goneOf_24 f_X12_98 (by decide) (by decide) (by decide) (by decide) ?_
      refine zr_sipush (v := 213) dX12_goneOf_27 (by decide) ?_
      refine zr_iload_n dX12_goneOf_30 rfl 1 rfl ?_
      refine zr_iload_n dX12_goneOf_31 rfl 3 rfl ?_
      refine zm_callS_i dX12_goneOf_32 w_X12_at l_X12_291 s_X12_at [.int x1, .int x3] rfl rfl (Nat.le_of_ble_eq_true rfl) (Nat.le_of_ble_eq_true rfl) ?_
      refine zV.post T ?_
      rintro v M26 ⟨r25, rfl, T⟩
      refine ⟨r25, rfl, ?_⟩
      refine zr_iadd dX12_goneOf_35 ?_
      obtain ⟨hq27, T⟩ := T
      refine zm_iald (n := 647) (o := (Int32.toNatClampNeg (213 + r25))) dX12_goneOf_36 (by decide) (by decide) hq27 rfl ?_
      refine zr_iconst (v := (-1)) dX12_goneOf_37 (by decide) ?_
      refine zr_icmp_ne (tgt := 44) dX12_goneOf_38 (by decide) (fun h28 => ?_) (fun h28 => ?_)
      · have T := T.1 h28
        refine zr_iinc (n := 3) (v := x3 + 1) dX12_goneOf_44 rfl rfl (by decide) (L2 := [(3, .int (x3 + 1)), (0, .ref 229), (1, .int x1), (2, .int x2)]) rfl ?_
        refine zr_goto (tgt := 4) dX12_goneOf_47 (by decide) ?_
        exact zV.pick [1, 2, 3, 0] rfl T
      · have T := T.2 h28
        refine zr_iinc (n := 2) (v := x2 + 1) dX12_goneOf_41 rfl rfl (by decide) (L2 := [(2, .int (x2 + 1)), (0, .ref 229), (1, .int x1), (3, .int x3)]) rfl ?_
        refine zr_iinc (n := 3) (v := x3 + 1) dX12_goneOf_44 rfl rfl (by decide) (L2 := [(3, .int (x3 + 1)), (2, .int (x2 + 1)), (0, .ref 229), (1, .int x1)]) rfl ?_
        refine zr_goto (tgt := 4) dX12_goneOf_47 (by decide) ?_
        exact zV.pick [2, 3, 1, 0] rfl T
set_option maxRecDepth 100000 in
set_option maxHeartbeats 4000000 in
theorem t_X12_rootsLike {d : Nat} {x1 : Int32} {M : zMem} {K : zK} 
    (T : S_X12_rootOf d x1 M (zI (fun r21 M22 => S_X12_rootsLike_11 (d + 1) r21 0 0 M22 K))) : S_X12_rootsLike (d + 1) x1 M K := by
  show zV m_X12_rootsLike (d + 1) 0 [(0, .ref 229), (1, .int x1)] [] M K
  refine zr_aload_n dX12_rootsLike_0 rfl 0 rfl ?_
  refine zr_iload_n dX12_rootsLike_1 rfl 1 rfl ?_
  refine zm_callV_i (c := 12) (b := 229) dX12_rootsLike_2 w_X12_rootOf l_X12_317 rfl (by decide) (by decide) s_X12_rootOf [.int x1] rfl rfl (Nat.le_of_ble_eq_true rfl) (Nat.le_of_ble_eq_true rfl) ?_
  refine zV.post T ?_
  rintro v M22 ⟨r21, rfl, T⟩
  refine ⟨r21, rfl, ?_⟩
  refine zr_istore_n dX12_rootsLike_5 rfl (by decide) (L2 := [(2, .int r21), (0, .ref 229), (1, .int x1)]) rfl ?_
  refine zr_iconst (v := 0) dX12_rootsLike_6 (by decide) ?_
  refine zr_istore_n dX12_rootsLike_7 rfl (by decide) (L2 := [(3, .int 0), (2, .int r21), (0, .ref 229), (1, .int x1)]) rfl ?_
  refine zr_iconst (v := 0) dX12_rootsLike_8 (by decide) ?_
  refine zr_istore dX12_rootsLike_9 (by decide) (L2 := [(4, .int 0), (3, .int 0), (2, .int r21), (0, .ref 229), (1, .int x1)]) rfl ?_
  exact zV.pick [3, 2, 1, 0] rfl T
set_option maxRecDepth 100000 in
set_option maxHeartbeats 4000000 in
theorem t_X12_rootsLike_11 {d : Nat} {x2 : Int32} {x3 : Int32} {x4 : Int32} {M : zMem} {K : zK} 
    (T : ((M.1 231 1) ≤ x4 → K (some (.int x3)) M) ∧ (¬ ((M.1 231 1) ≤ x4) → S_X12_rootOf d x4 M (zI (fun r22 M23 => (¬ r22 = x2 → S_X12_rootsLike_11 (d + 1) x2 x3 (x4 + 1) M23 K) ∧ (r22 = x2 → S_X12_rootsLike_11 (d + 1) x2 (x3 ||| ((1 : Int32) <<< (x4 &&& 31))) (x4 + 1) M23 K))))) : S_X12_rootsLike_11 (d + 1) x2 x3 x4 M K := by
  show zV m_X12_rootsLike (d + 1) 11 [(0, .ref 229), (2, .int x2), (3, .int x3), (4, .int x4)] [] M K
  refine zr_iload dX12_rootsLike_11 3 rfl ?_
  refine zr_aload_n dX12_rootsLike_13 rfl 0 rfl ?_
  refine zm_getr (a := 231) dX12_rootsLike_14 f_X12_98 (by decide) (by decide) (by decide) (by decide) ?_
  refine zr_iconst (v := 1) dX12_rootsLike_17 (by decide) ?_
  refine zm_iald (n := 647) (o := 1) dX12_rootsLike_18 (by decide) (by decide) (zin (by decide)) (by decide) ?_
  refine zr_icmp_ge (tgt := 45) dX12_rootsLike_19 (by decide) (fun h21 => ?_) (fun h21 => ?_)
  · have T := T.1 h21
    refine zr_iload_n dX12_rootsLike_45 rfl 2 rfl ?_
    exact zm_iret dX12_rootsLike_46 rfl T
  · have T := T.2 h21
    refine zr_aload_n dX12_rootsLike_22 rfl 0 rfl ?_
    refine zr_iload dX12_rootsLike_23 3 rfl ?_
    refine zm_callV_i (c := 12) (b := 229) dX12_rootsLike_25 w_X12_rootOf l_X12_317 rfl (by decide) (by decide) s_X12_rootOf [.int x4] rfl rfl (Nat.le_of_ble_eq_true rfl) (Nat.le_of_ble_eq_true rfl) ?_
    refine zV.post T ?_
    rintro v M23 ⟨r22, rfl, T⟩
    refine ⟨r22, rfl, ?_⟩
    refine zr_iload_n dX12_rootsLike_28 rfl 1 rfl ?_
    refine zr_icmp_ne (tgt := 39) dX12_rootsLike_29 (by decide) (fun h24 => ?_) (fun h24 => ?_)
    · have T := T.1 h24
      refine zr_iinc (n := 3) (v := x4 + 1) dX12_rootsLike_39 rfl rfl (by decide) (L2 := [(4, .int (x4 + 1)), (0, .ref 229), (2, .int x2), (3, .int x3)]) rfl ?_
      refine zr_goto (tgt := 11) dX12_rootsLike_42 (by decide) ?_
      exact zV.pick [1, 2, 3, 0] rfl T
    · have T := T.2 h24
      refine zr_iload_n dX12_rootsLike_32 rfl 2 rfl ?_
      refine zr_iconst (v := 1) dX12_rootsLike_33 (by decide) ?_
      refine zr_iload dX12_rootsLike_34 3 rfl ?_
      refine zr_ishl dX12_rootsLike_36 ?_
      refine zr_ior dX12_rootsLike_37 ?_
      refine zr_istore_n dX12_rootsLike_38 rfl (by decide) (L2 := [(3, .int (x3 ||| ((1 : Int32) <<< (x4 &&& 31)))), (0, .ref 229), (2, .int x2), (4, .int x4)]) rfl ?_
      refine zr_iinc (n := 3) (v := x4 + 1) dX12_rootsLike_39 rfl rfl (by decide) (L2 := [(4, .int (x4 + 1)), (3, .int (x3 ||| ((1 : Int32) <<< (x4 &&& 31)))), (0, .ref 229), (2, .int x2)]) rfl ?_
      refine zr_goto (tgt := 11) dX12_rootsLike_42 (by decide) ?_
      exact zV.pick [2, 3, 1, 0] rfl T
set_option maxRecDepth 100000 in
set_option maxHeartbeats 4000000 in
theorem t_X12_rootOf {d : Nat} {x1 : Int32} {M : zMem} {K : zK} 
    (T : S_X12_layTree d 0 x1 M (zI (fun r21 M22 => K (some (.int r21)) M22))) : S_X12_rootOf (d + 1) x1 M K := by
  show zV m_X12_rootOf (d + 1) 0 [(0, .ref 229), (1, .int x1)] [] M K
  refine zr_aload_n dX12_rootOf_0 rfl 0 rfl ?_
  refine zr_iconst (v := 0) dX12_rootOf_1 (by decide) ?_
  refine zr_iload_n dX12_rootOf_2 rfl 1 rfl ?_
  refine zm_callV_i (c := 12) (b := 229) dX12_rootOf_3 w_X12_layTree l_X12_308 rfl (by decide) (by decide) s_X12_layTree [.int 0, .int x1] rfl rfl (Nat.le_of_ble_eq_true rfl) (Nat.le_of_ble_eq_true rfl) ?_
  refine zV.post T ?_
  rintro v M22 ⟨r21, rfl, T⟩
  refine ⟨r21, rfl, ?_⟩
  exact zm_iret dX12_rootOf_6 rfl T
set_option maxRecDepth 100000 in
set_option maxHeartbeats 4000000 in
theorem t_X12_root {d : Nat} {x1 : Int32} {M : zMem} {K : zK} 
    (T : (∀ M21 : zMem, M21 = wI M 229 0 0 → S_X12_isPeer d x1 M21 (zB (fun r23 M24 => (r23 = false → S_X12_refuse d  M24 (zI (fun r26 M27 => K (some (.int r26)) M27))) ∧ (r23 = true → S_X12_rootOf d x1 M24 (zI (fun r28 M29 => K (some (.int r28)) M29))))))) : S_X12_root (d + 1) x1 M K := by
  show zV m_X12_root (d + 1) 0 [(0, .ref 229), (1, .int x1)] [] M K
  refine zr_aload_n dX12_root_0 rfl 0 rfl ?_
  refine zr_iconst (v := 0) dX12_root_1 (by decide) ?_
  refine zn_puti dX12_root_2 f_X12_1 (by decide) (by decide) (by decide) (fun M21 e22 => ?_)
  have T := T M21 e22
  refine zr_aload_n dX12_root_5 rfl 0 rfl ?_
  refine zr_iload_n dX12_root_6 rfl 1 rfl ?_
  refine zm_callV_b (c := 12) (b := 229) dX12_root_7 w_X12_isPeer l_X12_288 rfl (by decide) (by decide) s_X12_isPeer [.int x1] rfl rfl (Nat.le_of_ble_eq_true rfl) (Nat.le_of_ble_eq_true rfl) ?_
  refine zV.post T ?_
  rintro v M24 ⟨r23, rfl, T⟩
  refine ⟨r23, rfl, ?_⟩
  refine zm_ifb_eq (tgt := 21) dX12_root_10 (by decide) (fun h25 => ?_) (fun h25 => ?_)
  · have T := T.1 h25
    refine zr_aload_n dX12_root_21 rfl 0 rfl ?_
    refine zm_callV_i (c := 12) (b := 229) dX12_root_22 w_X12_refuse l_X12_329 rfl (by decide) (by decide) s_X12_refuse [] rfl rfl (Nat.le_of_ble_eq_true rfl) (Nat.le_of_ble_eq_true rfl) ?_
    refine zV.post T ?_
    rintro v M27 ⟨r26, rfl, T⟩
    refine ⟨r26, rfl, ?_⟩
    exact zm_iret dX12_root_25 rfl T
  · have T := T.2 h25
    refine zr_aload_n dX12_root_13 rfl 0 rfl ?_
    refine zr_iload_n dX12_root_14 rfl 1 rfl ?_
    refine zm_callV_i (c := 12) (b := 229) dX12_root_15 w_X12_rootOf l_X12_317 rfl (by decide) (by decide) s_X12_rootOf [.int x1] rfl rfl (Nat.le_of_ble_eq_true rfl) (Nat.le_of_ble_eq_true rfl) ?_
    refine zV.post T ?_
    rintro v M29 ⟨r28, rfl, T⟩
    refine ⟨r28, rfl, ?_⟩
    refine zr_goto (tgt := 25) dX12_root_18 (by decide) ?_
    exact zm_iret dX12_root_25 rfl T
set_option maxRecDepth 100000 in
set_option maxHeartbeats 4000000 in
theorem t_X12_entry {d : Nat} {x1 : Int32} {x2 : Int32} {x3 : Int32} {M : zMem} {K : zK} 
    (T : (∀ M21 : zMem, M21 = wI M 229 0 0 → S_X12_isPeer d x1 M21 (zB (fun r23 M24 => (r23 = false → S_X12_refuse d  M24 (zI (fun r26 M27 => K (some (.int r26)) M27))) ∧ (r23 = true → S_X12_isKey d x2 M24 (zB (fun r28 M29 => (r28 = false → S_X12_refuse d  M29 (zI (fun r31 M32 => K (some (.int r31)) M32))) ∧ (r28 = true → S_X12_hasEntry d x1 x2 M29 (zB (fun r33 M34 => (r33 = true → (x3 = 0 → S_X12_at d x1 x2 M34 (zI (fun r36 M37 => vp_in (213 + r36) 647 ∧ (K (some (.int (M37.1 231 (Int32.toNatClampNeg (213 + r36))))) M37)))) ∧ (x3 = 1 → S_X12_at d x1 x2 M34 (zI (fun r39 M40 => vp_in (309 + r39) 647 ∧ (K (some (.int (M40.1 231 (Int32.toNatClampNeg (309 + r39))))) M40)))) ∧ (x3 = 2 → S_X12_entryDigest d x1 x2 M34 (zI (fun r42 M43 => K (some (.int r42)) M43))) ∧ (¬ x3 = 0 → ¬ x3 = 1 → ¬ x3 = 2 → S_X12_refuse d  M34 (zI (fun r44 M45 => K (some (.int r44)) M45)))) ∧ (r33 = false → S_X12_refuse d  M34 (zI (fun r49 M50 => K (some (.int r49)) M50))))))))))))) : S_X12_entry (d + 1) x1 x2 x3 M K := by
  show zV m_X12_entry (d + 1) 0 [(0, .ref 229), (1, .int x1), (2, .int x2), (3, .int x3)] [] M K
  refine zr_aload_n dX12_entry_0 rfl 0 rfl ?_
  refine zr_iconst (v := 0) dX12_entry_1 (by decide) ?_
  refine zn_puti dX12_entry_2 f_X12_1 (by decide) (by decide) (by decide) (fun M21 e22 => ?_)
  have T := T M21 e22
  refine zr_aload_n dX12_entry_5 rfl 0 rfl ?_
  refine zr_iload_n dX12_entry_6 rfl 1 rfl ?_
  refine zm_callV_b (c := 12) (b := 229) dX12_entry_7 w_X12_isPeer l_X12_288 rfl (by decide) (by decide) s_X12_isPeer [.int x1] rfl rfl (Nat.le_of_ble_eq_true rfl) (Nat.le_of_ble_eq_true rfl) ?_
  refine zV.post T ?_
  rintro v M24 ⟨r23, rfl, T⟩
  refine ⟨r23, rfl, ?_⟩
  refine zm_ifb_eq (tgt := 30) dX12_entry_10 (by decide) (fun h25 => ?_) (fun h25 => ?_)
  · have T := T.1 h25
    refine zr_aload_n dX12_entry_30 rfl 0 rfl ?_
    refine zm_callV_i (c := 12) (b := 229) dX12_entry_31 w_X12_refuse l_X12_329 rfl (by decide) (by decide) s_X12_refuse [] rfl rfl (Nat.le_of_ble_eq_true rfl) (Nat.le_of_ble_eq_true rfl) ?_
    refine zV.post T ?_
    rintro v M27 ⟨r26, rfl, T⟩
    refine ⟨r26, rfl, ?_⟩
    exact zm_iret dX12_entry_34 rfl T
  · have T := T.2 h25
    refine zr_aload_n dX12_entry_13 rfl 0 rfl ?_
    refine zr_iload_n dX12_entry_14 rfl 2 rfl ?_
    refine zm_callV_b (c := 12) (b := 229) dX12_entry_15 w_X12_isKey l_X12_326 rfl (by decide) (by decide) s_X12_isKey [.int x2] rfl rfl (Nat.le_of_ble_eq_true rfl) (Nat.le_of_ble_eq_true rfl) ?_
    refine zV.post T ?_
    rintro v M29 ⟨r28, rfl, T⟩
    refine ⟨r28, rfl, ?_⟩
    refine zm_ifb_eq (tgt := 30) dX12_entry_18 (by decide) (fun h30 => ?_) (fun h30 => ?_)
    · have T := T.1 h30
      refine zr_aload_n dX12_entry_30 rfl 0 rfl ?_
      refine zm_callV_i (c := 12) (b := 229) dX12_entry_31 w_X12_refuse l_X12_329 rfl (by decide) (by decide) s_X12_refuse [] rfl rfl (Nat.le_of_ble_eq_true rfl) (Nat.le_of_ble_eq_true rfl) ?_
      refine zV.post T ?_
      rintro v M32 ⟨r31, rfl, T⟩
      refine ⟨r31, rfl, ?_⟩
      exact zm_iret dX12_entry_34 rfl T
    · have T := T.2 h30
      refine zr_aload_n dX12_entry_21 rfl 0 rfl ?_
      refine zr_iload_n dX12_entry_22 rfl 1 rfl ?_
      refine zr_iload_n dX12_entry_23 rfl 2 rfl ?_
      refine zm_callV_b (c := 12) (b := 229) dX12_entry_24 w_X12_hasEntry l_X12_294 rfl (by decide) (by decide) s_X12_hasEntry [.int x1, .int x2] rfl rfl (Nat.le_of_ble_eq_true rfl) (Nat.le_of_ble_eq_true rfl) ?_
      refine zV.post T ?_
      rintro v M34 ⟨r33, rfl, T⟩
      refine ⟨r33, rfl, ?_⟩
      refine zm_ifb_ne (tgt := 35) dX12_entry_27 (by decide) (fun h35 => ?_) (fun h35 => ?_)
      · have T := T.1 h35
        refine zr_iload_n dX12_entry_35 rfl 3 rfl ?_
        by_cases h46 : x3 = 0
        · have T := T.1 h46
          refine zr_tableIn (tgt := 64) dX12_entry_36 (by rw [h46]; decide) (by rw [h46]; decide) (by rw [h46]; rfl) (by decide) ?_
          refine zr_aload_n dX12_entry_64 rfl 0 rfl ?_
          refine zm_getr (a := 231) dX12_entry_65 f_X12_98 (by decide) (by decide) (by decide) (by decide) ?_
          refine zr_sipush (v := 213) dX12_entry_68 (by decide) ?_
          refine zr_iload_n dX12_entry_71 rfl 1 rfl ?_
          refine zr_iload_n dX12_entry_72 rfl 2 rfl ?_
          refine zm_callS_i dX12_entry_73 w_X12_at l_X12_291 s_X12_at [.int x1, .int x2] rfl rfl (Nat.le_of_ble_eq_true rfl) (Nat.le_of_ble_eq_true rfl) ?_
          refine zV.post T ?_
          rintro v M37 ⟨r36, rfl, T⟩
          refine ⟨r36, rfl, ?_⟩
          refine zr_iadd dX12_entry_76 ?_
          obtain ⟨hq38, T⟩ := T
          refine zm_iald (n := 647) (o := (Int32.toNatClampNeg (213 + r36))) dX12_entry_77 (by decide) (by decide) hq38 rfl ?_
          exact zm_iret dX12_entry_78 rfl T
        by_cases h47 : x3 = 1
        · have T := T.2.1 h47
          refine zr_tableIn (tgt := 79) dX12_entry_36 (by rw [h47]; decide) (by rw [h47]; decide) (by rw [h47]; rfl) (by decide) ?_
          refine zr_aload_n dX12_entry_79 rfl 0 rfl ?_
          refine zm_getr (a := 231) dX12_entry_80 f_X12_98 (by decide) (by decide) (by decide) (by decide) ?_
          refine zr_sipush (v := 309) dX12_entry_83 (by decide) ?_
          refine zr_iload_n dX12_entry_86 rfl 1 rfl ?_
          refine zr_iload_n dX12_entry_87 rfl 2 rfl ?_
          refine zm_callS_i dX12_entry_88 w_X12_at l_X12_291 s_X12_at [.int x1, .int x2] rfl rfl (Nat.le_of_ble_eq_true rfl) (Nat.le_of_ble_eq_true rfl) ?_
          refine zV.post T ?_
          rintro v M40 ⟨r39, rfl, T⟩
          refine ⟨r39, rfl, ?_⟩
          refine zr_iadd dX12_entry_91 ?_
          obtain ⟨hq41, T⟩ := T
          refine zm_iald (n := 647) (o := (Int32.toNatClampNeg (309 + r39))) dX12_entry_92 (by decide) (by decide) hq41 rfl ?_
          exact zm_iret dX12_entry_93 rfl T
        by_cases h48 : x3 = 2
        · have T := T.2.2.1 h48
          refine zr_tableIn (tgt := 94) dX12_entry_36 (by rw [h48]; decide) (by rw [h48]; decide) (by rw [h48]; rfl) (by decide) ?_
          refine zr_aload_n dX12_entry_94 rfl 0 rfl ?_
          refine zr_iload_n dX12_entry_95 rfl 1 rfl ?_
          refine zr_iload_n dX12_entry_96 rfl 2 rfl ?_
          refine zm_callV_i (c := 12) (b := 229) dX12_entry_97 w_X12_entryDigest l_X12_305 rfl (by decide) (by decide) s_X12_entryDigest [.int x1, .int x2] rfl rfl (Nat.le_of_ble_eq_true rfl) (Nat.le_of_ble_eq_true rfl) ?_
          refine zV.post T ?_
          rintro v M43 ⟨r42, rfl, T⟩
          refine ⟨r42, rfl, ?_⟩
          exact zm_iret dX12_entry_100 rfl T
        · have T := T.2.2.2 h46 h47 h48
          refine zr_tableOut (tgt := 101) dX12_entry_36 (z_out_0_2 h46 h47 h48) (by decide) ?_
          refine zr_aload_n dX12_entry_101 rfl 0 rfl ?_
          refine zm_callV_i (c := 12) (b := 229) dX12_entry_102 w_X12_refuse l_X12_329 rfl (by decide) (by decide) s_X12_refuse [] rfl rfl (Nat.le_of_ble_eq_true rfl) (Nat.le_of_ble_eq_true rfl) ?_
          refine zV.post T ?_
          rintro v M45 ⟨r44, rfl, T⟩
          refine ⟨r44, rfl, ?_⟩
          exact zm_iret dX12_entry_105 rfl T
      · have T := T.2 h35
        refine zr_aload_n dX12_entry_30 rfl 0 rfl ?_
        refine zm_callV_i (c := 12) (b := 229) dX12_entry_31 w_X12_refuse l_X12_329 rfl (by decide) (by decide) s_X12_refuse [] rfl rfl (Nat.le_of_ble_eq_true rfl) (Nat.le_of_ble_eq_true rfl) ?_
        refine zV.post T ?_
        rintro v M50 ⟨r49, rfl, T⟩
        refine ⟨r49, rfl, ?_⟩
        exact zm_iret dX12_entry_34 rfl T
set_option maxRecDepth 100000 in
set_option maxHeartbeats 4000000 in
theorem t_X12_node {d : Nat} {x1 : Int32} {x2 : Int32} {x3 : Int32} {M : zMem} {K : zK} 
    (T : (∀ M21 : zMem, M21 = wI M 229 0 0 → S_X12_isPeer d x1 M21 (zB (fun r23 M24 => (r23 = true → S_X12_layTree d 0 x1 M24 (zI (fun r26 M27 => S_X12_isIn d x2 0 ((M27.1 246 0) - 1) M27 (zB (fun r28 M29 => (r28 = true → (x3 = 0 → vp_in x2 48 ∧ (K (some (.int (M29.1 247 (Int32.toNatClampNeg x2)))) M29)) ∧ (x3 = 1 → vp_in x2 48 ∧ (S_X12_bits d (M29.1 248 (Int32.toNatClampNeg x2)) M29 (zI (fun r33 M34 => K (some (.int r33)) M34)))) ∧ (x3 = 2 → vp_in x2 48 ∧ (K (some (.int (M29.1 249 (Int32.toNatClampNeg x2)))) M29)) ∧ (x3 = 3 → vp_in x2 48 ∧ (K (some (.int (M29.1 250 (Int32.toNatClampNeg x2)))) M29)) ∧ (x3 = 4 → vp_in x2 48 ∧ (K (some (.int (M29.1 251 (Int32.toNatClampNeg x2)))) M29)) ∧ (x3 = 5 → vp_in x2 48 ∧ (K (some (.int (M29.1 252 (Int32.toNatClampNeg x2)))) M29)) ∧ (x3 = 6 → vp_in x2 48 ∧ (K (some (.int (M29.1 253 (Int32.toNatClampNeg x2)))) M29)) ∧ (¬ x3 = 0 → ¬ x3 = 1 → ¬ x3 = 2 → ¬ x3 = 3 → ¬ x3 = 4 → ¬ x3 = 5 → ¬ x3 = 6 → S_X12_refuse d  M29 (zI (fun r40 M41 => K (some (.int r40)) M41)))) ∧ (r28 = false → S_X12_refuse d  M29 (zI (fun r49 M50 => K (some (.int r49)) M50)))))))) ∧ (r23 = false → S_X12_refuse d  M24 (zI (fun r51 M52 => K (some (.int r51)) M52))))))) : S_X12_node (d + 1) x1 x2 x3 M K := by
  show zV m_X12_node (d + 1) 0 [(0, .ref 229), (1, .int x1), (2, .int x2), (3, .int x3)] [] M K
  refine zr_aload_n dX12_node_0 rfl 0 rfl ?_
  refine zr_iconst (v := 0) dX12_node_1 (by decide) ?_
  refine zn_puti dX12_node_2 f_X12_1 (by decide) (by decide) (by decide) (fun M21 e22 => ?_)
  have T := T M21 e22
  refine zr_aload_n dX12_node_5 rfl 0 rfl ?_
  refine zr_iload_n dX12_node_6 rfl 1 rfl ?_
  refine zm_callV_b (c := 12) (b := 229) dX12_node_7 w_X12_isPeer l_X12_288 rfl (by decide) (by decide) s_X12_isPeer [.int x1] rfl rfl (Nat.le_of_ble_eq_true rfl) (Nat.le_of_ble_eq_true rfl) ?_
  refine zV.post T ?_
  rintro v M24 ⟨r23, rfl, T⟩
  refine ⟨r23, rfl, ?_⟩
  refine zm_ifb_ne (tgt := 18) dX12_node_10 (by decide) (fun h25 => ?_) (fun h25 => ?_)
  · have T := T.1 h25
    refine zr_aload_n dX12_node_18 rfl 0 rfl ?_
    refine zr_iconst (v := 0) dX12_node_19 (by decide) ?_
    refine zr_iload_n dX12_node_20 rfl 1 rfl ?_
    refine zm_callV_i (c := 12) (b := 229) dX12_node_21 w_X12_layTree l_X12_308 rfl (by decide) (by decide) s_X12_layTree [.int 0, .int x1] rfl rfl (Nat.le_of_ble_eq_true rfl) (Nat.le_of_ble_eq_true rfl) ?_
    refine zV.post T ?_
    rintro v M27 ⟨r26, rfl, T⟩
    refine ⟨r26, rfl, ?_⟩
    refine zr_pop dX12_node_24 rfl ?_
    refine zr_iload_n dX12_node_25 rfl 2 rfl ?_
    refine zr_iconst (v := 0) dX12_node_26 (by decide) ?_
    refine zr_aload_n dX12_node_27 rfl 0 rfl ?_
    refine zm_getr (a := 246) dX12_node_28 f_X12_148 (by decide) (by decide) (by decide) (by decide) ?_
    refine zr_iconst (v := 0) dX12_node_31 (by decide) ?_
    refine zm_iald (n := 2) (o := 0) dX12_node_32 (by decide) (by decide) (zin (by decide)) (by decide) ?_
    refine zr_iconst (v := 1) dX12_node_33 (by decide) ?_
    refine zr_isub dX12_node_34 ?_
    refine zm_callS_b dX12_node_35 w_X12_isIn l_X12_75 s_X12_isIn [.int x2, .int 0, .int ((M27.1 246 0) - 1)] rfl rfl (Nat.le_of_ble_eq_true rfl) (Nat.le_of_ble_eq_true rfl) ?_
    refine zV.post T ?_
    rintro v M29 ⟨r28, rfl, T⟩
    refine ⟨r28, rfl, ?_⟩
    refine zm_ifb_ne (tgt := 46) dX12_node_38 (by decide) (fun h30 => ?_) (fun h30 => ?_)
    · have T := T.1 h30
      refine zr_iload_n dX12_node_46 rfl 3 rfl ?_
      by_cases h42 : x3 = 0
      · have T := T.1 h42
        refine zr_tableIn (tgt := 88) dX12_node_47 (by rw [h42]; decide) (by rw [h42]; decide) (by rw [h42]; rfl) (by decide) ?_
        refine zr_aload_n dX12_node_88 rfl 0 rfl ?_
        refine zm_getr (a := 247) dX12_node_89 f_X12_151 (by decide) (by decide) (by decide) (by decide) ?_
        refine zr_iload_n dX12_node_92 rfl 2 rfl ?_
        obtain ⟨hq31, T⟩ := T
        refine zm_iald (n := 48) (o := (Int32.toNatClampNeg x2)) dX12_node_93 (by decide) (by decide) hq31 rfl ?_
        exact zm_iret dX12_node_94 rfl T
      by_cases h43 : x3 = 1
      · have T := T.2.1 h43
        refine zr_tableIn (tgt := 95) dX12_node_47 (by rw [h43]; decide) (by rw [h43]; decide) (by rw [h43]; rfl) (by decide) ?_
        refine zr_aload_n dX12_node_95 rfl 0 rfl ?_
        refine zm_getr (a := 248) dX12_node_96 f_X12_154 (by decide) (by decide) (by decide) (by decide) ?_
        refine zr_iload_n dX12_node_99 rfl 2 rfl ?_
        obtain ⟨hq32, T⟩ := T
        refine zm_iald (n := 48) (o := (Int32.toNatClampNeg x2)) dX12_node_100 (by decide) (by decide) hq32 rfl ?_
        refine zm_callS_i dX12_node_101 w_X12_bits l_X12_338 s_X12_bits [.int (M29.1 248 (Int32.toNatClampNeg x2))] rfl rfl (Nat.le_of_ble_eq_true rfl) (Nat.le_of_ble_eq_true rfl) ?_
        refine zV.post T ?_
        rintro v M34 ⟨r33, rfl, T⟩
        refine ⟨r33, rfl, ?_⟩
        exact zm_iret dX12_node_104 rfl T
      by_cases h44 : x3 = 2
      · have T := T.2.2.1 h44
        refine zr_tableIn (tgt := 105) dX12_node_47 (by rw [h44]; decide) (by rw [h44]; decide) (by rw [h44]; rfl) (by decide) ?_
        refine zr_aload_n dX12_node_105 rfl 0 rfl ?_
        refine zm_getr (a := 249) dX12_node_106 f_X12_157 (by decide) (by decide) (by decide) (by decide) ?_
        refine zr_iload_n dX12_node_109 rfl 2 rfl ?_
        obtain ⟨hq35, T⟩ := T
        refine zm_iald (n := 48) (o := (Int32.toNatClampNeg x2)) dX12_node_110 (by decide) (by decide) hq35 rfl ?_
        exact zm_iret dX12_node_111 rfl T
      by_cases h45 : x3 = 3
      · have T := T.2.2.2.1 h45
        refine zr_tableIn (tgt := 112) dX12_node_47 (by rw [h45]; decide) (by rw [h45]; decide) (by rw [h45]; rfl) (by decide) ?_
        refine zr_aload_n dX12_node_112 rfl 0 rfl ?_
        refine zm_getr (a := 250) dX12_node_113 f_X12_160 (by decide) (by decide) (by decide) (by decide) ?_
        refine zr_iload_n dX12_node_116 rfl 2 rfl ?_
        obtain ⟨hq36, T⟩ := T
        refine zm_iald (n := 48) (o := (Int32.toNatClampNeg x2)) dX12_node_117 (by decide) (by decide) hq36 rfl ?_
        exact zm_iret dX12_node_118 rfl T
      by_cases h46 : x3 = 4
      · have T := T.2.2.2.2.1 h46
        refine zr_tableIn (tgt := 119) dX12_node_47 (by rw [h46]; decide) (by rw [h46]; decide) (by rw [h46]; rfl) (by decide) ?_
        refine zr_aload_n dX12_node_119 rfl 0 rfl ?_
        refine zm_getr (a := 251) dX12_node_120 f_X12_163 (by decide) (by decide) (by decide) (by decide) ?_
        refine zr_iload_n dX12_node_123 rfl 2 rfl ?_
        obtain ⟨hq37, T⟩ := T
        refine zm_iald (n := 48) (o := (Int32.toNatClampNeg x2)) dX12_node_124 (by decide) (by decide) hq37 rfl ?_
        exact zm_iret dX12_node_125 rfl T
      by_cases h47 : x3 = 5
      · have T := T.2.2.2.2.2.1 h47
        refine zr_tableIn (tgt := 126) dX12_node_47 (by rw [h47]; decide) (by rw [h47]; decide) (by rw [h47]; rfl) (by decide) ?_
        refine zr_aload_n dX12_node_126 rfl 0 rfl ?_
        refine zm_getr (a := 252) dX12_node_127 f_X12_166 (by decide) (by decide) (by decide) (by decide) ?_
        refine zr_iload_n dX12_node_130 rfl 2 rfl ?_
        obtain ⟨hq38, T⟩ := T
        refine zm_iald (n := 48) (o := (Int32.toNatClampNeg x2)) dX12_node_131 (by decide) (by decide) hq38 rfl ?_
        exact zm_iret dX12_node_132 rfl T
      by_cases h48 : x3 = 6
      · have T := T.2.2.2.2.2.2.1 h48
        refine zr_tableIn (tgt := 133) dX12_node_47 (by rw [h48]; decide) (by rw [h48]; decide) (by rw [h48]; rfl) (by decide) ?_
        refine zr_aload_n dX12_node_133 rfl 0 rfl ?_
        refine zm_getr (a := 253) dX12_node_134 f_X12_169 (by decide) (by decide) (by decide) (by decide) ?_
        refine zr_iload_n dX12_node_137 rfl 2 rfl ?_
        obtain ⟨hq39, T⟩ := T
        refine zm_iald (n := 48) (o := (Int32.toNatClampNeg x2)) dX12_node_138 (by decide) (by decide) hq39 rfl ?_
        exact zm_iret dX12_node_139 rfl T
      · have T := T.2.2.2.2.2.2.2 h42 h43 h44 h45 h46 h47 h48
        refine zr_tableOut (tgt := 140) dX12_node_47 (z_out_0_6 h42 h43 h44 h45 h46 h47 h48) (by decide) ?_
        refine zr_aload_n dX12_node_140 rfl 0 rfl ?_
        refine zm_callV_i (c := 12) (b := 229) dX12_node_141 w_X12_refuse l_X12_329 rfl (by decide) (by decide) s_X12_refuse [] rfl rfl (Nat.le_of_ble_eq_true rfl) (Nat.le_of_ble_eq_true rfl) ?_
        refine zV.post T ?_
        rintro v M41 ⟨r40, rfl, T⟩
        refine ⟨r40, rfl, ?_⟩
        exact zm_iret dX12_node_144 rfl T
    · have T := T.2 h30
      refine zr_aload_n dX12_node_41 rfl 0 rfl ?_
      refine zm_callV_i (c := 12) (b := 229) dX12_node_42 w_X12_refuse l_X12_329 rfl (by decide) (by decide) s_X12_refuse [] rfl rfl (Nat.le_of_ble_eq_true rfl) (Nat.le_of_ble_eq_true rfl) ?_
      refine zV.post T ?_
      rintro v M50 ⟨r49, rfl, T⟩
      refine ⟨r49, rfl, ?_⟩
      exact zm_iret dX12_node_45 rfl T
  · have T := T.2 h25
    refine zr_aload_n dX12_node_13 rfl 0 rfl ?_
    refine zm_callV_i (c := 12) (b := 229) dX12_node_14 w_X12_refuse l_X12_329 rfl (by decide) (by decide) s_X12_refuse [] rfl rfl (Nat.le_of_ble_eq_true rfl) (Nat.le_of_ble_eq_true rfl) ?_
    refine zV.post T ?_
    rintro v M52 ⟨r51, rfl, T⟩
    refine ⟨r51, rfl, ?_⟩
    exact zm_iret dX12_node_17 rfl T
set_option maxRecDepth 100000 in
set_option maxHeartbeats 4000000 in
theorem t_X12_bits {d : Nat} {x0 : Int32} {M : zMem} {K : zK} 
    (T : S_X12_bits_4 d 0 x0 M K) : S_X12_bits d x0 M K := by
  show zV m_X12_bits d 0 [(0, .int x0)] [] M K
  refine zr_iconst (v := 0) dX12_bits_0 (by decide) ?_
  refine zr_istore_n dX12_bits_1 rfl (by decide) (L2 := [(1, .int 0), (0, .int x0)]) rfl ?_
  refine zr_iload_n dX12_bits_2 rfl 1 rfl ?_
  refine zr_istore_n dX12_bits_3 rfl (by decide) (L2 := [(2, .int x0), (1, .int 0), (0, .int x0)]) rfl ?_
  exact zV.pick [1, 0] rfl T
set_option maxRecDepth 100000 in
set_option maxHeartbeats 4000000 in
theorem t_X12_bits_4 {d : Nat} {x1 : Int32} {x2 : Int32} {M : zMem} {K : zK} 
    (T : (x2 = 0 → K (some (.int x1)) M) ∧ (¬ (x2 = 0) → S_X12_bits_4 d (x1 + 1) (x2 &&& (x2 - 1)) M K)) : S_X12_bits_4 d x1 x2 M K := by
  show zV m_X12_bits d 4 [(1, .int x1), (2, .int x2)] [] M K
  refine zr_iload_n dX12_bits_4 rfl 1 rfl ?_
  refine zr_if_eq (tgt := 20) dX12_bits_5 (by decide) (fun h21 => ?_) (fun h21 => ?_)
  · have T := T.1 h21
    refine zr_iload_n dX12_bits_20 rfl 0 rfl ?_
    exact zm_iret dX12_bits_21 rfl T
  · have T := T.2 h21
    refine zr_iinc (n := 0) (v := x1 + 1) dX12_bits_8 rfl rfl (by decide) (L2 := [(1, .int (x1 + 1)), (2, .int x2)]) rfl ?_
    refine zr_iload_n dX12_bits_11 rfl 1 rfl ?_
    refine zr_iload_n dX12_bits_12 rfl 1 rfl ?_
    refine zr_iconst (v := 1) dX12_bits_13 (by decide) ?_
    refine zr_isub dX12_bits_14 ?_
    refine zr_iand dX12_bits_15 ?_
    refine zr_istore_n dX12_bits_16 rfl (by decide) (L2 := [(2, .int (x2 &&& (x2 - 1))), (1, .int (x1 + 1))]) rfl ?_
    refine zr_goto (tgt := 4) dX12_bits_17 (by decide) ?_
    exact zV.pick [1, 0] rfl T
set_option maxRecDepth 100000 in
set_option maxHeartbeats 4000000 in
theorem t_X12_now {d : Nat} {x1 : Int32} {M : zMem} {K : zK} 
    (T : (∀ M21 : zMem, M21 = wI M 229 0 0 → (x1 = 0 → K (some (.int (M21.1 231 202))) M21) ∧ (x1 = 1 → K (some (.int (M21.1 231 203))) M21) ∧ (x1 = 2 → K (some (.int (M21.1 231 204))) M21) ∧ (x1 = 3 → S_X12_now_73 (d + 1) 0 0 M21 K) ∧ (x1 = 4 → S_X12_rootMany d  M21 (zI (fun r23 M24 => K (some (.int r23)) M24))) ∧ (¬ x1 = 0 → ¬ x1 = 1 → ¬ x1 = 2 → ¬ x1 = 3 → ¬ x1 = 4 → K (some (.int (-1))) M21))) : S_X12_now (d + 1) x1 M K := by
  show zV m_X12_now (d + 1) 0 [(0, .ref 229), (1, .int x1)] [] M K
  refine zr_aload_n dX12_now_0 rfl 0 rfl ?_
  refine zr_iconst (v := 0) dX12_now_1 (by decide) ?_
  refine zn_puti dX12_now_2 f_X12_1 (by decide) (by decide) (by decide) (fun M21 e22 => ?_)
  have T := T M21 e22
  refine zr_iconst (v := 0) dX12_now_5 (by decide) ?_
  refine zr_istore_n dX12_now_6 rfl (by decide) (L2 := [(2, .int 0), (0, .ref 229), (1, .int x1)]) rfl ?_
  refine zr_iload_n dX12_now_7 rfl 2 rfl ?_
  by_cases h25 : x1 = 0
  · have T := T.1 h25
    refine zr_tableIn (tgt := 44) dX12_now_8 (by rw [h25]; decide) (by rw [h25]; decide) (by rw [h25]; rfl) (by decide) ?_
    refine zr_aload_n dX12_now_44 rfl 1 rfl ?_
    refine zm_getr (a := 231) dX12_now_45 f_X12_98 (by decide) (by decide) (by decide) (by decide) ?_
    refine zr_sipush (v := 202) dX12_now_48 (by decide) ?_
    refine zm_iald (n := 647) (o := 202) dX12_now_51 (by decide) (by decide) (zin (by decide)) (by decide) ?_
    exact zm_iret dX12_now_52 rfl T
  by_cases h26 : x1 = 1
  · have T := T.2.1 h26
    refine zr_tableIn (tgt := 53) dX12_now_8 (by rw [h26]; decide) (by rw [h26]; decide) (by rw [h26]; rfl) (by decide) ?_
    refine zr_aload_n dX12_now_53 rfl 1 rfl ?_
    refine zm_getr (a := 231) dX12_now_54 f_X12_98 (by decide) (by decide) (by decide) (by decide) ?_
    refine zr_sipush (v := 203) dX12_now_57 (by decide) ?_
    refine zm_iald (n := 647) (o := 203) dX12_now_60 (by decide) (by decide) (zin (by decide)) (by decide) ?_
    exact zm_iret dX12_now_61 rfl T
  by_cases h27 : x1 = 2
  · have T := T.2.2.1 h27
    refine zr_tableIn (tgt := 62) dX12_now_8 (by rw [h27]; decide) (by rw [h27]; decide) (by rw [h27]; rfl) (by decide) ?_
    refine zr_aload_n dX12_now_62 rfl 1 rfl ?_
    refine zm_getr (a := 231) dX12_now_63 f_X12_98 (by decide) (by decide) (by decide) (by decide) ?_
    refine zr_sipush (v := 204) dX12_now_66 (by decide) ?_
    refine zm_iald (n := 647) (o := 204) dX12_now_69 (by decide) (by decide) (zin (by decide)) (by decide) ?_
    exact zm_iret dX12_now_70 rfl T
  by_cases h28 : x1 = 3
  · have T := T.2.2.2.1 h28
    refine zr_tableIn (tgt := 71) dX12_now_8 (by rw [h28]; decide) (by rw [h28]; decide) (by rw [h28]; rfl) (by decide) ?_
    refine zr_iconst (v := 0) dX12_now_71 (by decide) ?_
    refine zr_istore_n dX12_now_72 rfl (by decide) (L2 := [(3, .int 0), (2, .int 0), (0, .ref 229), (1, .int x1)]) rfl ?_
    exact zV.pick [2, 1, 0] rfl T
  by_cases h29 : x1 = 4
  · have T := T.2.2.2.2.1 h29
    refine zr_tableIn (tgt := 105) dX12_now_8 (by rw [h29]; decide) (by rw [h29]; decide) (by rw [h29]; rfl) (by decide) ?_
    refine zr_aload_n dX12_now_105 rfl 1 rfl ?_
    refine zm_callV_i (c := 12) (b := 229) dX12_now_106 w_X12_rootMany l_X12_344 rfl (by decide) (by decide) s_X12_rootMany [] rfl rfl (Nat.le_of_ble_eq_true rfl) (Nat.le_of_ble_eq_true rfl) ?_
    refine zV.post T ?_
    rintro v M24 ⟨r23, rfl, T⟩
    refine ⟨r23, rfl, ?_⟩
    exact zm_iret dX12_now_109 rfl T
  · have T := T.2.2.2.2.2 h25 h26 h27 h28 h29
    refine zr_tableOut (tgt := 110) dX12_now_8 (z_out_0_4 h25 h26 h27 h28 h29) (by decide) ?_
    refine zr_iconst (v := (-1)) dX12_now_110 (by decide) ?_
    exact zm_iret dX12_now_111 rfl T
set_option maxRecDepth 100000 in
set_option maxHeartbeats 4000000 in
theorem t_X12_now_73 {d : Nat} {x2 : Int32} {x3 : Int32} {M : zMem} {K : zK} 
    (T : ((M.1 231 0) ≤ x3 → K (some (.int x2)) M) ∧ (¬ ((M.1 231 0) ≤ x3) → S_X12_isTorn d x3 M (zB (fun r22 M23 => (r22 = false → S_X12_now_73 (d + 1) x2 (x3 + 1) M23 K) ∧ (r22 = true → S_X12_now_73 (d + 1) (x2 ||| ((1 : Int32) <<< (x3 &&& 31))) (x3 + 1) M23 K))))) : S_X12_now_73 (d + 1) x2 x3 M K := by
  show zV m_X12_now (d + 1) 73 [(0, .ref 229), (2, .int x2), (3, .int x3)] [] M K
  refine zr_iload_n dX12_now_73 rfl 2 rfl ?_
  refine zr_aload_n dX12_now_74 rfl 0 rfl ?_
  refine zm_getr (a := 231) dX12_now_75 f_X12_98 (by decide) (by decide) (by decide) (by decide) ?_
  refine zr_iconst (v := 0) dX12_now_78 (by decide) ?_
  refine zm_iald (n := 647) (o := 0) dX12_now_79 (by decide) (by decide) (zin (by decide)) (by decide) ?_
  refine zr_icmp_ge (tgt := 103) dX12_now_80 (by decide) (fun h21 => ?_) (fun h21 => ?_)
  · have T := T.1 h21
    refine zr_iload_n dX12_now_103 rfl 1 rfl ?_
    exact zm_iret dX12_now_104 rfl T
  · have T := T.2 h21
    refine zr_aload_n dX12_now_83 rfl 0 rfl ?_
    refine zr_iload_n dX12_now_84 rfl 2 rfl ?_
    refine zm_callV_b (c := 12) (b := 229) dX12_now_85 w_X12_isTorn l_X12_341 rfl (by decide) (by decide) s_X12_isTorn [.int x3] rfl rfl (Nat.le_of_ble_eq_true rfl) (Nat.le_of_ble_eq_true rfl) ?_
    refine zV.post T ?_
    rintro v M23 ⟨r22, rfl, T⟩
    refine ⟨r22, rfl, ?_⟩
    refine zm_ifb_eq (tgt := 97) dX12_now_88 (by decide) (fun h24 => ?_) (fun h24 => ?_)
    · have T := T.1 h24
      refine zr_iinc (n := 2) (v := x3 + 1) dX12_now_97 rfl rfl (by decide) (L2 := [(3, .int (x3 + 1)), (0, .ref 229), (2, .int x2)]) rfl ?_
      refine zr_goto (tgt := 73) dX12_now_100 (by decide) ?_
      exact zV.pick [1, 2, 0] rfl T
    · have T := T.2 h24
      refine zr_iload_n dX12_now_91 rfl 1 rfl ?_
      refine zr_iconst (v := 1) dX12_now_92 (by decide) ?_
      refine zr_iload_n dX12_now_93 rfl 2 rfl ?_
      refine zr_ishl dX12_now_94 ?_
      refine zr_ior dX12_now_95 ?_
      refine zr_istore_n dX12_now_96 rfl (by decide) (L2 := [(2, .int (x2 ||| ((1 : Int32) <<< (x3 &&& 31)))), (0, .ref 229), (3, .int x3)]) rfl ?_
      refine zr_iinc (n := 2) (v := x3 + 1) dX12_now_97 rfl rfl (by decide) (L2 := [(3, .int (x3 + 1)), (2, .int (x2 ||| ((1 : Int32) <<< (x3 &&& 31)))), (0, .ref 229)]) rfl ?_
      refine zr_goto (tgt := 73) dX12_now_100 (by decide) ?_
      exact zV.pick [2, 1, 0] rfl T
set_option maxRecDepth 100000 in
set_option maxHeartbeats 4000000 in
theorem t_X12_isTorn {d : Nat} {x1 : Int32} {M : zMem} {K : zK} 
    (T : S_X12_isTorn_2 (d + 1) x1 1 M K) : S_X12_isTorn (d + 1) x1 M K := by
  show zV m_X12_isTorn (d + 1) 0 [(0, .ref 229), (1, .int x1)] [] M K
  refine zr_iconst (v := 1) dX12_isTorn_0 (by decide) ?_
  refine zr_istore_n dX12_isTorn_1 rfl (by decide) (L2 := [(2, .int 1), (0, .ref 229), (1, .int x1)]) rfl ?_
  exact zV.pick [1, 2, 0] rfl T
set_option maxRecDepth 100000 in
set_option maxHeartbeats 4000000 in
theorem t_X12_isTorn_2 {d : Nat} {x1 : Int32} {x2 : Int32} {M : zMem} {K : zK} 
    (T : ((M.1 231 1) ≤ x2 → K (some (.int 0)) M) ∧ (¬ ((M.1 231 1) ≤ x2) → S_X12_areSame d 0 x2 x1 M (zB (fun r22 M23 => (r22 = true → S_X12_isTorn_2 (d + 1) x1 (x2 + 1) M23 K) ∧ (r22 = false → K (some (.int 1)) M23))))) : S_X12_isTorn_2 (d + 1) x1 x2 M K := by
  show zV m_X12_isTorn (d + 1) 2 [(0, .ref 229), (1, .int x1), (2, .int x2)] [] M K
  refine zr_iload_n dX12_isTorn_2 rfl 2 rfl ?_
  refine zr_aload_n dX12_isTorn_3 rfl 0 rfl ?_
  refine zm_getr (a := 231) dX12_isTorn_4 f_X12_98 (by decide) (by decide) (by decide) (by decide) ?_
  refine zr_iconst (v := 1) dX12_isTorn_7 (by decide) ?_
  refine zm_iald (n := 647) (o := 1) dX12_isTorn_8 (by decide) (by decide) (zin (by decide)) (by decide) ?_
  refine zr_icmp_ge (tgt := 30) dX12_isTorn_9 (by decide) (fun h21 => ?_) (fun h21 => ?_)
  · have T := T.1 h21
    refine zr_iconst (v := 0) dX12_isTorn_30 (by decide) ?_
    exact zm_zret dX12_isTorn_31 rfl (by decide) T
  · have T := T.2 h21
    refine zr_aload_n dX12_isTorn_12 rfl 0 rfl ?_
    refine zr_iconst (v := 0) dX12_isTorn_13 (by decide) ?_
    refine zr_iload_n dX12_isTorn_14 rfl 2 rfl ?_
    refine zr_iload_n dX12_isTorn_15 rfl 1 rfl ?_
    refine zm_callV_b (c := 12) (b := 229) dX12_isTorn_16 w_X12_areSame l_X12_323 rfl (by decide) (by decide) s_X12_areSame [.int 0, .int x2, .int x1] rfl rfl (Nat.le_of_ble_eq_true rfl) (Nat.le_of_ble_eq_true rfl) ?_
    refine zV.post T ?_
    rintro v M23 ⟨r22, rfl, T⟩
    refine ⟨r22, rfl, ?_⟩
    refine zm_ifb_ne (tgt := 24) dX12_isTorn_19 (by decide) (fun h24 => ?_) (fun h24 => ?_)
    · have T := T.1 h24
      refine zr_iinc (n := 2) (v := x2 + 1) dX12_isTorn_24 rfl rfl (by decide) (L2 := [(2, .int (x2 + 1)), (0, .ref 229), (1, .int x1)]) rfl ?_
      refine zr_goto (tgt := 2) dX12_isTorn_27 (by decide) ?_
      exact zV.pick [1, 2, 0] rfl T
    · have T := T.2 h24
      refine zr_iconst (v := 1) dX12_isTorn_22 (by decide) ?_
      exact zm_zret dX12_isTorn_23 rfl (by decide) T
set_option maxRecDepth 100000 in
set_option maxHeartbeats 4000000 in
theorem t_X12_areSame {d : Nat} {x1 : Int32} {x2 : Int32} {x3 : Int32} {M : zMem} {K : zK} 
    (T : S_X12_at d x1 x3 M (zI (fun r21 M22 => vp_in (309 + r21) 647 ∧ (S_X12_at d x2 x3 M22 (zI (fun r24 M25 => vp_in (309 + r24) 647 ∧ ((¬ (M22.1 231 (Int32.toNatClampNeg (309 + r21))) = (M25.1 231 (Int32.toNatClampNeg (309 + r24))) → K (some (.int 0)) M25) ∧ ((M22.1 231 (Int32.toNatClampNeg (309 + r21))) = (M25.1 231 (Int32.toNatClampNeg (309 + r24))) → S_X12_hasEntry d x1 x3 M25 (zB (fun r28 M29 => (r28 = false → K (some (.int 1)) M29) ∧ (r28 = true → S_X12_at d x1 x3 M29 (zI (fun r31 M32 => vp_in (213 + r31) 647 ∧ (S_X12_at d x2 x3 M32 (zI (fun r34 M35 => vp_in (213 + r34) 647 ∧ ((¬ (M32.1 231 (Int32.toNatClampNeg (213 + r31))) = (M35.1 231 (Int32.toNatClampNeg (213 + r34))) → K (some (.int 0)) M35) ∧ ((M32.1 231 (Int32.toNatClampNeg (213 + r31))) = (M35.1 231 (Int32.toNatClampNeg (213 + r34))) → K (some (.int 1)) M35)))))))))))))))))) : S_X12_areSame (d + 1) x1 x2 x3 M K := by
  show zV m_X12_areSame (d + 1) 0 [(0, .ref 229), (1, .int x1), (2, .int x2), (3, .int x3)] [] M K
  refine zr_aload_n dX12_areSame_0 rfl 0 rfl ?_
  refine zm_getr (a := 231) dX12_areSame_1 f_X12_98 (by decide) (by decide) (by decide) (by decide) ?_
  refine zr_sipush (v := 309) dX12_areSame_4 (by decide) ?_
  refine zr_iload_n dX12_areSame_7 rfl 1 rfl ?_
  refine zr_iload_n dX12_areSame_8 rfl 3 rfl ?_
  refine zm_callS_i dX12_areSame_9 w_X12_at l_X12_291 s_X12_at [.int x1, .int x3] rfl rfl (Nat.le_of_ble_eq_true rfl) (Nat.le_of_ble_eq_true rfl) ?_
  refine zV.post T ?_
  rintro v M22 ⟨r21, rfl, T⟩
  refine ⟨r21, rfl, ?_⟩
  refine zr_iadd dX12_areSame_12 ?_
  obtain ⟨hq23, T⟩ := T
  refine zm_iald (n := 647) (o := (Int32.toNatClampNeg (309 + r21))) dX12_areSame_13 (by decide) (by decide) hq23 rfl ?_
  refine zr_aload_n dX12_areSame_14 rfl 0 rfl ?_
  refine zm_getr (a := 231) dX12_areSame_15 f_X12_98 (by decide) (by decide) (by decide) (by decide) ?_
  refine zr_sipush (v := 309) dX12_areSame_18 (by decide) ?_
  refine zr_iload_n dX12_areSame_21 rfl 2 rfl ?_
  refine zr_iload_n dX12_areSame_22 rfl 3 rfl ?_
  refine zm_callS_i dX12_areSame_23 w_X12_at l_X12_291 s_X12_at [.int x2, .int x3] rfl rfl (Nat.le_of_ble_eq_true rfl) (Nat.le_of_ble_eq_true rfl) ?_
  refine zV.post T ?_
  rintro v M25 ⟨r24, rfl, T⟩
  refine ⟨r24, rfl, ?_⟩
  refine zr_iadd dX12_areSame_26 ?_
  obtain ⟨hq26, T⟩ := T
  refine zm_iald (n := 647) (o := (Int32.toNatClampNeg (309 + r24))) dX12_areSame_27 (by decide) (by decide) hq26 rfl ?_
  refine zr_icmp_ne (tgt := 75) dX12_areSame_28 (by decide) (fun h27 => ?_) (fun h27 => ?_)
  · have T := T.1 h27
    refine zr_iconst (v := 0) dX12_areSame_75 (by decide) ?_
    exact zm_zret dX12_areSame_76 rfl (by decide) T
  · have T := T.2 h27
    refine zr_aload_n dX12_areSame_31 rfl 0 rfl ?_
    refine zr_iload_n dX12_areSame_32 rfl 1 rfl ?_
    refine zr_iload_n dX12_areSame_33 rfl 3 rfl ?_
    refine zm_callV_b (c := 12) (b := 229) dX12_areSame_34 w_X12_hasEntry l_X12_294 rfl (by decide) (by decide) s_X12_hasEntry [.int x1, .int x3] rfl rfl (Nat.le_of_ble_eq_true rfl) (Nat.le_of_ble_eq_true rfl) ?_
    refine zV.post T ?_
    rintro v M29 ⟨r28, rfl, T⟩
    refine ⟨r28, rfl, ?_⟩
    refine zm_ifb_eq (tgt := 71) dX12_areSame_37 (by decide) (fun h30 => ?_) (fun h30 => ?_)
    · have T := T.1 h30
      refine zr_iconst (v := 1) dX12_areSame_71 (by decide) ?_
      refine zr_goto (tgt := 76) dX12_areSame_72 (by decide) ?_
      exact zm_zret dX12_areSame_76 rfl (by decide) T
    · have T := T.2 h30
      refine zr_aload_n dX12_areSame_40 rfl 0 rfl ?_
      refine zm_getr (a := 231) dX12_areSame_41 f_X12_98 (by decide) (by decide) (by decide) (by decide) ?_
      refine zr_sipush (v := 213) dX12_areSame_44 (by decide) ?_
      refine zr_iload_n dX12_areSame_47 rfl 1 rfl ?_
      refine zr_iload_n dX12_areSame_48 rfl 3 rfl ?_
      refine zm_callS_i dX12_areSame_49 w_X12_at l_X12_291 s_X12_at [.int x1, .int x3] rfl rfl (Nat.le_of_ble_eq_true rfl) (Nat.le_of_ble_eq_true rfl) ?_
      refine zV.post T ?_
      rintro v M32 ⟨r31, rfl, T⟩
      refine ⟨r31, rfl, ?_⟩
      refine zr_iadd dX12_areSame_52 ?_
      obtain ⟨hq33, T⟩ := T
      refine zm_iald (n := 647) (o := (Int32.toNatClampNeg (213 + r31))) dX12_areSame_53 (by decide) (by decide) hq33 rfl ?_
      refine zr_aload_n dX12_areSame_54 rfl 0 rfl ?_
      refine zm_getr (a := 231) dX12_areSame_55 f_X12_98 (by decide) (by decide) (by decide) (by decide) ?_
      refine zr_sipush (v := 213) dX12_areSame_58 (by decide) ?_
      refine zr_iload_n dX12_areSame_61 rfl 2 rfl ?_
      refine zr_iload_n dX12_areSame_62 rfl 3 rfl ?_
      refine zm_callS_i dX12_areSame_63 w_X12_at l_X12_291 s_X12_at [.int x2, .int x3] rfl rfl (Nat.le_of_ble_eq_true rfl) (Nat.le_of_ble_eq_true rfl) ?_
      refine zV.post T ?_
      rintro v M35 ⟨r34, rfl, T⟩
      refine ⟨r34, rfl, ?_⟩
      refine zr_iadd dX12_areSame_66 ?_
      obtain ⟨hq36, T⟩ := T
      refine zm_iald (n := 647) (o := (Int32.toNatClampNeg (213 + r34))) dX12_areSame_67 (by decide) (by decide) hq36 rfl ?_
      refine zr_icmp_ne (tgt := 75) dX12_areSame_68 (by decide) (fun h37 => ?_) (fun h37 => ?_)
      · have T := T.1 h37
        refine zr_iconst (v := 0) dX12_areSame_75 (by decide) ?_
        exact zm_zret dX12_areSame_76 rfl (by decide) T
      · have T := T.2 h37
        refine zr_iconst (v := 1) dX12_areSame_71 (by decide) ?_
        refine zr_goto (tgt := 76) dX12_areSame_72 (by decide) ?_
        exact zm_zret dX12_areSame_76 rfl (by decide) T
set_option maxRecDepth 100000 in
set_option maxHeartbeats 4000000 in
theorem t_X12_rootMany {d : Nat}  {M : zMem} {K : zK} 
    (T : S_X12_rootMany_4 (d + 1) 0 0 M K) : S_X12_rootMany (d + 1)  M K := by
  show zV m_X12_rootMany (d + 1) 0 [(0, .ref 229)] [] M K
  refine zr_iconst (v := 0) dX12_rootMany_0 (by decide) ?_
  refine zr_istore_n dX12_rootMany_1 rfl (by decide) (L2 := [(1, .int 0), (0, .ref 229)]) rfl ?_
  refine zr_iconst (v := 0) dX12_rootMany_2 (by decide) ?_
  refine zr_istore_n dX12_rootMany_3 rfl (by decide) (L2 := [(2, .int 0), (1, .int 0), (0, .ref 229)]) rfl ?_
  exact zV.pick [2, 1, 0] rfl T
set_option maxRecDepth 100000 in
set_option maxHeartbeats 4000000 in
theorem t_X12_rootMany_4 {d : Nat} {x1 : Int32} {x2 : Int32} {M : zMem} {K : zK} 
    (T : ((M.1 231 1) ≤ x2 → K (some (.int x1)) M) ∧ (¬ ((M.1 231 1) ≤ x2) → S_X12_rootsLike d x2 M (zI (fun r22 M23 => (¬ (r22 &&& (((1 : Int32) <<< (x2 &&& 31)) - 1)) = 0 → S_X12_rootMany_4 (d + 1) x1 (x2 + 1) M23 K) ∧ ((r22 &&& (((1 : Int32) <<< (x2 &&& 31)) - 1)) = 0 → S_X12_rootMany_4 (d + 1) (x1 + 1) (x2 + 1) M23 K))))) : S_X12_rootMany_4 (d + 1) x1 x2 M K := by
  show zV m_X12_rootMany (d + 1) 4 [(0, .ref 229), (1, .int x1), (2, .int x2)] [] M K
  refine zr_iload_n dX12_rootMany_4 rfl 2 rfl ?_
  refine zr_aload_n dX12_rootMany_5 rfl 0 rfl ?_
  refine zm_getr (a := 231) dX12_rootMany_6 f_X12_98 (by decide) (by decide) (by decide) (by decide) ?_
  refine zr_iconst (v := 1) dX12_rootMany_9 (by decide) ?_
  refine zm_iald (n := 647) (o := 1) dX12_rootMany_10 (by decide) (by decide) (zin (by decide)) (by decide) ?_
  refine zr_icmp_ge (tgt := 37) dX12_rootMany_11 (by decide) (fun h21 => ?_) (fun h21 => ?_)
  · have T := T.1 h21
    refine zr_iload_n dX12_rootMany_37 rfl 1 rfl ?_
    exact zm_iret dX12_rootMany_38 rfl T
  · have T := T.2 h21
    refine zr_aload_n dX12_rootMany_14 rfl 0 rfl ?_
    refine zr_iload_n dX12_rootMany_15 rfl 2 rfl ?_
    refine zm_callV_i (c := 12) (b := 229) dX12_rootMany_16 w_X12_rootsLike l_X12_320 rfl (by decide) (by decide) s_X12_rootsLike [.int x2] rfl rfl (Nat.le_of_ble_eq_true rfl) (Nat.le_of_ble_eq_true rfl) ?_
    refine zV.post T ?_
    rintro v M23 ⟨r22, rfl, T⟩
    refine ⟨r22, rfl, ?_⟩
    refine zr_iconst (v := 1) dX12_rootMany_19 (by decide) ?_
    refine zr_iload_n dX12_rootMany_20 rfl 2 rfl ?_
    refine zr_ishl dX12_rootMany_21 ?_
    refine zr_iconst (v := 1) dX12_rootMany_22 (by decide) ?_
    refine zr_isub dX12_rootMany_23 ?_
    refine zr_iand dX12_rootMany_24 ?_
    refine zr_if_ne (tgt := 31) dX12_rootMany_25 (by decide) (fun h24 => ?_) (fun h24 => ?_)
    · have T := T.1 h24
      refine zr_iinc (n := 2) (v := x2 + 1) dX12_rootMany_31 rfl rfl (by decide) (L2 := [(2, .int (x2 + 1)), (0, .ref 229), (1, .int x1)]) rfl ?_
      refine zr_goto (tgt := 4) dX12_rootMany_34 (by decide) ?_
      exact zV.pick [1, 2, 0] rfl T
    · have T := T.2 h24
      refine zr_iinc (n := 1) (v := x1 + 1) dX12_rootMany_28 rfl rfl (by decide) (L2 := [(1, .int (x1 + 1)), (0, .ref 229), (2, .int x2)]) rfl ?_
      refine zr_iinc (n := 2) (v := x2 + 1) dX12_rootMany_31 rfl rfl (by decide) (L2 := [(2, .int (x2 + 1)), (1, .int (x1 + 1)), (0, .ref 229)]) rfl ?_
      refine zr_goto (tgt := 4) dX12_rootMany_34 (by decide) ?_
      exact zV.pick [2, 1, 0] rfl T
set_option maxRecDepth 100000 in
set_option maxHeartbeats 4000000 in
theorem t_X12_offers {d : Nat} {x1 : Int32} {x2 : Int32} {M : zMem} {K : zK} 
    (T : (∀ M21 : zMem, M21 = wI M 229 0 0 → S_X12_areTwo d x1 x2 M21 (zB (fun r23 M24 => (r23 = true → S_X12_layOffers d x1 x2 M24 (zU (fun M27 => (∀ M28 : zMem, M28 = wI M27 229 44 (M27.1 229 43) → S_X12_offers_32 (d + 1) 0 M28 K)))) ∧ (r23 = false → K (some (.int (-1))) M24))))) : S_X12_offers (d + 1) x1 x2 M K := by
  show zV m_X12_offers (d + 1) 0 [(0, .ref 229), (1, .int x1), (2, .int x2)] [] M K
  refine zr_aload_n dX12_offers_0 rfl 0 rfl ?_
  refine zr_iconst (v := 0) dX12_offers_1 (by decide) ?_
  refine zn_puti dX12_offers_2 f_X12_1 (by decide) (by decide) (by decide) (fun M21 e22 => ?_)
  have T := T M21 e22
  refine zr_aload_n dX12_offers_5 rfl 0 rfl ?_
  refine zr_iload_n dX12_offers_6 rfl 1 rfl ?_
  refine zr_iload_n dX12_offers_7 rfl 2 rfl ?_
  refine zm_callV_b (c := 12) (b := 229) dX12_offers_8 w_X12_areTwo l_X12_363 rfl (by decide) (by decide) s_X12_areTwo [.int x1, .int x2] rfl rfl (Nat.le_of_ble_eq_true rfl) (Nat.le_of_ble_eq_true rfl) ?_
  refine zV.post T ?_
  rintro v M24 ⟨r23, rfl, T⟩
  refine ⟨r23, rfl, ?_⟩
  refine zm_ifb_ne (tgt := 16) dX12_offers_11 (by decide) (fun h25 => ?_) (fun h25 => ?_)
  · have T := T.1 h25
    refine zr_aload_n dX12_offers_16 rfl 0 rfl ?_
    refine zr_iload_n dX12_offers_17 rfl 1 rfl ?_
    refine zr_iload_n dX12_offers_18 rfl 2 rfl ?_
    refine zm_callV_v (c := 12) (b := 229) dX12_offers_19 w_X12_layOffers l_X12_366 rfl (by decide) (by decide) s_X12_layOffers [.int x1, .int x2] rfl rfl (Nat.le_of_ble_eq_true rfl) (Nat.le_of_ble_eq_true rfl) ?_
    refine zV.post T ?_
    rintro v M27 ⟨rfl, T⟩
    refine ⟨rfl, ?_⟩
    refine zr_aload_n dX12_offers_22 rfl 0 rfl ?_
    refine zr_aload_n dX12_offers_23 rfl 0 rfl ?_
    refine zm_geti dX12_offers_24 f_X12_357 (by decide) (by decide) (by decide) ?_
    refine zn_puti dX12_offers_27 f_X12_370 (by decide) (by decide) (by decide) (fun M28 e29 => ?_)
    have T := T M28 e29
    refine zr_iconst (v := 0) dX12_offers_30 (by decide) ?_
    refine zr_istore_n dX12_offers_31 rfl (by decide) (L2 := [(3, .int 0), (0, .ref 229), (1, .int x1), (2, .int x2)]) rfl ?_
    exact zV.pick [1, 0] rfl T
  · have T := T.2 h25
    refine zr_iconst (v := (-1)) dX12_offers_14 (by decide) ?_
    exact zm_iret dX12_offers_15 rfl T
set_option maxRecDepth 100000 in
set_option maxHeartbeats 4000000 in
theorem t_X12_offers_32 {d : Nat} {x3 : Int32} {M : zMem} {K : zK} 
    (T : ((M.1 229 44) ≤ x3 → K (some (.int (M.1 229 44))) M) ∧ (¬ ((M.1 229 44) ≤ x3) → vp_in x3 24 ∧ (vp_in x3 24 ∧ ((∀ M24 : zMem, M24 = wI M 256 (Int32.toNatClampNeg x3) (M.1 255 (Int32.toNatClampNeg x3)) → S_X12_offers_32 (d + 1) (x3 + 1) M24 K))))) : S_X12_offers_32 (d + 1) x3 M K := by
  show zV m_X12_offers (d + 1) 32 [(0, .ref 229), (3, .int x3)] [] M K
  refine zr_iload_n dX12_offers_32 rfl 1 rfl ?_
  refine zr_aload_n dX12_offers_33 rfl 0 rfl ?_
  refine zm_geti dX12_offers_34 f_X12_370 (by decide) (by decide) (by decide) ?_
  refine zr_icmp_ge (tgt := 58) dX12_offers_37 (by decide) (fun h21 => ?_) (fun h21 => ?_)
  · have T := T.1 h21
    refine zr_aload_n dX12_offers_58 rfl 0 rfl ?_
    refine zm_geti dX12_offers_59 f_X12_370 (by decide) (by decide) (by decide) ?_
    exact zm_iret dX12_offers_62 rfl T
  · have T := T.2 h21
    refine zr_aload_n dX12_offers_40 rfl 0 rfl ?_
    refine zm_getr (a := 256) dX12_offers_41 f_X12_178 (by decide) (by decide) (by decide) (by decide) ?_
    refine zr_iload_n dX12_offers_44 rfl 1 rfl ?_
    refine zr_aload_n dX12_offers_45 rfl 0 rfl ?_
    refine zm_getr (a := 255) dX12_offers_46 f_X12_175 (by decide) (by decide) (by decide) (by decide) ?_
    refine zr_iload_n dX12_offers_49 rfl 1 rfl ?_
    obtain ⟨hq22, T⟩ := T
    refine zm_iald (n := 24) (o := (Int32.toNatClampNeg x3)) dX12_offers_50 (by decide) (by decide) hq22 rfl ?_
    obtain ⟨hq23, T⟩ := T
    refine zn_iast (n := 24) (o := (Int32.toNatClampNeg x3)) dX12_offers_51 (by decide) (by decide) hq23 rfl (fun M24 e25 => ?_)
    have T := T M24 e25
    refine zr_iinc (n := 1) (v := x3 + 1) dX12_offers_52 rfl rfl (by decide) (L2 := [(3, .int (x3 + 1)), (0, .ref 229)]) rfl ?_
    refine zr_goto (tgt := 32) dX12_offers_55 (by decide) ?_
    exact zV.pick [1, 0] rfl T
set_option maxRecDepth 100000 in
set_option maxHeartbeats 4000000 in
theorem t_X12_areTwo {d : Nat} {x1 : Int32} {x2 : Int32} {M : zMem} {K : zK} 
    (T : S_X12_isPeer d x1 M (zB (fun r21 M22 => (r21 = false → K (some (.int 0)) M22) ∧ (r21 = true → S_X12_isPeer d x2 M22 (zB (fun r24 M25 => (r24 = false → K (some (.int 0)) M25) ∧ (r24 = true → (x1 = x2 → K (some (.int 0)) M25) ∧ (¬ (x1 = x2) → K (some (.int 1)) M25)))))))) : S_X12_areTwo (d + 1) x1 x2 M K := by
  show zV m_X12_areTwo (d + 1) 0 [(0, .ref 229), (1, .int x1), (2, .int x2)] [] M K
  refine zr_aload_n dX12_areTwo_0 rfl 0 rfl ?_
  refine zr_iload_n dX12_areTwo_1 rfl 1 rfl ?_
  refine zm_callV_b (c := 12) (b := 229) dX12_areTwo_2 w_X12_isPeer l_X12_288 rfl (by decide) (by decide) s_X12_isPeer [.int x1] rfl rfl (Nat.le_of_ble_eq_true rfl) (Nat.le_of_ble_eq_true rfl) ?_
  refine zV.post T ?_
  rintro v M22 ⟨r21, rfl, T⟩
  refine ⟨r21, rfl, ?_⟩
  refine zm_ifb_eq (tgt := 25) dX12_areTwo_5 (by decide) (fun h23 => ?_) (fun h23 => ?_)
  · have T := T.1 h23
    refine zr_iconst (v := 0) dX12_areTwo_25 (by decide) ?_
    exact zm_zret dX12_areTwo_26 rfl (by decide) T
  · have T := T.2 h23
    refine zr_aload_n dX12_areTwo_8 rfl 0 rfl ?_
    refine zr_iload_n dX12_areTwo_9 rfl 2 rfl ?_
    refine zm_callV_b (c := 12) (b := 229) dX12_areTwo_10 w_X12_isPeer l_X12_288 rfl (by decide) (by decide) s_X12_isPeer [.int x2] rfl rfl (Nat.le_of_ble_eq_true rfl) (Nat.le_of_ble_eq_true rfl) ?_
    refine zV.post T ?_
    rintro v M25 ⟨r24, rfl, T⟩
    refine ⟨r24, rfl, ?_⟩
    refine zm_ifb_eq (tgt := 25) dX12_areTwo_13 (by decide) (fun h26 => ?_) (fun h26 => ?_)
    · have T := T.1 h26
      refine zr_iconst (v := 0) dX12_areTwo_25 (by decide) ?_
      exact zm_zret dX12_areTwo_26 rfl (by decide) T
    · have T := T.2 h26
      refine zr_iload_n dX12_areTwo_16 rfl 1 rfl ?_
      refine zr_iload_n dX12_areTwo_17 rfl 2 rfl ?_
      refine zr_icmp_eq (tgt := 25) dX12_areTwo_18 (by decide) (fun h27 => ?_) (fun h27 => ?_)
      · have T := T.1 h27
        refine zr_iconst (v := 0) dX12_areTwo_25 (by decide) ?_
        exact zm_zret dX12_areTwo_26 rfl (by decide) T
      · have T := T.2 h27
        refine zr_iconst (v := 1) dX12_areTwo_21 (by decide) ?_
        refine zr_goto (tgt := 26) dX12_areTwo_22 (by decide) ?_
        exact zm_zret dX12_areTwo_26 rfl (by decide) T
set_option maxRecDepth 100000 in
set_option maxHeartbeats 4000000 in
theorem t_X12_layOffers {d : Nat} {x1 : Int32} {x2 : Int32} {M : zMem} {K : zK} 
    (T : S_X12_visitedOf d x2 x1 M (zI (fun r21 M22 => S_X12_layOffers_13 (d + 1) x1 x2 r21 0 0 M22 K))) : S_X12_layOffers (d + 1) x1 x2 M K := by
  show zV m_X12_layOffers (d + 1) 0 [(0, .ref 229), (1, .int x1), (2, .int x2)] [] M K
  refine zr_aload_n dX12_layOffers_0 rfl 0 rfl ?_
  refine zr_iload_n dX12_layOffers_1 rfl 2 rfl ?_
  refine zr_iload_n dX12_layOffers_2 rfl 1 rfl ?_
  refine zm_callV_i (c := 12) (b := 229) dX12_layOffers_3 w_X12_visitedOf l_X12_354 rfl (by decide) (by decide) s_X12_visitedOf [.int x2, .int x1] rfl rfl (Nat.le_of_ble_eq_true rfl) (Nat.le_of_ble_eq_true rfl) ?_
  refine zV.post T ?_
  rintro v M22 ⟨r21, rfl, T⟩
  refine ⟨r21, rfl, ?_⟩
  refine zr_istore_n dX12_layOffers_6 rfl (by decide) (L2 := [(3, .int r21), (0, .ref 229), (1, .int x1), (2, .int x2)]) rfl ?_
  refine zr_iconst (v := 0) dX12_layOffers_7 (by decide) ?_
  refine zr_istore dX12_layOffers_8 (by decide) (L2 := [(4, .int 0), (3, .int r21), (0, .ref 229), (1, .int x1), (2, .int x2)]) rfl ?_
  refine zr_iconst (v := 0) dX12_layOffers_10 (by decide) ?_
  refine zr_istore dX12_layOffers_11 (by decide) (L2 := [(5, .int 0), (4, .int 0), (3, .int r21), (0, .ref 229), (1, .int x1), (2, .int x2)]) rfl ?_
  exact zV.pick [3, 4, 5, 2, 1, 0] rfl T
set_option maxRecDepth 100000 in
set_option maxHeartbeats 4000000 in
theorem t_X12_layOffers_13 {d : Nat} {x1 : Int32} {x2 : Int32} {x3 : Int32} {x4 : Int32} {x5 : Int32} {M : zMem} {K : zK} 
    (T : ((M.1 246 0) ≤ x5 → (∀ M22 : zMem, M22 = wI M 229 43 0 → S_X12_layOffers_59 (d + 1) x1 x2 x4 0 M22 K)) ∧ (¬ ((M.1 246 0) ≤ x5) → S_X12_has d x3 x5 M (zB (fun r24 M25 => (r24 = false → S_X12_layOffers_13 (d + 1) x1 x2 x3 x4 (x5 + 1) M25 K) ∧ (r24 = true → vp_in x5 48 ∧ (S_X12_layOffers_13 (d + 1) x1 x2 x3 (x4 ||| (M25.1 248 (Int32.toNatClampNeg x5))) (x5 + 1) M25 K)))))) : S_X12_layOffers_13 (d + 1) x1 x2 x3 x4 x5 M K := by
  show zV m_X12_layOffers (d + 1) 13 [(0, .ref 229), (1, .int x1), (2, .int x2), (3, .int x3), (4, .int x4), (5, .int x5)] [] M K
  refine zr_iload dX12_layOffers_13 5 rfl ?_
  refine zr_aload_n dX12_layOffers_15 rfl 0 rfl ?_
  refine zm_getr (a := 246) dX12_layOffers_16 f_X12_148 (by decide) (by decide) (by decide) (by decide) ?_
  refine zr_iconst (v := 0) dX12_layOffers_19 (by decide) ?_
  refine zm_iald (n := 2) (o := 0) dX12_layOffers_20 (by decide) (by decide) (zin (by decide)) (by decide) ?_
  refine zr_icmp_ge (tgt := 51) dX12_layOffers_21 (by decide) (fun h21 => ?_) (fun h21 => ?_)
  · have T := T.1 h21
    refine zr_aload_n dX12_layOffers_51 rfl 0 rfl ?_
    refine zr_iconst (v := 0) dX12_layOffers_52 (by decide) ?_
    refine zn_puti dX12_layOffers_53 f_X12_357 (by decide) (by decide) (by decide) (fun M22 e23 => ?_)
    have T := T M22 e23
    refine zr_iconst (v := 0) dX12_layOffers_56 (by decide) ?_
    refine zr_istore dX12_layOffers_57 (by decide) (L2 := [(5, .int 0), (0, .ref 229), (1, .int x1), (2, .int x2), (3, .int x3), (4, .int x4)]) rfl ?_
    exact zV.pick [1, 2, 3, 5, 0] rfl T
  · have T := T.2 h21
    refine zr_iload_n dX12_layOffers_24 rfl 3 rfl ?_
    refine zr_iload dX12_layOffers_25 5 rfl ?_
    refine zm_callS_b dX12_layOffers_27 w_X12_has l_X12_233 s_X12_has [.int x3, .int x5] rfl rfl (Nat.le_of_ble_eq_true rfl) (Nat.le_of_ble_eq_true rfl) ?_
    refine zV.post T ?_
    rintro v M25 ⟨r24, rfl, T⟩
    refine ⟨r24, rfl, ?_⟩
    refine zm_ifb_eq (tgt := 45) dX12_layOffers_30 (by decide) (fun h26 => ?_) (fun h26 => ?_)
    · have T := T.1 h26
      refine zr_iinc (n := 5) (v := x5 + 1) dX12_layOffers_45 rfl rfl (by decide) (L2 := [(5, .int (x5 + 1)), (0, .ref 229), (1, .int x1), (2, .int x2), (3, .int x3), (4, .int x4)]) rfl ?_
      refine zr_goto (tgt := 13) dX12_layOffers_48 (by decide) ?_
      exact zV.pick [1, 2, 3, 4, 5, 0] rfl T
    · have T := T.2 h26
      refine zr_iload dX12_layOffers_33 4 rfl ?_
      refine zr_aload_n dX12_layOffers_35 rfl 0 rfl ?_
      refine zm_getr (a := 248) dX12_layOffers_36 f_X12_154 (by decide) (by decide) (by decide) (by decide) ?_
      refine zr_iload dX12_layOffers_39 5 rfl ?_
      obtain ⟨hq27, T⟩ := T
      refine zm_iald (n := 48) (o := (Int32.toNatClampNeg x5)) dX12_layOffers_41 (by decide) (by decide) hq27 rfl ?_
      refine zr_ior dX12_layOffers_42 ?_
      refine zr_istore dX12_layOffers_43 (by decide) (L2 := [(4, .int (x4 ||| (M25.1 248 (Int32.toNatClampNeg x5)))), (0, .ref 229), (1, .int x1), (2, .int x2), (3, .int x3), (5, .int x5)]) rfl ?_
      refine zr_iinc (n := 5) (v := x5 + 1) dX12_layOffers_45 rfl rfl (by decide) (L2 := [(5, .int (x5 + 1)), (4, .int (x4 ||| (M25.1 248 (Int32.toNatClampNeg x5)))), (0, .ref 229), (1, .int x1), (2, .int x2), (3, .int x3)]) rfl ?_
      refine zr_goto (tgt := 13) dX12_layOffers_48 (by decide) ?_
      exact zV.pick [2, 3, 4, 5, 1, 0] rfl T
set_option maxRecDepth 100000 in
set_option maxHeartbeats 4000000 in
theorem t_X12_layOffers_59 {d : Nat} {x1 : Int32} {x2 : Int32} {x4 : Int32} {x5 : Int32} {M : zMem} {K : zK} 
    (T : ((M.1 231 0) ≤ x5 → K none M) ∧ (¬ ((M.1 231 0) ≤ x5) → vp_in x5 24 ∧ (S_X12_has d x4 (M.1 244 (Int32.toNatClampNeg x5)) M (zB (fun r23 M24 => (r23 = false → S_X12_layOffers_59 (d + 1) x1 x2 x4 (x5 + 1) M24 K) ∧ (r23 = true → S_X12_isOffer d x1 x2 (M.1 244 (Int32.toNatClampNeg x5)) M24 (zB (fun r26 M27 => (r26 = true → vp_in (M27.1 229 43) 24 ∧ ((∀ M30 : zMem, M30 = wI M27 255 (Int32.toNatClampNeg (M27.1 229 43)) (M.1 244 (Int32.toNatClampNeg x5)) → (∀ M32 : zMem, M32 = wI M30 229 43 ((M30.1 229 43) + 1) → S_X12_layOffers_59 (d + 1) x1 x2 x4 (x5 + 1) M32 K)))) ∧ (r26 = false → S_X12_layOffers_59 (d + 1) x1 x2 x4 (x5 + 1) M27 K))))))))) : S_X12_layOffers_59 (d + 1) x1 x2 x4 x5 M K := by
  show zV m_X12_layOffers (d + 1) 59 [(0, .ref 229), (1, .int x1), (2, .int x2), (4, .int x4), (5, .int x5)] [] M K
  refine zr_iload dX12_layOffers_59 4 rfl ?_
  refine zr_aload_n dX12_layOffers_61 rfl 0 rfl ?_
  refine zm_getr (a := 231) dX12_layOffers_62 f_X12_98 (by decide) (by decide) (by decide) (by decide) ?_
  refine zr_iconst (v := 0) dX12_layOffers_65 (by decide) ?_
  refine zm_iald (n := 647) (o := 0) dX12_layOffers_66 (by decide) (by decide) (zin (by decide)) (by decide) ?_
  refine zr_icmp_ge (tgt := 130) dX12_layOffers_67 (by decide) (fun h21 => ?_) (fun h21 => ?_)
  · have T := T.1 h21
    exact zm_vret dX12_layOffers_130 rfl T
  · have T := T.2 h21
    refine zr_aload_n dX12_layOffers_70 rfl 0 rfl ?_
    refine zm_getr (a := 244) dX12_layOffers_71 f_X12_142 (by decide) (by decide) (by decide) (by decide) ?_
    refine zr_iload dX12_layOffers_74 4 rfl ?_
    obtain ⟨hq22, T⟩ := T
    refine zm_iald (n := 24) (o := (Int32.toNatClampNeg x5)) dX12_layOffers_76 (by decide) (by decide) hq22 rfl ?_
    refine zr_istore dX12_layOffers_77 (by decide) (L2 := [(6, .int (M.1 244 (Int32.toNatClampNeg x5))), (0, .ref 229), (1, .int x1), (2, .int x2), (4, .int x4), (5, .int x5)]) rfl ?_
    refine zr_iload dX12_layOffers_79 4 rfl ?_
    refine zr_iload dX12_layOffers_81 0 rfl ?_
    refine zm_callS_b dX12_layOffers_83 w_X12_has l_X12_233 s_X12_has [.int x4, .int (M.1 244 (Int32.toNatClampNeg x5))] rfl rfl (Nat.le_of_ble_eq_true rfl) (Nat.le_of_ble_eq_true rfl) ?_
    refine zV.post T ?_
    rintro v M24 ⟨r23, rfl, T⟩
    refine ⟨r23, rfl, ?_⟩
    refine zm_ifb_eq (tgt := 124) dX12_layOffers_86 (by decide) (fun h25 => ?_) (fun h25 => ?_)
    · have T := T.1 h25
      refine zr_iinc (n := 5) (v := x5 + 1) dX12_layOffers_124 rfl rfl (by decide) (L2 := [(5, .int (x5 + 1)), (6, .int (M.1 244 (Int32.toNatClampNeg x5))), (0, .ref 229), (1, .int x1), (2, .int x2), (4, .int x4)]) rfl ?_
      refine zr_goto (tgt := 59) dX12_layOffers_127 (by decide) ?_
      exact zV.pick [2, 3, 4, 5, 0] rfl T
    · have T := T.2 h25
      refine zr_aload_n dX12_layOffers_89 rfl 1 rfl ?_
      refine zr_iload_n dX12_layOffers_90 rfl 2 rfl ?_
      refine zr_iload_n dX12_layOffers_91 rfl 3 rfl ?_
      refine zr_iload dX12_layOffers_92 0 rfl ?_
      refine zm_callV_b (c := 12) (b := 229) dX12_layOffers_94 w_X12_isOffer l_X12_360 rfl (by decide) (by decide) s_X12_isOffer [.int x1, .int x2, .int (M.1 244 (Int32.toNatClampNeg x5))] rfl rfl (Nat.le_of_ble_eq_true rfl) (Nat.le_of_ble_eq_true rfl) ?_
      refine zV.post T ?_
      rintro v M27 ⟨r26, rfl, T⟩
      refine ⟨r26, rfl, ?_⟩
      refine zm_ifb_ne (tgt := 103) dX12_layOffers_97 (by decide) (fun h28 => ?_) (fun h28 => ?_)
      · have T := T.1 h28
        refine zr_aload_n dX12_layOffers_103 rfl 1 rfl ?_
        refine zm_getr (a := 255) dX12_layOffers_104 f_X12_175 (by decide) (by decide) (by decide) (by decide) ?_
        refine zr_aload_n dX12_layOffers_107 rfl 1 rfl ?_
        refine zm_geti dX12_layOffers_108 f_X12_357 (by decide) (by decide) (by decide) ?_
        refine zr_iload dX12_layOffers_111 0 rfl ?_
        obtain ⟨hq29, T⟩ := T
        refine zn_iast (n := 24) (o := (Int32.toNatClampNeg (M27.1 229 43))) dX12_layOffers_113 (by decide) (by decide) hq29 rfl (fun M30 e31 => ?_)
        have T := T M30 e31
        refine zr_aload_n dX12_layOffers_114 rfl 1 rfl ?_
        refine zr_dup dX12_layOffers_115 rfl ?_
        refine zm_geti dX12_layOffers_116 f_X12_357 (by decide) (by decide) (by decide) ?_
        refine zr_iconst (v := 1) dX12_layOffers_119 (by decide) ?_
        refine zr_iadd dX12_layOffers_120 ?_
        refine zn_puti dX12_layOffers_121 f_X12_357 (by decide) (by decide) (by decide) (fun M32 e33 => ?_)
        have T := T M32 e33
        refine zr_iinc (n := 5) (v := x5 + 1) dX12_layOffers_124 rfl rfl (by decide) (L2 := [(5, .int (x5 + 1)), (6, .int (M.1 244 (Int32.toNatClampNeg x5))), (0, .ref 229), (1, .int x1), (2, .int x2), (4, .int x4)]) rfl ?_
        refine zr_goto (tgt := 59) dX12_layOffers_127 (by decide) ?_
        exact zV.pick [2, 3, 4, 5, 0] rfl T
      · have T := T.2 h28
        refine zr_goto (tgt := 124) dX12_layOffers_100 (by decide) ?_
        refine zr_iinc (n := 5) (v := x5 + 1) dX12_layOffers_124 rfl rfl (by decide) (L2 := [(5, .int (x5 + 1)), (6, .int (M.1 244 (Int32.toNatClampNeg x5))), (0, .ref 229), (1, .int x1), (2, .int x2), (4, .int x4)]) rfl ?_
        refine zr_goto (tgt := 59) dX12_layOffers_127 (by decide) ?_
        exact zV.pick [2, 3, 4, 5, 0] rfl T
set_option maxRecDepth 100000 in
set_option maxHeartbeats 4000000 in
theorem t_X12_visitedOf {d : Nat} {x1 : Int32} {x2 : Int32} {M : zMem} {K : zK} 
    (T : S_X12_layTree d 0 x1 M (zI (fun r21 M22 => S_X12_layTree d 1 x2 M22 (zI (fun r23 M24 => S_X12_visited d  M24 (zI (fun r25 M26 => K (some (.int r25)) M26))))))) : S_X12_visitedOf (d + 1) x1 x2 M K := by
  show zV m_X12_visitedOf (d + 1) 0 [(0, .ref 229), (1, .int x1), (2, .int x2)] [] M K
  refine zr_aload_n dX12_visitedOf_0 rfl 0 rfl ?_
  refine zr_iconst (v := 0) dX12_visitedOf_1 (by decide) ?_
  refine zr_iload_n dX12_visitedOf_2 rfl 1 rfl ?_
  refine zm_callV_i (c := 12) (b := 229) dX12_visitedOf_3 w_X12_layTree l_X12_308 rfl (by decide) (by decide) s_X12_layTree [.int 0, .int x1] rfl rfl (Nat.le_of_ble_eq_true rfl) (Nat.le_of_ble_eq_true rfl) ?_
  refine zV.post T ?_
  rintro v M22 ⟨r21, rfl, T⟩
  refine ⟨r21, rfl, ?_⟩
  refine zr_pop dX12_visitedOf_6 rfl ?_
  refine zr_aload_n dX12_visitedOf_7 rfl 0 rfl ?_
  refine zr_iconst (v := 1) dX12_visitedOf_8 (by decide) ?_
  refine zr_iload_n dX12_visitedOf_9 rfl 2 rfl ?_
  refine zm_callV_i (c := 12) (b := 229) dX12_visitedOf_10 w_X12_layTree l_X12_308 rfl (by decide) (by decide) s_X12_layTree [.int 1, .int x2] rfl rfl (Nat.le_of_ble_eq_true rfl) (Nat.le_of_ble_eq_true rfl) ?_
  refine zV.post T ?_
  rintro v M24 ⟨r23, rfl, T⟩
  refine ⟨r23, rfl, ?_⟩
  refine zr_pop dX12_visitedOf_13 rfl ?_
  refine zr_aload_n dX12_visitedOf_14 rfl 0 rfl ?_
  refine zm_callV_i (c := 12) (b := 229) dX12_visitedOf_15 w_X12_visited l_X12_314 rfl (by decide) (by decide) s_X12_visited [] rfl rfl (Nat.le_of_ble_eq_true rfl) (Nat.le_of_ble_eq_true rfl) ?_
  refine zV.post T ?_
  rintro v M26 ⟨r25, rfl, T⟩
  refine ⟨r25, rfl, ?_⟩
  exact zm_iret dX12_visitedOf_18 rfl T
set_option maxRecDepth 100000 in
set_option maxHeartbeats 4000000 in
theorem t_X12_visited {d : Nat}  {M : zMem} {K : zK} 
    (T : S_X12_visited_4 (d + 1) 0 0 M K) : S_X12_visited (d + 1)  M K := by
  show zV m_X12_visited (d + 1) 0 [(0, .ref 229)] [] M K
  refine zr_iconst (v := 0) dX12_visited_0 (by decide) ?_
  refine zr_istore_n dX12_visited_1 rfl (by decide) (L2 := [(1, .int 0), (0, .ref 229)]) rfl ?_
  refine zr_iconst (v := 0) dX12_visited_2 (by decide) ?_
  refine zr_istore_n dX12_visited_3 rfl (by decide) (L2 := [(2, .int 0), (1, .int 0), (0, .ref 229)]) rfl ?_
  exact zV.pick [2, 1, 0] rfl T
set_option maxRecDepth 100000 in
set_option maxHeartbeats 4000000 in
theorem t_X12_visited_4 {d : Nat} {x1 : Int32} {x2 : Int32} {M : zMem} {K : zK} 
    (T : ((M.1 246 0) ≤ x2 → K (some (.int x1)) M) ∧ (¬ ((M.1 246 0) ≤ x2) → vp_in x2 48 ∧ (((M.1 252 (Int32.toNatClampNeg x2)) = (-1) → S_X12_visited_37 (d + 1) x1 x2 M K) ∧ (¬ ((M.1 252 (Int32.toNatClampNeg x2)) = (-1)) → vp_in x2 48 ∧ (S_X12_has d x1 (M.1 252 (Int32.toNatClampNeg x2)) M (zB (fun r25 M26 => (r25 = false → S_X12_visited_4 (d + 1) x1 (x2 + 1) M26 K) ∧ (r25 = true → S_X12_visited_37 (d + 1) x1 x2 M26 K)))))))) : S_X12_visited_4 (d + 1) x1 x2 M K := by
  show zV m_X12_visited (d + 1) 4 [(0, .ref 229), (1, .int x1), (2, .int x2)] [] M K
  refine zr_iload_n dX12_visited_4 rfl 2 rfl ?_
  refine zr_aload_n dX12_visited_5 rfl 0 rfl ?_
  refine zm_getr (a := 246) dX12_visited_6 f_X12_148 (by decide) (by decide) (by decide) (by decide) ?_
  refine zr_iconst (v := 0) dX12_visited_9 (by decide) ?_
  refine zm_iald (n := 2) (o := 0) dX12_visited_10 (by decide) (by decide) (zin (by decide)) (by decide) ?_
  refine zr_icmp_ge (tgt := 63) dX12_visited_11 (by decide) (fun h21 => ?_) (fun h21 => ?_)
  · have T := T.1 h21
    refine zr_iload_n dX12_visited_63 rfl 1 rfl ?_
    exact zm_iret dX12_visited_64 rfl T
  · have T := T.2 h21
    refine zr_aload_n dX12_visited_14 rfl 0 rfl ?_
    refine zm_getr (a := 252) dX12_visited_15 f_X12_166 (by decide) (by decide) (by decide) (by decide) ?_
    refine zr_iload_n dX12_visited_18 rfl 2 rfl ?_
    obtain ⟨hq22, T⟩ := T
    refine zm_iald (n := 48) (o := (Int32.toNatClampNeg x2)) dX12_visited_19 (by decide) (by decide) hq22 rfl ?_
    refine zr_iconst (v := (-1)) dX12_visited_20 (by decide) ?_
    refine zr_icmp_eq (tgt := 37) dX12_visited_21 (by decide) (fun h23 => ?_) (fun h23 => ?_)
    · have T := T.1 h23
      exact zV.pick [0, 1, 2] rfl T
    · have T := T.2 h23
      refine zr_iload_n dX12_visited_24 rfl 1 rfl ?_
      refine zr_aload_n dX12_visited_25 rfl 0 rfl ?_
      refine zm_getr (a := 252) dX12_visited_26 f_X12_166 (by decide) (by decide) (by decide) (by decide) ?_
      refine zr_iload_n dX12_visited_29 rfl 2 rfl ?_
      obtain ⟨hq24, T⟩ := T
      refine zm_iald (n := 48) (o := (Int32.toNatClampNeg x2)) dX12_visited_30 (by decide) (by decide) hq24 rfl ?_
      refine zm_callS_b dX12_visited_31 w_X12_has l_X12_233 s_X12_has [.int x1, .int (M.1 252 (Int32.toNatClampNeg x2))] rfl rfl (Nat.le_of_ble_eq_true rfl) (Nat.le_of_ble_eq_true rfl) ?_
      refine zV.post T ?_
      rintro v M26 ⟨r25, rfl, T⟩
      refine ⟨r25, rfl, ?_⟩
      refine zm_ifb_eq (tgt := 57) dX12_visited_34 (by decide) (fun h27 => ?_) (fun h27 => ?_)
      · have T := T.1 h27
        refine zr_iinc (n := 2) (v := x2 + 1) dX12_visited_57 rfl rfl (by decide) (L2 := [(2, .int (x2 + 1)), (0, .ref 229), (1, .int x1)]) rfl ?_
        refine zr_goto (tgt := 4) dX12_visited_60 (by decide) ?_
        exact zV.pick [1, 2, 0] rfl T
      · have T := T.2 h27
        exact zV.pick [0, 1, 2] rfl T
set_option maxRecDepth 100000 in
set_option maxHeartbeats 4000000 in
theorem t_X12_visited_37 {d : Nat} {x1 : Int32} {x2 : Int32} {M : zMem} {K : zK} 
    (T : vp_in x2 48 ∧ (S_X12_isDigest d 1 (M.1 253 (Int32.toNatClampNeg x2)) M (zB (fun r22 M23 => (r22 = true → S_X12_visited_4 (d + 1) x1 (x2 + 1) M23 K) ∧ (r22 = false → S_X12_visited_4 (d + 1) (x1 ||| ((1 : Int32) <<< (x2 &&& 31))) (x2 + 1) M23 K))))) : S_X12_visited_37 (d + 1) x1 x2 M K := by
  show zV m_X12_visited (d + 1) 37 [(0, .ref 229), (1, .int x1), (2, .int x2)] [] M K
  refine zr_aload_n dX12_visited_37 rfl 0 rfl ?_
  refine zr_iconst (v := 1) dX12_visited_38 (by decide) ?_
  refine zr_aload_n dX12_visited_39 rfl 0 rfl ?_
  refine zm_getr (a := 253) dX12_visited_40 f_X12_169 (by decide) (by decide) (by decide) (by decide) ?_
  refine zr_iload_n dX12_visited_43 rfl 2 rfl ?_
  obtain ⟨hq21, T⟩ := T
  refine zm_iald (n := 48) (o := (Int32.toNatClampNeg x2)) dX12_visited_44 (by decide) (by decide) hq21 rfl ?_
  refine zm_callV_b (c := 12) (b := 229) dX12_visited_45 w_X12_isDigest l_X12_311 rfl (by decide) (by decide) s_X12_isDigest [.int 1, .int (M.1 253 (Int32.toNatClampNeg x2))] rfl rfl (Nat.le_of_ble_eq_true rfl) (Nat.le_of_ble_eq_true rfl) ?_
  refine zV.post T ?_
  rintro v M23 ⟨r22, rfl, T⟩
  refine ⟨r22, rfl, ?_⟩
  refine zm_ifb_ne (tgt := 57) dX12_visited_48 (by decide) (fun h24 => ?_) (fun h24 => ?_)
  · have T := T.1 h24
    refine zr_iinc (n := 2) (v := x2 + 1) dX12_visited_57 rfl rfl (by decide) (L2 := [(2, .int (x2 + 1)), (0, .ref 229), (1, .int x1)]) rfl ?_
    refine zr_goto (tgt := 4) dX12_visited_60 (by decide) ?_
    exact zV.pick [1, 2, 0] rfl T
  · have T := T.2 h24
    refine zr_iload_n dX12_visited_51 rfl 1 rfl ?_
    refine zr_iconst (v := 1) dX12_visited_52 (by decide) ?_
    refine zr_iload_n dX12_visited_53 rfl 2 rfl ?_
    refine zr_ishl dX12_visited_54 ?_
    refine zr_ior dX12_visited_55 ?_
    refine zr_istore_n dX12_visited_56 rfl (by decide) (L2 := [(1, .int (x1 ||| ((1 : Int32) <<< (x2 &&& 31)))), (0, .ref 229), (2, .int x2)]) rfl ?_
    refine zr_iinc (n := 2) (v := x2 + 1) dX12_visited_57 rfl rfl (by decide) (L2 := [(2, .int (x2 + 1)), (1, .int (x1 ||| ((1 : Int32) <<< (x2 &&& 31)))), (0, .ref 229)]) rfl ?_
    refine zr_goto (tgt := 4) dX12_visited_60 (by decide) ?_
    exact zV.pick [2, 1, 0] rfl T
set_option maxRecDepth 100000 in
set_option maxHeartbeats 4000000 in
theorem t_X12_isDigest {d : Nat} {x1 : Int32} {x2 : Int32} {M : zMem} {K : zK} 
    (T : S_X12_isDigest_2 d x1 x2 0 M K) : S_X12_isDigest d x1 x2 M K := by
  show zV m_X12_isDigest d 0 [(0, .ref 229), (1, .int x1), (2, .int x2)] [] M K
  refine zr_iconst (v := 0) dX12_isDigest_0 (by decide) ?_
  refine zr_istore_n dX12_isDigest_1 rfl (by decide) (L2 := [(3, .int 0), (0, .ref 229), (1, .int x1), (2, .int x2)]) rfl ?_
  exact zV.pick [1, 2, 3, 0] rfl T
set_option maxRecDepth 100000 in
set_option maxHeartbeats 4000000 in
theorem t_X12_isDigest_2 {d : Nat} {x1 : Int32} {x2 : Int32} {x3 : Int32} {M : zMem} {K : zK} 
    (T : vp_in x1 2 ∧ (((M.1 246 (Int32.toNatClampNeg x1)) ≤ x3 → K (some (.int 0)) M) ∧ (¬ ((M.1 246 (Int32.toNatClampNeg x1)) ≤ x3) → vp_in ((24 * x1) + x3) 48 ∧ ((¬ (M.1 253 (Int32.toNatClampNeg ((24 * x1) + x3))) = x2 → S_X12_isDigest_2 d x1 x2 (x3 + 1) M K) ∧ ((M.1 253 (Int32.toNatClampNeg ((24 * x1) + x3))) = x2 → K (some (.int 1)) M))))) : S_X12_isDigest_2 d x1 x2 x3 M K := by
  show zV m_X12_isDigest d 2 [(0, .ref 229), (1, .int x1), (2, .int x2), (3, .int x3)] [] M K
  refine zr_iload_n dX12_isDigest_2 rfl 3 rfl ?_
  refine zr_aload_n dX12_isDigest_3 rfl 0 rfl ?_
  refine zm_getr (a := 246) dX12_isDigest_4 f_X12_148 (by decide) (by decide) (by decide) (by decide) ?_
  refine zr_iload_n dX12_isDigest_7 rfl 1 rfl ?_
  obtain ⟨hq21, T⟩ := T
  refine zm_iald (n := 2) (o := (Int32.toNatClampNeg x1)) dX12_isDigest_8 (by decide) (by decide) hq21 rfl ?_
  refine zr_icmp_ge (tgt := 35) dX12_isDigest_9 (by decide) (fun h22 => ?_) (fun h22 => ?_)
  · have T := T.1 h22
    refine zr_iconst (v := 0) dX12_isDigest_35 (by decide) ?_
    exact zm_zret dX12_isDigest_36 rfl (by decide) T
  · have T := T.2 h22
    refine zr_aload_n dX12_isDigest_12 rfl 0 rfl ?_
    refine zm_getr (a := 253) dX12_isDigest_13 f_X12_169 (by decide) (by decide) (by decide) (by decide) ?_
    refine zr_bipush (v := 24) dX12_isDigest_16 (by decide) ?_
    refine zr_iload_n dX12_isDigest_18 rfl 1 rfl ?_
    refine zr_imul dX12_isDigest_19 ?_
    refine zr_iload_n dX12_isDigest_20 rfl 3 rfl ?_
    refine zr_iadd dX12_isDigest_21 ?_
    obtain ⟨hq23, T⟩ := T
    refine zm_iald (n := 48) (o := (Int32.toNatClampNeg ((24 * x1) + x3))) dX12_isDigest_22 (by decide) (by decide) hq23 rfl ?_
    refine zr_iload_n dX12_isDigest_23 rfl 2 rfl ?_
    refine zr_icmp_ne (tgt := 29) dX12_isDigest_24 (by decide) (fun h24 => ?_) (fun h24 => ?_)
    · have T := T.1 h24
      refine zr_iinc (n := 3) (v := x3 + 1) dX12_isDigest_29 rfl rfl (by decide) (L2 := [(3, .int (x3 + 1)), (0, .ref 229), (1, .int x1), (2, .int x2)]) rfl ?_
      refine zr_goto (tgt := 2) dX12_isDigest_32 (by decide) ?_
      exact zV.pick [1, 2, 3, 0] rfl T
    · have T := T.2 h24
      refine zr_iconst (v := 1) dX12_isDigest_27 (by decide) ?_
      exact zm_zret dX12_isDigest_28 rfl (by decide) T
set_option maxRecDepth 100000 in
set_option maxHeartbeats 4000000 in
theorem t_X12_isOffer {d : Nat} {x1 : Int32} {x2 : Int32} {x3 : Int32} {M : zMem} {K : zK} 
    (T : S_X12_hasEntry d x1 x3 M (zB (fun r21 M22 => (r21 = false → K (some (.int 1)) M22) ∧ (r21 = true → S_X12_at d x2 x3 M22 (zI (fun r24 M25 => vp_in (213 + r24) 647 ∧ (S_X12_at d x2 x3 M25 (zI (fun r27 M28 => vp_in (309 + r27) 647 ∧ (S_X12_at d x1 x3 M28 (zI (fun r30 M31 => vp_in (213 + r30) 647 ∧ (S_X12_at d x1 x3 M31 (zI (fun r33 M34 => vp_in (309 + r33) 647 ∧ (S_X12_wins d (M25.1 231 (Int32.toNatClampNeg (213 + r24))) (M28.1 231 (Int32.toNatClampNeg (309 + r27))) (M31.1 231 (Int32.toNatClampNeg (213 + r30))) (M34.1 231 (Int32.toNatClampNeg (309 + r33))) M34 (zB (fun r36 M37 => (r36 = false → K (some (.int 0)) M37) ∧ (r36 = true → K (some (.int 1)) M37))))))))))))))))))) : S_X12_isOffer (d + 1) x1 x2 x3 M K := by
  show zV m_X12_isOffer (d + 1) 0 [(0, .ref 229), (1, .int x1), (2, .int x2), (3, .int x3)] [] M K
  refine zr_aload_n dX12_isOffer_0 rfl 0 rfl ?_
  refine zr_iload_n dX12_isOffer_1 rfl 1 rfl ?_
  refine zr_iload_n dX12_isOffer_2 rfl 3 rfl ?_
  refine zm_callV_b (c := 12) (b := 229) dX12_isOffer_3 w_X12_hasEntry l_X12_294 rfl (by decide) (by decide) s_X12_hasEntry [.int x1, .int x3] rfl rfl (Nat.le_of_ble_eq_true rfl) (Nat.le_of_ble_eq_true rfl) ?_
  refine zV.post T ?_
  rintro v M22 ⟨r21, rfl, T⟩
  refine ⟨r21, rfl, ?_⟩
  refine zm_ifb_eq (tgt := 72) dX12_isOffer_6 (by decide) (fun h23 => ?_) (fun h23 => ?_)
  · have T := T.1 h23
    refine zr_iconst (v := 1) dX12_isOffer_72 (by decide) ?_
    refine zr_goto (tgt := 77) dX12_isOffer_73 (by decide) ?_
    exact zm_zret dX12_isOffer_77 rfl (by decide) T
  · have T := T.2 h23
    refine zr_aload_n dX12_isOffer_9 rfl 0 rfl ?_
    refine zr_aload_n dX12_isOffer_10 rfl 0 rfl ?_
    refine zm_getr (a := 231) dX12_isOffer_11 f_X12_98 (by decide) (by decide) (by decide) (by decide) ?_
    refine zr_sipush (v := 213) dX12_isOffer_14 (by decide) ?_
    refine zr_iload_n dX12_isOffer_17 rfl 2 rfl ?_
    refine zr_iload_n dX12_isOffer_18 rfl 3 rfl ?_
    refine zm_callS_i dX12_isOffer_19 w_X12_at l_X12_291 s_X12_at [.int x2, .int x3] rfl rfl (Nat.le_of_ble_eq_true rfl) (Nat.le_of_ble_eq_true rfl) ?_
    refine zV.post T ?_
    rintro v M25 ⟨r24, rfl, T⟩
    refine ⟨r24, rfl, ?_⟩
    refine zr_iadd dX12_isOffer_22 ?_
    obtain ⟨hq26, T⟩ := T
    refine zm_iald (n := 647) (o := (Int32.toNatClampNeg (213 + r24))) dX12_isOffer_23 (by decide) (by decide) hq26 rfl ?_
    refine zr_aload_n dX12_isOffer_24 rfl 0 rfl ?_
    refine zm_getr (a := 231) dX12_isOffer_25 f_X12_98 (by decide) (by decide) (by decide) (by decide) ?_
    refine zr_sipush (v := 309) dX12_isOffer_28 (by decide) ?_
    refine zr_iload_n dX12_isOffer_31 rfl 2 rfl ?_
    refine zr_iload_n dX12_isOffer_32 rfl 3 rfl ?_
    refine zm_callS_i dX12_isOffer_33 w_X12_at l_X12_291 s_X12_at [.int x2, .int x3] rfl rfl (Nat.le_of_ble_eq_true rfl) (Nat.le_of_ble_eq_true rfl) ?_
    refine zV.post T ?_
    rintro v M28 ⟨r27, rfl, T⟩
    refine ⟨r27, rfl, ?_⟩
    refine zr_iadd dX12_isOffer_36 ?_
    obtain ⟨hq29, T⟩ := T
    refine zm_iald (n := 647) (o := (Int32.toNatClampNeg (309 + r27))) dX12_isOffer_37 (by decide) (by decide) hq29 rfl ?_
    refine zr_aload_n dX12_isOffer_38 rfl 0 rfl ?_
    refine zm_getr (a := 231) dX12_isOffer_39 f_X12_98 (by decide) (by decide) (by decide) (by decide) ?_
    refine zr_sipush (v := 213) dX12_isOffer_42 (by decide) ?_
    refine zr_iload_n dX12_isOffer_45 rfl 1 rfl ?_
    refine zr_iload_n dX12_isOffer_46 rfl 3 rfl ?_
    refine zm_callS_i dX12_isOffer_47 w_X12_at l_X12_291 s_X12_at [.int x1, .int x3] rfl rfl (Nat.le_of_ble_eq_true rfl) (Nat.le_of_ble_eq_true rfl) ?_
    refine zV.post T ?_
    rintro v M31 ⟨r30, rfl, T⟩
    refine ⟨r30, rfl, ?_⟩
    refine zr_iadd dX12_isOffer_50 ?_
    obtain ⟨hq32, T⟩ := T
    refine zm_iald (n := 647) (o := (Int32.toNatClampNeg (213 + r30))) dX12_isOffer_51 (by decide) (by decide) hq32 rfl ?_
    refine zr_aload_n dX12_isOffer_52 rfl 0 rfl ?_
    refine zm_getr (a := 231) dX12_isOffer_53 f_X12_98 (by decide) (by decide) (by decide) (by decide) ?_
    refine zr_sipush (v := 309) dX12_isOffer_56 (by decide) ?_
    refine zr_iload_n dX12_isOffer_59 rfl 1 rfl ?_
    refine zr_iload_n dX12_isOffer_60 rfl 3 rfl ?_
    refine zm_callS_i dX12_isOffer_61 w_X12_at l_X12_291 s_X12_at [.int x1, .int x3] rfl rfl (Nat.le_of_ble_eq_true rfl) (Nat.le_of_ble_eq_true rfl) ?_
    refine zV.post T ?_
    rintro v M34 ⟨r33, rfl, T⟩
    refine ⟨r33, rfl, ?_⟩
    refine zr_iadd dX12_isOffer_64 ?_
    obtain ⟨hq35, T⟩ := T
    refine zm_iald (n := 647) (o := (Int32.toNatClampNeg (309 + r33))) dX12_isOffer_65 (by decide) (by decide) hq35 rfl ?_
    refine zm_callV_b (c := 12) (b := 229) dX12_isOffer_66 w_X12_wins l_X12_350 rfl (by decide) (by decide) s_X12_wins [.int (M25.1 231 (Int32.toNatClampNeg (213 + r24))), .int (M28.1 231 (Int32.toNatClampNeg (309 + r27))), .int (M31.1 231 (Int32.toNatClampNeg (213 + r30))), .int (M34.1 231 (Int32.toNatClampNeg (309 + r33)))] rfl rfl (Nat.le_of_ble_eq_true rfl) (Nat.le_of_ble_eq_true rfl) ?_
    refine zV.post T ?_
    rintro v M37 ⟨r36, rfl, T⟩
    refine ⟨r36, rfl, ?_⟩
    refine zm_ifb_eq (tgt := 76) dX12_isOffer_69 (by decide) (fun h38 => ?_) (fun h38 => ?_)
    · have T := T.1 h38
      refine zr_iconst (v := 0) dX12_isOffer_76 (by decide) ?_
      exact zm_zret dX12_isOffer_77 rfl (by decide) T
    · have T := T.2 h38
      refine zr_iconst (v := 1) dX12_isOffer_72 (by decide) ?_
      refine zr_goto (tgt := 77) dX12_isOffer_73 (by decide) ?_
      exact zm_zret dX12_isOffer_77 rfl (by decide) T
set_option maxRecDepth 100000 in
set_option maxHeartbeats 4000000 in
theorem t_X12_wins {d : Nat} {x1 : Int32} {x2 : Int32} {x3 : Int32} {x4 : Int32} {M : zMem} {K : zK} 
    (T : (¬ (M.1 231 4) = 0 → (¬ (M.1 231 4) = 1 → S_X12_worthLeast d x3 M (zI (fun r23 M24 => S_X12_worthLeast d x1 M24 (zI (fun r25 M26 => (¬ (M26.1 231 4) = 0 → (0 < (r23 - r25) → K (some (.int 1)) M26) ∧ (¬ (0 < (r23 - r25)) → (¬ (r23 - r25) = 0 → K (some (.int 0)) M26) ∧ ((r23 - r25) = 0 → ((x2 - x4) ≤ 0 → K (some (.int 0)) M26) ∧ (¬ ((x2 - x4) ≤ 0) → K (some (.int 1)) M26)))) ∧ ((M26.1 231 4) = 0 → (0 < (r23 - r25) → K (some (.int 1)) M26) ∧ (¬ (0 < (r23 - r25)) → (¬ (r23 - r25) = 0 → K (some (.int 0)) M26) ∧ ((r23 - r25) = 0 → ((x1 - x3) ≤ 0 → K (some (.int 0)) M26) ∧ (¬ ((x1 - x3) ≤ 0) → K (some (.int 1)) M26))))))))) ∧ ((M.1 231 4) = 1 → (¬ (M.1 231 4) = 0 → (0 < (x1 - x3) → K (some (.int 1)) M) ∧ (¬ (0 < (x1 - x3)) → (¬ (x1 - x3) = 0 → K (some (.int 0)) M) ∧ ((x1 - x3) = 0 → ((x2 - x4) ≤ 0 → K (some (.int 0)) M) ∧ (¬ ((x2 - x4) ≤ 0) → K (some (.int 1)) M)))) ∧ ((M.1 231 4) = 0 → (0 < (x1 - x3) → K (some (.int 1)) M) ∧ (¬ (0 < (x1 - x3)) → (¬ (x1 - x3) = 0 → K (some (.int 0)) M) ∧ ((x1 - x3) = 0 → ((x1 - x3) ≤ 0 → K (some (.int 0)) M) ∧ (¬ ((x1 - x3) ≤ 0) → K (some (.int 1)) M)))))) ∧ ((M.1 231 4) = 0 → (¬ (M.1 231 4) = 0 → (0 < (x2 - x4) → K (some (.int 1)) M) ∧ (¬ (0 < (x2 - x4)) → (¬ (x2 - x4) = 0 → K (some (.int 0)) M) ∧ ((x2 - x4) = 0 → ((x2 - x4) ≤ 0 → K (some (.int 0)) M) ∧ (¬ ((x2 - x4) ≤ 0) → K (some (.int 1)) M)))) ∧ ((M.1 231 4) = 0 → (0 < (x2 - x4) → K (some (.int 1)) M) ∧ (¬ (0 < (x2 - x4)) → (¬ (x2 - x4) = 0 → K (some (.int 0)) M) ∧ ((x2 - x4) = 0 → ((x1 - x3) ≤ 0 → K (some (.int 0)) M) ∧ (¬ ((x1 - x3) ≤ 0) → K (some (.int 1)) M)))))) : S_X12_wins (d + 1) x1 x2 x3 x4 M K := by
  show zV m_X12_wins (d + 1) 0 [(0, .ref 229), (1, .int x1), (2, .int x2), (3, .int x3), (4, .int x4)] [] M K
  refine zr_aload_n dX12_wins_0 rfl 0 rfl ?_
  refine zm_getr (a := 231) dX12_wins_1 f_X12_98 (by decide) (by decide) (by decide) (by decide) ?_
  refine zr_iconst (v := 4) dX12_wins_4 (by decide) ?_
  refine zm_iald (n := 647) (o := 4) dX12_wins_5 (by decide) (by decide) (zin (by decide)) (by decide) ?_
  refine zr_if_ne (tgt := 16) dX12_wins_6 (by decide) (fun h21 => ?_) (fun h21 => ?_)
  · have T := T.1 h21
    refine zr_aload_n dX12_wins_16 rfl 0 rfl ?_
    refine zm_getr (a := 231) dX12_wins_17 f_X12_98 (by decide) (by decide) (by decide) (by decide) ?_
    refine zr_iconst (v := 4) dX12_wins_20 (by decide) ?_
    refine zm_iald (n := 647) (o := 4) dX12_wins_21 (by decide) (by decide) (zin (by decide)) (by decide) ?_
    refine zr_iconst (v := 1) dX12_wins_22 (by decide) ?_
    refine zr_icmp_ne (tgt := 32) dX12_wins_23 (by decide) (fun h22 => ?_) (fun h22 => ?_)
    · have T := T.1 h22
      refine zr_iload_n dX12_wins_32 rfl 3 rfl ?_
      refine zm_callS_i dX12_wins_33 w_X12_worthLeast l_X12_347 s_X12_worthLeast [.int x3] rfl rfl (Nat.le_of_ble_eq_true rfl) (Nat.le_of_ble_eq_true rfl) ?_
      refine zV.post T ?_
      rintro v M24 ⟨r23, rfl, T⟩
      refine ⟨r23, rfl, ?_⟩
      refine zr_iload_n dX12_wins_36 rfl 1 rfl ?_
      refine zm_callS_i dX12_wins_37 w_X12_worthLeast l_X12_347 s_X12_worthLeast [.int x1] rfl rfl (Nat.le_of_ble_eq_true rfl) (Nat.le_of_ble_eq_true rfl) ?_
      refine zV.post T ?_
      rintro v M26 ⟨r25, rfl, T⟩
      refine ⟨r25, rfl, ?_⟩
      refine zr_isub dX12_wins_40 ?_
      refine zr_istore dX12_wins_41 (by decide) (L2 := [(5, .int (r23 - r25)), (0, .ref 229), (1, .int x1), (2, .int x2), (3, .int x3), (4, .int x4)]) rfl ?_
      refine zr_aload_n dX12_wins_43 rfl 1 rfl ?_
      refine zm_getr (a := 231) dX12_wins_44 f_X12_98 (by decide) (by decide) (by decide) (by decide) ?_
      refine zr_iconst (v := 4) dX12_wins_47 (by decide) ?_
      refine zm_iald (n := 647) (o := 4) dX12_wins_48 (by decide) (by decide) (zin (by decide)) (by decide) ?_
      refine zr_if_ne (tgt := 58) dX12_wins_49 (by decide) (fun h27 => ?_) (fun h27 => ?_)
      · have T := T.1 h27
        refine zr_iload_n dX12_wins_58 rfl 3 rfl ?_
        refine zr_iload dX12_wins_59 5 rfl ?_
        refine zr_isub dX12_wins_61 ?_
        refine zr_istore dX12_wins_62 (by decide) (L2 := [(6, .int (x2 - x4)), (5, .int (r23 - r25)), (0, .ref 229), (1, .int x1), (2, .int x2), (3, .int x3), (4, .int x4)]) rfl ?_
        refine zr_iload dX12_wins_64 1 rfl ?_
        refine zr_if_gt (tgt := 79) dX12_wins_66 (by decide) (fun h28 => ?_) (fun h28 => ?_)
        · have T := T.1 h28
          refine zr_iconst (v := 1) dX12_wins_79 (by decide) ?_
          refine zr_goto (tgt := 84) dX12_wins_80 (by decide) ?_
          exact zm_zret dX12_wins_84 rfl (by decide) T
        · have T := T.2 h28
          refine zr_iload dX12_wins_69 1 rfl ?_
          refine zr_if_ne (tgt := 83) dX12_wins_71 (by decide) (fun h29 => ?_) (fun h29 => ?_)
          · have T := T.1 h29
            refine zr_iconst (v := 0) dX12_wins_83 (by decide) ?_
            exact zm_zret dX12_wins_84 rfl (by decide) T
          · have T := T.2 h29
            refine zr_iload dX12_wins_74 0 rfl ?_
            refine zr_if_le (tgt := 83) dX12_wins_76 (by decide) (fun h30 => ?_) (fun h30 => ?_)
            · have T := T.1 h30
              refine zr_iconst (v := 0) dX12_wins_83 (by decide) ?_
              exact zm_zret dX12_wins_84 rfl (by decide) T
            · have T := T.2 h30
              refine zr_iconst (v := 1) dX12_wins_79 (by decide) ?_
              refine zr_goto (tgt := 84) dX12_wins_80 (by decide) ?_
              exact zm_zret dX12_wins_84 rfl (by decide) T
      · have T := T.2 h27
        refine zr_iload_n dX12_wins_52 rfl 2 rfl ?_
        refine zr_iload_n dX12_wins_53 rfl 4 rfl ?_
        refine zr_isub dX12_wins_54 ?_
        refine zr_goto (tgt := 62) dX12_wins_55 (by decide) ?_
        refine zr_istore dX12_wins_62 (by decide) (L2 := [(6, .int (x1 - x3)), (5, .int (r23 - r25)), (0, .ref 229), (1, .int x1), (2, .int x2), (3, .int x3), (4, .int x4)]) rfl ?_
        refine zr_iload dX12_wins_64 1 rfl ?_
        refine zr_if_gt (tgt := 79) dX12_wins_66 (by decide) (fun h31 => ?_) (fun h31 => ?_)
        · have T := T.1 h31
          refine zr_iconst (v := 1) dX12_wins_79 (by decide) ?_
          refine zr_goto (tgt := 84) dX12_wins_80 (by decide) ?_
          exact zm_zret dX12_wins_84 rfl (by decide) T
        · have T := T.2 h31
          refine zr_iload dX12_wins_69 1 rfl ?_
          refine zr_if_ne (tgt := 83) dX12_wins_71 (by decide) (fun h32 => ?_) (fun h32 => ?_)
          · have T := T.1 h32
            refine zr_iconst (v := 0) dX12_wins_83 (by decide) ?_
            exact zm_zret dX12_wins_84 rfl (by decide) T
          · have T := T.2 h32
            refine zr_iload dX12_wins_74 0 rfl ?_
            refine zr_if_le (tgt := 83) dX12_wins_76 (by decide) (fun h33 => ?_) (fun h33 => ?_)
            · have T := T.1 h33
              refine zr_iconst (v := 0) dX12_wins_83 (by decide) ?_
              exact zm_zret dX12_wins_84 rfl (by decide) T
            · have T := T.2 h33
              refine zr_iconst (v := 1) dX12_wins_79 (by decide) ?_
              refine zr_goto (tgt := 84) dX12_wins_80 (by decide) ?_
              exact zm_zret dX12_wins_84 rfl (by decide) T
    · have T := T.2 h22
      refine zr_iload_n dX12_wins_26 rfl 1 rfl ?_
      refine zr_iload_n dX12_wins_27 rfl 3 rfl ?_
      refine zr_isub dX12_wins_28 ?_
      refine zr_goto (tgt := 41) dX12_wins_29 (by decide) ?_
      refine zr_istore dX12_wins_41 (by decide) (L2 := [(5, .int (x1 - x3)), (0, .ref 229), (1, .int x1), (2, .int x2), (3, .int x3), (4, .int x4)]) rfl ?_
      refine zr_aload_n dX12_wins_43 rfl 1 rfl ?_
      refine zm_getr (a := 231) dX12_wins_44 f_X12_98 (by decide) (by decide) (by decide) (by decide) ?_
      refine zr_iconst (v := 4) dX12_wins_47 (by decide) ?_
      refine zm_iald (n := 647) (o := 4) dX12_wins_48 (by decide) (by decide) (zin (by decide)) (by decide) ?_
      refine zr_if_ne (tgt := 58) dX12_wins_49 (by decide) (fun h34 => ?_) (fun h34 => ?_)
      · have T := T.1 h34
        refine zr_iload_n dX12_wins_58 rfl 3 rfl ?_
        refine zr_iload dX12_wins_59 5 rfl ?_
        refine zr_isub dX12_wins_61 ?_
        refine zr_istore dX12_wins_62 (by decide) (L2 := [(6, .int (x2 - x4)), (5, .int (x1 - x3)), (0, .ref 229), (1, .int x1), (2, .int x2), (3, .int x3), (4, .int x4)]) rfl ?_
        refine zr_iload dX12_wins_64 1 rfl ?_
        refine zr_if_gt (tgt := 79) dX12_wins_66 (by decide) (fun h35 => ?_) (fun h35 => ?_)
        · have T := T.1 h35
          refine zr_iconst (v := 1) dX12_wins_79 (by decide) ?_
          refine zr_goto (tgt := 84) dX12_wins_80 (by decide) ?_
          exact zm_zret dX12_wins_84 rfl (by decide) T
        · have T := T.2 h35
          refine zr_iload dX12_wins_69 1 rfl ?_
          refine zr_if_ne (tgt := 83) dX12_wins_71 (by decide) (fun h36 => ?_) (fun h36 => ?_)
          · have T := T.1 h36
            refine zr_iconst (v := 0) dX12_wins_83 (by decide) ?_
            exact zm_zret dX12_wins_84 rfl (by decide) T
          · have T := T.2 h36
            refine zr_iload dX12_wins_74 0 rfl ?_
            refine zr_if_le (tgt := 83) dX12_wins_76 (by decide) (fun h37 => ?_) (fun h37 => ?_)
            · have T := T.1 h37
              refine zr_iconst (v := 0) dX12_wins_83 (by decide) ?_
              exact zm_zret dX12_wins_84 rfl (by decide) T
            · have T := T.2 h37
              refine zr_iconst (v := 1) dX12_wins_79 (by decide) ?_
              refine zr_goto (tgt := 84) dX12_wins_80 (by decide) ?_
              exact zm_zret dX12_wins_84 rfl (by decide) T
      · have T := T.2 h34
        refine zr_iload_n dX12_wins_52 rfl 2 rfl ?_
        refine zr_iload_n dX12_wins_53 rfl 4 rfl ?_
        refine zr_isub dX12_wins_54 ?_
        refine zr_goto (tgt := 62) dX12_wins_55 (by decide) ?_
        refine zr_istore dX12_wins_62 (by decide) (L2 := [(6, .int (x1 - x3)), (5, .int (x1 - x3)), (0, .ref 229), (1, .int x1), (2, .int x2), (3, .int x3), (4, .int x4)]) rfl ?_
        refine zr_iload dX12_wins_64 1 rfl ?_
        refine zr_if_gt (tgt := 79) dX12_wins_66 (by decide) (fun h38 => ?_) (fun h38 => ?_)
        · have T := T.1 h38
          refine zr_iconst (v := 1) dX12_wins_79 (by decide) ?_
          refine zr_goto (tgt := 84) dX12_wins_80 (by decide) ?_
          exact zm_zret dX12_wins_84 rfl (by decide) T
        · have T := T.2 h38
          refine zr_iload dX12_wins_69 1 rfl ?_
          refine zr_if_ne (tgt := 83) dX12_wins_71 (by decide) (fun h39 => ?_) (fun h39 => ?_)
          · have T := T.1 h39
            refine zr_iconst (v := 0) dX12_wins_83 (by decide) ?_
            exact zm_zret dX12_wins_84 rfl (by decide) T
          · have T := T.2 h39
            refine zr_iload dX12_wins_74 0 rfl ?_
            refine zr_if_le (tgt := 83) dX12_wins_76 (by decide) (fun h40 => ?_) (fun h40 => ?_)
            · have T := T.1 h40
              refine zr_iconst (v := 0) dX12_wins_83 (by decide) ?_
              exact zm_zret dX12_wins_84 rfl (by decide) T
            · have T := T.2 h40
              refine zr_iconst (v := 1) dX12_wins_79 (by decide) ?_
              refine zr_goto (tgt := 84) dX12_wins_80 (by decide) ?_
              exact zm_zret dX12_wins_84 rfl (by decide) T
  · have T := T.2 h21
    refine zr_iload_n dX12_wins_9 rfl 2 rfl ?_
    refine zr_iload dX12_wins_10 4 rfl ?_
    refine zr_isub dX12_wins_12 ?_
    refine zr_goto (tgt := 41) dX12_wins_13 (by decide) ?_
    refine zr_istore dX12_wins_41 (by decide) (L2 := [(5, .int (x2 - x4)), (0, .ref 229), (1, .int x1), (2, .int x2), (3, .int x3), (4, .int x4)]) rfl ?_
    refine zr_aload_n dX12_wins_43 rfl 1 rfl ?_
    refine zm_getr (a := 231) dX12_wins_44 f_X12_98 (by decide) (by decide) (by decide) (by decide) ?_
    refine zr_iconst (v := 4) dX12_wins_47 (by decide) ?_
    refine zm_iald (n := 647) (o := 4) dX12_wins_48 (by decide) (by decide) (zin (by decide)) (by decide) ?_
    refine zr_if_ne (tgt := 58) dX12_wins_49 (by decide) (fun h41 => ?_) (fun h41 => ?_)
    · have T := T.1 h41
      refine zr_iload_n dX12_wins_58 rfl 3 rfl ?_
      refine zr_iload dX12_wins_59 5 rfl ?_
      refine zr_isub dX12_wins_61 ?_
      refine zr_istore dX12_wins_62 (by decide) (L2 := [(6, .int (x2 - x4)), (5, .int (x2 - x4)), (0, .ref 229), (1, .int x1), (2, .int x2), (3, .int x3), (4, .int x4)]) rfl ?_
      refine zr_iload dX12_wins_64 1 rfl ?_
      refine zr_if_gt (tgt := 79) dX12_wins_66 (by decide) (fun h42 => ?_) (fun h42 => ?_)
      · have T := T.1 h42
        refine zr_iconst (v := 1) dX12_wins_79 (by decide) ?_
        refine zr_goto (tgt := 84) dX12_wins_80 (by decide) ?_
        exact zm_zret dX12_wins_84 rfl (by decide) T
      · have T := T.2 h42
        refine zr_iload dX12_wins_69 1 rfl ?_
        refine zr_if_ne (tgt := 83) dX12_wins_71 (by decide) (fun h43 => ?_) (fun h43 => ?_)
        · have T := T.1 h43
          refine zr_iconst (v := 0) dX12_wins_83 (by decide) ?_
          exact zm_zret dX12_wins_84 rfl (by decide) T
        · have T := T.2 h43
          refine zr_iload dX12_wins_74 0 rfl ?_
          refine zr_if_le (tgt := 83) dX12_wins_76 (by decide) (fun h44 => ?_) (fun h44 => ?_)
          · have T := T.1 h44
            refine zr_iconst (v := 0) dX12_wins_83 (by decide) ?_
            exact zm_zret dX12_wins_84 rfl (by decide) T
          · have T := T.2 h44
            refine zr_iconst (v := 1) dX12_wins_79 (by decide) ?_
            refine zr_goto (tgt := 84) dX12_wins_80 (by decide) ?_
            exact zm_zret dX12_wins_84 rfl (by decide) T
    · have T := T.2 h41
      refine zr_iload_n dX12_wins_52 rfl 2 rfl ?_
      refine zr_iload_n dX12_wins_53 rfl 4 rfl ?_
      refine zr_isub dX12_wins_54 ?_
      refine zr_goto (tgt := 62) dX12_wins_55 (by decide) ?_
      refine zr_istore dX12_wins_62 (by decide) (L2 := [(6, .int (x1 - x3)), (5, .int (x2 - x4)), (0, .ref 229), (1, .int x1), (2, .int x2), (3, .int x3), (4, .int x4)]) rfl ?_
      refine zr_iload dX12_wins_64 1 rfl ?_
      refine zr_if_gt (tgt := 79) dX12_wins_66 (by decide) (fun h45 => ?_) (fun h45 => ?_)
      · have T := T.1 h45
        refine zr_iconst (v := 1) dX12_wins_79 (by decide) ?_
        refine zr_goto (tgt := 84) dX12_wins_80 (by decide) ?_
        exact zm_zret dX12_wins_84 rfl (by decide) T
      · have T := T.2 h45
        refine zr_iload dX12_wins_69 1 rfl ?_
        refine zr_if_ne (tgt := 83) dX12_wins_71 (by decide) (fun h46 => ?_) (fun h46 => ?_)
        · have T := T.1 h46
          refine zr_iconst (v := 0) dX12_wins_83 (by decide) ?_
          exact zm_zret dX12_wins_84 rfl (by decide) T
        · have T := T.2 h46
          refine zr_iload dX12_wins_74 0 rfl ?_
          refine zr_if_le (tgt := 83) dX12_wins_76 (by decide) (fun h47 => ?_) (fun h47 => ?_)
          · have T := T.1 h47
            refine zr_iconst (v := 0) dX12_wins_83 (by decide) ?_
            exact zm_zret dX12_wins_84 rfl (by decide) T
          · have T := T.2 h47
            refine zr_iconst (v := 1) dX12_wins_79 (by decide) ?_
            refine zr_goto (tgt := 84) dX12_wins_80 (by decide) ?_
            exact zm_zret dX12_wins_84 rfl (by decide) T
set_option maxRecDepth 100000 in
set_option maxHeartbeats 4000000 in
theorem t_X12_worthLeast {d : Nat} {x0 : Int32} {M : zMem} {K : zK} 
    (T : (¬ x0 = (-1) → K (some (.int x0)) M) ∧ (x0 = (-1) → K (some (.int 1000)) M)) : S_X12_worthLeast d x0 M K := by
  show zV m_X12_worthLeast d 0 [(0, .int x0)] [] M K
  refine zr_iload_n dX12_worthLeast_0 rfl 0 rfl ?_
  refine zr_iconst (v := (-1)) dX12_worthLeast_1 (by decide) ?_
  refine zr_icmp_ne (tgt := 11) dX12_worthLeast_2 (by decide) (fun h21 => ?_) (fun h21 => ?_)
  · have T := T.1 h21
    refine zr_iload_n dX12_worthLeast_11 rfl 0 rfl ?_
    exact zm_iret dX12_worthLeast_12 rfl T
  · have T := T.2 h21
    refine zr_sipush (v := 1000) dX12_worthLeast_5 (by decide) ?_
    refine zr_goto (tgt := 12) dX12_worthLeast_8 (by decide) ?_
    exact zm_iret dX12_worthLeast_12 rfl T
set_option maxRecDepth 100000 in
set_option maxHeartbeats 4000000 in
theorem t_X12_offerAt {d : Nat} {x1 : Int32} {M : zMem} {K : zK} 
    (T : (∀ M21 : zMem, M21 = wI M 229 0 0 → S_X12_isIn d x1 0 ((M21.1 229 44) - 1) M21 (zB (fun r23 M24 => (r23 = false → K (some (.int (-1))) M24) ∧ (r23 = true → vp_in x1 24 ∧ (K (some (.int (M24.1 256 (Int32.toNatClampNeg x1)))) M24)))))) : S_X12_offerAt (d + 1) x1 M K := by
  show zV m_X12_offerAt (d + 1) 0 [(0, .ref 229), (1, .int x1)] [] M K
  refine zr_aload_n dX12_offerAt_0 rfl 0 rfl ?_
  refine zr_iconst (v := 0) dX12_offerAt_1 (by decide) ?_
  refine zn_puti dX12_offerAt_2 f_X12_1 (by decide) (by decide) (by decide) (fun M21 e22 => ?_)
  have T := T M21 e22
  refine zr_iload_n dX12_offerAt_5 rfl 1 rfl ?_
  refine zr_iconst (v := 0) dX12_offerAt_6 (by decide) ?_
  refine zr_aload_n dX12_offerAt_7 rfl 0 rfl ?_
  refine zm_geti dX12_offerAt_8 f_X12_370 (by decide) (by decide) (by decide) ?_
  refine zr_iconst (v := 1) dX12_offerAt_11 (by decide) ?_
  refine zr_isub dX12_offerAt_12 ?_
  refine zm_callS_b dX12_offerAt_13 w_X12_isIn l_X12_75 s_X12_isIn [.int x1, .int 0, .int ((M21.1 229 44) - 1)] rfl rfl (Nat.le_of_ble_eq_true rfl) (Nat.le_of_ble_eq_true rfl) ?_
  refine zV.post T ?_
  rintro v M24 ⟨r23, rfl, T⟩
  refine ⟨r23, rfl, ?_⟩
  refine zm_ifb_eq (tgt := 28) dX12_offerAt_16 (by decide) (fun h25 => ?_) (fun h25 => ?_)
  · have T := T.1 h25
    refine zr_iconst (v := (-1)) dX12_offerAt_28 (by decide) ?_
    exact zm_iret dX12_offerAt_29 rfl T
  · have T := T.2 h25
    refine zr_aload_n dX12_offerAt_19 rfl 0 rfl ?_
    refine zm_getr (a := 256) dX12_offerAt_20 f_X12_178 (by decide) (by decide) (by decide) (by decide) ?_
    refine zr_iload_n dX12_offerAt_23 rfl 1 rfl ?_
    obtain ⟨hq26, T⟩ := T
    refine zm_iald (n := 24) (o := (Int32.toNatClampNeg x1)) dX12_offerAt_24 (by decide) (by decide) hq26 rfl ?_
    refine zr_goto (tgt := 29) dX12_offerAt_25 (by decide) ?_
    exact zm_iret dX12_offerAt_29 rfl T
set_option maxRecDepth 100000 in
set_option maxHeartbeats 4000000 in
theorem t_X12_visits {d : Nat} {x1 : Int32} {x2 : Int32} {M : zMem} {K : zK} 
    (T : (∀ M21 : zMem, M21 = wI M 229 0 0 → S_X12_areTwo d x1 x2 M21 (zB (fun r23 M24 => (r23 = false → K (some (.int (-1))) M24) ∧ (r23 = true → S_X12_visitedOf d x1 x2 M24 (zI (fun r26 M27 => S_X12_bits d r26 M27 (zI (fun r28 M29 => K (some (.int r28)) M29))))))))) : S_X12_visits (d + 1) x1 x2 M K := by
  show zV m_X12_visits (d + 1) 0 [(0, .ref 229), (1, .int x1), (2, .int x2)] [] M K
  refine zr_aload_n dX12_visits_0 rfl 0 rfl ?_
  refine zr_iconst (v := 0) dX12_visits_1 (by decide) ?_
  refine zn_puti dX12_visits_2 f_X12_1 (by decide) (by decide) (by decide) (fun M21 e22 => ?_)
  have T := T M21 e22
  refine zr_aload_n dX12_visits_5 rfl 0 rfl ?_
  refine zr_iload_n dX12_visits_6 rfl 1 rfl ?_
  refine zr_iload_n dX12_visits_7 rfl 2 rfl ?_
  refine zm_callV_b (c := 12) (b := 229) dX12_visits_8 w_X12_areTwo l_X12_363 rfl (by decide) (by decide) s_X12_areTwo [.int x1, .int x2] rfl rfl (Nat.le_of_ble_eq_true rfl) (Nat.le_of_ble_eq_true rfl) ?_
  refine zV.post T ?_
  rintro v M24 ⟨r23, rfl, T⟩
  refine ⟨r23, rfl, ?_⟩
  refine zm_ifb_eq (tgt := 26) dX12_visits_11 (by decide) (fun h25 => ?_) (fun h25 => ?_)
  · have T := T.1 h25
    refine zr_iconst (v := (-1)) dX12_visits_26 (by decide) ?_
    exact zm_iret dX12_visits_27 rfl T
  · have T := T.2 h25
    refine zr_aload_n dX12_visits_14 rfl 0 rfl ?_
    refine zr_iload_n dX12_visits_15 rfl 1 rfl ?_
    refine zr_iload_n dX12_visits_16 rfl 2 rfl ?_
    refine zm_callV_i (c := 12) (b := 229) dX12_visits_17 w_X12_visitedOf l_X12_354 rfl (by decide) (by decide) s_X12_visitedOf [.int x1, .int x2] rfl rfl (Nat.le_of_ble_eq_true rfl) (Nat.le_of_ble_eq_true rfl) ?_
    refine zV.post T ?_
    rintro v M27 ⟨r26, rfl, T⟩
    refine ⟨r26, rfl, ?_⟩
    refine zm_callS_i dX12_visits_20 w_X12_bits l_X12_338 s_X12_bits [.int r26] rfl rfl (Nat.le_of_ble_eq_true rfl) (Nat.le_of_ble_eq_true rfl) ?_
    refine zV.post T ?_
    rintro v M29 ⟨r28, rfl, T⟩
    refine ⟨r28, rfl, ?_⟩
    refine zr_goto (tgt := 27) dX12_visits_23 (by decide) ?_
    exact zm_iret dX12_visits_27 rfl T
set_option maxRecDepth 100000 in
set_option maxHeartbeats 4000000 in
theorem t_X12_differs {d : Nat} {x1 : Int32} {x2 : Int32} {M : zMem} {K : zK} 
    (T : (∀ M21 : zMem, M21 = wI M 229 0 0 → S_X12_areTwo d x1 x2 M21 (zB (fun r23 M24 => (r23 = true → S_X12_differs_21 (d + 1) x1 x2 0 0 M24 K) ∧ (r23 = false → K (some (.int (-1))) M24))))) : S_X12_differs (d + 1) x1 x2 M K := by
  show zV m_X12_differs (d + 1) 0 [(0, .ref 229), (1, .int x1), (2, .int x2)] [] M K
  refine zr_aload_n dX12_differs_0 rfl 0 rfl ?_
  refine zr_iconst (v := 0) dX12_differs_1 (by decide) ?_
  refine zn_puti dX12_differs_2 f_X12_1 (by decide) (by decide) (by decide) (fun M21 e22 => ?_)
  have T := T M21 e22
  refine zr_aload_n dX12_differs_5 rfl 0 rfl ?_
  refine zr_iload_n dX12_differs_6 rfl 1 rfl ?_
  refine zr_iload_n dX12_differs_7 rfl 2 rfl ?_
  refine zm_callV_b (c := 12) (b := 229) dX12_differs_8 w_X12_areTwo l_X12_363 rfl (by decide) (by decide) s_X12_areTwo [.int x1, .int x2] rfl rfl (Nat.le_of_ble_eq_true rfl) (Nat.le_of_ble_eq_true rfl) ?_
  refine zV.post T ?_
  rintro v M24 ⟨r23, rfl, T⟩
  refine ⟨r23, rfl, ?_⟩
  refine zm_ifb_ne (tgt := 16) dX12_differs_11 (by decide) (fun h25 => ?_) (fun h25 => ?_)
  · have T := T.1 h25
    refine zr_iconst (v := 0) dX12_differs_16 (by decide) ?_
    refine zr_istore_n dX12_differs_17 rfl (by decide) (L2 := [(3, .int 0), (0, .ref 229), (1, .int x1), (2, .int x2)]) rfl ?_
    refine zr_iconst (v := 0) dX12_differs_18 (by decide) ?_
    refine zr_istore dX12_differs_19 (by decide) (L2 := [(4, .int 0), (3, .int 0), (0, .ref 229), (1, .int x1), (2, .int x2)]) rfl ?_
    exact zV.pick [2, 3, 4, 1, 0] rfl T
  · have T := T.2 h25
    refine zr_iconst (v := (-1)) dX12_differs_14 (by decide) ?_
    exact zm_iret dX12_differs_15 rfl T
set_option maxRecDepth 100000 in
set_option maxHeartbeats 4000000 in
theorem t_X12_differs_21 {d : Nat} {x1 : Int32} {x2 : Int32} {x3 : Int32} {x4 : Int32} {M : zMem} {K : zK} 
    (T : ((M.1 231 0) ≤ x4 → K (some (.int x3)) M) ∧ (¬ ((M.1 231 0) ≤ x4) → S_X12_areSame d x1 x2 x4 M (zB (fun r22 M23 => (r22 = true → S_X12_differs_21 (d + 1) x1 x2 x3 (x4 + 1) M23 K) ∧ (r22 = false → S_X12_differs_21 (d + 1) x1 x2 (x3 ||| ((1 : Int32) <<< (x4 &&& 31))) (x4 + 1) M23 K))))) : S_X12_differs_21 (d + 1) x1 x2 x3 x4 M K := by
  show zV m_X12_differs (d + 1) 21 [(0, .ref 229), (1, .int x1), (2, .int x2), (3, .int x3), (4, .int x4)] [] M K
  refine zr_iload dX12_differs_21 4 rfl ?_
  refine zr_aload_n dX12_differs_23 rfl 0 rfl ?_
  refine zm_getr (a := 231) dX12_differs_24 f_X12_98 (by decide) (by decide) (by decide) (by decide) ?_
  refine zr_iconst (v := 0) dX12_differs_27 (by decide) ?_
  refine zm_iald (n := 647) (o := 0) dX12_differs_28 (by decide) (by decide) (zin (by decide)) (by decide) ?_
  refine zr_icmp_ge (tgt := 56) dX12_differs_29 (by decide) (fun h21 => ?_) (fun h21 => ?_)
  · have T := T.1 h21
    refine zr_iload_n dX12_differs_56 rfl 3 rfl ?_
    exact zm_iret dX12_differs_57 rfl T
  · have T := T.2 h21
    refine zr_aload_n dX12_differs_32 rfl 0 rfl ?_
    refine zr_iload_n dX12_differs_33 rfl 1 rfl ?_
    refine zr_iload_n dX12_differs_34 rfl 2 rfl ?_
    refine zr_iload dX12_differs_35 4 rfl ?_
    refine zm_callV_b (c := 12) (b := 229) dX12_differs_37 w_X12_areSame l_X12_323 rfl (by decide) (by decide) s_X12_areSame [.int x1, .int x2, .int x4] rfl rfl (Nat.le_of_ble_eq_true rfl) (Nat.le_of_ble_eq_true rfl) ?_
    refine zV.post T ?_
    rintro v M23 ⟨r22, rfl, T⟩
    refine ⟨r22, rfl, ?_⟩
    refine zm_ifb_ne (tgt := 50) dX12_differs_40 (by decide) (fun h24 => ?_) (fun h24 => ?_)
    · have T := T.1 h24
      refine zr_iinc (n := 4) (v := x4 + 1) dX12_differs_50 rfl rfl (by decide) (L2 := [(4, .int (x4 + 1)), (0, .ref 229), (1, .int x1), (2, .int x2), (3, .int x3)]) rfl ?_
      refine zr_goto (tgt := 21) dX12_differs_53 (by decide) ?_
      exact zV.pick [1, 2, 3, 4, 0] rfl T
    · have T := T.2 h24
      refine zr_iload_n dX12_differs_43 rfl 3 rfl ?_
      refine zr_iconst (v := 1) dX12_differs_44 (by decide) ?_
      refine zr_iload dX12_differs_45 4 rfl ?_
      refine zr_ishl dX12_differs_47 ?_
      refine zr_ior dX12_differs_48 ?_
      refine zr_istore_n dX12_differs_49 rfl (by decide) (L2 := [(3, .int (x3 ||| ((1 : Int32) <<< (x4 &&& 31)))), (0, .ref 229), (1, .int x1), (2, .int x2), (4, .int x4)]) rfl ?_
      refine zr_iinc (n := 4) (v := x4 + 1) dX12_differs_50 rfl rfl (by decide) (L2 := [(4, .int (x4 + 1)), (3, .int (x3 ||| ((1 : Int32) <<< (x4 &&& 31)))), (0, .ref 229), (1, .int x1), (2, .int x2)]) rfl ?_
      refine zr_goto (tgt := 21) dX12_differs_53 (by decide) ?_
      exact zV.pick [2, 3, 4, 1, 0] rfl T
set_option maxRecDepth 100000 in
set_option maxHeartbeats 4000000 in
theorem t_X12_put {d : Nat} {x1 : Int32} {x2 : Int32} {x3 : Int32} {M : zMem} {K : zK} 
    (T : (∀ M21 : zMem, M21 = wI M 229 0 0 → S_X12_isPeer d x1 M21 (zB (fun r23 M24 => (r23 = false → S_X12_act d 0 x1 x2 x3 0 M24 (zI (fun r26 M27 => K (some (.int r26)) M27))) ∧ (r23 = true → S_X12_isKey d x2 M24 (zB (fun r28 M29 => (r28 = false → S_X12_act d 0 x1 x2 x3 0 M29 (zI (fun r31 M32 => K (some (.int r31)) M32))) ∧ (r28 = true → S_X12_isIn d x3 0 999 M29 (zB (fun r33 M34 => (r33 = false → S_X12_act d 0 x1 x2 x3 0 M34 (zI (fun r36 M37 => K (some (.int r36)) M37))) ∧ (r33 = true → S_X12_act d 0 x1 x2 x3 1 M34 (zI (fun r38 M39 => K (some (.int r38)) M39))))))))))))) : S_X12_put (d + 1) x1 x2 x3 M K := by
  show zV m_X12_put (d + 1) 0 [(0, .ref 229), (1, .int x1), (2, .int x2), (3, .int x3)] [] M K
  refine zr_aload_n dX12_put_0 rfl 0 rfl ?_
  refine zr_iconst (v := 0) dX12_put_1 (by decide) ?_
  refine zn_puti dX12_put_2 f_X12_1 (by decide) (by decide) (by decide) (fun M21 e22 => ?_)
  have T := T M21 e22
  refine zr_aload_n dX12_put_5 rfl 0 rfl ?_
  refine zr_iconst (v := 0) dX12_put_6 (by decide) ?_
  refine zr_iload_n dX12_put_7 rfl 1 rfl ?_
  refine zr_iload_n dX12_put_8 rfl 2 rfl ?_
  refine zr_iload_n dX12_put_9 rfl 3 rfl ?_
  refine zr_aload_n dX12_put_10 rfl 0 rfl ?_
  refine zr_iload_n dX12_put_11 rfl 1 rfl ?_
  refine zm_callV_b (c := 12) (b := 229) dX12_put_12 w_X12_isPeer l_X12_288 rfl (by decide) (by decide) s_X12_isPeer [.int x1] rfl rfl (Nat.le_of_ble_eq_true rfl) (Nat.le_of_ble_eq_true rfl) ?_
  refine zV.post T ?_
  rintro v M24 ⟨r23, rfl, T⟩
  refine ⟨r23, rfl, ?_⟩
  refine zm_ifb_eq (tgt := 41) dX12_put_15 (by decide) (fun h25 => ?_) (fun h25 => ?_)
  · have T := T.1 h25
    refine zr_iconst (v := 0) dX12_put_41 (by decide) ?_
    refine zm_callV_i (c := 12) (b := 229) dX12_put_42 w_X12_act l_X12_404 rfl (by decide) (by decide) s_X12_act [.int 0, .int x1, .int x2, .int x3, .int 0] rfl rfl (Nat.le_of_ble_eq_true rfl) (Nat.le_of_ble_eq_true rfl) ?_
    refine zV.post T ?_
    rintro v M27 ⟨r26, rfl, T⟩
    refine ⟨r26, rfl, ?_⟩
    exact zm_iret dX12_put_45 rfl T
  · have T := T.2 h25
    refine zr_aload_n dX12_put_18 rfl 0 rfl ?_
    refine zr_iload_n dX12_put_19 rfl 2 rfl ?_
    refine zm_callV_b (c := 12) (b := 229) dX12_put_20 w_X12_isKey l_X12_326 rfl (by decide) (by decide) s_X12_isKey [.int x2] rfl rfl (Nat.le_of_ble_eq_true rfl) (Nat.le_of_ble_eq_true rfl) ?_
    refine zV.post T ?_
    rintro v M29 ⟨r28, rfl, T⟩
    refine ⟨r28, rfl, ?_⟩
    refine zm_ifb_eq (tgt := 41) dX12_put_23 (by decide) (fun h30 => ?_) (fun h30 => ?_)
    · have T := T.1 h30
      refine zr_iconst (v := 0) dX12_put_41 (by decide) ?_
      refine zm_callV_i (c := 12) (b := 229) dX12_put_42 w_X12_act l_X12_404 rfl (by decide) (by decide) s_X12_act [.int 0, .int x1, .int x2, .int x3, .int 0] rfl rfl (Nat.le_of_ble_eq_true rfl) (Nat.le_of_ble_eq_true rfl) ?_
      refine zV.post T ?_
      rintro v M32 ⟨r31, rfl, T⟩
      refine ⟨r31, rfl, ?_⟩
      exact zm_iret dX12_put_45 rfl T
    · have T := T.2 h30
      refine zr_iload_n dX12_put_26 rfl 3 rfl ?_
      refine zr_iconst (v := 0) dX12_put_27 (by decide) ?_
      refine zr_sipush (v := 999) dX12_put_28 (by decide) ?_
      refine zm_callS_b dX12_put_31 w_X12_isIn l_X12_75 s_X12_isIn [.int x3, .int 0, .int 999] rfl rfl (Nat.le_of_ble_eq_true rfl) (Nat.le_of_ble_eq_true rfl) ?_
      refine zV.post T ?_
      rintro v M34 ⟨r33, rfl, T⟩
      refine ⟨r33, rfl, ?_⟩
      refine zm_ifb_eq (tgt := 41) dX12_put_34 (by decide) (fun h35 => ?_) (fun h35 => ?_)
      · have T := T.1 h35
        refine zr_iconst (v := 0) dX12_put_41 (by decide) ?_
        refine zm_callV_i (c := 12) (b := 229) dX12_put_42 w_X12_act l_X12_404 rfl (by decide) (by decide) s_X12_act [.int 0, .int x1, .int x2, .int x3, .int 0] rfl rfl (Nat.le_of_ble_eq_true rfl) (Nat.le_of_ble_eq_true rfl) ?_
        refine zV.post T ?_
        rintro v M37 ⟨r36, rfl, T⟩
        refine ⟨r36, rfl, ?_⟩
        exact zm_iret dX12_put_45 rfl T
      · have T := T.2 h35
        refine zr_iconst (v := 1) dX12_put_37 (by decide) ?_
        refine zr_goto (tgt := 42) dX12_put_38 (by decide) ?_
        refine zm_callV_i (c := 12) (b := 229) dX12_put_42 w_X12_act l_X12_404 rfl (by decide) (by decide) s_X12_act [.int 0, .int x1, .int x2, .int x3, .int 1] rfl rfl (Nat.le_of_ble_eq_true rfl) (Nat.le_of_ble_eq_true rfl) ?_
        refine zV.post T ?_
        rintro v M39 ⟨r38, rfl, T⟩
        refine ⟨r38, rfl, ?_⟩
        exact zm_iret dX12_put_45 rfl T
set_option maxRecDepth 100000 in
set_option maxHeartbeats 4000000 in
theorem t_X12_act {d : Nat} {x1 : Int32} {x2 : Int32} {x3 : Int32} {x4 : Int32} {x5 : Int32} {M : zMem} {K : zK} 
    (T : (¬ x5 = 0 → S_X12_why d x1 x2 x3 x4 M (zI (fun r22 M23 => (r22 = 0 → S_X12_snap d  M23 (zU (fun M26 => S_X12_live d x1 x2 x3 x4 M26 (zU (fun M28 => K (some (.int 0)) M28))))) ∧ (¬ (r22 = 0) → K (some (.int r22)) M23)))) ∧ (x5 = 0 → K (some (.int (-1))) M)) : S_X12_act (d + 1) x1 x2 x3 x4 x5 M K := by
  show zV m_X12_act (d + 1) 0 [(0, .ref 229), (1, .int x1), (2, .int x2), (3, .int x3), (4, .int x4), (5, .int x5)] [] M K
  refine zr_iload dX12_act_0 5 rfl ?_
  refine zr_if_ne (tgt := 7) dX12_act_2 (by decide) (fun h21 => ?_) (fun h21 => ?_)
  · have T := T.1 h21
    refine zr_aload_n dX12_act_7 rfl 0 rfl ?_
    refine zr_iload_n dX12_act_8 rfl 1 rfl ?_
    refine zr_iload_n dX12_act_9 rfl 2 rfl ?_
    refine zr_iload_n dX12_act_10 rfl 3 rfl ?_
    refine zr_iload dX12_act_11 4 rfl ?_
    refine zm_callV_i (c := 12) (b := 229) dX12_act_13 w_X12_why l_X12_393 rfl (by decide) (by decide) s_X12_why [.int x1, .int x2, .int x3, .int x4] rfl rfl (Nat.le_of_ble_eq_true rfl) (Nat.le_of_ble_eq_true rfl) ?_
    refine zV.post T ?_
    rintro v M23 ⟨r22, rfl, T⟩
    refine ⟨r22, rfl, ?_⟩
    refine zr_istore dX12_act_16 (by decide) (L2 := [(6, .int r22), (0, .ref 229), (1, .int x1), (2, .int x2), (3, .int x3), (4, .int x4), (5, .int x5)]) rfl ?_
    refine zr_iload dX12_act_18 0 rfl ?_
    refine zr_if_eq (tgt := 26) dX12_act_20 (by decide) (fun h24 => ?_) (fun h24 => ?_)
    · have T := T.1 h24
      refine zr_aload_n dX12_act_26 rfl 1 rfl ?_
      refine zm_callV_v (c := 12) (b := 229) dX12_act_27 w_X12_snap l_X12_397 rfl (by decide) (by decide) s_X12_snap [] rfl rfl (Nat.le_of_ble_eq_true rfl) (Nat.le_of_ble_eq_true rfl) ?_
      refine zV.post T ?_
      rintro v M26 ⟨rfl, T⟩
      refine ⟨rfl, ?_⟩
      refine zr_aload_n dX12_act_30 rfl 1 rfl ?_
      refine zr_iload_n dX12_act_31 rfl 2 rfl ?_
      refine zr_iload_n dX12_act_32 rfl 3 rfl ?_
      refine zr_iload_n dX12_act_33 rfl 4 rfl ?_
      refine zr_iload dX12_act_34 5 rfl ?_
      refine zm_callV_v (c := 12) (b := 229) dX12_act_36 w_X12_live l_X12_400 rfl (by decide) (by decide) s_X12_live [.int x1, .int x2, .int x3, .int x4] rfl rfl (Nat.le_of_ble_eq_true rfl) (Nat.le_of_ble_eq_true rfl) ?_
      refine zV.post T ?_
      rintro v M28 ⟨rfl, T⟩
      refine ⟨rfl, ?_⟩
      refine zr_iconst (v := 0) dX12_act_39 (by decide) ?_
      exact zm_iret dX12_act_40 rfl T
    · have T := T.2 h24
      refine zr_iload dX12_act_23 0 rfl ?_
      exact zm_iret dX12_act_25 rfl T
  · have T := T.2 h21
    refine zr_iconst (v := (-1)) dX12_act_5 (by decide) ?_
    exact zm_iret dX12_act_6 rfl T
set_option maxRecDepth 100000 in
set_option maxHeartbeats 4000000 in
theorem t_X12_why {d : Nat} {x1 : Int32} {x2 : Int32} {x3 : Int32} {x4 : Int32} {M : zMem} {K : zK} 
    (T : (x1 = 0 → S_X12_hasEntry d x2 x3 M (zB (fun r21 M22 => (r21 = false → K (some (.int 0)) M22) ∧ (r21 = true → S_X12_at d x2 x3 M22 (zI (fun r24 M25 => vp_in (213 + r24) 647 ∧ ((¬ (M25.1 231 (Int32.toNatClampNeg (213 + r24))) = x4 → K (some (.int 0)) M25) ∧ ((M25.1 231 (Int32.toNatClampNeg (213 + r24))) = x4 → K (some (.int 1)) M25)))))))) ∧ (x1 = 1 → S_X12_hasEntry d x2 x3 M (zB (fun r28 M29 => (r28 = false → K (some (.int 1)) M29) ∧ (r28 = true → S_X12_at d x2 x3 M29 (zI (fun r31 M32 => vp_in (213 + r31) 647 ∧ ((¬ (M32.1 231 (Int32.toNatClampNeg (213 + r31))) = (-1) → K (some (.int 0)) M32) ∧ ((M32.1 231 (Int32.toNatClampNeg (213 + r31))) = (-1) → K (some (.int 1)) M32)))))))) ∧ (x1 = 2 → S_X12_whyPull d x2 x3 M (zI (fun r35 M36 => K (some (.int r35)) M36))) ∧ (x1 = 3 → S_X12_areCut d x2 x3 M (zB (fun r37 M38 => (r37 = false → K (some (.int 0)) M38) ∧ (r37 = true → K (some (.int 1)) M38)))) ∧ (¬ x1 = 0 → ¬ x1 = 1 → ¬ x1 = 2 → ¬ x1 = 3 → S_X12_areCut d x2 x3 M (zB (fun r40 M41 => (r40 = false → K (some (.int 1)) M41) ∧ (r40 = true → K (some (.int 0)) M41))))) : S_X12_why (d + 1) x1 x2 x3 x4 M K := by
  show zV m_X12_why (d + 1) 0 [(0, .ref 229), (1, .int x1), (2, .int x2), (3, .int x3), (4, .int x4)] [] M K
  refine zr_iload_n dX12_why_0 rfl 1 rfl ?_
  by_cases h43 : x1 = 0
  · have T := T.1 h43
    refine zr_tableIn (tgt := 32) dX12_why_1 (by rw [h43]; decide) (by rw [h43]; decide) (by rw [h43]; rfl) (by decide) ?_
    refine zr_aload_n dX12_why_32 rfl 0 rfl ?_
    refine zr_iload_n dX12_why_33 rfl 2 rfl ?_
    refine zr_iload_n dX12_why_34 rfl 3 rfl ?_
    refine zm_callV_b (c := 12) (b := 229) dX12_why_35 w_X12_hasEntry l_X12_294 rfl (by decide) (by decide) s_X12_hasEntry [.int x2, .int x3] rfl rfl (Nat.le_of_ble_eq_true rfl) (Nat.le_of_ble_eq_true rfl) ?_
    refine zV.post T ?_
    rintro v M22 ⟨r21, rfl, T⟩
    refine ⟨r21, rfl, ?_⟩
    refine zm_ifb_eq (tgt := 64) dX12_why_38 (by decide) (fun h23 => ?_) (fun h23 => ?_)
    · have T := T.1 h23
      refine zr_iconst (v := 0) dX12_why_64 (by decide) ?_
      exact zm_iret dX12_why_65 rfl T
    · have T := T.2 h23
      refine zr_aload_n dX12_why_41 rfl 0 rfl ?_
      refine zm_getr (a := 231) dX12_why_42 f_X12_98 (by decide) (by decide) (by decide) (by decide) ?_
      refine zr_sipush (v := 213) dX12_why_45 (by decide) ?_
      refine zr_iload_n dX12_why_48 rfl 2 rfl ?_
      refine zr_iload_n dX12_why_49 rfl 3 rfl ?_
      refine zm_callS_i dX12_why_50 w_X12_at l_X12_291 s_X12_at [.int x2, .int x3] rfl rfl (Nat.le_of_ble_eq_true rfl) (Nat.le_of_ble_eq_true rfl) ?_
      refine zV.post T ?_
      rintro v M25 ⟨r24, rfl, T⟩
      refine ⟨r24, rfl, ?_⟩
      refine zr_iadd dX12_why_53 ?_
      obtain ⟨hq26, T⟩ := T
      refine zm_iald (n := 647) (o := (Int32.toNatClampNeg (213 + r24))) dX12_why_54 (by decide) (by decide) hq26 rfl ?_
      refine zr_iload dX12_why_55 4 rfl ?_
      refine zr_icmp_ne (tgt := 64) dX12_why_57 (by decide) (fun h27 => ?_) (fun h27 => ?_)
      · have T := T.1 h27
        refine zr_iconst (v := 0) dX12_why_64 (by decide) ?_
        exact zm_iret dX12_why_65 rfl T
      · have T := T.2 h27
        refine zr_iconst (v := 1) dX12_why_60 (by decide) ?_
        refine zr_goto (tgt := 65) dX12_why_61 (by decide) ?_
        exact zm_iret dX12_why_65 rfl T
  by_cases h44 : x1 = 1
  · have T := T.2.1 h44
    refine zr_tableIn (tgt := 66) dX12_why_1 (by rw [h44]; decide) (by rw [h44]; decide) (by rw [h44]; rfl) (by decide) ?_
    refine zr_aload_n dX12_why_66 rfl 0 rfl ?_
    refine zr_iload_n dX12_why_67 rfl 2 rfl ?_
    refine zr_iload_n dX12_why_68 rfl 3 rfl ?_
    refine zm_callV_b (c := 12) (b := 229) dX12_why_69 w_X12_hasEntry l_X12_294 rfl (by decide) (by decide) s_X12_hasEntry [.int x2, .int x3] rfl rfl (Nat.le_of_ble_eq_true rfl) (Nat.le_of_ble_eq_true rfl) ?_
    refine zV.post T ?_
    rintro v M29 ⟨r28, rfl, T⟩
    refine ⟨r28, rfl, ?_⟩
    refine zm_ifb_eq (tgt := 93) dX12_why_72 (by decide) (fun h30 => ?_) (fun h30 => ?_)
    · have T := T.1 h30
      refine zr_iconst (v := 1) dX12_why_93 (by decide) ?_
      refine zr_goto (tgt := 98) dX12_why_94 (by decide) ?_
      exact zm_iret dX12_why_98 rfl T
    · have T := T.2 h30
      refine zr_aload_n dX12_why_75 rfl 0 rfl ?_
      refine zm_getr (a := 231) dX12_why_76 f_X12_98 (by decide) (by decide) (by decide) (by decide) ?_
      refine zr_sipush (v := 213) dX12_why_79 (by decide) ?_
      refine zr_iload_n dX12_why_82 rfl 2 rfl ?_
      refine zr_iload_n dX12_why_83 rfl 3 rfl ?_
      refine zm_callS_i dX12_why_84 w_X12_at l_X12_291 s_X12_at [.int x2, .int x3] rfl rfl (Nat.le_of_ble_eq_true rfl) (Nat.le_of_ble_eq_true rfl) ?_
      refine zV.post T ?_
      rintro v M32 ⟨r31, rfl, T⟩
      refine ⟨r31, rfl, ?_⟩
      refine zr_iadd dX12_why_87 ?_
      obtain ⟨hq33, T⟩ := T
      refine zm_iald (n := 647) (o := (Int32.toNatClampNeg (213 + r31))) dX12_why_88 (by decide) (by decide) hq33 rfl ?_
      refine zr_iconst (v := (-1)) dX12_why_89 (by decide) ?_
      refine zr_icmp_ne (tgt := 97) dX12_why_90 (by decide) (fun h34 => ?_) (fun h34 => ?_)
      · have T := T.1 h34
        refine zr_iconst (v := 0) dX12_why_97 (by decide) ?_
        exact zm_iret dX12_why_98 rfl T
      · have T := T.2 h34
        refine zr_iconst (v := 1) dX12_why_93 (by decide) ?_
        refine zr_goto (tgt := 98) dX12_why_94 (by decide) ?_
        exact zm_iret dX12_why_98 rfl T
  by_cases h45 : x1 = 2
  · have T := T.2.2.1 h45
    refine zr_tableIn (tgt := 99) dX12_why_1 (by rw [h45]; decide) (by rw [h45]; decide) (by rw [h45]; rfl) (by decide) ?_
    refine zr_aload_n dX12_why_99 rfl 0 rfl ?_
    refine zr_iload_n dX12_why_100 rfl 2 rfl ?_
    refine zr_iload_n dX12_why_101 rfl 3 rfl ?_
    refine zm_callV_i (c := 12) (b := 229) dX12_why_102 w_X12_whyPull l_X12_380 rfl (by decide) (by decide) s_X12_whyPull [.int x2, .int x3] rfl rfl (Nat.le_of_ble_eq_true rfl) (Nat.le_of_ble_eq_true rfl) ?_
    refine zV.post T ?_
    rintro v M36 ⟨r35, rfl, T⟩
    refine ⟨r35, rfl, ?_⟩
    exact zm_iret dX12_why_105 rfl T
  by_cases h46 : x1 = 3
  · have T := T.2.2.2.1 h46
    refine zr_tableIn (tgt := 106) dX12_why_1 (by rw [h46]; decide) (by rw [h46]; decide) (by rw [h46]; rfl) (by decide) ?_
    refine zr_aload_n dX12_why_106 rfl 0 rfl ?_
    refine zr_iload_n dX12_why_107 rfl 2 rfl ?_
    refine zr_iload_n dX12_why_108 rfl 3 rfl ?_
    refine zm_callV_b (c := 12) (b := 229) dX12_why_109 w_X12_areCut l_X12_377 rfl (by decide) (by decide) s_X12_areCut [.int x2, .int x3] rfl rfl (Nat.le_of_ble_eq_true rfl) (Nat.le_of_ble_eq_true rfl) ?_
    refine zV.post T ?_
    rintro v M38 ⟨r37, rfl, T⟩
    refine ⟨r37, rfl, ?_⟩
    refine zm_ifb_eq (tgt := 119) dX12_why_112 (by decide) (fun h39 => ?_) (fun h39 => ?_)
    · have T := T.1 h39
      refine zr_iconst (v := 0) dX12_why_119 (by decide) ?_
      exact zm_iret dX12_why_120 rfl T
    · have T := T.2 h39
      refine zr_iconst (v := 1) dX12_why_115 (by decide) ?_
      refine zr_goto (tgt := 120) dX12_why_116 (by decide) ?_
      exact zm_iret dX12_why_120 rfl T
  · have T := T.2.2.2.2 h43 h44 h45 h46
    refine zr_tableOut (tgt := 121) dX12_why_1 (z_out_0_3 h43 h44 h45 h46) (by decide) ?_
    refine zr_aload_n dX12_why_121 rfl 0 rfl ?_
    refine zr_iload_n dX12_why_122 rfl 2 rfl ?_
    refine zr_iload_n dX12_why_123 rfl 3 rfl ?_
    refine zm_callV_b (c := 12) (b := 229) dX12_why_124 w_X12_areCut l_X12_377 rfl (by decide) (by decide) s_X12_areCut [.int x2, .int x3] rfl rfl (Nat.le_of_ble_eq_true rfl) (Nat.le_of_ble_eq_true rfl) ?_
    refine zV.post T ?_
    rintro v M41 ⟨r40, rfl, T⟩
    refine ⟨r40, rfl, ?_⟩
    refine zm_ifb_eq (tgt := 134) dX12_why_127 (by decide) (fun h42 => ?_) (fun h42 => ?_)
    · have T := T.1 h42
      refine zr_iconst (v := 1) dX12_why_134 (by decide) ?_
      exact zm_iret dX12_why_135 rfl T
    · have T := T.2 h42
      refine zr_iconst (v := 0) dX12_why_130 (by decide) ?_
      refine zr_goto (tgt := 135) dX12_why_131 (by decide) ?_
      exact zm_iret dX12_why_135 rfl T
set_option maxRecDepth 100000 in
set_option maxHeartbeats 4000000 in
theorem t_X12_whyPull {d : Nat} {x1 : Int32} {x2 : Int32} {M : zMem} {K : zK} 
    (T : S_X12_areCut d x1 x2 M (zB (fun r21 M22 => (r21 = false → S_X12_rootOf d x1 M22 (zI (fun r24 M25 => S_X12_rootOf d x2 M25 (zI (fun r26 M27 => (¬ r24 = r26 → S_X12_layOffers d x1 x2 M27 (zU (fun M30 => (¬ (M30.1 229 43) = 0 → K (some (.int 0)) M30) ∧ ((M30.1 229 43) = 0 → K (some (.int 3)) M30)))) ∧ (r24 = r26 → K (some (.int 2)) M27)))))) ∧ (r21 = true → K (some (.int 1)) M22)))) : S_X12_whyPull (d + 1) x1 x2 M K := by
  show zV m_X12_whyPull (d + 1) 0 [(0, .ref 229), (1, .int x1), (2, .int x2)] [] M K
  refine zr_aload_n dX12_whyPull_0 rfl 0 rfl ?_
  refine zr_iload_n dX12_whyPull_1 rfl 1 rfl ?_
  refine zr_iload_n dX12_whyPull_2 rfl 2 rfl ?_
  refine zm_callV_b (c := 12) (b := 229) dX12_whyPull_3 w_X12_areCut l_X12_377 rfl (by decide) (by decide) s_X12_areCut [.int x1, .int x2] rfl rfl (Nat.le_of_ble_eq_true rfl) (Nat.le_of_ble_eq_true rfl) ?_
  refine zV.post T ?_
  rintro v M22 ⟨r21, rfl, T⟩
  refine ⟨r21, rfl, ?_⟩
  refine zm_ifb_eq (tgt := 11) dX12_whyPull_6 (by decide) (fun h23 => ?_) (fun h23 => ?_)
  · have T := T.1 h23
    refine zr_aload_n dX12_whyPull_11 rfl 0 rfl ?_
    refine zr_iload_n dX12_whyPull_12 rfl 1 rfl ?_
    refine zm_callV_i (c := 12) (b := 229) dX12_whyPull_13 w_X12_rootOf l_X12_317 rfl (by decide) (by decide) s_X12_rootOf [.int x1] rfl rfl (Nat.le_of_ble_eq_true rfl) (Nat.le_of_ble_eq_true rfl) ?_
    refine zV.post T ?_
    rintro v M25 ⟨r24, rfl, T⟩
    refine ⟨r24, rfl, ?_⟩
    refine zr_aload_n dX12_whyPull_16 rfl 0 rfl ?_
    refine zr_iload_n dX12_whyPull_17 rfl 2 rfl ?_
    refine zm_callV_i (c := 12) (b := 229) dX12_whyPull_18 w_X12_rootOf l_X12_317 rfl (by decide) (by decide) s_X12_rootOf [.int x2] rfl rfl (Nat.le_of_ble_eq_true rfl) (Nat.le_of_ble_eq_true rfl) ?_
    refine zV.post T ?_
    rintro v M27 ⟨r26, rfl, T⟩
    refine ⟨r26, rfl, ?_⟩
    refine zr_icmp_ne (tgt := 26) dX12_whyPull_21 (by decide) (fun h28 => ?_) (fun h28 => ?_)
    · have T := T.1 h28
      refine zr_aload_n dX12_whyPull_26 rfl 0 rfl ?_
      refine zr_iload_n dX12_whyPull_27 rfl 1 rfl ?_
      refine zr_iload_n dX12_whyPull_28 rfl 2 rfl ?_
      refine zm_callV_v (c := 12) (b := 229) dX12_whyPull_29 w_X12_layOffers l_X12_366 rfl (by decide) (by decide) s_X12_layOffers [.int x1, .int x2] rfl rfl (Nat.le_of_ble_eq_true rfl) (Nat.le_of_ble_eq_true rfl) ?_
      refine zV.post T ?_
      rintro v M30 ⟨rfl, T⟩
      refine ⟨rfl, ?_⟩
      refine zr_aload_n dX12_whyPull_32 rfl 0 rfl ?_
      refine zm_geti dX12_whyPull_33 f_X12_357 (by decide) (by decide) (by decide) ?_
      refine zr_if_ne (tgt := 43) dX12_whyPull_36 (by decide) (fun h31 => ?_) (fun h31 => ?_)
      · have T := T.1 h31
        refine zr_iconst (v := 0) dX12_whyPull_43 (by decide) ?_
        exact zm_iret dX12_whyPull_44 rfl T
      · have T := T.2 h31
        refine zr_iconst (v := 3) dX12_whyPull_39 (by decide) ?_
        refine zr_goto (tgt := 44) dX12_whyPull_40 (by decide) ?_
        exact zm_iret dX12_whyPull_44 rfl T
    · have T := T.2 h28
      refine zr_iconst (v := 2) dX12_whyPull_24 (by decide) ?_
      exact zm_iret dX12_whyPull_25 rfl T
  · have T := T.2 h23
    refine zr_iconst (v := 1) dX12_whyPull_9 (by decide) ?_
    exact zm_iret dX12_whyPull_10 rfl T
set_option maxRecDepth 100000 in
set_option maxHeartbeats 4000000 in
theorem t_X12_areCut {d : Nat} {x1 : Int32} {x2 : Int32} {M : zMem} {K : zK} 
    (T : vp_in (205 + x1) 647 ∧ (S_X12_has d (M.1 231 (Int32.toNatClampNeg (205 + x1))) x2 M (zB (fun r22 M23 => K (some (.int (bi r22))) M23)))) : S_X12_areCut (d + 1) x1 x2 M K := by
  show zV m_X12_areCut (d + 1) 0 [(0, .ref 229), (1, .int x1), (2, .int x2)] [] M K
  refine zr_aload_n dX12_areCut_0 rfl 0 rfl ?_
  refine zm_getr (a := 231) dX12_areCut_1 f_X12_98 (by decide) (by decide) (by decide) (by decide) ?_
  refine zr_sipush (v := 205) dX12_areCut_4 (by decide) ?_
  refine zr_iload_n dX12_areCut_7 rfl 1 rfl ?_
  refine zr_iadd dX12_areCut_8 ?_
  obtain ⟨hq21, T⟩ := T
  refine zm_iald (n := 647) (o := (Int32.toNatClampNeg (205 + x1))) dX12_areCut_9 (by decide) (by decide) hq21 rfl ?_
  refine zr_iload_n dX12_areCut_10 rfl 2 rfl ?_
  refine zm_callS_b dX12_areCut_11 w_X12_has l_X12_233 s_X12_has [.int (M.1 231 (Int32.toNatClampNeg (205 + x1))), .int x2] rfl rfl (Nat.le_of_ble_eq_true rfl) (Nat.le_of_ble_eq_true rfl) ?_
  refine zV.post T ?_
  rintro v M23 ⟨r22, rfl, T⟩
  refine ⟨r22, rfl, ?_⟩
  exact zm_zret dX12_areCut_14 rfl (bi_01 _) T
set_option maxRecDepth 100000 in
set_option maxHeartbeats 4000000 in
theorem t_X12_snap {d : Nat}  {M : zMem} {K : zK} 
    (T : (¬ (M.1 229 25) = 8 → S_X12_snap_50 (d + 1)  M K) ∧ ((M.1 229 25) = 8 → S_X12_snap_11 (d + 1) 0 M K)) : S_X12_snap (d + 1)  M K := by
  show zV m_X12_snap (d + 1) 0 [(0, .ref 229)] [] M K
  refine zr_aload_n dX12_snap_0 rfl 0 rfl ?_
  refine zm_geti dX12_snap_1 f_X12_263 (by decide) (by decide) (by decide) ?_
  refine zr_bipush (v := 8) dX12_snap_4 (by decide) ?_
  refine zr_icmp_ne (tgt := 50) dX12_snap_6 (by decide) (fun h21 => ?_) (fun h21 => ?_)
  · have T := T.1 h21
    exact zV.pick [0] rfl T
  · have T := T.2 h21
    refine zr_iconst (v := 0) dX12_snap_9 (by decide) ?_
    refine zr_istore_n dX12_snap_10 rfl (by decide) (L2 := [(1, .int 0), (0, .ref 229)]) rfl ?_
    exact zV.pick [1, 0] rfl T
set_option maxRecDepth 100000 in
set_option maxHeartbeats 4000000 in
theorem t_X12_snap_50 {d : Nat}  {M : zMem} {K : zK} 
    (T : S_X12_save d 234 (203 * (M.1 229 25)) M (zU (fun M22 => (∀ M23 : zMem, M23 = wI M22 229 25 ((M22.1 229 25) + 1) → K none M23)))) : S_X12_snap_50 (d + 1)  M K := by
  show zV m_X12_snap (d + 1) 50 [(0, .ref 229)] [] M K
  refine zr_aload_n dX12_snap_50 rfl 0 rfl ?_
  refine zr_aload_n dX12_snap_51 rfl 0 rfl ?_
  refine zm_getr (a := 234) dX12_snap_52 f_X12_107 (by decide) (by decide) (by decide) (by decide) ?_
  refine zr_sipush (v := 203) dX12_snap_55 (by decide) ?_
  refine zr_aload_n dX12_snap_58 rfl 0 rfl ?_
  refine zm_geti dX12_snap_59 f_X12_263 (by decide) (by decide) (by decide) ?_
  refine zr_imul dX12_snap_62 ?_
  refine zm_callV_v (c := 12) (b := 229) dX12_snap_63 w_X12_save l_X12_373 rfl (by decide) (by decide) s_X12_save [.ref 234, .int (203 * (M.1 229 25))] rfl rfl (Nat.le_of_ble_eq_true rfl) (Nat.le_of_ble_eq_true rfl) ?_
  refine zV.post T ?_
  rintro v M22 ⟨rfl, T⟩
  refine ⟨rfl, ?_⟩
  refine zr_aload_n dX12_snap_66 rfl 0 rfl ?_
  refine zr_dup dX12_snap_67 rfl ?_
  refine zm_geti dX12_snap_68 f_X12_263 (by decide) (by decide) (by decide) ?_
  refine zr_iconst (v := 1) dX12_snap_71 (by decide) ?_
  refine zr_iadd dX12_snap_72 ?_
  refine zn_puti dX12_snap_73 f_X12_263 (by decide) (by decide) (by decide) (fun M23 e24 => ?_)
  have T := T M23 e24
  exact zm_vret dX12_snap_76 rfl T
set_option maxRecDepth 100000 in
set_option maxHeartbeats 4000000 in
theorem t_X12_snap_11 {d : Nat} {x1 : Int32} {M : zMem} {K : zK} 
    (T : (1421 ≤ x1 → (∀ M22 : zMem, M22 = wI M 229 25 ((M.1 229 25) - 1) → S_X12_snap_50 (d + 1)  M22 K)) ∧ (¬ (1421 ≤ x1) → vp_in (x1 + 203) 1624 ∧ (vp_in x1 1624 ∧ ((∀ M26 : zMem, M26 = wI M 234 (Int32.toNatClampNeg x1) (M.1 234 (Int32.toNatClampNeg (x1 + 203))) → S_X12_snap_11 (d + 1) (x1 + 1) M26 K))))) : S_X12_snap_11 (d + 1) x1 M K := by
  show zV m_X12_snap (d + 1) 11 [(0, .ref 229), (1, .int x1)] [] M K
  refine zr_iload_n dX12_snap_11 rfl 1 rfl ?_
  refine zr_sipush (v := 1421) dX12_snap_12 (by decide) ?_
  refine zr_icmp_ge (tgt := 40) dX12_snap_15 (by decide) (fun h21 => ?_) (fun h21 => ?_)
  · have T := T.1 h21
    refine zr_aload_n dX12_snap_40 rfl 0 rfl ?_
    refine zr_dup dX12_snap_41 rfl ?_
    refine zm_geti dX12_snap_42 f_X12_263 (by decide) (by decide) (by decide) ?_
    refine zr_iconst (v := 1) dX12_snap_45 (by decide) ?_
    refine zr_isub dX12_snap_46 ?_
    refine zn_puti dX12_snap_47 f_X12_263 (by decide) (by decide) (by decide) (fun M22 e23 => ?_)
    have T := T M22 e23
    exact zV.pick [0] rfl T
  · have T := T.2 h21
    refine zr_aload_n dX12_snap_18 rfl 0 rfl ?_
    refine zm_getr (a := 234) dX12_snap_19 f_X12_107 (by decide) (by decide) (by decide) (by decide) ?_
    refine zr_iload_n dX12_snap_22 rfl 1 rfl ?_
    refine zr_aload_n dX12_snap_23 rfl 0 rfl ?_
    refine zm_getr (a := 234) dX12_snap_24 f_X12_107 (by decide) (by decide) (by decide) (by decide) ?_
    refine zr_iload_n dX12_snap_27 rfl 1 rfl ?_
    refine zr_sipush (v := 203) dX12_snap_28 (by decide) ?_
    refine zr_iadd dX12_snap_31 ?_
    obtain ⟨hq24, T⟩ := T
    refine zm_iald (n := 1624) (o := (Int32.toNatClampNeg (x1 + 203))) dX12_snap_32 (by decide) (by decide) hq24 rfl ?_
    obtain ⟨hq25, T⟩ := T
    refine zn_iast (n := 1624) (o := (Int32.toNatClampNeg x1)) dX12_snap_33 (by decide) (by decide) hq25 rfl (fun M26 e27 => ?_)
    have T := T M26 e27
    refine zr_iinc (n := 1) (v := x1 + 1) dX12_snap_34 rfl rfl (by decide) (L2 := [(1, .int (x1 + 1)), (0, .ref 229)]) rfl ?_
    refine zr_goto (tgt := 11) dX12_snap_37 (by decide) ?_
    exact zV.pick [1, 0] rfl T
set_option maxRecDepth 100000 in
set_option maxHeartbeats 4000000 in
theorem t_X12_save {d : Nat} {b1 : Nat} {x2 : Int32} {M : zMem} {K : zK} (h1 : zc b1 = 100 ∧ b1 < zN)
    (T : S_X12_save_2 d b1 x2 0 M K) : S_X12_save d b1 x2 M K := by
  show zV m_X12_save d 0 [(0, .ref 229), (1, .ref b1), (2, .int x2)] [] M K
  refine zr_iconst (v := 0) dX12_save_0 (by decide) ?_
  refine zr_istore_n dX12_save_1 rfl (by decide) (L2 := [(3, .int 0), (0, .ref 229), (1, .ref b1), (2, .int x2)]) rfl ?_
  exact zV.pick [1, 2, 3, 0] rfl T
set_option maxRecDepth 100000 in
set_option maxHeartbeats 4000000 in
theorem t_X12_save_2 {d : Nat} {b1 : Nat} {x2 : Int32} {x3 : Int32} {M : zMem} {K : zK} (h1 : zc b1 = 100 ∧ b1 < zN)
    (T : (203 ≤ x3 → K none M) ∧ (¬ (203 ≤ x3) → vp_in (202 + x3) 647 ∧ (vp_in (x2 + x3) (zl b1) ∧ ((∀ M24 : zMem, M24 = wI M b1 (Int32.toNatClampNeg (x2 + x3)) (M.1 231 (Int32.toNatClampNeg (202 + x3))) → S_X12_save_2 d b1 x2 (x3 + 1) M24 K))))) : S_X12_save_2 d b1 x2 x3 M K := by
  show zV m_X12_save d 2 [(0, .ref 229), (1, .ref b1), (2, .int x2), (3, .int x3)] [] M K
  refine zr_iload_n dX12_save_2 rfl 3 rfl ?_
  refine zr_sipush (v := 203) dX12_save_3 (by decide) ?_
  refine zr_icmp_ge (tgt := 30) dX12_save_6 (by decide) (fun h21 => ?_) (fun h21 => ?_)
  · have T := T.1 h21
    exact zm_vret dX12_save_30 rfl T
  · have T := T.2 h21
    refine zr_aload_n dX12_save_9 rfl 1 rfl ?_
    refine zr_iload_n dX12_save_10 rfl 2 rfl ?_
    refine zr_iload_n dX12_save_11 rfl 3 rfl ?_
    refine zr_iadd dX12_save_12 ?_
    refine zr_aload_n dX12_save_13 rfl 0 rfl ?_
    refine zm_getr (a := 231) dX12_save_14 f_X12_98 (by decide) (by decide) (by decide) (by decide) ?_
    refine zr_sipush (v := 202) dX12_save_17 (by decide) ?_
    refine zr_iload_n dX12_save_20 rfl 3 rfl ?_
    refine zr_iadd dX12_save_21 ?_
    obtain ⟨hq22, T⟩ := T
    refine zm_iald (n := 647) (o := (Int32.toNatClampNeg (202 + x3))) dX12_save_22 (by decide) (by decide) hq22 rfl ?_
    obtain ⟨hq23, T⟩ := T
    refine zn_iast (n := zl b1) (o := (Int32.toNatClampNeg (x2 + x3))) dX12_save_23 h1 rfl hq23 rfl (fun M24 e25 => ?_)
    have T := T M24 e25
    refine zr_iinc (n := 3) (v := x3 + 1) dX12_save_24 rfl rfl (by decide) (L2 := [(3, .int (x3 + 1)), (0, .ref 229), (1, .ref b1), (2, .int x2)]) rfl ?_
    refine zr_goto (tgt := 2) dX12_save_27 (by decide) ?_
    exact zV.pick [1, 2, 3, 0] rfl T
set_option maxRecDepth 100000 in
set_option maxHeartbeats 4000000 in
theorem t_X12_live {d : Nat} {x1 : Int32} {x2 : Int32} {x3 : Int32} {x4 : Int32} {M : zMem} {K : zK} 
    (T : (x1 = 0 → S_X12_write d x2 x3 x4 M (zU (fun M22 => K none M22))) ∧ (x1 = 1 → S_X12_write d x2 x3 (-1) M (zU (fun M24 => K none M24))) ∧ (x1 = 2 → S_X12_layOffers d x2 x3 M (zU (fun M26 => S_X12_comesOver d x2 x3 M26 (zU (fun M28 => K none M28))))) ∧ (¬ x1 = 0 → ¬ x1 = 1 → ¬ x1 = 2 → vp_in (205 + x2) 647 ∧ (vp_in (205 + x2) 647 ∧ ((∀ M31 : zMem, M31 = wI M 231 (Int32.toNatClampNeg (205 + x2)) ((M.1 231 (Int32.toNatClampNeg (205 + x2))) ^^^ ((1 : Int32) <<< (x3 &&& 31))) → vp_in (205 + x3) 647 ∧ (vp_in (205 + x3) 647 ∧ ((∀ M35 : zMem, M35 = wI M31 231 (Int32.toNatClampNeg (205 + x3)) ((M31.1 231 (Int32.toNatClampNeg (205 + x3))) ^^^ ((1 : Int32) <<< (x2 &&& 31))) → K none M35)))))))) : S_X12_live (d + 1) x1 x2 x3 x4 M K := by
  show zV m_X12_live (d + 1) 0 [(0, .ref 229), (1, .int x1), (2, .int x2), (3, .int x3), (4, .int x4)] [] M K
  refine zr_iload_n dX12_live_0 rfl 1 rfl ?_
  by_cases h37 : x1 = 0
  · have T := T.1 h37
    refine zr_tableIn (tgt := 28) dX12_live_1 (by rw [h37]; decide) (by rw [h37]; decide) (by rw [h37]; rfl) (by decide) ?_
    refine zr_aload_n dX12_live_28 rfl 0 rfl ?_
    refine zr_iload_n dX12_live_29 rfl 2 rfl ?_
    refine zr_iload_n dX12_live_30 rfl 3 rfl ?_
    refine zr_iload dX12_live_31 4 rfl ?_
    refine zm_callV_v (c := 12) (b := 229) dX12_live_33 w_X12_write l_X12_386 rfl (by decide) (by decide) s_X12_write [.int x2, .int x3, .int x4] rfl rfl (Nat.le_of_ble_eq_true rfl) (Nat.le_of_ble_eq_true rfl) ?_
    refine zV.post T ?_
    rintro v M22 ⟨rfl, T⟩
    refine ⟨rfl, ?_⟩
    exact zm_vret dX12_live_36 rfl T
  by_cases h38 : x1 = 1
  · have T := T.2.1 h38
    refine zr_tableIn (tgt := 37) dX12_live_1 (by rw [h38]; decide) (by rw [h38]; decide) (by rw [h38]; rfl) (by decide) ?_
    refine zr_aload_n dX12_live_37 rfl 0 rfl ?_
    refine zr_iload_n dX12_live_38 rfl 2 rfl ?_
    refine zr_iload_n dX12_live_39 rfl 3 rfl ?_
    refine zr_iconst (v := (-1)) dX12_live_40 (by decide) ?_
    refine zm_callV_v (c := 12) (b := 229) dX12_live_41 w_X12_write l_X12_386 rfl (by decide) (by decide) s_X12_write [.int x2, .int x3, .int (-1)] rfl rfl (Nat.le_of_ble_eq_true rfl) (Nat.le_of_ble_eq_true rfl) ?_
    refine zV.post T ?_
    rintro v M24 ⟨rfl, T⟩
    refine ⟨rfl, ?_⟩
    exact zm_vret dX12_live_44 rfl T
  by_cases h39 : x1 = 2
  · have T := T.2.2.1 h39
    refine zr_tableIn (tgt := 45) dX12_live_1 (by rw [h39]; decide) (by rw [h39]; decide) (by rw [h39]; rfl) (by decide) ?_
    refine zr_aload_n dX12_live_45 rfl 0 rfl ?_
    refine zr_iload_n dX12_live_46 rfl 2 rfl ?_
    refine zr_iload_n dX12_live_47 rfl 3 rfl ?_
    refine zm_callV_v (c := 12) (b := 229) dX12_live_48 w_X12_layOffers l_X12_366 rfl (by decide) (by decide) s_X12_layOffers [.int x2, .int x3] rfl rfl (Nat.le_of_ble_eq_true rfl) (Nat.le_of_ble_eq_true rfl) ?_
    refine zV.post T ?_
    rintro v M26 ⟨rfl, T⟩
    refine ⟨rfl, ?_⟩
    refine zr_aload_n dX12_live_51 rfl 0 rfl ?_
    refine zr_iload_n dX12_live_52 rfl 2 rfl ?_
    refine zr_iload_n dX12_live_53 rfl 3 rfl ?_
    refine zm_callV_v (c := 12) (b := 229) dX12_live_54 w_X12_comesOver l_X12_390 rfl (by decide) (by decide) s_X12_comesOver [.int x2, .int x3] rfl rfl (Nat.le_of_ble_eq_true rfl) (Nat.le_of_ble_eq_true rfl) ?_
    refine zV.post T ?_
    rintro v M28 ⟨rfl, T⟩
    refine ⟨rfl, ?_⟩
    exact zm_vret dX12_live_57 rfl T
  · have T := T.2.2.2 h37 h38 h39
    refine zr_tableOut (tgt := 58) dX12_live_1 (z_out_0_2 h37 h38 h39) (by decide) ?_
    refine zr_aload_n dX12_live_58 rfl 0 rfl ?_
    refine zm_getr (a := 231) dX12_live_59 f_X12_98 (by decide) (by decide) (by decide) (by decide) ?_
    refine zr_sipush (v := 205) dX12_live_62 (by decide) ?_
    refine zr_iload_n dX12_live_65 rfl 2 rfl ?_
    refine zr_iadd dX12_live_66 ?_
    refine zr_dup2 dX12_live_67 rfl rfl ?_
    obtain ⟨hq29, T⟩ := T
    refine zm_iald (n := 647) (o := (Int32.toNatClampNeg (205 + x2))) dX12_live_68 (by decide) (by decide) hq29 rfl ?_
    refine zr_iconst (v := 1) dX12_live_69 (by decide) ?_
    refine zr_iload_n dX12_live_70 rfl 3 rfl ?_
    refine zr_ishl dX12_live_71 ?_
    refine zr_ixor dX12_live_72 ?_
    obtain ⟨hq30, T⟩ := T
    refine zn_iast (n := 647) (o := (Int32.toNatClampNeg (205 + x2))) dX12_live_73 (by decide) (by decide) hq30 rfl (fun M31 e32 => ?_)
    have T := T M31 e32
    refine zr_aload_n dX12_live_74 rfl 0 rfl ?_
    refine zm_getr (a := 231) dX12_live_75 f_X12_98 (by decide) (by decide) (by decide) (by decide) ?_
    refine zr_sipush (v := 205) dX12_live_78 (by decide) ?_
    refine zr_iload_n dX12_live_81 rfl 3 rfl ?_
    refine zr_iadd dX12_live_82 ?_
    refine zr_dup2 dX12_live_83 rfl rfl ?_
    obtain ⟨hq33, T⟩ := T
    refine zm_iald (n := 647) (o := (Int32.toNatClampNeg (205 + x3))) dX12_live_84 (by decide) (by decide) hq33 rfl ?_
    refine zr_iconst (v := 1) dX12_live_85 (by decide) ?_
    refine zr_iload_n dX12_live_86 rfl 2 rfl ?_
    refine zr_ishl dX12_live_87 ?_
    refine zr_ixor dX12_live_88 ?_
    obtain ⟨hq34, T⟩ := T
    refine zn_iast (n := 647) (o := (Int32.toNatClampNeg (205 + x3))) dX12_live_89 (by decide) (by decide) hq34 rfl (fun M35 e36 => ?_)
    have T := T M35 e36
    exact zm_vret dX12_live_90 rfl T
set_option maxRecDepth 100000 in
set_option maxHeartbeats 4000000 in
theorem t_X12_write {d : Nat} {x1 : Int32} {x2 : Int32} {x3 : Int32} {M : zMem} {K : zK} 
    (T : (∀ M21 : zMem, M21 = wI M 231 204 ((M.1 231 204) + 1) → S_X12_at d x1 x2 M21 (zI (fun r23 M24 => vp_in (213 + r23) 647 ∧ ((∀ M26 : zMem, M26 = wI M24 231 (Int32.toNatClampNeg (213 + r23)) x3 → S_X12_at d x1 x2 M26 (zI (fun r28 M29 => vp_in (309 + r28) 647 ∧ ((∀ M31 : zMem, M31 = wI M29 231 (Int32.toNatClampNeg (309 + r28)) (M29.1 231 204) → K none M31)))))))))) : S_X12_write (d + 1) x1 x2 x3 M K := by
  show zV m_X12_write (d + 1) 0 [(0, .ref 229), (1, .int x1), (2, .int x2), (3, .int x3)] [] M K
  refine zr_aload_n dX12_write_0 rfl 0 rfl ?_
  refine zm_getr (a := 231) dX12_write_1 f_X12_98 (by decide) (by decide) (by decide) (by decide) ?_
  refine zr_sipush (v := 204) dX12_write_4 (by decide) ?_
  refine zr_dup2 dX12_write_7 rfl rfl ?_
  refine zm_iald (n := 647) (o := 204) dX12_write_8 (by decide) (by decide) (zin (by decide)) (by decide) ?_
  refine zr_iconst (v := 1) dX12_write_9 (by decide) ?_
  refine zr_iadd dX12_write_10 ?_
  refine zn_iast (n := 647) (o := 204) dX12_write_11 (by decide) (by decide) (zin (by decide)) (by decide) (fun M21 e22 => ?_)
  have T := T M21 e22
  refine zr_aload_n dX12_write_12 rfl 0 rfl ?_
  refine zm_getr (a := 231) dX12_write_13 f_X12_98 (by decide) (by decide) (by decide) (by decide) ?_
  refine zr_sipush (v := 213) dX12_write_16 (by decide) ?_
  refine zr_iload_n dX12_write_19 rfl 1 rfl ?_
  refine zr_iload_n dX12_write_20 rfl 2 rfl ?_
  refine zm_callS_i dX12_write_21 w_X12_at l_X12_291 s_X12_at [.int x1, .int x2] rfl rfl (Nat.le_of_ble_eq_true rfl) (Nat.le_of_ble_eq_true rfl) ?_
  refine zV.post T ?_
  rintro v M24 ⟨r23, rfl, T⟩
  refine ⟨r23, rfl, ?_⟩
  refine zr_iadd dX12_write_24 ?_
  refine zr_iload_n dX12_write_25 rfl 3 rfl ?_
  obtain ⟨hq25, T⟩ := T
  refine zn_iast (n := 647) (o := (Int32.toNatClampNeg (213 + r23))) dX12_write_26 (by decide) (by decide) hq25 rfl (fun M26 e27 => ?_)
  have T := T M26 e27
  refine zr_aload_n dX12_write_27 rfl 0 rfl ?_
  refine zm_getr (a := 231) dX12_write_28 f_X12_98 (by decide) (by decide) (by decide) (by decide) ?_
  refine zr_sipush (v := 309) dX12_write_31 (by decide) ?_
  refine zr_iload_n dX12_write_34 rfl 1 rfl ?_
  refine zr_iload_n dX12_write_35 rfl 2 rfl ?_
  refine zm_callS_i dX12_write_36 w_X12_at l_X12_291 s_X12_at [.int x1, .int x2] rfl rfl (Nat.le_of_ble_eq_true rfl) (Nat.le_of_ble_eq_true rfl) ?_
  refine zV.post T ?_
  rintro v M29 ⟨r28, rfl, T⟩
  refine ⟨r28, rfl, ?_⟩
  refine zr_iadd dX12_write_39 ?_
  refine zr_aload_n dX12_write_40 rfl 0 rfl ?_
  refine zm_getr (a := 231) dX12_write_41 f_X12_98 (by decide) (by decide) (by decide) (by decide) ?_
  refine zr_sipush (v := 204) dX12_write_44 (by decide) ?_
  refine zm_iald (n := 647) (o := 204) dX12_write_47 (by decide) (by decide) (zin (by decide)) (by decide) ?_
  obtain ⟨hq30, T⟩ := T
  refine zn_iast (n := 647) (o := (Int32.toNatClampNeg (309 + r28))) dX12_write_48 (by decide) (by decide) hq30 rfl (fun M31 e32 => ?_)
  have T := T M31 e32
  exact zm_vret dX12_write_49 rfl T
set_option maxRecDepth 100000 in
set_option maxHeartbeats 4000000 in
theorem t_X12_comesOver {d : Nat} {x1 : Int32} {x2 : Int32} {M : zMem} {K : zK} 
    (T : S_X12_least d (M.1 229 43) (M.1 231 3) M (zI (fun r21 M22 => S_X12_comesOver_17 (d + 1) x1 x2 r21 0 M22 K))) : S_X12_comesOver (d + 1) x1 x2 M K := by
  show zV m_X12_comesOver (d + 1) 0 [(0, .ref 229), (1, .int x1), (2, .int x2)] [] M K
  refine zr_aload_n dX12_comesOver_0 rfl 0 rfl ?_
  refine zm_geti dX12_comesOver_1 f_X12_357 (by decide) (by decide) (by decide) ?_
  refine zr_aload_n dX12_comesOver_4 rfl 0 rfl ?_
  refine zm_getr (a := 231) dX12_comesOver_5 f_X12_98 (by decide) (by decide) (by decide) (by decide) ?_
  refine zr_iconst (v := 3) dX12_comesOver_8 (by decide) ?_
  refine zm_iald (n := 647) (o := 3) dX12_comesOver_9 (by decide) (by decide) (zin (by decide)) (by decide) ?_
  refine zm_callS_i dX12_comesOver_10 w_X12_least l_X12_383 s_X12_least [.int (M.1 229 43), .int (M.1 231 3)] rfl rfl (Nat.le_of_ble_eq_true rfl) (Nat.le_of_ble_eq_true rfl) ?_
  refine zV.post T ?_
  rintro v M22 ⟨r21, rfl, T⟩
  refine ⟨r21, rfl, ?_⟩
  refine zr_istore_n dX12_comesOver_13 rfl (by decide) (L2 := [(3, .int r21), (0, .ref 229), (1, .int x1), (2, .int x2)]) rfl ?_
  refine zr_iconst (v := 0) dX12_comesOver_14 (by decide) ?_
  refine zr_istore dX12_comesOver_15 (by decide) (L2 := [(4, .int 0), (3, .int r21), (0, .ref 229), (1, .int x1), (2, .int x2)]) rfl ?_
  exact zV.pick [2, 3, 4, 1, 0] rfl T
set_option maxRecDepth 100000 in
set_option maxHeartbeats 4000000 in
theorem t_X12_comesOver_17 {d : Nat} {x1 : Int32} {x2 : Int32} {x3 : Int32} {x4 : Int32} {M : zMem} {K : zK} 
    (T : (x3 ≤ x4 → (∀ M22 : zMem, M22 = wI M 231 202 ((M.1 231 202) + 1) → (∀ M24 : zMem, M24 = wI M22 231 203 ((M22.1 231 203) + x3) → vp_in (209 + x1) 647 ∧ (vp_in (209 + x1) 647 ∧ ((∀ M28 : zMem, M28 = wI M24 231 (Int32.toNatClampNeg (209 + x1)) ((M24.1 231 (Int32.toNatClampNeg (209 + x1))) + x3) → K none M28)))))) ∧ (¬ (x3 ≤ x4) → vp_in x4 24 ∧ (S_X12_at d x1 (M.1 255 (Int32.toNatClampNeg x4)) M (zI (fun r31 M32 => vp_in x4 24 ∧ (S_X12_at d x2 (M32.1 255 (Int32.toNatClampNeg x4)) M32 (zI (fun r34 M35 => vp_in (213 + r34) 647 ∧ (vp_in (213 + r31) 647 ∧ ((∀ M38 : zMem, M38 = wI M35 231 (Int32.toNatClampNeg (213 + r31)) (M35.1 231 (Int32.toNatClampNeg (213 + r34))) → vp_in x4 24 ∧ (S_X12_at d x1 (M38.1 255 (Int32.toNatClampNeg x4)) M38 (zI (fun r41 M42 => vp_in x4 24 ∧ (S_X12_at d x2 (M42.1 255 (Int32.toNatClampNeg x4)) M42 (zI (fun r44 M45 => vp_in (309 + r44) 647 ∧ (vp_in (309 + r41) 647 ∧ ((∀ M48 : zMem, M48 = wI M45 231 (Int32.toNatClampNeg (309 + r41)) (M45.1 231 (Int32.toNatClampNeg (309 + r44))) → S_X12_comesOver_17 (d + 1) x1 x2 x3 (x4 + 1) M48 K)))))))))))))))))))) : S_X12_comesOver_17 (d + 1) x1 x2 x3 x4 M K := by
  show zV m_X12_comesOver (d + 1) 17 [(0, .ref 229), (1, .int x1), (2, .int x2), (3, .int x3), (4, .int x4)] [] M K
  refine zr_iload dX12_comesOver_17 4 rfl ?_
  refine zr_iload_n dX12_comesOver_19 rfl 3 rfl ?_
  refine zr_icmp_ge (tgt := 109) dX12_comesOver_20 (by decide) (fun h21 => ?_) (fun h21 => ?_)
  · have T := T.1 h21
    refine zr_aload_n dX12_comesOver_109 rfl 0 rfl ?_
    refine zm_getr (a := 231) dX12_comesOver_110 f_X12_98 (by decide) (by decide) (by decide) (by decide) ?_
    refine zr_sipush (v := 202) dX12_comesOver_113 (by decide) ?_
    refine zr_dup2 dX12_comesOver_116 rfl rfl ?_
    refine zm_iald (n := 647) (o := 202) dX12_comesOver_117 (by decide) (by decide) (zin (by decide)) (by decide) ?_
    refine zr_iconst (v := 1) dX12_comesOver_118 (by decide) ?_
    refine zr_iadd dX12_comesOver_119 ?_
    refine zn_iast (n := 647) (o := 202) dX12_comesOver_120 (by decide) (by decide) (zin (by decide)) (by decide) (fun M22 e23 => ?_)
    have T := T M22 e23
    refine zr_aload_n dX12_comesOver_121 rfl 0 rfl ?_
    refine zm_getr (a := 231) dX12_comesOver_122 f_X12_98 (by decide) (by decide) (by decide) (by decide) ?_
    refine zr_sipush (v := 203) dX12_comesOver_125 (by decide) ?_
    refine zr_dup2 dX12_comesOver_128 rfl rfl ?_
    refine zm_iald (n := 647) (o := 203) dX12_comesOver_129 (by decide) (by decide) (zin (by decide)) (by decide) ?_
    refine zr_iload_n dX12_comesOver_130 rfl 3 rfl ?_
    refine zr_iadd dX12_comesOver_131 ?_
    refine zn_iast (n := 647) (o := 203) dX12_comesOver_132 (by decide) (by decide) (zin (by decide)) (by decide) (fun M24 e25 => ?_)
    have T := T M24 e25
    refine zr_aload_n dX12_comesOver_133 rfl 0 rfl ?_
    refine zm_getr (a := 231) dX12_comesOver_134 f_X12_98 (by decide) (by decide) (by decide) (by decide) ?_
    refine zr_sipush (v := 209) dX12_comesOver_137 (by decide) ?_
    refine zr_iload_n dX12_comesOver_140 rfl 1 rfl ?_
    refine zr_iadd dX12_comesOver_141 ?_
    refine zr_dup2 dX12_comesOver_142 rfl rfl ?_
    obtain ⟨hq26, T⟩ := T
    refine zm_iald (n := 647) (o := (Int32.toNatClampNeg (209 + x1))) dX12_comesOver_143 (by decide) (by decide) hq26 rfl ?_
    refine zr_iload_n dX12_comesOver_144 rfl 3 rfl ?_
    refine zr_iadd dX12_comesOver_145 ?_
    obtain ⟨hq27, T⟩ := T
    refine zn_iast (n := 647) (o := (Int32.toNatClampNeg (209 + x1))) dX12_comesOver_146 (by decide) (by decide) hq27 rfl (fun M28 e29 => ?_)
    have T := T M28 e29
    exact zm_vret dX12_comesOver_147 rfl T
  · have T := T.2 h21
    refine zr_aload_n dX12_comesOver_23 rfl 0 rfl ?_
    refine zm_getr (a := 231) dX12_comesOver_24 f_X12_98 (by decide) (by decide) (by decide) (by decide) ?_
    refine zr_sipush (v := 213) dX12_comesOver_27 (by decide) ?_
    refine zr_iload_n dX12_comesOver_30 rfl 1 rfl ?_
    refine zr_aload_n dX12_comesOver_31 rfl 0 rfl ?_
    refine zm_getr (a := 255) dX12_comesOver_32 f_X12_175 (by decide) (by decide) (by decide) (by decide) ?_
    refine zr_iload dX12_comesOver_35 4 rfl ?_
    obtain ⟨hq30, T⟩ := T
    refine zm_iald (n := 24) (o := (Int32.toNatClampNeg x4)) dX12_comesOver_37 (by decide) (by decide) hq30 rfl ?_
    refine zm_callS_i dX12_comesOver_38 w_X12_at l_X12_291 s_X12_at [.int x1, .int (M.1 255 (Int32.toNatClampNeg x4))] rfl rfl (Nat.le_of_ble_eq_true rfl) (Nat.le_of_ble_eq_true rfl) ?_
    refine zV.post T ?_
    rintro v M32 ⟨r31, rfl, T⟩
    refine ⟨r31, rfl, ?_⟩
    refine zr_iadd dX12_comesOver_41 ?_
    refine zr_aload_n dX12_comesOver_42 rfl 0 rfl ?_
    refine zm_getr (a := 231) dX12_comesOver_43 f_X12_98 (by decide) (by decide) (by decide) (by decide) ?_
    refine zr_sipush (v := 213) dX12_comesOver_46 (by decide) ?_
    refine zr_iload_n dX12_comesOver_49 rfl 2 rfl ?_
    refine zr_aload_n dX12_comesOver_50 rfl 0 rfl ?_
    refine zm_getr (a := 255) dX12_comesOver_51 f_X12_175 (by decide) (by decide) (by decide) (by decide) ?_
    refine zr_iload dX12_comesOver_54 4 rfl ?_
    obtain ⟨hq33, T⟩ := T
    refine zm_iald (n := 24) (o := (Int32.toNatClampNeg x4)) dX12_comesOver_56 (by decide) (by decide) hq33 rfl ?_
    refine zm_callS_i dX12_comesOver_57 w_X12_at l_X12_291 s_X12_at [.int x2, .int (M32.1 255 (Int32.toNatClampNeg x4))] rfl rfl (Nat.le_of_ble_eq_true rfl) (Nat.le_of_ble_eq_true rfl) ?_
    refine zV.post T ?_
    rintro v M35 ⟨r34, rfl, T⟩
    refine ⟨r34, rfl, ?_⟩
    refine zr_iadd dX12_comesOver_60 ?_
    obtain ⟨hq36, T⟩ := T
    refine zm_iald (n := 647) (o := (Int32.toNatClampNeg (213 + r34))) dX12_comesOver_61 (by decide) (by decide) hq36 rfl ?_
    obtain ⟨hq37, T⟩ := T
    refine zn_iast (n := 647) (o := (Int32.toNatClampNeg (213 + r31))) dX12_comesOver_62 (by decide) (by decide) hq37 rfl (fun M38 e39 => ?_)
    have T := T M38 e39
    refine zr_aload_n dX12_comesOver_63 rfl 0 rfl ?_
    refine zm_getr (a := 231) dX12_comesOver_64 f_X12_98 (by decide) (by decide) (by decide) (by decide) ?_
    refine zr_sipush (v := 309) dX12_comesOver_67 (by decide) ?_
    refine zr_iload_n dX12_comesOver_70 rfl 1 rfl ?_
    refine zr_aload_n dX12_comesOver_71 rfl 0 rfl ?_
    refine zm_getr (a := 255) dX12_comesOver_72 f_X12_175 (by decide) (by decide) (by decide) (by decide) ?_
    refine zr_iload dX12_comesOver_75 4 rfl ?_
    obtain ⟨hq40, T⟩ := T
    refine zm_iald (n := 24) (o := (Int32.toNatClampNeg x4)) dX12_comesOver_77 (by decide) (by decide) hq40 rfl ?_
    refine zm_callS_i dX12_comesOver_78 w_X12_at l_X12_291 s_X12_at [.int x1, .int (M38.1 255 (Int32.toNatClampNeg x4))] rfl rfl (Nat.le_of_ble_eq_true rfl) (Nat.le_of_ble_eq_true rfl) ?_
    refine zV.post T ?_
    rintro v M42 ⟨r41, rfl, T⟩
    refine ⟨r41, rfl, ?_⟩
    refine zr_iadd dX12_comesOver_81 ?_
    refine zr_aload_n dX12_comesOver_82 rfl 0 rfl ?_
    refine zm_getr (a := 231) dX12_comesOver_83 f_X12_98 (by decide) (by decide) (by decide) (by decide) ?_
    refine zr_sipush (v := 309) dX12_comesOver_86 (by decide) ?_
    refine zr_iload_n dX12_comesOver_89 rfl 2 rfl ?_
    refine zr_aload_n dX12_comesOver_90 rfl 0 rfl ?_
    refine zm_getr (a := 255) dX12_comesOver_91 f_X12_175 (by decide) (by decide) (by decide) (by decide) ?_
    refine zr_iload dX12_comesOver_94 4 rfl ?_
    obtain ⟨hq43, T⟩ := T
    refine zm_iald (n := 24) (o := (Int32.toNatClampNeg x4)) dX12_comesOver_96 (by decide) (by decide) hq43 rfl ?_
    refine zm_callS_i dX12_comesOver_97 w_X12_at l_X12_291 s_X12_at [.int x2, .int (M42.1 255 (Int32.toNatClampNeg x4))] rfl rfl (Nat.le_of_ble_eq_true rfl) (Nat.le_of_ble_eq_true rfl) ?_
    refine zV.post T ?_
    rintro v M45 ⟨r44, rfl, T⟩
    refine ⟨r44, rfl, ?_⟩
    refine zr_iadd dX12_comesOver_100 ?_
    obtain ⟨hq46, T⟩ := T
    refine zm_iald (n := 647) (o := (Int32.toNatClampNeg (309 + r44))) dX12_comesOver_101 (by decide) (by decide) hq46 rfl ?_
    obtain ⟨hq47, T⟩ := T
    refine zn_iast (n := 647) (o := (Int32.toNatClampNeg (309 + r41))) dX12_comesOver_102 (by decide) (by decide) hq47 rfl (fun M48 e49 => ?_)
    have T := T M48 e49
    refine zr_iinc (n := 4) (v := x4 + 1) dX12_comesOver_103 rfl rfl (by decide) (L2 := [(4, .int (x4 + 1)), (0, .ref 229), (1, .int x1), (2, .int x2), (3, .int x3)]) rfl ?_
    refine zr_goto (tgt := 17) dX12_comesOver_106 (by decide) ?_
    exact zV.pick [1, 2, 3, 4, 0] rfl T
set_option maxRecDepth 100000 in
set_option maxHeartbeats 4000000 in
theorem t_X12_least {d : Nat} {x0 : Int32} {x1 : Int32} {M : zMem} {K : zK} 
    (T : (x1 ≤ x0 → K (some (.int x1)) M) ∧ (¬ (x1 ≤ x0) → K (some (.int x0)) M)) : S_X12_least d x0 x1 M K := by
  show zV m_X12_least d 0 [(0, .int x0), (1, .int x1)] [] M K
  refine zr_iload_n dX12_least_0 rfl 0 rfl ?_
  refine zr_iload_n dX12_least_1 rfl 1 rfl ?_
  refine zr_icmp_ge (tgt := 9) dX12_least_2 (by decide) (fun h21 => ?_) (fun h21 => ?_)
  · have T := T.1 h21
    refine zr_iload_n dX12_least_9 rfl 1 rfl ?_
    exact zm_iret dX12_least_10 rfl T
  · have T := T.2 h21
    refine zr_iload_n dX12_least_5 rfl 0 rfl ?_
    refine zr_goto (tgt := 10) dX12_least_6 (by decide) ?_
    exact zm_iret dX12_least_10 rfl T
set_option maxRecDepth 100000 in
set_option maxHeartbeats 4000000 in
theorem t_X12_drop {d : Nat} {x1 : Int32} {x2 : Int32} {M : zMem} {K : zK} 
    (T : (∀ M21 : zMem, M21 = wI M 229 0 0 → S_X12_isPeer d x1 M21 (zB (fun r23 M24 => (r23 = false → S_X12_act d 1 x1 x2 0 0 M24 (zI (fun r26 M27 => K (some (.int r26)) M27))) ∧ (r23 = true → S_X12_isKey d x2 M24 (zB (fun r28 M29 => (r28 = false → S_X12_act d 1 x1 x2 0 0 M29 (zI (fun r31 M32 => K (some (.int r31)) M32))) ∧ (r28 = true → S_X12_act d 1 x1 x2 0 1 M29 (zI (fun r33 M34 => K (some (.int r33)) M34)))))))))) : S_X12_drop (d + 1) x1 x2 M K := by
  show zV m_X12_drop (d + 1) 0 [(0, .ref 229), (1, .int x1), (2, .int x2)] [] M K
  refine zr_aload_n dX12_drop_0 rfl 0 rfl ?_
  refine zr_iconst (v := 0) dX12_drop_1 (by decide) ?_
  refine zn_puti dX12_drop_2 f_X12_1 (by decide) (by decide) (by decide) (fun M21 e22 => ?_)
  have T := T M21 e22
  refine zr_aload_n dX12_drop_5 rfl 0 rfl ?_
  refine zr_iconst (v := 1) dX12_drop_6 (by decide) ?_
  refine zr_iload_n dX12_drop_7 rfl 1 rfl ?_
  refine zr_iload_n dX12_drop_8 rfl 2 rfl ?_
  refine zr_iconst (v := 0) dX12_drop_9 (by decide) ?_
  refine zr_aload_n dX12_drop_10 rfl 0 rfl ?_
  refine zr_iload_n dX12_drop_11 rfl 1 rfl ?_
  refine zm_callV_b (c := 12) (b := 229) dX12_drop_12 w_X12_isPeer l_X12_288 rfl (by decide) (by decide) s_X12_isPeer [.int x1] rfl rfl (Nat.le_of_ble_eq_true rfl) (Nat.le_of_ble_eq_true rfl) ?_
  refine zV.post T ?_
  rintro v M24 ⟨r23, rfl, T⟩
  refine ⟨r23, rfl, ?_⟩
  refine zm_ifb_eq (tgt := 30) dX12_drop_15 (by decide) (fun h25 => ?_) (fun h25 => ?_)
  · have T := T.1 h25
    refine zr_iconst (v := 0) dX12_drop_30 (by decide) ?_
    refine zm_callV_i (c := 12) (b := 229) dX12_drop_31 w_X12_act l_X12_404 rfl (by decide) (by decide) s_X12_act [.int 1, .int x1, .int x2, .int 0, .int 0] rfl rfl (Nat.le_of_ble_eq_true rfl) (Nat.le_of_ble_eq_true rfl) ?_
    refine zV.post T ?_
    rintro v M27 ⟨r26, rfl, T⟩
    refine ⟨r26, rfl, ?_⟩
    exact zm_iret dX12_drop_34 rfl T
  · have T := T.2 h25
    refine zr_aload_n dX12_drop_18 rfl 0 rfl ?_
    refine zr_iload_n dX12_drop_19 rfl 2 rfl ?_
    refine zm_callV_b (c := 12) (b := 229) dX12_drop_20 w_X12_isKey l_X12_326 rfl (by decide) (by decide) s_X12_isKey [.int x2] rfl rfl (Nat.le_of_ble_eq_true rfl) (Nat.le_of_ble_eq_true rfl) ?_
    refine zV.post T ?_
    rintro v M29 ⟨r28, rfl, T⟩
    refine ⟨r28, rfl, ?_⟩
    refine zm_ifb_eq (tgt := 30) dX12_drop_23 (by decide) (fun h30 => ?_) (fun h30 => ?_)
    · have T := T.1 h30
      refine zr_iconst (v := 0) dX12_drop_30 (by decide) ?_
      refine zm_callV_i (c := 12) (b := 229) dX12_drop_31 w_X12_act l_X12_404 rfl (by decide) (by decide) s_X12_act [.int 1, .int x1, .int x2, .int 0, .int 0] rfl rfl (Nat.le_of_ble_eq_true rfl) (Nat.le_of_ble_eq_true rfl) ?_
      refine zV.post T ?_
      rintro v M32 ⟨r31, rfl, T⟩
      refine ⟨r31, rfl, ?_⟩
      exact zm_iret dX12_drop_34 rfl T
    · have T := T.2 h30
      refine zr_iconst (v := 1) dX12_drop_26 (by decide) ?_
      refine zr_goto (tgt := 31) dX12_drop_27 (by decide) ?_
      refine zm_callV_i (c := 12) (b := 229) dX12_drop_31 w_X12_act l_X12_404 rfl (by decide) (by decide) s_X12_act [.int 1, .int x1, .int x2, .int 0, .int 1] rfl rfl (Nat.le_of_ble_eq_true rfl) (Nat.le_of_ble_eq_true rfl) ?_
      refine zV.post T ?_
      rintro v M34 ⟨r33, rfl, T⟩
      refine ⟨r33, rfl, ?_⟩
      exact zm_iret dX12_drop_34 rfl T
set_option maxRecDepth 100000 in
set_option maxHeartbeats 4000000 in
theorem t_X12_pull {d : Nat} {x1 : Int32} {x2 : Int32} {M : zMem} {K : zK} 
    (T : (∀ M21 : zMem, M21 = wI M 229 0 0 → S_X12_areTwo d x1 x2 M21 (zB (fun r23 M24 => S_X12_act d 2 x1 x2 0 (bi r23) M24 (zI (fun r25 M26 => K (some (.int r25)) M26)))))) : S_X12_pull (d + 1) x1 x2 M K := by
  show zV m_X12_pull (d + 1) 0 [(0, .ref 229), (1, .int x1), (2, .int x2)] [] M K
  refine zr_aload_n dX12_pull_0 rfl 0 rfl ?_
  refine zr_iconst (v := 0) dX12_pull_1 (by decide) ?_
  refine zn_puti dX12_pull_2 f_X12_1 (by decide) (by decide) (by decide) (fun M21 e22 => ?_)
  have T := T M21 e22
  refine zr_aload_n dX12_pull_5 rfl 0 rfl ?_
  refine zr_iconst (v := 2) dX12_pull_6 (by decide) ?_
  refine zr_iload_n dX12_pull_7 rfl 1 rfl ?_
  refine zr_iload_n dX12_pull_8 rfl 2 rfl ?_
  refine zr_iconst (v := 0) dX12_pull_9 (by decide) ?_
  refine zr_aload_n dX12_pull_10 rfl 0 rfl ?_
  refine zr_iload_n dX12_pull_11 rfl 1 rfl ?_
  refine zr_iload_n dX12_pull_12 rfl 2 rfl ?_
  refine zm_callV_b (c := 12) (b := 229) dX12_pull_13 w_X12_areTwo l_X12_363 rfl (by decide) (by decide) s_X12_areTwo [.int x1, .int x2] rfl rfl (Nat.le_of_ble_eq_true rfl) (Nat.le_of_ble_eq_true rfl) ?_
  refine zV.post T ?_
  rintro v M24 ⟨r23, rfl, T⟩
  refine ⟨r23, rfl, ?_⟩
  refine zm_callV_i (c := 12) (b := 229) dX12_pull_16 w_X12_act l_X12_404 rfl (by decide) (by decide) s_X12_act [.int 2, .int x1, .int x2, .int 0, .int (bi r23)] rfl rfl (Nat.le_of_ble_eq_true rfl) (Nat.le_of_ble_eq_true rfl) ?_
  refine zV.post T ?_
  rintro v M26 ⟨r25, rfl, T⟩
  refine ⟨r25, rfl, ?_⟩
  exact zm_iret dX12_pull_19 rfl T
set_option maxRecDepth 100000 in
set_option maxHeartbeats 4000000 in
theorem t_X12_cut {d : Nat} {x1 : Int32} {x2 : Int32} {M : zMem} {K : zK} 
    (T : (∀ M21 : zMem, M21 = wI M 229 0 0 → S_X12_areTwo d x1 x2 M21 (zB (fun r23 M24 => S_X12_act d 3 x1 x2 0 (bi r23) M24 (zI (fun r25 M26 => K (some (.int r25)) M26)))))) : S_X12_cut (d + 1) x1 x2 M K := by
  show zV m_X12_cut (d + 1) 0 [(0, .ref 229), (1, .int x1), (2, .int x2)] [] M K
  refine zr_aload_n dX12_cut_0 rfl 0 rfl ?_
  refine zr_iconst (v := 0) dX12_cut_1 (by decide) ?_
  refine zn_puti dX12_cut_2 f_X12_1 (by decide) (by decide) (by decide) (fun M21 e22 => ?_)
  have T := T M21 e22
  refine zr_aload_n dX12_cut_5 rfl 0 rfl ?_
  refine zr_iconst (v := 3) dX12_cut_6 (by decide) ?_
  refine zr_iload_n dX12_cut_7 rfl 1 rfl ?_
  refine zr_iload_n dX12_cut_8 rfl 2 rfl ?_
  refine zr_iconst (v := 0) dX12_cut_9 (by decide) ?_
  refine zr_aload_n dX12_cut_10 rfl 0 rfl ?_
  refine zr_iload_n dX12_cut_11 rfl 1 rfl ?_
  refine zr_iload_n dX12_cut_12 rfl 2 rfl ?_
  refine zm_callV_b (c := 12) (b := 229) dX12_cut_13 w_X12_areTwo l_X12_363 rfl (by decide) (by decide) s_X12_areTwo [.int x1, .int x2] rfl rfl (Nat.le_of_ble_eq_true rfl) (Nat.le_of_ble_eq_true rfl) ?_
  refine zV.post T ?_
  rintro v M24 ⟨r23, rfl, T⟩
  refine ⟨r23, rfl, ?_⟩
  refine zm_callV_i (c := 12) (b := 229) dX12_cut_16 w_X12_act l_X12_404 rfl (by decide) (by decide) s_X12_act [.int 3, .int x1, .int x2, .int 0, .int (bi r23)] rfl rfl (Nat.le_of_ble_eq_true rfl) (Nat.le_of_ble_eq_true rfl) ?_
  refine zV.post T ?_
  rintro v M26 ⟨r25, rfl, T⟩
  refine ⟨r25, rfl, ?_⟩
  exact zm_iret dX12_cut_19 rfl T
set_option maxRecDepth 100000 in
set_option maxHeartbeats 4000000 in
theorem t_X12_heal {d : Nat} {x1 : Int32} {x2 : Int32} {M : zMem} {K : zK} 
    (T : (∀ M21 : zMem, M21 = wI M 229 0 0 → S_X12_areTwo d x1 x2 M21 (zB (fun r23 M24 => S_X12_act d 4 x1 x2 0 (bi r23) M24 (zI (fun r25 M26 => K (some (.int r25)) M26)))))) : S_X12_heal (d + 1) x1 x2 M K := by
  show zV m_X12_heal (d + 1) 0 [(0, .ref 229), (1, .int x1), (2, .int x2)] [] M K
  refine zr_aload_n dX12_heal_0 rfl 0 rfl ?_
  refine zr_iconst (v := 0) dX12_heal_1 (by decide) ?_
  refine zn_puti dX12_heal_2 f_X12_1 (by decide) (by decide) (by decide) (fun M21 e22 => ?_)
  have T := T M21 e22
  refine zr_aload_n dX12_heal_5 rfl 0 rfl ?_
  refine zr_iconst (v := 4) dX12_heal_6 (by decide) ?_
  refine zr_iload_n dX12_heal_7 rfl 1 rfl ?_
  refine zr_iload_n dX12_heal_8 rfl 2 rfl ?_
  refine zr_iconst (v := 0) dX12_heal_9 (by decide) ?_
  refine zr_aload_n dX12_heal_10 rfl 0 rfl ?_
  refine zr_iload_n dX12_heal_11 rfl 1 rfl ?_
  refine zr_iload_n dX12_heal_12 rfl 2 rfl ?_
  refine zm_callV_b (c := 12) (b := 229) dX12_heal_13 w_X12_areTwo l_X12_363 rfl (by decide) (by decide) s_X12_areTwo [.int x1, .int x2] rfl rfl (Nat.le_of_ble_eq_true rfl) (Nat.le_of_ble_eq_true rfl) ?_
  refine zV.post T ?_
  rintro v M24 ⟨r23, rfl, T⟩
  refine ⟨r23, rfl, ?_⟩
  refine zm_callV_i (c := 12) (b := 229) dX12_heal_16 w_X12_act l_X12_404 rfl (by decide) (by decide) s_X12_act [.int 4, .int x1, .int x2, .int 0, .int (bi r23)] rfl rfl (Nat.le_of_ble_eq_true rfl) (Nat.le_of_ble_eq_true rfl) ?_
  refine zV.post T ?_
  rintro v M26 ⟨r25, rfl, T⟩
  refine ⟨r25, rfl, ?_⟩
  exact zm_iret dX12_heal_19 rfl T
set_option maxRecDepth 100000 in
set_option maxHeartbeats 4000000 in
theorem t_X12_undo {d : Nat}  {M : zMem} {K : zK} 
    (T : (∀ M21 : zMem, M21 = wI M 229 0 0 → (¬ (M21.1 229 25) = 0 → (∀ M24 : zMem, M24 = wI M21 229 25 ((M21.1 229 25) - 1) → S_X12_comeBack d 234 (203 * (M24.1 229 25)) M24 (zU (fun M27 => K (some (.int (M27.1 229 25))) M27)))) ∧ ((M21.1 229 25) = 0 → K (some (.int (-1))) M21))) : S_X12_undo (d + 1)  M K := by
  show zV m_X12_undo (d + 1) 0 [(0, .ref 229)] [] M K
  refine zr_aload_n dX12_undo_0 rfl 0 rfl ?_
  refine zr_iconst (v := 0) dX12_undo_1 (by decide) ?_
  refine zn_puti dX12_undo_2 f_X12_1 (by decide) (by decide) (by decide) (fun M21 e22 => ?_)
  have T := T M21 e22
  refine zr_aload_n dX12_undo_5 rfl 0 rfl ?_
  refine zm_geti dX12_undo_6 f_X12_263 (by decide) (by decide) (by decide) ?_
  refine zr_if_ne (tgt := 14) dX12_undo_9 (by decide) (fun h23 => ?_) (fun h23 => ?_)
  · have T := T.1 h23
    refine zr_aload_n dX12_undo_14 rfl 0 rfl ?_
    refine zr_dup dX12_undo_15 rfl ?_
    refine zm_geti dX12_undo_16 f_X12_263 (by decide) (by decide) (by decide) ?_
    refine zr_iconst (v := 1) dX12_undo_19 (by decide) ?_
    refine zr_isub dX12_undo_20 ?_
    refine zn_puti dX12_undo_21 f_X12_263 (by decide) (by decide) (by decide) (fun M24 e25 => ?_)
    have T := T M24 e25
    refine zr_aload_n dX12_undo_24 rfl 0 rfl ?_
    refine zr_aload_n dX12_undo_25 rfl 0 rfl ?_
    refine zm_getr (a := 234) dX12_undo_26 f_X12_107 (by decide) (by decide) (by decide) (by decide) ?_
    refine zr_sipush (v := 203) dX12_undo_29 (by decide) ?_
    refine zr_aload_n dX12_undo_32 rfl 0 rfl ?_
    refine zm_geti dX12_undo_33 f_X12_263 (by decide) (by decide) (by decide) ?_
    refine zr_imul dX12_undo_36 ?_
    refine zm_callV_v (c := 12) (b := 229) dX12_undo_37 w_X12_comeBack l_X12_408 rfl (by decide) (by decide) s_X12_comeBack [.ref 234, .int (203 * (M24.1 229 25))] rfl rfl (Nat.le_of_ble_eq_true rfl) (Nat.le_of_ble_eq_true rfl) ?_
    refine zV.post T ?_
    rintro v M27 ⟨rfl, T⟩
    refine ⟨rfl, ?_⟩
    refine zr_aload_n dX12_undo_40 rfl 0 rfl ?_
    refine zm_geti dX12_undo_41 f_X12_263 (by decide) (by decide) (by decide) ?_
    exact zm_iret dX12_undo_44 rfl T
  · have T := T.2 h23
    refine zr_iconst (v := (-1)) dX12_undo_12 (by decide) ?_
    exact zm_iret dX12_undo_13 rfl T
set_option maxRecDepth 100000 in
set_option maxHeartbeats 4000000 in
theorem t_X12_comeBack {d : Nat} {b1 : Nat} {x2 : Int32} {M : zMem} {K : zK} (h1 : zc b1 = 100 ∧ b1 < zN)
    (T : S_X12_comeBack_2 d b1 x2 0 M K) : S_X12_comeBack d b1 x2 M K := by
  show zV m_X12_comeBack d 0 [(0, .ref 229), (1, .ref b1), (2, .int x2)] [] M K
  refine zr_iconst (v := 0) dX12_comeBack_0 (by decide) ?_
  refine zr_istore_n dX12_comeBack_1 rfl (by decide) (L2 := [(3, .int 0), (0, .ref 229), (1, .ref b1), (2, .int x2)]) rfl ?_
  exact zV.pick [1, 2, 3, 0] rfl T
set_option maxRecDepth 100000 in
set_option maxHeartbeats 4000000 in
theorem t_X12_comeBack_2 {d : Nat} {b1 : Nat} {x2 : Int32} {x3 : Int32} {M : zMem} {K : zK} (h1 : zc b1 = 100 ∧ b1 < zN)
    (T : (203 ≤ x3 → K none M) ∧ (¬ (203 ≤ x3) → vp_in (x2 + x3) (zl b1) ∧ (vp_in (202 + x3) 647 ∧ ((∀ M24 : zMem, M24 = wI M 231 (Int32.toNatClampNeg (202 + x3)) (M.1 b1 (Int32.toNatClampNeg (x2 + x3))) → S_X12_comeBack_2 d b1 x2 (x3 + 1) M24 K))))) : S_X12_comeBack_2 d b1 x2 x3 M K := by
  show zV m_X12_comeBack d 2 [(0, .ref 229), (1, .ref b1), (2, .int x2), (3, .int x3)] [] M K
  refine zr_iload_n dX12_comeBack_2 rfl 3 rfl ?_
  refine zr_sipush (v := 203) dX12_comeBack_3 (by decide) ?_
  refine zr_icmp_ge (tgt := 30) dX12_comeBack_6 (by decide) (fun h21 => ?_) (fun h21 => ?_)
  · have T := T.1 h21
    exact zm_vret dX12_comeBack_30 rfl T
  · have T := T.2 h21
    refine zr_aload_n dX12_comeBack_9 rfl 0 rfl ?_
    refine zm_getr (a := 231) dX12_comeBack_10 f_X12_98 (by decide) (by decide) (by decide) (by decide) ?_
    refine zr_sipush (v := 202) dX12_comeBack_13 (by decide) ?_
    refine zr_iload_n dX12_comeBack_16 rfl 3 rfl ?_
    refine zr_iadd dX12_comeBack_17 ?_
    refine zr_aload_n dX12_comeBack_18 rfl 1 rfl ?_
    refine zr_iload_n dX12_comeBack_19 rfl 2 rfl ?_
    refine zr_iload_n dX12_comeBack_20 rfl 3 rfl ?_
    refine zr_iadd dX12_comeBack_21 ?_
    obtain ⟨hq22, T⟩ := T
    refine zm_iald (n := zl b1) (o := (Int32.toNatClampNeg (x2 + x3))) dX12_comeBack_22 h1 rfl hq22 rfl ?_
    obtain ⟨hq23, T⟩ := T
    refine zn_iast (n := 647) (o := (Int32.toNatClampNeg (202 + x3))) dX12_comeBack_23 (by decide) (by decide) hq23 rfl (fun M24 e25 => ?_)
    have T := T M24 e25
    refine zr_iinc (n := 3) (v := x3 + 1) dX12_comeBack_24 rfl rfl (by decide) (L2 := [(3, .int (x3 + 1)), (0, .ref 229), (1, .ref b1), (2, .int x2)]) rfl ?_
    refine zr_goto (tgt := 2) dX12_comeBack_27 (by decide) ?_
    exact zV.pick [1, 2, 3, 0] rfl T
