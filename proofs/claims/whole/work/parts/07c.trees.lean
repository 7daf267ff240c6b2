set_option maxRecDepth 100000 in
set_option maxHeartbeats 4000000 in
theorem t_X6_open {d : Nat} {x1 : Int32} {x2 : Int32} {M : zMem} {K : zK} 
    (T : (∀ M21 : zMem, M21 = wI M 220 1 x1 → (∀ M23 : zMem, M23 = wI M21 220 2 x2 → (∀ M25 : zMem, M25 = wI M23 220 3 0 → (∀ M27 : zMem, M27 = wI M25 220 10 0 → (∀ M29 : zMem, M29 = wI M27 220 11 0 → (∀ M31 : zMem, M31 = wI M29 220 12 0 → S_X6_next d  M31 (zU (fun M34 => K none M34))))))))) : S_X6_open (d + 1) x1 x2 M K := by
  show zV m_X6_open (d + 1) 0 [(0, .ref 220), (1, .int x1), (2, .int x2)] [] M K
  refine zr_aload_n dX6_open_0 rfl 0 rfl ?_
  refine zr_iload_n dX6_open_1 rfl 1 rfl ?_
  refine zn_puti dX6_open_2 f_X6_9 (by decide) (by decide) (by decide) (fun M21 e22 => ?_)
  have T := T M21 e22
  refine zr_aload_n dX6_open_5 rfl 0 rfl ?_
  refine zr_iload_n dX6_open_6 rfl 2 rfl ?_
  refine zn_puti dX6_open_7 f_X6_15 (by decide) (by decide) (by decide) (fun M23 e24 => ?_)
  have T := T M23 e24
  refine zr_aload_n dX6_open_10 rfl 0 rfl ?_
  refine zr_iconst (v := 0) dX6_open_11 (by decide) ?_
  refine zn_puti dX6_open_12 f_X6_18 (by decide) (by decide) (by decide) (fun M25 e26 => ?_)
  have T := T M25 e26
  refine zr_aload_n dX6_open_15 rfl 0 rfl ?_
  refine zr_iconst (v := 0) dX6_open_16 (by decide) ?_
  refine zn_puti dX6_open_17 f_X6_40 (by decide) (by decide) (by decide) (fun M27 e28 => ?_)
  have T := T M27 e28
  refine zr_aload_n dX6_open_20 rfl 0 rfl ?_
  refine zr_iconst (v := 0) dX6_open_21 (by decide) ?_
  refine zn_puti dX6_open_22 f_X6_43 (by decide) (by decide) (by decide) (fun M29 e30 => ?_)
  have T := T M29 e30
  refine zr_aload_n dX6_open_25 rfl 0 rfl ?_
  refine zr_iconst (v := 0) dX6_open_26 (by decide) ?_
  refine zn_puti dX6_open_27 f_X6_46 (by decide) (by decide) (by decide) (fun M31 e32 => ?_)
  have T := T M31 e32
  refine zr_aload_n dX6_open_30 rfl 0 rfl ?_
  refine zm_callV_v (c := 6) (b := 220) dX6_open_31 w_X6_next l_X6_53 rfl (by decide) (by decide) s_X6_next [] rfl rfl (Nat.le_of_ble_eq_true rfl) (Nat.le_of_ble_eq_true rfl) ?_
  refine zV.post T ?_
  rintro v M34 ⟨rfl, T⟩
  refine ⟨rfl, ?_⟩
  exact zm_vret dX6_open_34 rfl T
set_option maxRecDepth 100000 in
set_option maxHeartbeats 4000000 in
theorem t_X6_next {d : Nat}  {M : zMem} {K : zK} 
    (T : S_X6_next_12 (d + 1) (if (M.1 220 2) < (M.1 220 1) then (M.1 220 2) else (M.1 220 1)) M K) : S_X6_next (d + 1)  M K := by
  show zV m_X6_next (d + 1) 0 [(0, .ref 220)] [] M K
  refine zr_aload_n dX6_next_0 rfl 0 rfl ?_
  refine zm_geti dX6_next_1 f_X6_9 (by decide) (by decide) (by decide) ?_
  refine zr_aload_n dX6_next_4 rfl 0 rfl ?_
  refine zm_geti dX6_next_5 f_X6_15 (by decide) (by decide) (by decide) ?_
  refine zm_mmin dX6_next_8 l_X6_56 zmw_min (Nat.le_of_ble_eq_true rfl) ?_
  refine zr_istore_n dX6_next_11 rfl (by decide) (L2 := [(1, .int (if (M.1 220 2) < (M.1 220 1) then (M.1 220 2) else (M.1 220 1))), (0, .ref 220)]) rfl ?_
  exact zV.pick [1, 0] rfl T
set_option maxRecDepth 100000 in
set_option maxHeartbeats 4000000 in
theorem t_X6_next_12 {d : Nat} {x1 : Int32} {M : zMem} {K : zK} 
    (T : (x1 ≤ (M.1 220 3) → S_X6_next_59 (d + 1) x1 M K) ∧ (¬ (x1 ≤ (M.1 220 3)) → S_X6_signAt d (M.1 220 3) M (zI (fun r22 M23 => (r22 = 32 → (∀ M25 : zMem, M25 = wI M23 220 3 ((M23.1 220 3) + 1) → S_X6_next_12 (d + 1) x1 M25 K)) ∧ (¬ (r22 = 32) → S_X6_signAt d (M23.1 220 3) M23 (zI (fun r27 M28 => (¬ r27 = 10 → S_X6_next_59 (d + 1) x1 M28 K) ∧ (r27 = 10 → (∀ M30 : zMem, M30 = wI M28 220 3 ((M28.1 220 3) + 1) → S_X6_next_12 (d + 1) x1 M30 K))))))))) : S_X6_next_12 (d + 1) x1 M K := by
  show zV m_X6_next (d + 1) 12 [(0, .ref 220), (1, .int x1)] [] M K
  refine zr_aload_n dX6_next_12 rfl 0 rfl ?_
  refine zm_geti dX6_next_13 f_X6_18 (by decide) (by decide) (by decide) ?_
  refine zr_iload_n dX6_next_16 rfl 1 rfl ?_
  refine zr_icmp_ge (tgt := 59) dX6_next_17 (by decide) (fun h21 => ?_) (fun h21 => ?_)
  · have T := T.1 h21
    exact zV.pick [0, 1] rfl T
  · have T := T.2 h21
    refine zr_aload_n dX6_next_20 rfl 0 rfl ?_
    refine zr_aload_n dX6_next_21 rfl 0 rfl ?_
    refine zm_geti dX6_next_22 f_X6_18 (by decide) (by decide) (by decide) ?_
    refine zm_callV_i (c := 6) (b := 220) dX6_next_25 w_X6_signAt l_X6_62 rfl (by decide) (by decide) s_X6_signAt [.int (M.1 220 3)] rfl rfl (Nat.le_of_ble_eq_true rfl) (Nat.le_of_ble_eq_true rfl) ?_
    refine zV.post T ?_
    rintro v M23 ⟨r22, rfl, T⟩
    refine ⟨r22, rfl, ?_⟩
    refine zr_bipush (v := 32) dX6_next_28 (by decide) ?_
    refine zr_icmp_eq (tgt := 46) dX6_next_30 (by decide) (fun h24 => ?_) (fun h24 => ?_)
    · have T := T.1 h24
      refine zr_aload_n dX6_next_46 rfl 0 rfl ?_
      refine zr_dup dX6_next_47 rfl ?_
      refine zm_geti dX6_next_48 f_X6_18 (by decide) (by decide) (by decide) ?_
      refine zr_iconst (v := 1) dX6_next_51 (by decide) ?_
      refine zr_iadd dX6_next_52 ?_
      refine zn_puti dX6_next_53 f_X6_18 (by decide) (by decide) (by decide) (fun M25 e26 => ?_)
      have T := T M25 e26
      refine zr_goto (tgt := 12) dX6_next_56 (by decide) ?_
      exact zV.pick [0, 1] rfl T
    · have T := T.2 h24
      refine zr_aload_n dX6_next_33 rfl 0 rfl ?_
      refine zr_aload_n dX6_next_34 rfl 0 rfl ?_
      refine zm_geti dX6_next_35 f_X6_18 (by decide) (by decide) (by decide) ?_
      refine zm_callV_i (c := 6) (b := 220) dX6_next_38 w_X6_signAt l_X6_62 rfl (by decide) (by decide) s_X6_signAt [.int (M23.1 220 3)] rfl rfl (Nat.le_of_ble_eq_true rfl) (Nat.le_of_ble_eq_true rfl) ?_
      refine zV.post T ?_
      rintro v M28 ⟨r27, rfl, T⟩
      refine ⟨r27, rfl, ?_⟩
      refine zr_bipush (v := 10) dX6_next_41 (by decide) ?_
      refine zr_icmp_ne (tgt := 59) dX6_next_43 (by decide) (fun h29 => ?_) (fun h29 => ?_)
      · have T := T.1 h29
        exact zV.pick [0, 1] rfl T
      · have T := T.2 h29
        refine zr_aload_n dX6_next_46 rfl 0 rfl ?_
        refine zr_dup dX6_next_47 rfl ?_
        refine zm_geti dX6_next_48 f_X6_18 (by decide) (by decide) (by decide) ?_
        refine zr_iconst (v := 1) dX6_next_51 (by decide) ?_
        refine zr_iadd dX6_next_52 ?_
        refine zn_puti dX6_next_53 f_X6_18 (by decide) (by decide) (by decide) (fun M30 e31 => ?_)
        have T := T M30 e31
        refine zr_goto (tgt := 12) dX6_next_56 (by decide) ?_
        exact zV.pick [0, 1] rfl T
set_option maxRecDepth 100000 in
set_option maxHeartbeats 4000000 in
theorem t_X6_next_59 {d : Nat} {x1 : Int32} {M : zMem} {K : zK} 
    (T : (∀ M21 : zMem, M21 = wI M 220 6 (-1) → (∀ M23 : zMem, M23 = wI M21 220 9 0 → ((M23.1 220 3) < x1 → (∀ M26 : zMem, M26 = wI M23 220 5 (M23.1 220 3) → S_X6_signAt d (M26.1 220 3) M26 (zI (fun r28 M29 => S_X6_isLetter d r28 M29 (zB (fun r30 M31 => (r30 = true → S_X6_readRun d  M31 (zU (fun M34 => K none M34))) ∧ (r30 = false → S_X6_isDigit d r28 M31 (zB (fun r35 M36 => (r35 = false → (∀ M38 : zMem, M38 = wI M36 220 3 ((M36.1 220 3) + 1) → (r28 = 59 → S_X6_next_170 (d + 1) r28 M38 K) ∧ (¬ (r28 = 59) → (r28 = 60 → S_X6_next_170 (d + 1) r28 M38 K) ∧ (¬ (r28 = 60) → (r28 = 61 → S_X6_next_170 (d + 1) r28 M38 K) ∧ (¬ (r28 = 61) → (r28 = 62 → S_X6_next_170 (d + 1) r28 M38 K) ∧ (¬ (r28 = 62) → (r28 = 40 → S_X6_next_170 (d + 1) r28 M38 K) ∧ (¬ (r28 = 40) → (¬ r28 = 41 → (∀ M47 : zMem, M47 = wI M38 220 4 1 → (∀ M50 : zMem, M50 = wI M47 220 9 0 → K none M50))) ∧ (r28 = 41 → S_X6_next_170 (d + 1) r28 M38 K)))))))) ∧ (r35 = true → S_X6_readRun d  M36 (zU (fun M53 => K none M53)))))))))))) ∧ (¬ ((M23.1 220 3) < x1) → (∀ M54 : zMem, M54 = wI M23 220 5 x1 → (∀ M56 : zMem, M56 = wI M54 220 4 0 → K none M56)))))) : S_X6_next_59 (d + 1) x1 M K := by
  show zV m_X6_next (d + 1) 59 [(0, .ref 220), (1, .int x1)] [] M K
  refine zr_aload_n dX6_next_59 rfl 0 rfl ?_
  refine zr_iconst (v := (-1)) dX6_next_60 (by decide) ?_
  refine zn_puti dX6_next_61 f_X6_27 (by decide) (by decide) (by decide) (fun M21 e22 => ?_)
  have T := T M21 e22
  refine zr_aload_n dX6_next_64 rfl 0 rfl ?_
  refine zr_iconst (v := 0) dX6_next_65 (by decide) ?_
  refine zn_puti dX6_next_66 f_X6_37 (by decide) (by decide) (by decide) (fun M23 e24 => ?_)
  have T := T M23 e24
  refine zr_aload_n dX6_next_69 rfl 0 rfl ?_
  refine zm_geti dX6_next_70 f_X6_18 (by decide) (by decide) (by decide) ?_
  refine zr_iload_n dX6_next_73 rfl 1 rfl ?_
  refine zr_icmp_lt (tgt := 88) dX6_next_74 (by decide) (fun h25 => ?_) (fun h25 => ?_)
  · have T := T.1 h25
    refine zr_aload_n dX6_next_88 rfl 0 rfl ?_
    refine zr_aload_n dX6_next_89 rfl 0 rfl ?_
    refine zm_geti dX6_next_90 f_X6_18 (by decide) (by decide) (by decide) ?_
    refine zn_puti dX6_next_93 f_X6_24 (by decide) (by decide) (by decide) (fun M26 e27 => ?_)
    have T := T M26 e27
    refine zr_aload_n dX6_next_96 rfl 0 rfl ?_
    refine zr_aload_n dX6_next_97 rfl 0 rfl ?_
    refine zm_geti dX6_next_98 f_X6_18 (by decide) (by decide) (by decide) ?_
    refine zm_callV_i (c := 6) (b := 220) dX6_next_101 w_X6_signAt l_X6_62 rfl (by decide) (by decide) s_X6_signAt [.int (M26.1 220 3)] rfl rfl (Nat.le_of_ble_eq_true rfl) (Nat.le_of_ble_eq_true rfl) ?_
    refine zV.post T ?_
    rintro v M29 ⟨r28, rfl, T⟩
    refine ⟨r28, rfl, ?_⟩
    refine zr_istore_n dX6_next_104 rfl (by decide) (L2 := [(2, .int r28), (0, .ref 220), (1, .int x1)]) rfl ?_
    refine zr_iload_n dX6_next_105 rfl 0 rfl ?_
    refine zm_callS_b dX6_next_106 w_X6_isLetter l_X6_66 s_X6_isLetter [.int r28] rfl rfl (Nat.le_of_ble_eq_true rfl) (Nat.le_of_ble_eq_true rfl) ?_
    refine zV.post T ?_
    rintro v M31 ⟨r30, rfl, T⟩
    refine ⟨r30, rfl, ?_⟩
    refine zm_ifb_ne (tgt := 119) dX6_next_109 (by decide) (fun h32 => ?_) (fun h32 => ?_)
    · have T := T.1 h32
      refine zr_aload_n dX6_next_119 rfl 1 rfl ?_
      refine zm_callV_v (c := 6) (b := 220) dX6_next_120 w_X6_readRun l_X6_73 rfl (by decide) (by decide) s_X6_readRun [] rfl rfl (Nat.le_of_ble_eq_true rfl) (Nat.le_of_ble_eq_true rfl) ?_
      refine zV.post T ?_
      rintro v M34 ⟨rfl, T⟩
      refine ⟨rfl, ?_⟩
      exact zm_vret dX6_next_123 rfl T
    · have T := T.2 h32
      refine zr_iload_n dX6_next_112 rfl 0 rfl ?_
      refine zm_callS_b dX6_next_113 w_X6_isDigit l_X6_70 s_X6_isDigit [.int r28] rfl rfl (Nat.le_of_ble_eq_true rfl) (Nat.le_of_ble_eq_true rfl) ?_
      refine zV.post T ?_
      rintro v M36 ⟨r35, rfl, T⟩
      refine ⟨r35, rfl, ?_⟩
      refine zm_ifb_eq (tgt := 124) dX6_next_116 (by decide) (fun h37 => ?_) (fun h37 => ?_)
      · have T := T.1 h37
        refine zr_aload_n dX6_next_124 rfl 1 rfl ?_
        refine zr_dup dX6_next_125 rfl ?_
        refine zm_geti dX6_next_126 f_X6_18 (by decide) (by decide) (by decide) ?_
        refine zr_iconst (v := 1) dX6_next_129 (by decide) ?_
        refine zr_iadd dX6_next_130 ?_
        refine zn_puti dX6_next_131 f_X6_18 (by decide) (by decide) (by decide) (fun M38 e39 => ?_)
        have T := T M38 e39
        refine zr_iload_n dX6_next_134 rfl 0 rfl ?_
        refine zr_bipush (v := 59) dX6_next_135 (by decide) ?_
        refine zr_icmp_eq (tgt := 170) dX6_next_137 (by decide) (fun h40 => ?_) (fun h40 => ?_)
        · have T := T.1 h40
          exact zV.pick [1, 0] rfl T
        · have T := T.2 h40
          refine zr_iload_n dX6_next_140 rfl 0 rfl ?_
          refine zr_bipush (v := 60) dX6_next_141 (by decide) ?_
          refine zr_icmp_eq (tgt := 170) dX6_next_143 (by decide) (fun h41 => ?_) (fun h41 => ?_)
          · have T := T.1 h41
            exact zV.pick [1, 0] rfl T
          · have T := T.2 h41
            refine zr_iload_n dX6_next_146 rfl 0 rfl ?_
            refine zr_bipush (v := 61) dX6_next_147 (by decide) ?_
            refine zr_icmp_eq (tgt := 170) dX6_next_149 (by decide) (fun h42 => ?_) (fun h42 => ?_)
            · have T := T.1 h42
              exact zV.pick [1, 0] rfl T
            · have T := T.2 h42
              refine zr_iload_n dX6_next_152 rfl 0 rfl ?_
              refine zr_bipush (v := 62) dX6_next_153 (by decide) ?_
              refine zr_icmp_eq (tgt := 170) dX6_next_155 (by decide) (fun h43 => ?_) (fun h43 => ?_)
              · have T := T.1 h43
                exact zV.pick [1, 0] rfl T
              · have T := T.2 h43
                refine zr_iload_n dX6_next_158 rfl 0 rfl ?_
                refine zr_bipush (v := 40) dX6_next_159 (by decide) ?_
                refine zr_icmp_eq (tgt := 170) dX6_next_161 (by decide) (fun h44 => ?_) (fun h44 => ?_)
                · have T := T.1 h44
                  exact zV.pick [1, 0] rfl T
                · have T := T.2 h44
                  refine zr_iload_n dX6_next_164 rfl 0 rfl ?_
                  refine zr_bipush (v := 41) dX6_next_165 (by decide) ?_
                  refine zr_icmp_ne (tgt := 174) dX6_next_167 (by decide) (fun h45 => ?_) (fun h45 => ?_)
                  · have T := T.1 h45
                    refine zr_iconst (v := 0) dX6_next_174 (by decide) ?_
                    refine zr_istore_n dX6_next_175 rfl (by decide) (L2 := [(3, .int 0), (2, .int r28), (0, .ref 220), (1, .int x1)]) rfl ?_
                    refine zr_aload_n dX6_next_176 rfl 2 rfl ?_
                    refine zr_iload_n dX6_next_177 rfl 0 rfl ?_
                    refine zr_if_eq (tgt := 185) dX6_next_178 (by decide) (fun _ => ?_) (fun h => absurd h (by decide))
                    refine zr_iconst (v := 1) dX6_next_185 (by decide) ?_
                    refine zn_puti dX6_next_186 f_X6_21 (by decide) (by decide) (by decide) (fun M47 e48 => ?_)
                    have T := T M47 e48
                    refine zr_aload_n dX6_next_189 rfl 2 rfl ?_
                    refine zr_iload_n dX6_next_190 rfl 0 rfl ?_
                    refine zr_if_eq (tgt := 198) dX6_next_191 (by decide) (fun _ => ?_) (fun h => absurd h (by decide))
                    refine zr_iconst (v := 0) dX6_next_198 (by decide) ?_
                    refine zn_puti dX6_next_199 f_X6_37 (by decide) (by decide) (by decide) (fun M50 e51 => ?_)
                    have T := T M50 e51
                    exact zm_vret dX6_next_202 rfl T
                  · have T := T.2 h45
                    exact zV.pick [1, 0] rfl T
      · have T := T.2 h37
        refine zr_aload_n dX6_next_119 rfl 1 rfl ?_
        refine zm_callV_v (c := 6) (b := 220) dX6_next_120 w_X6_readRun l_X6_73 rfl (by decide) (by decide) s_X6_readRun [] rfl rfl (Nat.le_of_ble_eq_true rfl) (Nat.le_of_ble_eq_true rfl) ?_
        refine zV.post T ?_
        rintro v M53 ⟨rfl, T⟩
        refine ⟨rfl, ?_⟩
        exact zm_vret dX6_next_123 rfl T
  · have T := T.2 h25
    refine zr_aload_n dX6_next_77 rfl 0 rfl ?_
    refine zr_iload_n dX6_next_78 rfl 1 rfl ?_
    refine zn_puti dX6_next_79 f_X6_24 (by decide) (by decide) (by decide) (fun M54 e55 => ?_)
    have T := T M54 e55
    refine zr_aload_n dX6_next_82 rfl 0 rfl ?_
    refine zr_iconst (v := 0) dX6_next_83 (by decide) ?_
    refine zn_puti dX6_next_84 f_X6_21 (by decide) (by decide) (by decide) (fun M56 e57 => ?_)
    have T := T M56 e57
    exact zm_vret dX6_next_87 rfl T
set_option maxRecDepth 100000 in
set_option maxHeartbeats 4000000 in
theorem t_X6_next_170 {d : Nat} {x2 : Int32} {M : zMem} {K : zK} 
    (T : (∀ M22 : zMem, M22 = wI M 220 4 5 → (∀ M25 : zMem, M25 = wI M22 220 9 x2 → K none M25))) : S_X6_next_170 (d + 1) x2 M K := by
  show zV m_X6_next (d + 1) 170 [(0, .ref 220), (2, .int x2)] [] M K
  refine zr_iconst (v := 1) dX6_next_170 (by decide) ?_
  refine zr_goto (tgt := 175) dX6_next_171 (by decide) ?_
  refine zr_istore_n dX6_next_175 rfl (by decide) (L2 := [(3, .int 1), (0, .ref 220), (2, .int x2)]) rfl ?_
  refine zr_aload_n dX6_next_176 rfl 1 rfl ?_
  refine zr_iload_n dX6_next_177 rfl 0 rfl ?_
  refine zr_if_eq (tgt := 185) dX6_next_178 (by decide) (fun h => absurd h (by decide)) (fun _ => ?_)
  refine zr_iconst (v := 5) dX6_next_181 (by decide) ?_
  refine zr_goto (tgt := 186) dX6_next_182 (by decide) ?_
  refine zn_puti dX6_next_186 f_X6_21 (by decide) (by decide) (by decide) (fun M22 e23 => ?_)
  have T := T M22 e23
  refine zr_aload_n dX6_next_189 rfl 1 rfl ?_
  refine zr_iload_n dX6_next_190 rfl 0 rfl ?_
  refine zr_if_eq (tgt := 198) dX6_next_191 (by decide) (fun h => absurd h (by decide)) (fun _ => ?_)
  refine zr_iload_n dX6_next_194 rfl 2 rfl ?_
  refine zr_goto (tgt := 199) dX6_next_195 (by decide) ?_
  refine zn_puti dX6_next_199 f_X6_37 (by decide) (by decide) (by decide) (fun M25 e26 => ?_)
  have T := T M25 e26
  exact zm_vret dX6_next_202 rfl T
set_option maxRecDepth 100000 in
set_option maxHeartbeats 4000000 in
theorem t_X6_signAt {d : Nat} {x1 : Int32} {M : zMem} {K : zK} 
    (T : (x1 < 0 → K (some (.int 0)) M) ∧ (¬ (x1 < 0) → ((M.1 220 1) ≤ x1 → K (some (.int 0)) M) ∧ (¬ ((M.1 220 1) ≤ x1) → (940 ≤ x1 → K (some (.int 0)) M) ∧ (¬ (940 ≤ x1) → vp_in x1 940 ∧ (K (some (.int ((M.1 1 (Int32.toNatClampNeg x1)) &&& 255))) M))))) : S_X6_signAt d x1 M K := by
  show zV m_X6_signAt d 0 [(0, .ref 220), (1, .int x1)] [] M K
  refine zr_iload_n dX6_signAt_0 rfl 1 rfl ?_
  refine zr_if_lt (tgt := 34) dX6_signAt_1 (by decide) (fun h21 => ?_) (fun h21 => ?_)
  · have T := T.1 h21
    refine zr_iconst (v := 0) dX6_signAt_34 (by decide) ?_
    exact zm_iret dX6_signAt_35 rfl T
  · have T := T.2 h21
    refine zr_iload_n dX6_signAt_4 rfl 1 rfl ?_
    refine zr_aload_n dX6_signAt_5 rfl 0 rfl ?_
    refine zm_geti dX6_signAt_6 f_X6_9 (by decide) (by decide) (by decide) ?_
    refine zr_icmp_ge (tgt := 34) dX6_signAt_9 (by decide) (fun h22 => ?_) (fun h22 => ?_)
    · have T := T.1 h22
      refine zr_iconst (v := 0) dX6_signAt_34 (by decide) ?_
      exact zm_iret dX6_signAt_35 rfl T
    · have T := T.2 h22
      refine zr_iload_n dX6_signAt_12 rfl 1 rfl ?_
      refine zr_aload_n dX6_signAt_13 rfl 0 rfl ?_
      refine zm_getr (a := 1) dX6_signAt_14 f_X6_49 (by decide) (by decide) (by decide) (by decide) ?_
      refine zm_alen (t := 2) (v := 940) dX6_signAt_17 (by decide) (by decide) (by decide) ?_
      refine zr_icmp_ge (tgt := 34) dX6_signAt_18 (by decide) (fun h23 => ?_) (fun h23 => ?_)
      · have T := T.1 h23
        refine zr_iconst (v := 0) dX6_signAt_34 (by decide) ?_
        exact zm_iret dX6_signAt_35 rfl T
      · have T := T.2 h23
        refine zr_aload_n dX6_signAt_21 rfl 0 rfl ?_
        refine zm_getr (a := 1) dX6_signAt_22 f_X6_49 (by decide) (by decide) (by decide) (by decide) ?_
        refine zr_iload_n dX6_signAt_25 rfl 1 rfl ?_
        obtain ⟨hq24, T⟩ := T
        refine zm_bald (n := 940) (o := (Int32.toNatClampNeg x1)) dX6_signAt_26 (by decide) (by decide) hq24 rfl ?_
        refine zr_sipush (v := 255) dX6_signAt_27 (by decide) ?_
        refine zr_iand dX6_signAt_30 ?_
        refine zr_goto (tgt := 35) dX6_signAt_31 (by decide) ?_
        exact zm_iret dX6_signAt_35 rfl T
set_option maxRecDepth 100000 in
set_option maxHeartbeats 4000000 in
theorem t_X6_isLetter {d : Nat} {x0 : Int32} {M : zMem} {K : zK} 
    (T : (x0 < 97 → K (some (.int 0)) M) ∧ (¬ (x0 < 97) → (122 < x0 → K (some (.int 0)) M) ∧ (¬ (122 < x0) → K (some (.int 1)) M))) : S_X6_isLetter d x0 M K := by
  show zV m_X6_isLetter d 0 [(0, .int x0)] [] M K
  refine zr_iload_n dX6_isLetter_0 rfl 0 rfl ?_
  refine zr_bipush (v := 97) dX6_isLetter_1 (by decide) ?_
  refine zr_icmp_lt (tgt := 16) dX6_isLetter_3 (by decide) (fun h21 => ?_) (fun h21 => ?_)
  · have T := T.1 h21
    refine zr_iconst (v := 0) dX6_isLetter_16 (by decide) ?_
    exact zm_zret dX6_isLetter_17 rfl (by decide) T
  · have T := T.2 h21
    refine zr_iload_n dX6_isLetter_6 rfl 0 rfl ?_
    refine zr_bipush (v := 122) dX6_isLetter_7 (by decide) ?_
    refine zr_icmp_gt (tgt := 16) dX6_isLetter_9 (by decide) (fun h22 => ?_) (fun h22 => ?_)
    · have T := T.1 h22
      refine zr_iconst (v := 0) dX6_isLetter_16 (by decide) ?_
      exact zm_zret dX6_isLetter_17 rfl (by decide) T
    · have T := T.2 h22
      refine zr_iconst (v := 1) dX6_isLetter_12 (by decide) ?_
      refine zr_goto (tgt := 17) dX6_isLetter_13 (by decide) ?_
      exact zm_zret dX6_isLetter_17 rfl (by decide) T
set_option maxRecDepth 100000 in
set_option maxHeartbeats 4000000 in
theorem t_X6_isDigit {d : Nat} {x0 : Int32} {M : zMem} {K : zK} 
    (T : (x0 < 48 → K (some (.int 0)) M) ∧ (¬ (x0 < 48) → (57 < x0 → K (some (.int 0)) M) ∧ (¬ (57 < x0) → K (some (.int 1)) M))) : S_X6_isDigit d x0 M K := by
  show zV m_X6_isDigit d 0 [(0, .int x0)] [] M K
  refine zr_iload_n dX6_isDigit_0 rfl 0 rfl ?_
  refine zr_bipush (v := 48) dX6_isDigit_1 (by decide) ?_
  refine zr_icmp_lt (tgt := 16) dX6_isDigit_3 (by decide) (fun h21 => ?_) (fun h21 => ?_)
  · have T := T.1 h21
    refine zr_iconst (v := 0) dX6_isDigit_16 (by decide) ?_
    exact zm_zret dX6_isDigit_17 rfl (by decide) T
  · have T := T.2 h21
    refine zr_iload_n dX6_isDigit_6 rfl 0 rfl ?_
    refine zr_bipush (v := 57) dX6_isDigit_7 (by decide) ?_
    refine zr_icmp_gt (tgt := 16) dX6_isDigit_9 (by decide) (fun h22 => ?_) (fun h22 => ?_)
    · have T := T.1 h22
      refine zr_iconst (v := 0) dX6_isDigit_16 (by decide) ?_
      exact zm_zret dX6_isDigit_17 rfl (by decide) T
    · have T := T.2 h22
      refine zr_iconst (v := 1) dX6_isDigit_12 (by decide) ?_
      refine zr_goto (tgt := 17) dX6_isDigit_13 (by decide) ?_
      exact zm_zret dX6_isDigit_17 rfl (by decide) T
set_option maxRecDepth 100000 in
set_option maxHeartbeats 4000000 in
theorem t_X6_readRun {d : Nat}  {M : zMem} {K : zK} 
    (T : (∀ M21 : zMem, M21 = wL M 220 7 0 → (∀ M23 : zMem, M23 = wI M21 220 8 0 → S_X6_readRun_14 (d + 1) 0 0 M23 K))) : S_X6_readRun (d + 1)  M K := by
  show zV m_X6_readRun (d + 1) 0 [(0, .ref 220)] [] M K
  refine zr_iconst (v := 0) dX6_readRun_0 (by decide) ?_
  refine zr_istore_n dX6_readRun_1 rfl (by decide) (L2 := [(1, .int 0), (0, .ref 220)]) rfl ?_
  refine zr_iconst (v := 0) dX6_readRun_2 (by decide) ?_
  refine zr_istore_n dX6_readRun_3 rfl (by decide) (L2 := [(2, .int 0), (1, .int 0), (0, .ref 220)]) rfl ?_
  refine zr_aload_n dX6_readRun_4 rfl 2 rfl ?_
  refine zr_lconst (v := 0) dX6_readRun_5 (by decide) ?_
  refine zn_putl dX6_readRun_6 f_X6_30 (by decide) (by decide) (by decide) (fun M21 e22 => ?_)
  have T := T M21 e22
  refine zr_aload_n dX6_readRun_9 rfl 2 rfl ?_
  refine zr_iconst (v := 0) dX6_readRun_10 (by decide) ?_
  refine zn_puti dX6_readRun_11 f_X6_34 (by decide) (by decide) (by decide) (fun M23 e24 => ?_)
  have T := T M23 e24
  exact zV.pick [2, 1, 0] rfl T
set_option maxRecDepth 100000 in
set_option maxHeartbeats 4000000 in
theorem t_X6_readRun_14 {d : Nat} {x1 : Int32} {x2 : Int32} {M : zMem} {K : zK} 
    (T : ((M.1 220 1) ≤ (M.1 220 3) → S_X6_readRun_121 (d + 1) x1 x2 M K) ∧ (¬ ((M.1 220 1) ≤ (M.1 220 3)) → S_X6_signAt d (M.1 220 3) M (zI (fun r22 M23 => S_X6_isLetter d r22 M23 (zB (fun r24 M25 => (r24 = true → S_X6_readRun_53 (d + 1) x1 x2 M25 K) ∧ (r24 = false → S_X6_signAt d (M25.1 220 3) M25 (zI (fun r27 M28 => S_X6_isDigit d r27 M28 (zB (fun r29 M30 => (r29 = false → S_X6_readRun_121 (d + 1) x1 x2 M30 K) ∧ (r29 = true → S_X6_readRun_53 (d + 1) x1 x2 M30 K)))))))))))) : S_X6_readRun_14 (d + 1) x1 x2 M K := by
  show zV m_X6_readRun (d + 1) 14 [(0, .ref 220), (1, .int x1), (2, .int x2)] [] M K
  refine zr_aload_n dX6_readRun_14 rfl 0 rfl ?_
  refine zm_geti dX6_readRun_15 f_X6_18 (by decide) (by decide) (by decide) ?_
  refine zr_aload_n dX6_readRun_18 rfl 0 rfl ?_
  refine zm_geti dX6_readRun_19 f_X6_9 (by decide) (by decide) (by decide) ?_
  refine zr_icmp_ge (tgt := 121) dX6_readRun_22 (by decide) (fun h21 => ?_) (fun h21 => ?_)
  · have T := T.1 h21
    exact zV.pick [0, 1, 2] rfl T
  · have T := T.2 h21
    refine zr_aload_n dX6_readRun_25 rfl 0 rfl ?_
    refine zr_aload_n dX6_readRun_26 rfl 0 rfl ?_
    refine zm_geti dX6_readRun_27 f_X6_18 (by decide) (by decide) (by decide) ?_
    refine zm_callV_i (c := 6) (b := 220) dX6_readRun_30 w_X6_signAt l_X6_62 rfl (by decide) (by decide) s_X6_signAt [.int (M.1 220 3)] rfl rfl (Nat.le_of_ble_eq_true rfl) (Nat.le_of_ble_eq_true rfl) ?_
    refine zV.post T ?_
    rintro v M23 ⟨r22, rfl, T⟩
    refine ⟨r22, rfl, ?_⟩
    refine zm_callS_b dX6_readRun_33 w_X6_isLetter l_X6_66 s_X6_isLetter [.int r22] rfl rfl (Nat.le_of_ble_eq_true rfl) (Nat.le_of_ble_eq_true rfl) ?_
    refine zV.post T ?_
    rintro v M25 ⟨r24, rfl, T⟩
    refine ⟨r24, rfl, ?_⟩
    refine zm_ifb_ne (tgt := 53) dX6_readRun_36 (by decide) (fun h26 => ?_) (fun h26 => ?_)
    · have T := T.1 h26
      exact zV.pick [0, 1, 2] rfl T
    · have T := T.2 h26
      refine zr_aload_n dX6_readRun_39 rfl 0 rfl ?_
      refine zr_aload_n dX6_readRun_40 rfl 0 rfl ?_
      refine zm_geti dX6_readRun_41 f_X6_18 (by decide) (by decide) (by decide) ?_
      refine zm_callV_i (c := 6) (b := 220) dX6_readRun_44 w_X6_signAt l_X6_62 rfl (by decide) (by decide) s_X6_signAt [.int (M25.1 220 3)] rfl rfl (Nat.le_of_ble_eq_true rfl) (Nat.le_of_ble_eq_true rfl) ?_
      refine zV.post T ?_
      rintro v M28 ⟨r27, rfl, T⟩
      refine ⟨r27, rfl, ?_⟩
      refine zm_callS_b dX6_readRun_47 w_X6_isDigit l_X6_70 s_X6_isDigit [.int r27] rfl rfl (Nat.le_of_ble_eq_true rfl) (Nat.le_of_ble_eq_true rfl) ?_
      refine zV.post T ?_
      rintro v M30 ⟨r29, rfl, T⟩
      refine ⟨r29, rfl, ?_⟩
      refine zm_ifb_eq (tgt := 121) dX6_readRun_50 (by decide) (fun h31 => ?_) (fun h31 => ?_)
      · have T := T.1 h31
        exact zV.pick [0, 1, 2] rfl T
      · have T := T.2 h31
        exact zV.pick [0, 1, 2] rfl T
set_option maxRecDepth 100000 in
set_option maxHeartbeats 4000000 in
theorem t_X6_readRun_121 {d : Nat} {x1 : Int32} {x2 : Int32} {M : zMem} {K : zK} 
    (T : (∀ M21 : zMem, M21 = wI M 220 4 1 → (¬ x2 = 0 → S_X6_readRun_183 (d + 1) x1 x2 M21 K) ∧ (x2 = 0 → (7 < x1 → S_X6_readRun_183 (d + 1) x1 x2 M21 K) ∧ (¬ (7 < x1) → (∀ M25 : zMem, M25 = wL M21 220 7 ((M21.2 220 7) <<< (Int32.toInt64 (8 * (7 - x1)) &&& 63)) → S_X6_findWord d (M25.2 220 7) M25 (zI (fun r27 M28 => (∀ M29 : zMem, M29 = wI M28 220 6 r27 → (¬ (M29.1 220 6) = (-1) → (∀ M32 : zMem, M32 = wI M29 220 4 2 → K none M32)) ∧ ((M29.1 220 6) = (-1) → (∀ M34 : zMem, M34 = wI M29 220 4 3 → K none M34)))))))))) : S_X6_readRun_121 (d + 1) x1 x2 M K := by
  show zV m_X6_readRun (d + 1) 121 [(0, .ref 220), (1, .int x1), (2, .int x2)] [] M K
  refine zr_aload_n dX6_readRun_121 rfl 0 rfl ?_
  refine zr_iconst (v := 1) dX6_readRun_122 (by decide) ?_
  refine zn_puti dX6_readRun_123 f_X6_21 (by decide) (by decide) (by decide) (fun M21 e22 => ?_)
  have T := T M21 e22
  refine zr_iload_n dX6_readRun_126 rfl 2 rfl ?_
  refine zr_if_ne (tgt := 183) dX6_readRun_127 (by decide) (fun h23 => ?_) (fun h23 => ?_)
  · have T := T.1 h23
    exact zV.pick [0, 1, 2] rfl T
  · have T := T.2 h23
    refine zr_iload_n dX6_readRun_130 rfl 1 rfl ?_
    refine zr_bipush (v := 7) dX6_readRun_131 (by decide) ?_
    refine zr_icmp_gt (tgt := 183) dX6_readRun_133 (by decide) (fun h24 => ?_) (fun h24 => ?_)
    · have T := T.1 h24
      exact zV.pick [0, 1, 2] rfl T
    · have T := T.2 h24
      refine zr_aload_n dX6_readRun_136 rfl 0 rfl ?_
      refine zr_aload_n dX6_readRun_137 rfl 0 rfl ?_
      refine zm_getl dX6_readRun_138 f_X6_30 (by decide) (by decide) (by decide) ?_
      refine zr_bipush (v := 8) dX6_readRun_141 (by decide) ?_
      refine zr_bipush (v := 7) dX6_readRun_143 (by decide) ?_
      refine zr_iload_n dX6_readRun_145 rfl 1 rfl ?_
      refine zr_isub dX6_readRun_146 ?_
      refine zr_imul dX6_readRun_147 ?_
      refine zr_lshl dX6_readRun_148 ?_
      refine zn_putl dX6_readRun_149 f_X6_30 (by decide) (by decide) (by decide) (fun M25 e26 => ?_)
      have T := T M25 e26
      refine zr_aload_n dX6_readRun_152 rfl 0 rfl ?_
      refine zr_aload_n dX6_readRun_153 rfl 0 rfl ?_
      refine zm_getl dX6_readRun_154 f_X6_30 (by decide) (by decide) (by decide) ?_
      refine zm_callS_i dX6_readRun_157 w_X6_findWord l_X6_76 s_X6_findWord [.long (M25.2 220 7)] rfl rfl (Nat.le_of_ble_eq_true rfl) (Nat.le_of_ble_eq_true rfl) ?_
      refine zV.post T ?_
      rintro v M28 ⟨r27, rfl, T⟩
      refine ⟨r27, rfl, ?_⟩
      refine zn_puti dX6_readRun_160 f_X6_27 (by decide) (by decide) (by decide) (fun M29 e30 => ?_)
      have T := T M29 e30
      refine zr_aload_n dX6_readRun_163 rfl 0 rfl ?_
      refine zr_aload_n dX6_readRun_164 rfl 0 rfl ?_
      refine zm_geti dX6_readRun_165 f_X6_27 (by decide) (by decide) (by decide) ?_
      refine zr_iconst (v := (-1)) dX6_readRun_168 (by decide) ?_
      refine zr_icmp_ne (tgt := 176) dX6_readRun_169 (by decide) (fun h31 => ?_) (fun h31 => ?_)
      · have T := T.1 h31
        refine zr_iconst (v := 2) dX6_readRun_176 (by decide) ?_
        refine zn_puti dX6_readRun_177 f_X6_21 (by decide) (by decide) (by decide) (fun M32 e33 => ?_)
        have T := T M32 e33
        refine zr_goto (tgt := 197) dX6_readRun_180 (by decide) ?_
        exact zm_vret dX6_readRun_197 rfl T
      · have T := T.2 h31
        refine zr_iconst (v := 3) dX6_readRun_172 (by decide) ?_
        refine zr_goto (tgt := 177) dX6_readRun_173 (by decide) ?_
        refine zn_puti dX6_readRun_177 f_X6_21 (by decide) (by decide) (by decide) (fun M34 e35 => ?_)
        have T := T M34 e35
        refine zr_goto (tgt := 197) dX6_readRun_180 (by decide) ?_
        exact zm_vret dX6_readRun_197 rfl T
set_option maxRecDepth 100000 in
set_option maxHeartbeats 4000000 in
theorem t_X6_readRun_53 {d : Nat} {x1 : Int32} {x2 : Int32} {M : zMem} {K : zK} 
    (T : S_X6_signAt d (M.1 220 3) M (zI (fun r21 M22 => S_X6_isLetter d r21 M22 (zB (fun r23 M24 => (r23 = false → S_X6_readRun_78 (d + 1) x1 (x2 + 1) r21 M24 K) ∧ (r23 = true → S_X6_readRun_78 (d + 1) (x1 + 1) x2 r21 M24 K)))))) : S_X6_readRun_53 (d + 1) x1 x2 M K := by
  show zV m_X6_readRun (d + 1) 53 [(0, .ref 220), (1, .int x1), (2, .int x2)] [] M K
  refine zr_aload_n dX6_readRun_53 rfl 0 rfl ?_
  refine zr_aload_n dX6_readRun_54 rfl 0 rfl ?_
  refine zm_geti dX6_readRun_55 f_X6_18 (by decide) (by decide) (by decide) ?_
  refine zm_callV_i (c := 6) (b := 220) dX6_readRun_58 w_X6_signAt l_X6_62 rfl (by decide) (by decide) s_X6_signAt [.int (M.1 220 3)] rfl rfl (Nat.le_of_ble_eq_true rfl) (Nat.le_of_ble_eq_true rfl) ?_
  refine zV.post T ?_
  rintro v M22 ⟨r21, rfl, T⟩
  refine ⟨r21, rfl, ?_⟩
  refine zr_istore_n dX6_readRun_61 rfl (by decide) (L2 := [(3, .int r21), (0, .ref 220), (1, .int x1), (2, .int x2)]) rfl ?_
  refine zr_iload_n dX6_readRun_62 rfl 0 rfl ?_
  refine zm_callS_b dX6_readRun_63 w_X6_isLetter l_X6_66 s_X6_isLetter [.int r21] rfl rfl (Nat.le_of_ble_eq_true rfl) (Nat.le_of_ble_eq_true rfl) ?_
  refine zV.post T ?_
  rintro v M24 ⟨r23, rfl, T⟩
  refine ⟨r23, rfl, ?_⟩
  refine zm_ifb_eq (tgt := 75) dX6_readRun_66 (by decide) (fun h25 => ?_) (fun h25 => ?_)
  · have T := T.1 h25
    refine zr_iinc (n := 3) (v := x2 + 1) dX6_readRun_75 rfl rfl (by decide) (L2 := [(2, .int (x2 + 1)), (3, .int r21), (0, .ref 220), (1, .int x1)]) rfl ?_
    exact zV.pick [2, 3, 0, 1] rfl T
  · have T := T.2 h25
    refine zr_iinc (n := 2) (v := x1 + 1) dX6_readRun_69 rfl rfl (by decide) (L2 := [(1, .int (x1 + 1)), (3, .int r21), (0, .ref 220), (2, .int x2)]) rfl ?_
    refine zr_goto (tgt := 78) dX6_readRun_72 (by decide) ?_
    exact zV.pick [2, 0, 3, 1] rfl T
set_option maxRecDepth 100000 in
set_option maxHeartbeats 4000000 in
theorem t_X6_readRun_183 {d : Nat} {x1 : Int32} {x2 : Int32} {M : zMem} {K : zK} 
    (T : (¬ x1 = 0 → K none M) ∧ (x1 = 0 → (3 < x2 → K none M) ∧ (¬ (3 < x2) → (∀ M23 : zMem, M23 = wI M 220 4 4 → K none M23)))) : S_X6_readRun_183 (d + 1) x1 x2 M K := by
  show zV m_X6_readRun (d + 1) 183 [(0, .ref 220), (1, .int x1), (2, .int x2)] [] M K
  refine zr_iload_n dX6_readRun_183 rfl 1 rfl ?_
  refine zr_if_ne (tgt := 197) dX6_readRun_184 (by decide) (fun h21 => ?_) (fun h21 => ?_)
  · have T := T.1 h21
    exact zm_vret dX6_readRun_197 rfl T
  · have T := T.2 h21
    refine zr_iload_n dX6_readRun_187 rfl 2 rfl ?_
    refine zr_iconst (v := 3) dX6_readRun_188 (by decide) ?_
    refine zr_icmp_gt (tgt := 197) dX6_readRun_189 (by decide) (fun h22 => ?_) (fun h22 => ?_)
    · have T := T.1 h22
      exact zm_vret dX6_readRun_197 rfl T
    · have T := T.2 h22
      refine zr_aload_n dX6_readRun_192 rfl 0 rfl ?_
      refine zr_iconst (v := 4) dX6_readRun_193 (by decide) ?_
      refine zn_puti dX6_readRun_194 f_X6_21 (by decide) (by decide) (by decide) (fun M23 e24 => ?_)
      have T := T M23 e24
      exact zm_vret dX6_readRun_197 rfl T
set_option maxRecDepth 100000 in
set_option maxHeartbeats 4000000 in
theorem t_X6_readRun_78 {d : Nat} {x1 : Int32} {x2 : Int32} {x3 : Int32} {M : zMem} {K : zK} 
    (T : (∀ M21 : zMem, M21 = wL M 220 7 (((M.2 220 7) <<< (Int32.toInt64 8 &&& 63)) ||| (Int32.toInt64 x3)) → (∀ M23 : zMem, M23 = wI M21 220 8 (((M21.1 220 8) * 10) + (x3 - 48)) → (∀ M25 : zMem, M25 = wI M23 220 3 ((M23.1 220 3) + 1) → S_X6_readRun_14 (d + 1) x1 x2 M25 K)))) : S_X6_readRun_78 (d + 1) x1 x2 x3 M K := by
  show zV m_X6_readRun (d + 1) 78 [(0, .ref 220), (1, .int x1), (2, .int x2), (3, .int x3)] [] M K
  refine zr_aload_n dX6_readRun_78 rfl 0 rfl ?_
  refine zr_aload_n dX6_readRun_79 rfl 0 rfl ?_
  refine zm_getl dX6_readRun_80 f_X6_30 (by decide) (by decide) (by decide) ?_
  refine zr_bipush (v := 8) dX6_readRun_83 (by decide) ?_
  refine zr_lshl dX6_readRun_85 ?_
  refine zr_iload_n dX6_readRun_86 rfl 3 rfl ?_
  refine zr_i2l dX6_readRun_87 ?_
  refine zr_lor dX6_readRun_88 ?_
  refine zn_putl dX6_readRun_89 f_X6_30 (by decide) (by decide) (by decide) (fun M21 e22 => ?_)
  have T := T M21 e22
  refine zr_aload_n dX6_readRun_92 rfl 0 rfl ?_
  refine zr_aload_n dX6_readRun_93 rfl 0 rfl ?_
  refine zm_geti dX6_readRun_94 f_X6_34 (by decide) (by decide) (by decide) ?_
  refine zr_bipush (v := 10) dX6_readRun_97 (by decide) ?_
  refine zr_imul dX6_readRun_99 ?_
  refine zr_iload_n dX6_readRun_100 rfl 3 rfl ?_
  refine zr_bipush (v := 48) dX6_readRun_101 (by decide) ?_
  refine zr_isub dX6_readRun_103 ?_
  refine zr_iadd dX6_readRun_104 ?_
  refine zn_puti dX6_readRun_105 f_X6_34 (by decide) (by decide) (by decide) (fun M23 e24 => ?_)
  have T := T M23 e24
  refine zr_aload_n dX6_readRun_108 rfl 0 rfl ?_
  refine zr_dup dX6_readRun_109 rfl ?_
  refine zm_geti dX6_readRun_110 f_X6_18 (by decide) (by decide) (by decide) ?_
  refine zr_iconst (v := 1) dX6_readRun_113 (by decide) ?_
  refine zr_iadd dX6_readRun_114 ?_
  refine zn_puti dX6_readRun_115 f_X6_18 (by decide) (by decide) (by decide) (fun M25 e26 => ?_)
  have T := T M25 e26
  refine zr_goto (tgt := 14) dX6_readRun_118 (by decide) ?_
  exact zV.pick [0, 1, 2] rfl T
set_option maxRecDepth 100000 in
set_option maxHeartbeats 4000000 in
theorem t_X1_read {d : Nat}  {M : zMem} {K : zK} 
    (T : S_X5_clear d 18 M (zU (fun M22 => S_X3_clear d 25 M22 (zU (fun M24 => (∀ M25 : zMem, M25 = wI M24 221 3 0 → S_X1_read_21 (d + 1) 0 M25 K)))))) : S_X1_read (d + 1)  M K := by
  show zV m_X1_read (d + 1) 0 [(0, .ref 221)] [] M K
  refine zr_aload_n dX1_read_0 rfl 0 rfl ?_
  refine zm_getr (a := 18) dX1_read_1 f_X1_25 (by decide) (by decide) (by decide) (by decide) ?_
  refine zm_callV_v (c := 5) (b := 18) dX1_read_4 w_X5_clear l_X1_31 rfl (by decide) (by decide) s_X5_clear [] rfl rfl (Nat.le_of_ble_eq_true rfl) (Nat.le_of_ble_eq_true rfl) ?_
  refine zV.post T ?_
  rintro v M22 ⟨rfl, T⟩
  refine ⟨rfl, ?_⟩
  refine zr_aload_n dX1_read_7 rfl 0 rfl ?_
  refine zm_getr (a := 25) dX1_read_8 f_X1_30 (by decide) (by decide) (by decide) (by decide) ?_
  refine zm_callV_v (c := 3) (b := 25) dX1_read_11 w_X3_clear l_X1_36 rfl (by decide) (by decide) s_X3_clear [] rfl rfl (Nat.le_of_ble_eq_true rfl) (Nat.le_of_ble_eq_true rfl) ?_
  refine zV.post T ?_
  rintro v M24 ⟨rfl, T⟩
  refine ⟨rfl, ?_⟩
  refine zr_aload_n dX1_read_14 rfl 0 rfl ?_
  refine zr_iconst (v := 0) dX1_read_15 (by decide) ?_
  refine zn_puti dX1_read_16 f_X1_9 (by decide) (by decide) (by decide) (fun M25 e26 => ?_)
  have T := T M25 e26
  refine zr_iconst (v := 0) dX1_read_19 (by decide) ?_
  refine zr_istore_n dX1_read_20 rfl (by decide) (L2 := [(1, .int 0), (0, .ref 221)]) rfl ?_
  exact zV.pick [1, 0] rfl T
set_option maxRecDepth 100000 in
set_option maxHeartbeats 4000000 in
theorem t_X1_read_21 {d : Nat} {x1 : Int32} {M : zMem} {K : zK} 
    (T : (940 ≤ x1 → S_X5_settle d 18 M (zU (fun M23 => S_X6_isWhole d  M23 (zB (fun r24 M25 => K (some (.int (bi r24))) M25))))) ∧ (¬ (940 ≤ x1) → ((M.1 220 4) = 0 → S_X5_settle d 18 M (zU (fun M28 => S_X6_isWhole d  M28 (zB (fun r29 M30 => K (some (.int (bi r29))) M30))))) ∧ (¬ ((M.1 220 4) = 0) → S_X1_readLine d  M (zB (fun r31 M32 => (r31 = true → S_X1_read_21 (d + 1) (x1 + 1) M32 K) ∧ (r31 = false → K (some (.int 0)) M32)))))) : S_X1_read_21 (d + 1) x1 M K := by
  show zV m_X1_read (d + 1) 21 [(0, .ref 221), (1, .int x1)] [] M K
  refine zr_iload_n dX1_read_21 rfl 1 rfl ?_
  refine zr_sipush (v := 940) dX1_read_22 (by decide) ?_
  refine zr_icmp_ge (tgt := 53) dX1_read_25 (by decide) (fun h21 => ?_) (fun h21 => ?_)
  · have T := T.1 h21
    refine zr_aload_n dX1_read_53 rfl 0 rfl ?_
    refine zm_getr (a := 18) dX1_read_54 f_X1_25 (by decide) (by decide) (by decide) (by decide) ?_
    refine zm_callV_v (c := 5) (b := 18) dX1_read_57 w_X5_settle l_X1_48 rfl (by decide) (by decide) s_X5_settle [] rfl rfl (Nat.le_of_ble_eq_true rfl) (Nat.le_of_ble_eq_true rfl) ?_
    refine zV.post T ?_
    rintro v M23 ⟨rfl, T⟩
    refine ⟨rfl, ?_⟩
    refine zr_aload_n dX1_read_60 rfl 0 rfl ?_
    refine zm_getr (a := 220) dX1_read_61 f_X1_15 (by decide) (by decide) (by decide) (by decide) ?_
    refine zm_callV_b (c := 6) (b := 220) dX1_read_64 w_X6_isWhole l_X1_51 rfl (by decide) (by decide) s_X6_isWhole [] rfl rfl (Nat.le_of_ble_eq_true rfl) (Nat.le_of_ble_eq_true rfl) ?_
    refine zV.post T ?_
    rintro v M25 ⟨r24, rfl, T⟩
    refine ⟨r24, rfl, ?_⟩
    exact zm_zret dX1_read_67 rfl (bi_01 _) T
  · have T := T.2 h21
    refine zr_aload_n dX1_read_28 rfl 0 rfl ?_
    refine zm_getr (a := 220) dX1_read_29 f_X1_15 (by decide) (by decide) (by decide) (by decide) ?_
    refine zm_geti dX1_read_32 f_X1_39 (by decide) (by decide) (by decide) ?_
    refine zr_if_eq (tgt := 53) dX1_read_35 (by decide) (fun h26 => ?_) (fun h26 => ?_)
    · have T := T.1 h26
      refine zr_aload_n dX1_read_53 rfl 0 rfl ?_
      refine zm_getr (a := 18) dX1_read_54 f_X1_25 (by decide) (by decide) (by decide) (by decide) ?_
      refine zm_callV_v (c := 5) (b := 18) dX1_read_57 w_X5_settle l_X1_48 rfl (by decide) (by decide) s_X5_settle [] rfl rfl (Nat.le_of_ble_eq_true rfl) (Nat.le_of_ble_eq_true rfl) ?_
      refine zV.post T ?_
      rintro v M28 ⟨rfl, T⟩
      refine ⟨rfl, ?_⟩
      refine zr_aload_n dX1_read_60 rfl 0 rfl ?_
      refine zm_getr (a := 220) dX1_read_61 f_X1_15 (by decide) (by decide) (by decide) (by decide) ?_
      refine zm_callV_b (c := 6) (b := 220) dX1_read_64 w_X6_isWhole l_X1_51 rfl (by decide) (by decide) s_X6_isWhole [] rfl rfl (Nat.le_of_ble_eq_true rfl) (Nat.le_of_ble_eq_true rfl) ?_
      refine zV.post T ?_
      rintro v M30 ⟨r29, rfl, T⟩
      refine ⟨r29, rfl, ?_⟩
      exact zm_zret dX1_read_67 rfl (bi_01 _) T
    · have T := T.2 h26
      refine zr_aload_n dX1_read_38 rfl 0 rfl ?_
      refine zm_callV_b (c := 1) (b := 221) dX1_read_39 w_X1_readLine l_X1_44 rfl (by decide) (by decide) s_X1_readLine [] rfl rfl (Nat.le_of_ble_eq_true rfl) (Nat.le_of_ble_eq_true rfl) ?_
      refine zV.post T ?_
      rintro v M32 ⟨r31, rfl, T⟩
      refine ⟨r31, rfl, ?_⟩
      refine zm_ifb_ne (tgt := 47) dX1_read_42 (by decide) (fun h33 => ?_) (fun h33 => ?_)
      · have T := T.1 h33
        refine zr_iinc (n := 1) (v := x1 + 1) dX1_read_47 rfl rfl (by decide) (L2 := [(1, .int (x1 + 1)), (0, .ref 221)]) rfl ?_
        refine zr_goto (tgt := 21) dX1_read_50 (by decide) ?_
        exact zV.pick [1, 0] rfl T
      · have T := T.2 h33
        refine zr_iconst (v := 0) dX1_read_45 (by decide) ?_
        exact zm_zret dX1_read_46 rfl (by decide) T
set_option maxRecDepth 100000 in
set_option maxHeartbeats 4000000 in
theorem t_X1_readLine {d : Nat}  {M : zMem} {K : zK} 
    (T : ((M.1 220 6) = 0 → S_X1_readSetting d (M.1 220 6) M (zB (fun r21 M22 => (r21 = false → K (some (.int 0)) M22) ∧ (r21 = true → S_X6_passLineEnd d  M22 (zB (fun r24 M25 => (r24 = false → K (some (.int 0)) M25) ∧ (r24 = true → K (some (.int 1)) M25))))))) ∧ ((M.1 220 6) = 1 → S_X1_readSetting d (M.1 220 6) M (zB (fun r27 M28 => (r27 = false → K (some (.int 0)) M28) ∧ (r27 = true → S_X6_passLineEnd d  M28 (zB (fun r30 M31 => (r30 = false → K (some (.int 0)) M31) ∧ (r30 = true → K (some (.int 1)) M31))))))) ∧ ((M.1 220 6) = 2 → S_X1_readSetting d (M.1 220 6) M (zB (fun r33 M34 => (r33 = false → K (some (.int 0)) M34) ∧ (r33 = true → S_X6_passLineEnd d  M34 (zB (fun r36 M37 => (r36 = false → K (some (.int 0)) M37) ∧ (r36 = true → K (some (.int 1)) M37))))))) ∧ ((M.1 220 6) = 6 → S_X1_readKey d  M (zB (fun r39 M40 => (r39 = false → K (some (.int 0)) M40) ∧ (r39 = true → S_X6_passLineEnd d  M40 (zB (fun r42 M43 => (r42 = false → K (some (.int 0)) M43) ∧ (r42 = true → K (some (.int 1)) M43))))))) ∧ ((M.1 220 6) = 7 → S_X1_readPeer d  M (zB (fun r45 M46 => (r45 = false → K (some (.int 0)) M46) ∧ (r45 = true → S_X6_passLineEnd d  M46 (zB (fun r48 M49 => (r48 = false → K (some (.int 0)) M49) ∧ (r48 = true → K (some (.int 1)) M49))))))) ∧ ((M.1 220 6) = 8 → S_X1_readHas d  M (zB (fun r51 M52 => (r51 = false → K (some (.int 0)) M52) ∧ (r51 = true → S_X6_passLineEnd d  M52 (zB (fun r54 M55 => (r54 = false → K (some (.int 0)) M55) ∧ (r54 = true → K (some (.int 1)) M55))))))) ∧ ((M.1 220 6) = 9 → S_X1_readCut d  M (zB (fun r57 M58 => (r57 = false → K (some (.int 0)) M58) ∧ (r57 = true → S_X6_passLineEnd d  M58 (zB (fun r60 M61 => (r60 = false → K (some (.int 0)) M61) ∧ (r60 = true → K (some (.int 1)) M61))))))) ∧ (¬ (M.1 220 6) = 0 → ¬ (M.1 220 6) = 1 → ¬ (M.1 220 6) = 2 → ¬ (M.1 220 6) = 6 → ¬ (M.1 220 6) = 7 → ¬ (M.1 220 6) = 8 → ¬ (M.1 220 6) = 9 → S_X6_fail d 1 M (zB (fun r63 M64 => K (some (.int (bi r63))) M64)))) : S_X1_readLine (d + 1)  M K := by
  show zV m_X1_readLine (d + 1) 0 [(0, .ref 221)] [] M K
  refine zr_aload_n dX1_readLine_0 rfl 0 rfl ?_
  refine zm_getr (a := 220) dX1_readLine_1 f_X1_15 (by decide) (by decide) (by decide) (by decide) ?_
  refine zm_geti dX1_readLine_4 f_X1_54 (by decide) (by decide) (by decide) ?_
  by_cases h65 : (M.1 220 6) = 0
  · have T := T.1 h65
    refine zr_tableIn (tgt := 60) dX1_readLine_7 (by rw [h65]; decide) (by rw [h65]; decide) (by rw [h65]; rfl) (by decide) ?_
    refine zr_aload_n dX1_readLine_60 rfl 0 rfl ?_
    refine zr_aload_n dX1_readLine_61 rfl 0 rfl ?_
    refine zm_getr (a := 220) dX1_readLine_62 f_X1_15 (by decide) (by decide) (by decide) (by decide) ?_
    refine zm_geti dX1_readLine_65 f_X1_54 (by decide) (by decide) (by decide) ?_
    refine zm_callV_b (c := 1) (b := 221) dX1_readLine_68 w_X1_readSetting l_X1_57 rfl (by decide) (by decide) s_X1_readSetting [.int (M.1 220 6)] rfl rfl (Nat.le_of_ble_eq_true rfl) (Nat.le_of_ble_eq_true rfl) ?_
    refine zV.post T ?_
    rintro v M22 ⟨r21, rfl, T⟩
    refine ⟨r21, rfl, ?_⟩
    refine zm_ifb_eq (tgt := 88) dX1_readLine_71 (by decide) (fun h23 => ?_) (fun h23 => ?_)
    · have T := T.1 h23
      refine zr_iconst (v := 0) dX1_readLine_88 (by decide) ?_
      exact zm_zret dX1_readLine_89 rfl (by decide) T
    · have T := T.2 h23
      refine zr_aload_n dX1_readLine_74 rfl 0 rfl ?_
      refine zm_getr (a := 220) dX1_readLine_75 f_X1_15 (by decide) (by decide) (by decide) (by decide) ?_
      refine zm_callV_b (c := 6) (b := 220) dX1_readLine_78 w_X6_passLineEnd l_X1_61 rfl (by decide) (by decide) s_X6_passLineEnd [] rfl rfl (Nat.le_of_ble_eq_true rfl) (Nat.le_of_ble_eq_true rfl) ?_
      refine zV.post T ?_
      rintro v M25 ⟨r24, rfl, T⟩
      refine ⟨r24, rfl, ?_⟩
      refine zm_ifb_eq (tgt := 88) dX1_readLine_81 (by decide) (fun h26 => ?_) (fun h26 => ?_)
      · have T := T.1 h26
        refine zr_iconst (v := 0) dX1_readLine_88 (by decide) ?_
        exact zm_zret dX1_readLine_89 rfl (by decide) T
      · have T := T.2 h26
        refine zr_iconst (v := 1) dX1_readLine_84 (by decide) ?_
        refine zr_goto (tgt := 89) dX1_readLine_85 (by decide) ?_
        exact zm_zret dX1_readLine_89 rfl (by decide) T
  by_cases h66 : (M.1 220 6) = 1
  · have T := T.2.1 h66
    refine zr_tableIn (tgt := 60) dX1_readLine_7 (by rw [h66]; decide) (by rw [h66]; decide) (by rw [h66]; rfl) (by decide) ?_
    refine zr_aload_n dX1_readLine_60 rfl 0 rfl ?_
    refine zr_aload_n dX1_readLine_61 rfl 0 rfl ?_
    refine zm_getr (a := 220) dX1_readLine_62 f_X1_15 (by decide) (by decide) (by decide) (by decide) ?_
    refine zm_geti dX1_readLine_65 f_X1_54 (by decide) (by decide) (by decide) ?_
    refine zm_callV_b (c := 1) (b := 221) dX1_readLine_68 w_X1_readSetting l_X1_57 rfl (by decide) (by decide) s_X1_readSetting [.int (M.1 220 6)] rfl rfl (Nat.le_of_ble_eq_true rfl) (Nat.le_of_ble_eq_true rfl) ?_
    refine zV.post T ?_
    rintro v M28 ⟨r27, rfl, T⟩
    refine ⟨r27, rfl, ?_⟩
    refine zm_ifb_eq (tgt := 88) dX1_readLine_71 (by decide) (fun h29 => ?_) (fun h29 => ?_)
    · have T := T.1 h29
      refine zr_iconst (v := 0) dX1_readLine_88 (by decide) ?_
      exact zm_zret dX1_readLine_89 rfl (by decide) T
    · have T := T.2 h29
      refine zr_aload_n dX1_readLine_74 rfl 0 rfl ?_
      refine zm_getr (a := 220) dX1_readLine_75 f_X1_15 (by decide) (by decide) (by decide) (by decide) ?_
      refine zm_callV_b (c := 6) (b := 220) dX1_readLine_78 w_X6_passLineEnd l_X1_61 rfl (by decide) (by decide) s_X6_passLineEnd [] rfl rfl (Nat.le_of_ble_eq_true rfl) (Nat.le_of_ble_eq_true rfl) ?_
      refine zV.post T ?_
      rintro v M31 ⟨r30, rfl, T⟩
      refine ⟨r30, rfl, ?_⟩
      refine zm_ifb_eq (tgt := 88) dX1_readLine_81 (by decide) (fun h32 => ?_) (fun h32 => ?_)
      · have T := T.1 h32
        refine zr_iconst (v := 0) dX1_readLine_88 (by decide) ?_
        exact zm_zret dX1_readLine_89 rfl (by decide) T
      · have T := T.2 h32
        refine zr_iconst (v := 1) dX1_readLine_84 (by decide) ?_
        refine zr_goto (tgt := 89) dX1_readLine_85 (by decide) ?_
        exact zm_zret dX1_readLine_89 rfl (by decide) T
  by_cases h67 : (M.1 220 6) = 2
  · have T := T.2.2.1 h67
    refine zr_tableIn (tgt := 60) dX1_readLine_7 (by rw [h67]; decide) (by rw [h67]; decide) (by rw [h67]; rfl) (by decide) ?_
    refine zr_aload_n dX1_readLine_60 rfl 0 rfl ?_
    refine zr_aload_n dX1_readLine_61 rfl 0 rfl ?_
    refine zm_getr (a := 220) dX1_readLine_62 f_X1_15 (by decide) (by decide) (by decide) (by decide) ?_
    refine zm_geti dX1_readLine_65 f_X1_54 (by decide) (by decide) (by decide) ?_
    refine zm_callV_b (c := 1) (b := 221) dX1_readLine_68 w_X1_readSetting l_X1_57 rfl (by decide) (by decide) s_X1_readSetting [.int (M.1 220 6)] rfl rfl (Nat.le_of_ble_eq_true rfl) (Nat.le_of_ble_eq_true rfl) ?_
    refine zV.post T ?_
    rintro v M34 ⟨r33, rfl, T⟩
    refine ⟨r33, rfl, ?_⟩
    refine zm_ifb_eq (tgt := 88) dX1_readLine_71 (by decide) (fun h35 => ?_) (fun h35 => ?_)
    · have T := T.1 h35
      refine zr_iconst (v := 0) dX1_readLine_88 (by decide) ?_
      exact zm_zret dX1_readLine_89 rfl (by decide) T
    · have T := T.2 h35
      refine zr_aload_n dX1_readLine_74 rfl 0 rfl ?_
      refine zm_getr (a := 220) dX1_readLine_75 f_X1_15 (by decide) (by decide) (by decide) (by decide) ?_
      refine zm_callV_b (c := 6) (b := 220) dX1_readLine_78 w_X6_passLineEnd l_X1_61 rfl (by decide) (by decide) s_X6_passLineEnd [] rfl rfl (Nat.le_of_ble_eq_true rfl) (Nat.le_of_ble_eq_true rfl) ?_
      refine zV.post T ?_
      rintro v M37 ⟨r36, rfl, T⟩
      refine ⟨r36, rfl, ?_⟩
      refine zm_ifb_eq (tgt := 88) dX1_readLine_81 (by decide) (fun h38 => ?_) (fun h38 => ?_)
      · have T := T.1 h38
        refine zr_iconst (v := 0) dX1_readLine_88 (by decide) ?_
        exact zm_zret dX1_readLine_89 rfl (by decide) T
      · have T := T.2 h38
        refine zr_iconst (v := 1) dX1_readLine_84 (by decide) ?_
        refine zr_goto (tgt := 89) dX1_readLine_85 (by decide) ?_
        exact zm_zret dX1_readLine_89 rfl (by decide) T
  by_cases h68 : (M.1 220 6) = 6
  · have T := T.2.2.2.1 h68
    refine zr_tableIn (tgt := 90) dX1_readLine_7 (by rw [h68]; decide) (by rw [h68]; decide) (by rw [h68]; rfl) (by decide) ?_
    refine zr_aload_n dX1_readLine_90 rfl 0 rfl ?_
    refine zm_callV_b (c := 1) (b := 221) dX1_readLine_91 w_X1_readKey l_X1_64 rfl (by decide) (by decide) s_X1_readKey [] rfl rfl (Nat.le_of_ble_eq_true rfl) (Nat.le_of_ble_eq_true rfl) ?_
    refine zV.post T ?_
    rintro v M40 ⟨r39, rfl, T⟩
    refine ⟨r39, rfl, ?_⟩
    refine zm_ifb_eq (tgt := 111) dX1_readLine_94 (by decide) (fun h41 => ?_) (fun h41 => ?_)
    · have T := T.1 h41
      refine zr_iconst (v := 0) dX1_readLine_111 (by decide) ?_
      exact zm_zret dX1_readLine_112 rfl (by decide) T
    · have T := T.2 h41
      refine zr_aload_n dX1_readLine_97 rfl 0 rfl ?_
      refine zm_getr (a := 220) dX1_readLine_98 f_X1_15 (by decide) (by decide) (by decide) (by decide) ?_
      refine zm_callV_b (c := 6) (b := 220) dX1_readLine_101 w_X6_passLineEnd l_X1_61 rfl (by decide) (by decide) s_X6_passLineEnd [] rfl rfl (Nat.le_of_ble_eq_true rfl) (Nat.le_of_ble_eq_true rfl) ?_
      refine zV.post T ?_
      rintro v M43 ⟨r42, rfl, T⟩
      refine ⟨r42, rfl, ?_⟩
      refine zm_ifb_eq (tgt := 111) dX1_readLine_104 (by decide) (fun h44 => ?_) (fun h44 => ?_)
      · have T := T.1 h44
        refine zr_iconst (v := 0) dX1_readLine_111 (by decide) ?_
        exact zm_zret dX1_readLine_112 rfl (by decide) T
      · have T := T.2 h44
        refine zr_iconst (v := 1) dX1_readLine_107 (by decide) ?_
        refine zr_goto (tgt := 112) dX1_readLine_108 (by decide) ?_
        exact zm_zret dX1_readLine_112 rfl (by decide) T
  by_cases h69 : (M.1 220 6) = 7
  · have T := T.2.2.2.2.1 h69
    refine zr_tableIn (tgt := 113) dX1_readLine_7 (by rw [h69]; decide) (by rw [h69]; decide) (by rw [h69]; rfl) (by decide) ?_
    refine zr_aload_n dX1_readLine_113 rfl 0 rfl ?_
    refine zm_callV_b (c := 1) (b := 221) dX1_readLine_114 w_X1_readPeer l_X1_67 rfl (by decide) (by decide) s_X1_readPeer [] rfl rfl (Nat.le_of_ble_eq_true rfl) (Nat.le_of_ble_eq_true rfl) ?_
    refine zV.post T ?_
    rintro v M46 ⟨r45, rfl, T⟩
    refine ⟨r45, rfl, ?_⟩
    refine zm_ifb_eq (tgt := 134) dX1_readLine_117 (by decide) (fun h47 => ?_) (fun h47 => ?_)
    · have T := T.1 h47
      refine zr_iconst (v := 0) dX1_readLine_134 (by decide) ?_
      exact zm_zret dX1_readLine_135 rfl (by decide) T
    · have T := T.2 h47
      refine zr_aload_n dX1_readLine_120 rfl 0 rfl ?_
      refine zm_getr (a := 220) dX1_readLine_121 f_X1_15 (by decide) (by decide) (by decide) (by decide) ?_
      refine zm_callV_b (c := 6) (b := 220) dX1_readLine_124 w_X6_passLineEnd l_X1_61 rfl (by decide) (by decide) s_X6_passLineEnd [] rfl rfl (Nat.le_of_ble_eq_true rfl) (Nat.le_of_ble_eq_true rfl) ?_
      refine zV.post T ?_
      rintro v M49 ⟨r48, rfl, T⟩
      refine ⟨r48, rfl, ?_⟩
      refine zm_ifb_eq (tgt := 134) dX1_readLine_127 (by decide) (fun h50 => ?_) (fun h50 => ?_)
      · have T := T.1 h50
        refine zr_iconst (v := 0) dX1_readLine_134 (by decide) ?_
        exact zm_zret dX1_readLine_135 rfl (by decide) T
      · have T := T.2 h50
        refine zr_iconst (v := 1) dX1_readLine_130 (by decide) ?_
        refine zr_goto (tgt := 135) dX1_readLine_131 (by decide) ?_
        exact zm_zret dX1_readLine_135 rfl (by decide) T
  by_cases h70 : (M.1 220 6) = 8
  · have T := T.2.2.2.2.2.1 h70
    refine zr_tableIn (tgt := 136) dX1_readLine_7 (by rw [h70]; decide) (by rw [h70]; decide) (by rw [h70]; rfl) (by decide) ?_
    refine zr_aload_n dX1_readLine_136 rfl 0 rfl ?_
    refine zm_callV_b (c := 1) (b := 221) dX1_readLine_137 w_X1_readHas l_X1_70 rfl (by decide) (by decide) s_X1_readHas [] rfl rfl (Nat.le_of_ble_eq_true rfl) (Nat.le_of_ble_eq_true rfl) ?_
    refine zV.post T ?_
    rintro v M52 ⟨r51, rfl, T⟩
    refine ⟨r51, rfl, ?_⟩
    refine zm_ifb_eq (tgt := 157) dX1_readLine_140 (by decide) (fun h53 => ?_) (fun h53 => ?_)
    · have T := T.1 h53
      refine zr_iconst (v := 0) dX1_readLine_157 (by decide) ?_
      exact zm_zret dX1_readLine_158 rfl (by decide) T
    · have T := T.2 h53
      refine zr_aload_n dX1_readLine_143 rfl 0 rfl ?_
      refine zm_getr (a := 220) dX1_readLine_144 f_X1_15 (by decide) (by decide) (by decide) (by decide) ?_
      refine zm_callV_b (c := 6) (b := 220) dX1_readLine_147 w_X6_passLineEnd l_X1_61 rfl (by decide) (by decide) s_X6_passLineEnd [] rfl rfl (Nat.le_of_ble_eq_true rfl) (Nat.le_of_ble_eq_true rfl) ?_
      refine zV.post T ?_
      rintro v M55 ⟨r54, rfl, T⟩
      refine ⟨r54, rfl, ?_⟩
      refine zm_ifb_eq (tgt := 157) dX1_readLine_150 (by decide) (fun h56 => ?_) (fun h56 => ?_)
      · have T := T.1 h56
        refine zr_iconst (v := 0) dX1_readLine_157 (by decide) ?_
        exact zm_zret dX1_readLine_158 rfl (by decide) T
      · have T := T.2 h56
        refine zr_iconst (v := 1) dX1_readLine_153 (by decide) ?_
        refine zr_goto (tgt := 158) dX1_readLine_154 (by decide) ?_
        exact zm_zret dX1_readLine_158 rfl (by decide) T
  by_cases h71 : (M.1 220 6) = 9
  · have T := T.2.2.2.2.2.2.1 h71
    refine zr_tableIn (tgt := 159) dX1_readLine_7 (by rw [h71]; decide) (by rw [h71]; decide) (by rw [h71]; rfl) (by decide) ?_
    refine zr_aload_n dX1_readLine_159 rfl 0 rfl ?_
    refine zm_callV_b (c := 1) (b := 221) dX1_readLine_160 w_X1_readCut l_X1_73 rfl (by decide) (by decide) s_X1_readCut [] rfl rfl (Nat.le_of_ble_eq_true rfl) (Nat.le_of_ble_eq_true rfl) ?_
    refine zV.post T ?_
    rintro v M58 ⟨r57, rfl, T⟩
    refine ⟨r57, rfl, ?_⟩
    refine zm_ifb_eq (tgt := 180) dX1_readLine_163 (by decide) (fun h59 => ?_) (fun h59 => ?_)
    · have T := T.1 h59
      refine zr_iconst (v := 0) dX1_readLine_180 (by decide) ?_
      exact zm_zret dX1_readLine_181 rfl (by decide) T
    · have T := T.2 h59
      refine zr_aload_n dX1_readLine_166 rfl 0 rfl ?_
      refine zm_getr (a := 220) dX1_readLine_167 f_X1_15 (by decide) (by decide) (by decide) (by decide) ?_
      refine zm_callV_b (c := 6) (b := 220) dX1_readLine_170 w_X6_passLineEnd l_X1_61 rfl (by decide) (by decide) s_X6_passLineEnd [] rfl rfl (Nat.le_of_ble_eq_true rfl) (Nat.le_of_ble_eq_true rfl) ?_
      refine zV.post T ?_
      rintro v M61 ⟨r60, rfl, T⟩
      refine ⟨r60, rfl, ?_⟩
      refine zm_ifb_eq (tgt := 180) dX1_readLine_173 (by decide) (fun h62 => ?_) (fun h62 => ?_)
      · have T := T.1 h62
        refine zr_iconst (v := 0) dX1_readLine_180 (by decide) ?_
        exact zm_zret dX1_readLine_181 rfl (by decide) T
      · have T := T.2 h62
        refine zr_iconst (v := 1) dX1_readLine_176 (by decide) ?_
        refine zr_goto (tgt := 181) dX1_readLine_177 (by decide) ?_
        exact zm_zret dX1_readLine_181 rfl (by decide) T
  by_cases h72 : (M.1 220 6) = 3
  · have T := T.2.2.2.2.2.2.2 h65 h66 h67 h68 h69 h70 h71
    refine zr_tableIn (tgt := 182) dX1_readLine_7 (by rw [h72]; decide) (by rw [h72]; decide) (by rw [h72]; rfl) (by decide) ?_
    refine zr_aload_n dX1_readLine_182 rfl 0 rfl ?_
    refine zm_getr (a := 220) dX1_readLine_183 f_X1_15 (by decide) (by decide) (by decide) (by decide) ?_
    refine zr_iconst (v := 1) dX1_readLine_186 (by decide) ?_
    refine zm_callV_b (c := 6) (b := 220) dX1_readLine_187 w_X6_fail l_X1_76 rfl (by decide) (by decide) s_X6_fail [.int 1] rfl rfl (Nat.le_of_ble_eq_true rfl) (Nat.le_of_ble_eq_true rfl) ?_
    refine zV.post T ?_
    rintro v M64 ⟨r63, rfl, T⟩
    refine ⟨r63, rfl, ?_⟩
    exact zm_zret dX1_readLine_190 rfl (bi_01 _) T
  by_cases h73 : (M.1 220 6) = 4
  · have T := T.2.2.2.2.2.2.2 h65 h66 h67 h68 h69 h70 h71
    refine zr_tableIn (tgt := 182) dX1_readLine_7 (by rw [h73]; decide) (by rw [h73]; decide) (by rw [h73]; rfl) (by decide) ?_
    refine zr_aload_n dX1_readLine_182 rfl 0 rfl ?_
    refine zm_getr (a := 220) dX1_readLine_183 f_X1_15 (by decide) (by decide) (by decide) (by decide) ?_
    refine zr_iconst (v := 1) dX1_readLine_186 (by decide) ?_
    refine zm_callV_b (c := 6) (b := 220) dX1_readLine_187 w_X6_fail l_X1_76 rfl (by decide) (by decide) s_X6_fail [.int 1] rfl rfl (Nat.le_of_ble_eq_true rfl) (Nat.le_of_ble_eq_true rfl) ?_
    refine zV.post T ?_
    rintro v M64 ⟨r63, rfl, T⟩
    refine ⟨r63, rfl, ?_⟩
    exact zm_zret dX1_readLine_190 rfl (bi_01 _) T
  by_cases h74 : (M.1 220 6) = 5
  · have T := T.2.2.2.2.2.2.2 h65 h66 h67 h68 h69 h70 h71
    refine zr_tableIn (tgt := 182) dX1_readLine_7 (by rw [h74]; decide) (by rw [h74]; decide) (by rw [h74]; rfl) (by decide) ?_
    refine zr_aload_n dX1_readLine_182 rfl 0 rfl ?_
    refine zm_getr (a := 220) dX1_readLine_183 f_X1_15 (by decide) (by decide) (by decide) (by decide) ?_
    refine zr_iconst (v := 1) dX1_readLine_186 (by decide) ?_
    refine zm_callV_b (c := 6) (b := 220) dX1_readLine_187 w_X6_fail l_X1_76 rfl (by decide) (by decide) s_X6_fail [.int 1] rfl rfl (Nat.le_of_ble_eq_true rfl) (Nat.le_of_ble_eq_true rfl) ?_
    refine zV.post T ?_
    rintro v M64 ⟨r63, rfl, T⟩
    refine ⟨r63, rfl, ?_⟩
    exact zm_zret dX1_readLine_190 rfl (bi_01 _) T
  · have T := T.2.2.2.2.2.2.2 h65 h66 h67 h68 h69 h70 h71
    refine zr_tableOut (tgt := 182) dX1_readLine_7 (z_out_0_9 h65 h66 h67 h72 h73 h74 h68 h69 h70 h71) (by decide) ?_
    refine zr_aload_n dX1_readLine_182 rfl 0 rfl ?_
    refine zm_getr (a := 220) dX1_readLine_183 f_X1_15 (by decide) (by decide) (by decide) (by decide) ?_
    refine zr_iconst (v := 1) dX1_readLine_186 (by decide) ?_
    refine zm_callV_b (c := 6) (b := 220) dX1_readLine_187 w_X6_fail l_X1_76 rfl (by decide) (by decide) s_X6_fail [.int 1] rfl rfl (Nat.le_of_ble_eq_true rfl) (Nat.le_of_ble_eq_true rfl) ?_
    refine zV.post T ?_
    rintro v M64 ⟨r63, rfl, T⟩
    refine ⟨r63, rfl, ?_⟩
    exact zm_zret dX1_readLine_190 rfl (bi_01 _) T
set_option maxRecDepth 100000 in
set_option maxHeartbeats 4000000 in
theorem t_X1_readSetting {d : Nat} {x1 : Int32} {M : zMem} {K : zK} 
    (T : (¬ (((Int32.toUInt32 (M.1 221 3) >>> (Int32.toUInt32 x1 &&& Int32.toUInt32 31)).toInt32) &&& 1) = 0 → S_X6_fail d 3 M (zB (fun r22 M23 => K (some (.int (bi r22))) M23))) ∧ ((((Int32.toUInt32 (M.1 221 3) >>> (Int32.toUInt32 x1 &&& Int32.toUInt32 31)).toInt32) &&& 1) = 0 → ((M.1 18 3) ≤ 0 → (∀ M25 : zMem, M25 = wI M 221 3 ((M.1 221 3) ||| ((1 : Int32) <<< (x1 &&& 31))) → S_X6_next d  M25 (zU (fun M28 => (¬ x1 = 2 → (¬ x1 = 0 → S_X6_seeNumber d 1 12 M28 (zI (fun r31 M32 => (¬ r31 = (-1) → S_X6_next d  M32 (zU (fun M35 => (¬ x1 = 0 → (∀ M37 : zMem, M37 = wI M35 18 1 r31 → K (some (.int 1)) M37)) ∧ (x1 = 0 → (∀ M39 : zMem, M39 = wI M35 18 0 r31 → K (some (.int 1)) M39))))) ∧ (r31 = (-1) → K (some (.int 0)) M32)))) ∧ (x1 = 0 → S_X6_seeNumber d 1 4 M28 (zI (fun r41 M42 => (¬ r41 = (-1) → S_X6_next d  M42 (zU (fun M45 => (¬ x1 = 0 → (∀ M47 : zMem, M47 = wI M45 18 1 r41 → K (some (.int 1)) M47)) ∧ (x1 = 0 → (∀ M49 : zMem, M49 = wI M45 18 0 r41 → K (some (.int 1)) M49))))) ∧ (r41 = (-1) → K (some (.int 0)) M42))))) ∧ (x1 = 2 → S_X1_readRule d  M28 (zB (fun r51 M52 => K (some (.int (bi r51))) M52))))))) ∧ (¬ ((M.1 18 3) ≤ 0) → S_X6_fail d 3 M (zB (fun r53 M54 => K (some (.int (bi r53))) M54))))) : S_X1_readSetting (d + 1) x1 M K := by
  show zV m_X1_readSetting (d + 1) 0 [(0, .ref 221), (1, .int x1)] [] M K
  refine zr_aload_n dX1_readSetting_0 rfl 0 rfl ?_
  refine zm_geti dX1_readSetting_1 f_X1_9 (by decide) (by decide) (by decide) ?_
  refine zr_iload_n dX1_readSetting_4 rfl 1 rfl ?_
  refine zr_iushr dX1_readSetting_5 ?_
  refine zr_iconst (v := 1) dX1_readSetting_6 (by decide) ?_
  refine zr_iand dX1_readSetting_7 ?_
  refine zr_if_ne (tgt := 21) dX1_readSetting_8 (by decide) (fun h21 => ?_) (fun h21 => ?_)
  · have T := T.1 h21
    refine zr_aload_n dX1_readSetting_21 rfl 0 rfl ?_
    refine zm_getr (a := 220) dX1_readSetting_22 f_X1_15 (by decide) (by decide) (by decide) (by decide) ?_
    refine zr_iconst (v := 3) dX1_readSetting_25 (by decide) ?_
    refine zm_callV_b (c := 6) (b := 220) dX1_readSetting_26 w_X6_fail l_X1_76 rfl (by decide) (by decide) s_X6_fail [.int 3] rfl rfl (Nat.le_of_ble_eq_true rfl) (Nat.le_of_ble_eq_true rfl) ?_
    refine zV.post T ?_
    rintro v M23 ⟨r22, rfl, T⟩
    refine ⟨r22, rfl, ?_⟩
    exact zm_zret dX1_readSetting_29 rfl (bi_01 _) T
  · have T := T.2 h21
    refine zr_aload_n dX1_readSetting_11 rfl 0 rfl ?_
    refine zm_getr (a := 18) dX1_readSetting_12 f_X1_25 (by decide) (by decide) (by decide) (by decide) ?_
    refine zm_geti dX1_readSetting_15 f_X1_79 (by decide) (by decide) (by decide) ?_
    refine zr_if_le (tgt := 30) dX1_readSetting_18 (by decide) (fun h24 => ?_) (fun h24 => ?_)
    · have T := T.1 h24
      refine zr_aload_n dX1_readSetting_30 rfl 0 rfl ?_
      refine zr_dup dX1_readSetting_31 rfl ?_
      refine zm_geti dX1_readSetting_32 f_X1_9 (by decide) (by decide) (by decide) ?_
      refine zr_iconst (v := 1) dX1_readSetting_35 (by decide) ?_
      refine zr_iload_n dX1_readSetting_36 rfl 1 rfl ?_
      refine zr_ishl dX1_readSetting_37 ?_
      refine zr_ior dX1_readSetting_38 ?_
      refine zn_puti dX1_readSetting_39 f_X1_9 (by decide) (by decide) (by decide) (fun M25 e26 => ?_)
      have T := T M25 e26
      refine zr_aload_n dX1_readSetting_42 rfl 0 rfl ?_
      refine zm_getr (a := 220) dX1_readSetting_43 f_X1_15 (by decide) (by decide) (by decide) (by decide) ?_
      refine zm_callV_v (c := 6) (b := 220) dX1_readSetting_46 w_X6_next l_X1_82 rfl (by decide) (by decide) s_X6_next [] rfl rfl (Nat.le_of_ble_eq_true rfl) (Nat.le_of_ble_eq_true rfl) ?_
      refine zV.post T ?_
      rintro v M28 ⟨rfl, T⟩
      refine ⟨rfl, ?_⟩
      refine zr_iload_n dX1_readSetting_49 rfl 1 rfl ?_
      refine zr_iconst (v := 2) dX1_readSetting_50 (by decide) ?_
      refine zr_icmp_ne (tgt := 59) dX1_readSetting_51 (by decide) (fun h29 => ?_) (fun h29 => ?_)
      · have T := T.1 h29
        refine zr_aload_n dX1_readSetting_59 rfl 0 rfl ?_
        refine zm_getr (a := 220) dX1_readSetting_60 f_X1_15 (by decide) (by decide) (by decide) (by decide) ?_
        refine zr_iconst (v := 1) dX1_readSetting_63 (by decide) ?_
        refine zr_iload_n dX1_readSetting_64 rfl 1 rfl ?_
        refine zr_if_ne (tgt := 72) dX1_readSetting_65 (by decide) (fun h30 => ?_) (fun h30 => ?_)
        · have T := T.1 h30
          refine zr_bipush (v := 12) dX1_readSetting_72 (by decide) ?_
          refine zm_callV_i (c := 6) (b := 220) dX1_readSetting_74 w_X6_seeNumber l_X1_88 rfl (by decide) (by decide) s_X6_seeNumber [.int 1, .int 12] rfl rfl (Nat.le_of_ble_eq_true rfl) (Nat.le_of_ble_eq_true rfl) ?_
          refine zV.post T ?_
          rintro v M32 ⟨r31, rfl, T⟩
          refine ⟨r31, rfl, ?_⟩
          refine zr_istore_n dX1_readSetting_77 rfl (by decide) (L2 := [(2, .int r31), (0, .ref 221), (1, .int x1)]) rfl ?_
          refine zr_iload_n dX1_readSetting_78 rfl 0 rfl ?_
          refine zr_iconst (v := (-1)) dX1_readSetting_79 (by decide) ?_
          refine zr_icmp_ne (tgt := 85) dX1_readSetting_80 (by decide) (fun h33 => ?_) (fun h33 => ?_)
          · have T := T.1 h33
            refine zr_aload_n dX1_readSetting_85 rfl 1 rfl ?_
            refine zm_getr (a := 220) dX1_readSetting_86 f_X1_15 (by decide) (by decide) (by decide) (by decide) ?_
            refine zm_callV_v (c := 6) (b := 220) dX1_readSetting_89 w_X6_next l_X1_82 rfl (by decide) (by decide) s_X6_next [] rfl rfl (Nat.le_of_ble_eq_true rfl) (Nat.le_of_ble_eq_true rfl) ?_
            refine zV.post T ?_
            rintro v M35 ⟨rfl, T⟩
            refine ⟨rfl, ?_⟩
            refine zr_iload_n dX1_readSetting_92 rfl 2 rfl ?_
            refine zr_if_ne (tgt := 107) dX1_readSetting_93 (by decide) (fun h36 => ?_) (fun h36 => ?_)
            · have T := T.1 h36
              refine zr_aload_n dX1_readSetting_107 rfl 1 rfl ?_
              refine zm_getr (a := 18) dX1_readSetting_108 f_X1_25 (by decide) (by decide) (by decide) (by decide) ?_
              refine zr_iload_n dX1_readSetting_111 rfl 0 rfl ?_
              refine zn_puti dX1_readSetting_112 f_X1_95 (by decide) (by decide) (by decide) (fun M37 e38 => ?_)
              have T := T M37 e38
              refine zr_iconst (v := 1) dX1_readSetting_115 (by decide) ?_
              exact zm_zret dX1_readSetting_116 rfl (by decide) T
            · have T := T.2 h36
              refine zr_aload_n dX1_readSetting_96 rfl 1 rfl ?_
              refine zm_getr (a := 18) dX1_readSetting_97 f_X1_25 (by decide) (by decide) (by decide) (by decide) ?_
              refine zr_iload_n dX1_readSetting_100 rfl 0 rfl ?_
              refine zn_puti dX1_readSetting_101 f_X1_92 (by decide) (by decide) (by decide) (fun M39 e40 => ?_)
              have T := T M39 e40
              refine zr_goto (tgt := 115) dX1_readSetting_104 (by decide) ?_
              refine zr_iconst (v := 1) dX1_readSetting_115 (by decide) ?_
              exact zm_zret dX1_readSetting_116 rfl (by decide) T
          · have T := T.2 h33
            refine zr_iconst (v := 0) dX1_readSetting_83 (by decide) ?_
            exact zm_zret dX1_readSetting_84 rfl (by decide) T
        · have T := T.2 h30
          refine zr_iconst (v := 4) dX1_readSetting_68 (by decide) ?_
          refine zr_goto (tgt := 74) dX1_readSetting_69 (by decide) ?_
          refine zm_callV_i (c := 6) (b := 220) dX1_readSetting_74 w_X6_seeNumber l_X1_88 rfl (by decide) (by decide) s_X6_seeNumber [.int 1, .int 4] rfl rfl (Nat.le_of_ble_eq_true rfl) (Nat.le_of_ble_eq_true rfl) ?_
          refine zV.post T ?_
          rintro v M42 ⟨r41, rfl, T⟩
          refine ⟨r41, rfl, ?_⟩
          refine zr_istore_n dX1_readSetting_77 rfl (by decide) (L2 := [(2, .int r41), (0, .ref 221), (1, .int x1)]) rfl ?_
          refine zr_iload_n dX1_readSetting_78 rfl 0 rfl ?_
          refine zr_iconst (v := (-1)) dX1_readSetting_79 (by decide) ?_
          refine zr_icmp_ne (tgt := 85) dX1_readSetting_80 (by decide) (fun h43 => ?_) (fun h43 => ?_)
          · have T := T.1 h43
            refine zr_aload_n dX1_readSetting_85 rfl 1 rfl ?_
            refine zm_getr (a := 220) dX1_readSetting_86 f_X1_15 (by decide) (by decide) (by decide) (by decide) ?_
            refine zm_callV_v (c := 6) (b := 220) dX1_readSetting_89 w_X6_next l_X1_82 rfl (by decide) (by decide) s_X6_next [] rfl rfl (Nat.le_of_ble_eq_true rfl) (Nat.le_of_ble_eq_true rfl) ?_
            refine zV.post T ?_
            rintro v M45 ⟨rfl, T⟩
            refine ⟨rfl, ?_⟩
            refine zr_iload_n dX1_readSetting_92 rfl 2 rfl ?_
            refine zr_if_ne (tgt := 107) dX1_readSetting_93 (by decide) (fun h46 => ?_) (fun h46 => ?_)
            · have T := T.1 h46
              refine zr_aload_n dX1_readSetting_107 rfl 1 rfl ?_
              refine zm_getr (a := 18) dX1_readSetting_108 f_X1_25 (by decide) (by decide) (by decide) (by decide) ?_
              refine zr_iload_n dX1_readSetting_111 rfl 0 rfl ?_
              refine zn_puti dX1_readSetting_112 f_X1_95 (by decide) (by decide) (by decide) (fun M47 e48 => ?_)
              have T := T M47 e48
              refine zr_iconst (v := 1) dX1_readSetting_115 (by decide) ?_
              exact zm_zret dX1_readSetting_116 rfl (by decide) T
            · have T := T.2 h46
              refine zr_aload_n dX1_readSetting_96 rfl 1 rfl ?_
              refine zm_getr (a := 18) dX1_readSetting_97 f_X1_25 (by decide) (by decide) (by decide) (by decide) ?_
              refine zr_iload_n dX1_readSetting_100 rfl 0 rfl ?_
              refine zn_puti dX1_readSetting_101 f_X1_92 (by decide) (by decide) (by decide) (fun M49 e50 => ?_)
              have T := T M49 e50
              refine zr_goto (tgt := 115) dX1_readSetting_104 (by decide) ?_
              refine zr_iconst (v := 1) dX1_readSetting_115 (by decide) ?_
              exact zm_zret dX1_readSetting_116 rfl (by decide) T
          · have T := T.2 h43
            refine zr_iconst (v := 0) dX1_readSetting_83 (by decide) ?_
            exact zm_zret dX1_readSetting_84 rfl (by decide) T
      · have T := T.2 h29
        refine zr_aload_n dX1_readSetting_54 rfl 0 rfl ?_
        refine zm_callV_b (c := 1) (b := 221) dX1_readSetting_55 w_X1_readRule l_X1_85 rfl (by decide) (by decide) s_X1_readRule [] rfl rfl (Nat.le_of_ble_eq_true rfl) (Nat.le_of_ble_eq_true rfl) ?_
        refine zV.post T ?_
        rintro v M52 ⟨r51, rfl, T⟩
        refine ⟨r51, rfl, ?_⟩
        exact zm_zret dX1_readSetting_58 rfl (bi_01 _) T
    · have T := T.2 h24
      refine zr_aload_n dX1_readSetting_21 rfl 0 rfl ?_
      refine zm_getr (a := 220) dX1_readSetting_22 f_X1_15 (by decide) (by decide) (by decide) (by decide) ?_
      refine zr_iconst (v := 3) dX1_readSetting_25 (by decide) ?_
      refine zm_callV_b (c := 6) (b := 220) dX1_readSetting_26 w_X6_fail l_X1_76 rfl (by decide) (by decide) s_X6_fail [.int 3] rfl rfl (Nat.le_of_ble_eq_true rfl) (Nat.le_of_ble_eq_true rfl) ?_
      refine zV.post T ?_
      rintro v M54 ⟨r53, rfl, T⟩
      refine ⟨r53, rfl, ?_⟩
      exact zm_zret dX1_readSetting_29 rfl (bi_01 _) T
set_option maxRecDepth 100000 in
set_option maxHeartbeats 4000000 in
theorem t_X6_fail {d : Nat} {x1 : Int32} {M : zMem} {K : zK} 
    (T : (∀ M21 : zMem, M21 = wI M 220 11 x1 → (∀ M23 : zMem, M23 = wI M21 220 12 (M21.1 220 5) → K (some (.int 0)) M23))) : S_X6_fail d x1 M K := by
  show zV m_X6_fail d 0 [(0, .ref 220), (1, .int x1)] [] M K
  refine zr_aload_n dX6_fail_0 rfl 0 rfl ?_
  refine zr_iload_n dX6_fail_1 rfl 1 rfl ?_
  refine zn_puti dX6_fail_2 f_X6_43 (by decide) (by decide) (by decide) (fun M21 e22 => ?_)
  have T := T M21 e22
  refine zr_aload_n dX6_fail_5 rfl 0 rfl ?_
  refine zr_aload_n dX6_fail_6 rfl 0 rfl ?_
  refine zm_geti dX6_fail_7 f_X6_24 (by decide) (by decide) (by decide) ?_
  refine zn_puti dX6_fail_10 f_X6_46 (by decide) (by decide) (by decide) (fun M23 e24 => ?_)
  have T := T M23 e24
  refine zr_iconst (v := 0) dX6_fail_13 (by decide) ?_
  exact zm_zret dX6_fail_14 rfl (by decide) T
set_option maxRecDepth 100000 in
set_option maxHeartbeats 4000000 in
theorem t_X1_readRule {d : Nat}  {M : zMem} {K : zK} 
    (T : ((M.1 220 6) < 3 → S_X6_fail d 1 M (zB (fun r22 M23 => K (some (.int (bi r22))) M23))) ∧ (¬ ((M.1 220 6) < 3) → ((M.1 220 6) ≤ 5 → (∀ M25 : zMem, M25 = wI M 18 2 ((M.1 220 6) - 3) → S_X6_next d  M25 (zU (fun M28 => K (some (.int 1)) M28)))) ∧ (¬ ((M.1 220 6) ≤ 5) → S_X6_fail d 1 M (zB (fun r29 M30 => K (some (.int (bi r29))) M30))))) : S_X1_readRule (d + 1)  M K := by
  show zV m_X1_readRule (d + 1) 0 [(0, .ref 221)] [] M K
  refine zr_aload_n dX1_readRule_0 rfl 0 rfl ?_
  refine zm_getr (a := 220) dX1_readRule_1 f_X1_15 (by decide) (by decide) (by decide) (by decide) ?_
  refine zm_geti dX1_readRule_4 f_X1_54 (by decide) (by decide) (by decide) ?_
  refine zr_iconst (v := 3) dX1_readRule_7 (by decide) ?_
  refine zr_icmp_lt (tgt := 22) dX1_readRule_8 (by decide) (fun h21 => ?_) (fun h21 => ?_)
  · have T := T.1 h21
    refine zr_aload_n dX1_readRule_22 rfl 0 rfl ?_
    refine zm_getr (a := 220) dX1_readRule_23 f_X1_15 (by decide) (by decide) (by decide) (by decide) ?_
    refine zr_iconst (v := 1) dX1_readRule_26 (by decide) ?_
    refine zm_callV_b (c := 6) (b := 220) dX1_readRule_27 w_X6_fail l_X1_76 rfl (by decide) (by decide) s_X6_fail [.int 1] rfl rfl (Nat.le_of_ble_eq_true rfl) (Nat.le_of_ble_eq_true rfl) ?_
    refine zV.post T ?_
    rintro v M23 ⟨r22, rfl, T⟩
    refine ⟨r22, rfl, ?_⟩
    exact zm_zret dX1_readRule_30 rfl (bi_01 _) T
  · have T := T.2 h21
    refine zr_aload_n dX1_readRule_11 rfl 0 rfl ?_
    refine zm_getr (a := 220) dX1_readRule_12 f_X1_15 (by decide) (by decide) (by decide) (by decide) ?_
    refine zm_geti dX1_readRule_15 f_X1_54 (by decide) (by decide) (by decide) ?_
    refine zr_iconst (v := 5) dX1_readRule_18 (by decide) ?_
    refine zr_icmp_le (tgt := 31) dX1_readRule_19 (by decide) (fun h24 => ?_) (fun h24 => ?_)
    · have T := T.1 h24
      refine zr_aload_n dX1_readRule_31 rfl 0 rfl ?_
      refine zm_getr (a := 18) dX1_readRule_32 f_X1_25 (by decide) (by decide) (by decide) (by decide) ?_
      refine zr_aload_n dX1_readRule_35 rfl 0 rfl ?_
      refine zm_getr (a := 220) dX1_readRule_36 f_X1_15 (by decide) (by decide) (by decide) (by decide) ?_
      refine zm_geti dX1_readRule_39 f_X1_54 (by decide) (by decide) (by decide) ?_
      refine zr_iconst (v := 3) dX1_readRule_42 (by decide) ?_
      refine zr_isub dX1_readRule_43 ?_
      refine zn_puti dX1_readRule_44 f_X1_98 (by decide) (by decide) (by decide) (fun M25 e26 => ?_)
      have T := T M25 e26
      refine zr_aload_n dX1_readRule_47 rfl 0 rfl ?_
      refine zm_getr (a := 220) dX1_readRule_48 f_X1_15 (by decide) (by decide) (by decide) (by decide) ?_
      refine zm_callV_v (c := 6) (b := 220) dX1_readRule_51 w_X6_next l_X1_82 rfl (by decide) (by decide) s_X6_next [] rfl rfl (Nat.le_of_ble_eq_true rfl) (Nat.le_of_ble_eq_true rfl) ?_
      refine zV.post T ?_
      rintro v M28 ⟨rfl, T⟩
      refine ⟨rfl, ?_⟩
      refine zr_iconst (v := 1) dX1_readRule_54 (by decide) ?_
      exact zm_zret dX1_readRule_55 rfl (by decide) T
    · have T := T.2 h24
      refine zr_aload_n dX1_readRule_22 rfl 0 rfl ?_
      refine zm_getr (a := 220) dX1_readRule_23 f_X1_15 (by decide) (by decide) (by decide) (by decide) ?_
      refine zr_iconst (v := 1) dX1_readRule_26 (by decide) ?_
      refine zm_callV_b (c := 6) (b := 220) dX1_readRule_27 w_X6_fail l_X1_76 rfl (by decide) (by decide) s_X6_fail [.int 1] rfl rfl (Nat.le_of_ble_eq_true rfl) (Nat.le_of_ble_eq_true rfl) ?_
      refine zV.post T ?_
      rintro v M30 ⟨r29, rfl, T⟩
      refine ⟨r29, rfl, ?_⟩
      exact zm_zret dX1_readRule_30 rfl (bi_01 _) T
set_option maxRecDepth 100000 in
set_option maxHeartbeats 4000000 in
theorem t_X6_seeNumber {d : Nat} {x1 : Int32} {x2 : Int32} {M : zMem} {K : zK} 
    (T : ((M.1 220 4) = 4 → ((M.1 220 8) < x1 → S_X6_fail d 2 M (zB (fun r23 M24 => K (some (.int (-1))) M24))) ∧ (¬ ((M.1 220 8) < x1) → ((M.1 220 8) ≤ x2 → K (some (.int (M.1 220 8))) M) ∧ (¬ ((M.1 220 8) ≤ x2) → S_X6_fail d 2 M (zB (fun r26 M27 => K (some (.int (-1))) M27))))) ∧ (¬ ((M.1 220 4) = 4) → S_X6_fail d 1 M (zB (fun r28 M29 => K (some (.int (-1))) M29)))) : S_X6_seeNumber (d + 1) x1 x2 M K := by
  show zV m_X6_seeNumber (d + 1) 0 [(0, .ref 220), (1, .int x1), (2, .int x2)] [] M K
  refine zr_aload_n dX6_seeNumber_0 rfl 0 rfl ?_
  refine zm_geti dX6_seeNumber_1 f_X6_21 (by decide) (by decide) (by decide) ?_
  refine zr_iconst (v := 4) dX6_seeNumber_4 (by decide) ?_
  refine zr_icmp_eq (tgt := 16) dX6_seeNumber_5 (by decide) (fun h21 => ?_) (fun h21 => ?_)
  · have T := T.1 h21
    refine zr_aload_n dX6_seeNumber_16 rfl 0 rfl ?_
    refine zm_geti dX6_seeNumber_17 f_X6_34 (by decide) (by decide) (by decide) ?_
    refine zr_iload_n dX6_seeNumber_20 rfl 1 rfl ?_
    refine zr_icmp_lt (tgt := 32) dX6_seeNumber_21 (by decide) (fun h22 => ?_) (fun h22 => ?_)
    · have T := T.1 h22
      refine zr_aload_n dX6_seeNumber_32 rfl 0 rfl ?_
      refine zr_iconst (v := 2) dX6_seeNumber_33 (by decide) ?_
      refine zm_callV_b (c := 6) (b := 220) dX6_seeNumber_34 w_X6_fail l_X6_84 rfl (by decide) (by decide) s_X6_fail [.int 2] rfl rfl (Nat.le_of_ble_eq_true rfl) (Nat.le_of_ble_eq_true rfl) ?_
      refine zV.post T ?_
      rintro v M24 ⟨r23, rfl, T⟩
      refine ⟨r23, rfl, ?_⟩
      refine zr_pop dX6_seeNumber_37 rfl ?_
      refine zr_iconst (v := (-1)) dX6_seeNumber_38 (by decide) ?_
      exact zm_iret dX6_seeNumber_39 rfl T
    · have T := T.2 h22
      refine zr_aload_n dX6_seeNumber_24 rfl 0 rfl ?_
      refine zm_geti dX6_seeNumber_25 f_X6_34 (by decide) (by decide) (by decide) ?_
      refine zr_iload_n dX6_seeNumber_28 rfl 2 rfl ?_
      refine zr_icmp_le (tgt := 40) dX6_seeNumber_29 (by decide) (fun h25 => ?_) (fun h25 => ?_)
      · have T := T.1 h25
        refine zr_aload_n dX6_seeNumber_40 rfl 0 rfl ?_
        refine zm_geti dX6_seeNumber_41 f_X6_34 (by decide) (by decide) (by decide) ?_
        exact zm_iret dX6_seeNumber_44 rfl T
      · have T := T.2 h25
        refine zr_aload_n dX6_seeNumber_32 rfl 0 rfl ?_
        refine zr_iconst (v := 2) dX6_seeNumber_33 (by decide) ?_
        refine zm_callV_b (c := 6) (b := 220) dX6_seeNumber_34 w_X6_fail l_X6_84 rfl (by decide) (by decide) s_X6_fail [.int 2] rfl rfl (Nat.le_of_ble_eq_true rfl) (Nat.le_of_ble_eq_true rfl) ?_
        refine zV.post T ?_
        rintro v M27 ⟨r26, rfl, T⟩
        refine ⟨r26, rfl, ?_⟩
        refine zr_pop dX6_seeNumber_37 rfl ?_
        refine zr_iconst (v := (-1)) dX6_seeNumber_38 (by decide) ?_
        exact zm_iret dX6_seeNumber_39 rfl T
  · have T := T.2 h21
    refine zr_aload_n dX6_seeNumber_8 rfl 0 rfl ?_
    refine zr_iconst (v := 1) dX6_seeNumber_9 (by decide) ?_
    refine zm_callV_b (c := 6) (b := 220) dX6_seeNumber_10 w_X6_fail l_X6_84 rfl (by decide) (by decide) s_X6_fail [.int 1] rfl rfl (Nat.le_of_ble_eq_true rfl) (Nat.le_of_ble_eq_true rfl) ?_
    refine zV.post T ?_
    rintro v M29 ⟨r28, rfl, T⟩
    refine ⟨r28, rfl, ?_⟩
    refine zr_pop dX6_seeNumber_13 rfl ?_
    refine zr_iconst (v := (-1)) dX6_seeNumber_14 (by decide) ?_
    exact zm_iret dX6_seeNumber_15 rfl T
set_option maxRecDepth 100000 in
set_option maxHeartbeats 4000000 in
theorem t_X6_passLineEnd {d : Nat}  {M : zMem} {K : zK} 
    (T : ((M.1 220 9) = 59 → (∀ M22 : zMem, M22 = wI M 220 10 ((M.1 220 10) + 1) → S_X6_next d  M22 (zU (fun M25 => K (some (.int 1)) M25)))) ∧ (¬ ((M.1 220 9) = 59) → S_X6_fail d 1 M (zB (fun r26 M27 => K (some (.int (bi r26))) M27)))) : S_X6_passLineEnd (d + 1)  M K := by
  show zV m_X6_passLineEnd (d + 1) 0 [(0, .ref 220)] [] M K
  refine zr_aload_n dX6_passLineEnd_0 rfl 0 rfl ?_
  refine zm_geti dX6_passLineEnd_1 f_X6_37 (by decide) (by decide) (by decide) ?_
  refine zr_bipush (v := 59) dX6_passLineEnd_4 (by decide) ?_
  refine zr_icmp_eq (tgt := 15) dX6_passLineEnd_6 (by decide) (fun h21 => ?_) (fun h21 => ?_)
  · have T := T.1 h21
    refine zr_aload_n dX6_passLineEnd_15 rfl 0 rfl ?_
    refine zr_dup dX6_passLineEnd_16 rfl ?_
    refine zm_geti dX6_passLineEnd_17 f_X6_40 (by decide) (by decide) (by decide) ?_
    refine zr_iconst (v := 1) dX6_passLineEnd_20 (by decide) ?_
    refine zr_iadd dX6_passLineEnd_21 ?_
    refine zn_puti dX6_passLineEnd_22 f_X6_40 (by decide) (by decide) (by decide) (fun M22 e23 => ?_)
    have T := T M22 e23
    refine zr_aload_n dX6_passLineEnd_25 rfl 0 rfl ?_
    refine zm_callV_v (c := 6) (b := 220) dX6_passLineEnd_26 w_X6_next l_X6_53 rfl (by decide) (by decide) s_X6_next [] rfl rfl (Nat.le_of_ble_eq_true rfl) (Nat.le_of_ble_eq_true rfl) ?_
    refine zV.post T ?_
    rintro v M25 ⟨rfl, T⟩
    refine ⟨rfl, ?_⟩
    refine zr_iconst (v := 1) dX6_passLineEnd_29 (by decide) ?_
    exact zm_zret dX6_passLineEnd_30 rfl (by decide) T
  · have T := T.2 h21
    refine zr_aload_n dX6_passLineEnd_9 rfl 0 rfl ?_
    refine zr_iconst (v := 1) dX6_passLineEnd_10 (by decide) ?_
    refine zm_callV_b (c := 6) (b := 220) dX6_passLineEnd_11 w_X6_fail l_X6_84 rfl (by decide) (by decide) s_X6_fail [.int 1] rfl rfl (Nat.le_of_ble_eq_true rfl) (Nat.le_of_ble_eq_true rfl) ?_
    refine zV.post T ?_
    rintro v M27 ⟨r26, rfl, T⟩
    refine ⟨r26, rfl, ?_⟩
    exact zm_zret dX6_passLineEnd_14 rfl (bi_01 _) T
set_option maxRecDepth 100000 in
set_option maxHeartbeats 4000000 in
theorem t_X1_readKey {d : Nat}  {M : zMem} {K : zK} 
    (T : ((M.1 18 3) < 24 → S_X6_next d  M (zU (fun M23 => S_X1_isNewName d  M23 (zB (fun r24 M25 => (r24 = true → vp_in (M25.1 18 3) 24 ∧ ((∀ M28 : zMem, M28 = wL M25 19 (Int32.toNatClampNeg (M25.1 18 3)) (M25.2 220 7) → (∀ M30 : zMem, M30 = wI M28 18 3 ((M28.1 18 3) + 1) → S_X6_next d  M30 (zU (fun M33 => K (some (.int 1)) M33)))))) ∧ (r24 = false → K (some (.int 0)) M25)))))) ∧ (¬ ((M.1 18 3) < 24) → S_X6_fail d 4 M (zB (fun r34 M35 => K (some (.int (bi r34))) M35)))) : S_X1_readKey (d + 1)  M K := by
  show zV m_X1_readKey (d + 1) 0 [(0, .ref 221)] [] M K
  refine zr_aload_n dX1_readKey_0 rfl 0 rfl ?_
  refine zm_getr (a := 18) dX1_readKey_1 f_X1_25 (by decide) (by decide) (by decide) (by decide) ?_
  refine zm_geti dX1_readKey_4 f_X1_79 (by decide) (by decide) (by decide) ?_
  refine zr_bipush (v := 24) dX1_readKey_7 (by decide) ?_
  refine zr_icmp_lt (tgt := 21) dX1_readKey_9 (by decide) (fun h21 => ?_) (fun h21 => ?_)
  · have T := T.1 h21
    refine zr_aload_n dX1_readKey_21 rfl 0 rfl ?_
    refine zm_getr (a := 220) dX1_readKey_22 f_X1_15 (by decide) (by decide) (by decide) (by decide) ?_
    refine zm_callV_v (c := 6) (b := 220) dX1_readKey_25 w_X6_next l_X1_82 rfl (by decide) (by decide) s_X6_next [] rfl rfl (Nat.le_of_ble_eq_true rfl) (Nat.le_of_ble_eq_true rfl) ?_
    refine zV.post T ?_
    rintro v M23 ⟨rfl, T⟩
    refine ⟨rfl, ?_⟩
    refine zr_aload_n dX1_readKey_28 rfl 0 rfl ?_
    refine zm_callV_b (c := 1) (b := 221) dX1_readKey_29 w_X1_isNewName l_X1_101 rfl (by decide) (by decide) s_X1_isNewName [] rfl rfl (Nat.le_of_ble_eq_true rfl) (Nat.le_of_ble_eq_true rfl) ?_
    refine zV.post T ?_
    rintro v M25 ⟨r24, rfl, T⟩
    refine ⟨r24, rfl, ?_⟩
    refine zm_ifb_ne (tgt := 37) dX1_readKey_32 (by decide) (fun h26 => ?_) (fun h26 => ?_)
    · have T := T.1 h26
      refine zr_aload_n dX1_readKey_37 rfl 0 rfl ?_
      refine zm_getr (a := 18) dX1_readKey_38 f_X1_25 (by decide) (by decide) (by decide) (by decide) ?_
      refine zm_getr (a := 19) dX1_readKey_41 f_X1_104 (by decide) (by decide) (by decide) (by decide) ?_
      refine zr_aload_n dX1_readKey_44 rfl 0 rfl ?_
      refine zm_getr (a := 18) dX1_readKey_45 f_X1_25 (by decide) (by decide) (by decide) (by decide) ?_
      refine zm_geti dX1_readKey_48 f_X1_79 (by decide) (by decide) (by decide) ?_
      refine zr_aload_n dX1_readKey_51 rfl 0 rfl ?_
      refine zm_getr (a := 220) dX1_readKey_52 f_X1_15 (by decide) (by decide) (by decide) (by decide) ?_
      refine zm_getl dX1_readKey_55 f_X1_108 (by decide) (by decide) (by decide) ?_
      obtain ⟨hq27, T⟩ := T
      refine zn_last (n := 24) (o := (Int32.toNatClampNeg (M25.1 18 3))) dX1_readKey_58 (by decide) (by decide) hq27 rfl (fun M28 e29 => ?_)
      have T := T M28 e29
      refine zr_aload_n dX1_readKey_59 rfl 0 rfl ?_
      refine zm_getr (a := 18) dX1_readKey_60 f_X1_25 (by decide) (by decide) (by decide) (by decide) ?_
      refine zr_dup dX1_readKey_63 rfl ?_
      refine zm_geti dX1_readKey_64 f_X1_79 (by decide) (by decide) (by decide) ?_
      refine zr_iconst (v := 1) dX1_readKey_67 (by decide) ?_
      refine zr_iadd dX1_readKey_68 ?_
      refine zn_puti dX1_readKey_69 f_X1_79 (by decide) (by decide) (by decide) (fun M30 e31 => ?_)
      have T := T M30 e31
      refine zr_aload_n dX1_readKey_72 rfl 0 rfl ?_
      refine zm_getr (a := 220) dX1_readKey_73 f_X1_15 (by decide) (by decide) (by decide) (by decide) ?_
      refine zm_callV_v (c := 6) (b := 220) dX1_readKey_76 w_X6_next l_X1_82 rfl (by decide) (by decide) s_X6_next [] rfl rfl (Nat.le_of_ble_eq_true rfl) (Nat.le_of_ble_eq_true rfl) ?_
      refine zV.post T ?_
      rintro v M33 ⟨rfl, T⟩
      refine ⟨rfl, ?_⟩
      refine zr_iconst (v := 1) dX1_readKey_79 (by decide) ?_
      exact zm_zret dX1_readKey_80 rfl (by decide) T
    · have T := T.2 h26
      refine zr_iconst (v := 0) dX1_readKey_35 (by decide) ?_
      exact zm_zret dX1_readKey_36 rfl (by decide) T
  · have T := T.2 h21
    refine zr_aload_n dX1_readKey_12 rfl 0 rfl ?_
    refine zm_getr (a := 220) dX1_readKey_13 f_X1_15 (by decide) (by decide) (by decide) (by decide) ?_
    refine zr_iconst (v := 4) dX1_readKey_16 (by decide) ?_
    refine zm_callV_b (c := 6) (b := 220) dX1_readKey_17 w_X6_fail l_X1_76 rfl (by decide) (by decide) s_X6_fail [.int 4] rfl rfl (Nat.le_of_ble_eq_true rfl) (Nat.le_of_ble_eq_true rfl) ?_
    refine zV.post T ?_
    rintro v M35 ⟨r34, rfl, T⟩
    refine ⟨r34, rfl, ?_⟩
    exact zm_zret dX1_readKey_20 rfl (bi_01 _) T
set_option maxRecDepth 100000 in
set_option maxHeartbeats 4000000 in
theorem t_X1_isNewName {d : Nat}  {M : zMem} {K : zK} 
    (T : ((M.1 220 4) = 3 → S_X5_isTold d 18 (M.2 220 7) M (zB (fun r22 M23 => (r22 = false → K (some (.int 1)) M23) ∧ (r22 = true → S_X6_fail d 3 M23 (zB (fun r25 M26 => (r25 = false → K (some (.int 0)) M26) ∧ (r25 = true → K (some (.int 1)) M26))))))) ∧ (¬ ((M.1 220 4) = 3) → S_X6_fail d 1 M (zB (fun r28 M29 => K (some (.int (bi r28))) M29)))) : S_X1_isNewName (d + 1)  M K := by
  show zV m_X1_isNewName (d + 1) 0 [(0, .ref 221)] [] M K
  refine zr_aload_n dX1_isNewName_0 rfl 0 rfl ?_
  refine zm_getr (a := 220) dX1_isNewName_1 f_X1_15 (by decide) (by decide) (by decide) (by decide) ?_
  refine zm_geti dX1_isNewName_4 f_X1_39 (by decide) (by decide) (by decide) ?_
  refine zr_iconst (v := 3) dX1_isNewName_7 (by decide) ?_
  refine zr_icmp_eq (tgt := 20) dX1_isNewName_8 (by decide) (fun h21 => ?_) (fun h21 => ?_)
  · have T := T.1 h21
    refine zr_aload_n dX1_isNewName_20 rfl 0 rfl ?_
    refine zm_getr (a := 18) dX1_isNewName_21 f_X1_25 (by decide) (by decide) (by decide) (by decide) ?_
    refine zr_aload_n dX1_isNewName_24 rfl 0 rfl ?_
    refine zm_getr (a := 220) dX1_isNewName_25 f_X1_15 (by decide) (by decide) (by decide) (by decide) ?_
    refine zm_getl dX1_isNewName_28 f_X1_108 (by decide) (by decide) (by decide) ?_
    refine zm_callV_b (c := 5) (b := 18) dX1_isNewName_31 w_X5_isTold l_X1_118 rfl (by decide) (by decide) s_X5_isTold [.long (M.2 220 7)] rfl rfl (Nat.le_of_ble_eq_true rfl) (Nat.le_of_ble_eq_true rfl) ?_
    refine zV.post T ?_
    rintro v M23 ⟨r22, rfl, T⟩
    refine ⟨r22, rfl, ?_⟩
    refine zm_ifb_eq (tgt := 48) dX1_isNewName_34 (by decide) (fun h24 => ?_) (fun h24 => ?_)
    · have T := T.1 h24
      refine zr_iconst (v := 1) dX1_isNewName_48 (by decide) ?_
      refine zr_goto (tgt := 53) dX1_isNewName_49 (by decide) ?_
      exact zm_zret dX1_isNewName_53 rfl (by decide) T
    · have T := T.2 h24
      refine zr_aload_n dX1_isNewName_37 rfl 0 rfl ?_
      refine zm_getr (a := 220) dX1_isNewName_38 f_X1_15 (by decide) (by decide) (by decide) (by decide) ?_
      refine zr_iconst (v := 3) dX1_isNewName_41 (by decide) ?_
      refine zm_callV_b (c := 6) (b := 220) dX1_isNewName_42 w_X6_fail l_X1_76 rfl (by decide) (by decide) s_X6_fail [.int 3] rfl rfl (Nat.le_of_ble_eq_true rfl) (Nat.le_of_ble_eq_true rfl) ?_
      refine zV.post T ?_
      rintro v M26 ⟨r25, rfl, T⟩
      refine ⟨r25, rfl, ?_⟩
      refine zm_ifb_eq (tgt := 52) dX1_isNewName_45 (by decide) (fun h27 => ?_) (fun h27 => ?_)
      · have T := T.1 h27
        refine zr_iconst (v := 0) dX1_isNewName_52 (by decide) ?_
        exact zm_zret dX1_isNewName_53 rfl (by decide) T
      · have T := T.2 h27
        refine zr_iconst (v := 1) dX1_isNewName_48 (by decide) ?_
        refine zr_goto (tgt := 53) dX1_isNewName_49 (by decide) ?_
        exact zm_zret dX1_isNewName_53 rfl (by decide) T
  · have T := T.2 h21
    refine zr_aload_n dX1_isNewName_11 rfl 0 rfl ?_
    refine zm_getr (a := 220) dX1_isNewName_12 f_X1_15 (by decide) (by decide) (by decide) (by decide) ?_
    refine zr_iconst (v := 1) dX1_isNewName_15 (by decide) ?_
    refine zm_callV_b (c := 6) (b := 220) dX1_isNewName_16 w_X6_fail l_X1_76 rfl (by decide) (by decide) s_X6_fail [.int 1] rfl rfl (Nat.le_of_ble_eq_true rfl) (Nat.le_of_ble_eq_true rfl) ?_
    refine zV.post T ?_
    rintro v M29 ⟨r28, rfl, T⟩
    refine ⟨r28, rfl, ?_⟩
    exact zm_zret dX1_isNewName_19 rfl (bi_01 _) T
set_option maxRecDepth 100000 in
set_option maxHeartbeats 4000000 in
theorem t_X1_readPeer {d : Nat}  {M : zMem} {K : zK} 
    (T : ((M.1 18 4) < 4 → S_X6_next d  M (zU (fun M23 => S_X1_isNewName d  M23 (zB (fun r24 M25 => (r24 = true → vp_in (M25.1 18 4) 4 ∧ ((∀ M28 : zMem, M28 = wL M25 20 (Int32.toNatClampNeg (M25.1 18 4)) (M25.2 220 7) → (∀ M30 : zMem, M30 = wI M28 18 4 ((M28.1 18 4) + 1) → S_X6_next d  M30 (zU (fun M33 => K (some (.int 1)) M33)))))) ∧ (r24 = false → K (some (.int 0)) M25)))))) ∧ (¬ ((M.1 18 4) < 4) → S_X6_fail d 4 M (zB (fun r34 M35 => K (some (.int (bi r34))) M35)))) : S_X1_readPeer (d + 1)  M K := by
  show zV m_X1_readPeer (d + 1) 0 [(0, .ref 221)] [] M K
  refine zr_aload_n dX1_readPeer_0 rfl 0 rfl ?_
  refine zm_getr (a := 18) dX1_readPeer_1 f_X1_25 (by decide) (by decide) (by decide) (by decide) ?_
  refine zm_geti dX1_readPeer_4 f_X1_112 (by decide) (by decide) (by decide) ?_
  refine zr_iconst (v := 4) dX1_readPeer_7 (by decide) ?_
  refine zr_icmp_lt (tgt := 20) dX1_readPeer_8 (by decide) (fun h21 => ?_) (fun h21 => ?_)
  · have T := T.1 h21
    refine zr_aload_n dX1_readPeer_20 rfl 0 rfl ?_
    refine zm_getr (a := 220) dX1_readPeer_21 f_X1_15 (by decide) (by decide) (by decide) (by decide) ?_
    refine zm_callV_v (c := 6) (b := 220) dX1_readPeer_24 w_X6_next l_X1_82 rfl (by decide) (by decide) s_X6_next [] rfl rfl (Nat.le_of_ble_eq_true rfl) (Nat.le_of_ble_eq_true rfl) ?_
    refine zV.post T ?_
    rintro v M23 ⟨rfl, T⟩
    refine ⟨rfl, ?_⟩
    refine zr_aload_n dX1_readPeer_27 rfl 0 rfl ?_
    refine zm_callV_b (c := 1) (b := 221) dX1_readPeer_28 w_X1_isNewName l_X1_101 rfl (by decide) (by decide) s_X1_isNewName [] rfl rfl (Nat.le_of_ble_eq_true rfl) (Nat.le_of_ble_eq_true rfl) ?_
    refine zV.post T ?_
    rintro v M25 ⟨r24, rfl, T⟩
    refine ⟨r24, rfl, ?_⟩
    refine zm_ifb_ne (tgt := 36) dX1_readPeer_31 (by decide) (fun h26 => ?_) (fun h26 => ?_)
    · have T := T.1 h26
      refine zr_aload_n dX1_readPeer_36 rfl 0 rfl ?_
      refine zm_getr (a := 18) dX1_readPeer_37 f_X1_25 (by decide) (by decide) (by decide) (by decide) ?_
      refine zm_getr (a := 20) dX1_readPeer_40 f_X1_115 (by decide) (by decide) (by decide) (by decide) ?_
      refine zr_aload_n dX1_readPeer_43 rfl 0 rfl ?_
      refine zm_getr (a := 18) dX1_readPeer_44 f_X1_25 (by decide) (by decide) (by decide) (by decide) ?_
      refine zm_geti dX1_readPeer_47 f_X1_112 (by decide) (by decide) (by decide) ?_
      refine zr_aload_n dX1_readPeer_50 rfl 0 rfl ?_
      refine zm_getr (a := 220) dX1_readPeer_51 f_X1_15 (by decide) (by decide) (by decide) (by decide) ?_
      refine zm_getl dX1_readPeer_54 f_X1_108 (by decide) (by decide) (by decide) ?_
      obtain ⟨hq27, T⟩ := T
      refine zn_last (n := 4) (o := (Int32.toNatClampNeg (M25.1 18 4))) dX1_readPeer_57 (by decide) (by decide) hq27 rfl (fun M28 e29 => ?_)
      have T := T M28 e29
      refine zr_aload_n dX1_readPeer_58 rfl 0 rfl ?_
      refine zm_getr (a := 18) dX1_readPeer_59 f_X1_25 (by decide) (by decide) (by decide) (by decide) ?_
      refine zr_dup dX1_readPeer_62 rfl ?_
      refine zm_geti dX1_readPeer_63 f_X1_112 (by decide) (by decide) (by decide) ?_
      refine zr_iconst (v := 1) dX1_readPeer_66 (by decide) ?_
      refine zr_iadd dX1_readPeer_67 ?_
      refine zn_puti dX1_readPeer_68 f_X1_112 (by decide) (by decide) (by decide) (fun M30 e31 => ?_)
      have T := T M30 e31
      refine zr_aload_n dX1_readPeer_71 rfl 0 rfl ?_
      refine zm_getr (a := 220) dX1_readPeer_72 f_X1_15 (by decide) (by decide) (by decide) (by decide) ?_
      refine zm_callV_v (c := 6) (b := 220) dX1_readPeer_75 w_X6_next l_X1_82 rfl (by decide) (by decide) s_X6_next [] rfl rfl (Nat.le_of_ble_eq_true rfl) (Nat.le_of_ble_eq_true rfl) ?_
      refine zV.post T ?_
      rintro v M33 ⟨rfl, T⟩
      refine ⟨rfl, ?_⟩
      refine zr_iconst (v := 1) dX1_readPeer_78 (by decide) ?_
      exact zm_zret dX1_readPeer_79 rfl (by decide) T
    · have T := T.2 h26
      refine zr_iconst (v := 0) dX1_readPeer_34 (by decide) ?_
      exact zm_zret dX1_readPeer_35 rfl (by decide) T
  · have T := T.2 h21
    refine zr_aload_n dX1_readPeer_11 rfl 0 rfl ?_
    refine zm_getr (a := 220) dX1_readPeer_12 f_X1_15 (by decide) (by decide) (by decide) (by decide) ?_
    refine zr_iconst (v := 4) dX1_readPeer_15 (by decide) ?_
    refine zm_callV_b (c := 6) (b := 220) dX1_readPeer_16 w_X6_fail l_X1_76 rfl (by decide) (by decide) s_X6_fail [.int 4] rfl rfl (Nat.le_of_ble_eq_true rfl) (Nat.le_of_ble_eq_true rfl) ?_
    refine zV.post T ?_
    rintro v M35 ⟨r34, rfl, T⟩
    refine ⟨r34, rfl, ?_⟩
    exact zm_zret dX1_readPeer_19 rfl (bi_01 _) T
set_option maxRecDepth 100000 in
set_option maxHeartbeats 4000000 in
theorem t_X1_readHas {d : Nat}  {M : zMem} {K : zK} 
    (T : S_X6_next d  M (zU (fun M22 => S_X6_seePeer d 18 M22 (zI (fun r23 M24 => (¬ r23 = (-1) → S_X6_next d  M24 (zU (fun M27 => S_X6_seeKey d 18 M27 (zI (fun r28 M29 => (¬ r28 = (-1) → S_X3_has d 25 r23 r28 M29 (zB (fun r31 M32 => (r31 = false → S_X6_next d  M32 (zU (fun M35 => S_X6_seeNumber d 0 999 M35 (zI (fun r36 M37 => (¬ r36 = (-1) → S_X6_next d  M37 (zU (fun M40 => S_X3_write d 25 r23 r28 r36 M40 (zU (fun M42 => K (some (.int 1)) M42))))) ∧ (r36 = (-1) → K (some (.int 0)) M37)))))) ∧ (r31 = true → S_X6_fail d 3 M32 (zB (fun r43 M44 => K (some (.int (bi r43))) M44)))))) ∧ (r28 = (-1) → K (some (.int 0)) M29)))))) ∧ (r23 = (-1) → K (some (.int 0)) M24)))))) : S_X1_readHas (d + 1)  M K := by
  show zV m_X1_readHas (d + 1) 0 [(0, .ref 221)] [] M K
  refine zr_aload_n dX1_readHas_0 rfl 0 rfl ?_
  refine zm_getr (a := 220) dX1_readHas_1 f_X1_15 (by decide) (by decide) (by decide) (by decide) ?_
  refine zm_callV_v (c := 6) (b := 220) dX1_readHas_4 w_X6_next l_X1_82 rfl (by decide) (by decide) s_X6_next [] rfl rfl (Nat.le_of_ble_eq_true rfl) (Nat.le_of_ble_eq_true rfl) ?_
  refine zV.post T ?_
  rintro v M22 ⟨rfl, T⟩
  refine ⟨rfl, ?_⟩
  refine zr_aload_n dX1_readHas_7 rfl 0 rfl ?_
  refine zm_getr (a := 220) dX1_readHas_8 f_X1_15 (by decide) (by decide) (by decide) (by decide) ?_
  refine zr_aload_n dX1_readHas_11 rfl 0 rfl ?_
  refine zm_getr (a := 18) dX1_readHas_12 f_X1_25 (by decide) (by decide) (by decide) (by decide) ?_
  refine zm_callV_i (c := 6) (b := 220) dX1_readHas_15 w_X6_seePeer l_X1_122 rfl (by decide) (by decide) s_X6_seePeer [.ref 18] rfl rfl (Nat.le_of_ble_eq_true rfl) (Nat.le_of_ble_eq_true rfl) ?_
  refine zV.post T ?_
  rintro v M24 ⟨r23, rfl, T⟩
  refine ⟨r23, rfl, ?_⟩
  refine zr_istore_n dX1_readHas_18 rfl (by decide) (L2 := [(1, .int r23), (0, .ref 221)]) rfl ?_
  refine zr_iload_n dX1_readHas_19 rfl 0 rfl ?_
  refine zr_iconst (v := (-1)) dX1_readHas_20 (by decide) ?_
  refine zr_icmp_ne (tgt := 26) dX1_readHas_21 (by decide) (fun h25 => ?_) (fun h25 => ?_)
  · have T := T.1 h25
    refine zr_aload_n dX1_readHas_26 rfl 1 rfl ?_
    refine zm_getr (a := 220) dX1_readHas_27 f_X1_15 (by decide) (by decide) (by decide) (by decide) ?_
    refine zm_callV_v (c := 6) (b := 220) dX1_readHas_30 w_X6_next l_X1_82 rfl (by decide) (by decide) s_X6_next [] rfl rfl (Nat.le_of_ble_eq_true rfl) (Nat.le_of_ble_eq_true rfl) ?_
    refine zV.post T ?_
    rintro v M27 ⟨rfl, T⟩
    refine ⟨rfl, ?_⟩
    refine zr_aload_n dX1_readHas_33 rfl 1 rfl ?_
    refine zm_getr (a := 220) dX1_readHas_34 f_X1_15 (by decide) (by decide) (by decide) (by decide) ?_
    refine zr_aload_n dX1_readHas_37 rfl 1 rfl ?_
    refine zm_getr (a := 18) dX1_readHas_38 f_X1_25 (by decide) (by decide) (by decide) (by decide) ?_
    refine zm_callV_i (c := 6) (b := 220) dX1_readHas_41 w_X6_seeKey l_X1_126 rfl (by decide) (by decide) s_X6_seeKey [.ref 18] rfl rfl (Nat.le_of_ble_eq_true rfl) (Nat.le_of_ble_eq_true rfl) ?_
    refine zV.post T ?_
    rintro v M29 ⟨r28, rfl, T⟩
    refine ⟨r28, rfl, ?_⟩
    refine zr_istore_n dX1_readHas_44 rfl (by decide) (L2 := [(2, .int r28), (1, .int r23), (0, .ref 221)]) rfl ?_
    refine zr_iload_n dX1_readHas_45 rfl 0 rfl ?_
    refine zr_iconst (v := (-1)) dX1_readHas_46 (by decide) ?_
    refine zr_icmp_ne (tgt := 52) dX1_readHas_47 (by decide) (fun h30 => ?_) (fun h30 => ?_)
    · have T := T.1 h30
      refine zr_aload_n dX1_readHas_52 rfl 2 rfl ?_
      refine zm_getr (a := 25) dX1_readHas_53 f_X1_30 (by decide) (by decide) (by decide) (by decide) ?_
      refine zr_iload_n dX1_readHas_56 rfl 1 rfl ?_
      refine zr_iload_n dX1_readHas_57 rfl 0 rfl ?_
      refine zm_callV_b (c := 3) (b := 25) dX1_readHas_58 w_X3_has l_X1_129 rfl (by decide) (by decide) s_X3_has [.int r23, .int r28] rfl rfl (Nat.le_of_ble_eq_true rfl) (Nat.le_of_ble_eq_true rfl) ?_
      refine zV.post T ?_
      rintro v M32 ⟨r31, rfl, T⟩
      refine ⟨r31, rfl, ?_⟩
      refine zm_ifb_eq (tgt := 73) dX1_readHas_61 (by decide) (fun h33 => ?_) (fun h33 => ?_)
      · have T := T.1 h33
        refine zr_aload_n dX1_readHas_73 rfl 2 rfl ?_
        refine zm_getr (a := 220) dX1_readHas_74 f_X1_15 (by decide) (by decide) (by decide) (by decide) ?_
        refine zm_callV_v (c := 6) (b := 220) dX1_readHas_77 w_X6_next l_X1_82 rfl (by decide) (by decide) s_X6_next [] rfl rfl (Nat.le_of_ble_eq_true rfl) (Nat.le_of_ble_eq_true rfl) ?_
        refine zV.post T ?_
        rintro v M35 ⟨rfl, T⟩
        refine ⟨rfl, ?_⟩
        refine zr_aload_n dX1_readHas_80 rfl 2 rfl ?_
        refine zm_getr (a := 220) dX1_readHas_81 f_X1_15 (by decide) (by decide) (by decide) (by decide) ?_
        refine zr_iconst (v := 0) dX1_readHas_84 (by decide) ?_
        refine zr_sipush (v := 999) dX1_readHas_85 (by decide) ?_
        refine zm_callV_i (c := 6) (b := 220) dX1_readHas_88 w_X6_seeNumber l_X1_88 rfl (by decide) (by decide) s_X6_seeNumber [.int 0, .int 999] rfl rfl (Nat.le_of_ble_eq_true rfl) (Nat.le_of_ble_eq_true rfl) ?_
        refine zV.post T ?_
        rintro v M37 ⟨r36, rfl, T⟩
        refine ⟨r36, rfl, ?_⟩
        refine zr_istore_n dX1_readHas_91 rfl (by decide) (L2 := [(3, .int r36), (2, .int r28), (1, .int r23), (0, .ref 221)]) rfl ?_
        refine zr_iload_n dX1_readHas_92 rfl 0 rfl ?_
        refine zr_iconst (v := (-1)) dX1_readHas_93 (by decide) ?_
        refine zr_icmp_ne (tgt := 99) dX1_readHas_94 (by decide) (fun h38 => ?_) (fun h38 => ?_)
        · have T := T.1 h38
          refine zr_aload_n dX1_readHas_99 rfl 3 rfl ?_
          refine zm_getr (a := 220) dX1_readHas_100 f_X1_15 (by decide) (by decide) (by decide) (by decide) ?_
          refine zm_callV_v (c := 6) (b := 220) dX1_readHas_103 w_X6_next l_X1_82 rfl (by decide) (by decide) s_X6_next [] rfl rfl (Nat.le_of_ble_eq_true rfl) (Nat.le_of_ble_eq_true rfl) ?_
          refine zV.post T ?_
          rintro v M40 ⟨rfl, T⟩
          refine ⟨rfl, ?_⟩
          refine zr_aload_n dX1_readHas_106 rfl 3 rfl ?_
          refine zm_getr (a := 25) dX1_readHas_107 f_X1_30 (by decide) (by decide) (by decide) (by decide) ?_
          refine zr_iload_n dX1_readHas_110 rfl 2 rfl ?_
          refine zr_iload_n dX1_readHas_111 rfl 1 rfl ?_
          refine zr_iload_n dX1_readHas_112 rfl 0 rfl ?_
          refine zm_callV_v (c := 3) (b := 25) dX1_readHas_113 w_X3_write l_X1_133 rfl (by decide) (by decide) s_X3_write [.int r23, .int r28, .int r36] rfl rfl (Nat.le_of_ble_eq_true rfl) (Nat.le_of_ble_eq_true rfl) ?_
          refine zV.post T ?_
          rintro v M42 ⟨rfl, T⟩
          refine ⟨rfl, ?_⟩
          refine zr_iconst (v := 1) dX1_readHas_116 (by decide) ?_
          exact zm_zret dX1_readHas_117 rfl (by decide) T
        · have T := T.2 h38
          refine zr_iconst (v := 0) dX1_readHas_97 (by decide) ?_
          exact zm_zret dX1_readHas_98 rfl (by decide) T
      · have T := T.2 h33
        refine zr_aload_n dX1_readHas_64 rfl 2 rfl ?_
        refine zm_getr (a := 220) dX1_readHas_65 f_X1_15 (by decide) (by decide) (by decide) (by decide) ?_
        refine zr_iconst (v := 3) dX1_readHas_68 (by decide) ?_
        refine zm_callV_b (c := 6) (b := 220) dX1_readHas_69 w_X6_fail l_X1_76 rfl (by decide) (by decide) s_X6_fail [.int 3] rfl rfl (Nat.le_of_ble_eq_true rfl) (Nat.le_of_ble_eq_true rfl) ?_
        refine zV.post T ?_
        rintro v M44 ⟨r43, rfl, T⟩
        refine ⟨r43, rfl, ?_⟩
        exact zm_zret dX1_readHas_72 rfl (bi_01 _) T
    · have T := T.2 h30
      refine zr_iconst (v := 0) dX1_readHas_50 (by decide) ?_
      exact zm_zret dX1_readHas_51 rfl (by decide) T
  · have T := T.2 h25
    refine zr_iconst (v := 0) dX1_readHas_24 (by decide) ?_
    exact zm_zret dX1_readHas_25 rfl (by decide) T
set_option maxRecDepth 100000 in
set_option maxHeartbeats 4000000 in
theorem t_X6_seePeer {d : Nat} {b1 : Nat} {M : zMem} {K : zK} (h1 : b1 ∈ iX5)
    (T : S_X5_peerNamed d b1 (M.2 220 7) M (zI (fun r21 M22 => S_X6_seen d r21 M22 (zI (fun r23 M24 => K (some (.int r23)) M24))))) : S_X6_seePeer (d + 1) b1 M K := by
  show zV m_X6_seePeer (d + 1) 0 [(0, .ref 220), (1, .ref b1)] [] M K
  refine zr_aload_n dX6_seePeer_0 rfl 0 rfl ?_
  refine zr_aload_n dX6_seePeer_1 rfl 1 rfl ?_
  refine zr_aload_n dX6_seePeer_2 rfl 0 rfl ?_
  refine zm_getl dX6_seePeer_3 f_X6_30 (by decide) (by decide) (by decide) ?_
  refine zm_callV_i (c := 5) (b := b1) dX6_seePeer_6 w_X5_peerNamed l_X6_87 rfl (oX5 _ h1) (by decide) s_X5_peerNamed [.long (M.2 220 7)] rfl rfl (Nat.le_of_ble_eq_true rfl) (Nat.le_of_ble_eq_true rfl) ?_
  refine zV.post T ?_
  rintro v M22 ⟨r21, rfl, T⟩
  refine ⟨r21, rfl, ?_⟩
  refine zm_callV_i (c := 6) (b := 220) dX6_seePeer_9 w_X6_seen l_X6_92 rfl (by decide) (by decide) s_X6_seen [.int r21] rfl rfl (Nat.le_of_ble_eq_true rfl) (Nat.le_of_ble_eq_true rfl) ?_
  refine zV.post T ?_
  rintro v M24 ⟨r23, rfl, T⟩
  refine ⟨r23, rfl, ?_⟩
  exact zm_iret dX6_seePeer_12 rfl T
set_option maxRecDepth 100000 in
set_option maxHeartbeats 4000000 in
theorem t_X6_seen {d : Nat} {x1 : Int32} {M : zMem} {K : zK} 
    (T : ((M.1 220 4) = 3 → (¬ x1 = (-1) → K (some (.int x1)) M) ∧ (x1 = (-1) → S_X6_fail d 3 M (zB (fun r23 M24 => K (some (.int x1)) M24)))) ∧ (¬ ((M.1 220 4) = 3) → S_X6_fail d 1 M (zB (fun r25 M26 => K (some (.int (-1))) M26)))) : S_X6_seen (d + 1) x1 M K := by
  show zV m_X6_seen (d + 1) 0 [(0, .ref 220), (1, .int x1)] [] M K
  refine zr_aload_n dX6_seen_0 rfl 0 rfl ?_
  refine zm_geti dX6_seen_1 f_X6_21 (by decide) (by decide) (by decide) ?_
  refine zr_iconst (v := 3) dX6_seen_4 (by decide) ?_
  refine zr_icmp_eq (tgt := 16) dX6_seen_5 (by decide) (fun h21 => ?_) (fun h21 => ?_)
  · have T := T.1 h21
    refine zr_iload_n dX6_seen_16 rfl 1 rfl ?_
    refine zr_iconst (v := (-1)) dX6_seen_17 (by decide) ?_
    refine zr_icmp_ne (tgt := 27) dX6_seen_18 (by decide) (fun h22 => ?_) (fun h22 => ?_)
    · have T := T.1 h22
      refine zr_iload_n dX6_seen_27 rfl 1 rfl ?_
      exact zm_iret dX6_seen_28 rfl T
    · have T := T.2 h22
      refine zr_aload_n dX6_seen_21 rfl 0 rfl ?_
      refine zr_iconst (v := 3) dX6_seen_22 (by decide) ?_
      refine zm_callV_b (c := 6) (b := 220) dX6_seen_23 w_X6_fail l_X6_84 rfl (by decide) (by decide) s_X6_fail [.int 3] rfl rfl (Nat.le_of_ble_eq_true rfl) (Nat.le_of_ble_eq_true rfl) ?_
      refine zV.post T ?_
      rintro v M24 ⟨r23, rfl, T⟩
      refine ⟨r23, rfl, ?_⟩
      refine zr_pop dX6_seen_26 rfl ?_
      refine zr_iload_n dX6_seen_27 rfl 1 rfl ?_
      exact zm_iret dX6_seen_28 rfl T
  · have T := T.2 h21
    refine zr_aload_n dX6_seen_8 rfl 0 rfl ?_
    refine zr_iconst (v := 1) dX6_seen_9 (by decide) ?_
    refine zm_callV_b (c := 6) (b := 220) dX6_seen_10 w_X6_fail l_X6_84 rfl (by decide) (by decide) s_X6_fail [.int 1] rfl rfl (Nat.le_of_ble_eq_true rfl) (Nat.le_of_ble_eq_true rfl) ?_
    refine zV.post T ?_
    rintro v M26 ⟨r25, rfl, T⟩
    refine ⟨r25, rfl, ?_⟩
    refine zr_pop dX6_seen_13 rfl ?_
    refine zr_iconst (v := (-1)) dX6_seen_14 (by decide) ?_
    exact zm_iret dX6_seen_15 rfl T
set_option maxRecDepth 100000 in
set_option maxHeartbeats 4000000 in
theorem t_X6_seeKey {d : Nat} {b1 : Nat} {M : zMem} {K : zK} (h1 : b1 ∈ iX5)
    (T : S_X5_keyNamed d b1 (M.2 220 7) M (zI (fun r21 M22 => S_X6_seen d r21 M22 (zI (fun r23 M24 => K (some (.int r23)) M24))))) : S_X6_seeKey (d + 1) b1 M K := by
  show zV m_X6_seeKey (d + 1) 0 [(0, .ref 220), (1, .ref b1)] [] M K
  refine zr_aload_n dX6_seeKey_0 rfl 0 rfl ?_
  refine zr_aload_n dX6_seeKey_1 rfl 1 rfl ?_
  refine zr_aload_n dX6_seeKey_2 rfl 0 rfl ?_
  refine zm_getl dX6_seeKey_3 f_X6_30 (by decide) (by decide) (by decide) ?_
  refine zm_callV_i (c := 5) (b := b1) dX6_seeKey_6 w_X5_keyNamed l_X6_95 rfl (oX5 _ h1) (by decide) s_X5_keyNamed [.long (M.2 220 7)] rfl rfl (Nat.le_of_ble_eq_true rfl) (Nat.le_of_ble_eq_true rfl) ?_
  refine zV.post T ?_
  rintro v M22 ⟨r21, rfl, T⟩
  refine ⟨r21, rfl, ?_⟩
  refine zm_callV_i (c := 6) (b := 220) dX6_seeKey_9 w_X6_seen l_X6_92 rfl (by decide) (by decide) s_X6_seen [.int r21] rfl rfl (Nat.le_of_ble_eq_true rfl) (Nat.le_of_ble_eq_true rfl) ?_
  refine zV.post T ?_
  rintro v M24 ⟨r23, rfl, T⟩
  refine ⟨r23, rfl, ?_⟩
  exact zm_iret dX6_seeKey_12 rfl T
set_option maxRecDepth 100000 in
set_option maxHeartbeats 4000000 in
theorem t_X1_readCut {d : Nat}  {M : zMem} {K : zK} 
    (T : S_X6_next d  M (zU (fun M22 => S_X6_seePeer d 18 M22 (zI (fun r23 M24 => (¬ r23 = (-1) → S_X6_next d  M24 (zU (fun M27 => S_X6_seePeer d 18 M27 (zI (fun r28 M29 => (¬ r28 = (-1) → (r23 = r28 → S_X6_fail d 3 M29 (zB (fun r32 M33 => K (some (.int (bi r32))) M33))) ∧ (¬ (r23 = r28) → S_X3_areCut d 25 r23 r28 M29 (zB (fun r34 M35 => (r34 = false → S_X3_turnLink d 25 r23 r28 M35 (zU (fun M38 => S_X6_next d  M38 (zU (fun M40 => K (some (.int 1)) M40))))) ∧ (r34 = true → S_X6_fail d 3 M35 (zB (fun r41 M42 => K (some (.int (bi r41))) M42))))))) ∧ (r28 = (-1) → K (some (.int 0)) M29)))))) ∧ (r23 = (-1) → K (some (.int 0)) M24)))))) : S_X1_readCut (d + 1)  M K := by
  show zV m_X1_readCut (d + 1) 0 [(0, .ref 221)] [] M K
  refine zr_aload_n dX1_readCut_0 rfl 0 rfl ?_
  refine zm_getr (a := 220) dX1_readCut_1 f_X1_15 (by decide) (by decide) (by decide) (by decide) ?_
  refine zm_callV_v (c := 6) (b := 220) dX1_readCut_4 w_X6_next l_X1_82 rfl (by decide) (by decide) s_X6_next [] rfl rfl (Nat.le_of_ble_eq_true rfl) (Nat.le_of_ble_eq_true rfl) ?_
  refine zV.post T ?_
  rintro v M22 ⟨rfl, T⟩
  refine ⟨rfl, ?_⟩
  refine zr_aload_n dX1_readCut_7 rfl 0 rfl ?_
  refine zm_getr (a := 220) dX1_readCut_8 f_X1_15 (by decide) (by decide) (by decide) (by decide) ?_
  refine zr_aload_n dX1_readCut_11 rfl 0 rfl ?_
  refine zm_getr (a := 18) dX1_readCut_12 f_X1_25 (by decide) (by decide) (by decide) (by decide) ?_
  refine zm_callV_i (c := 6) (b := 220) dX1_readCut_15 w_X6_seePeer l_X1_122 rfl (by decide) (by decide) s_X6_seePeer [.ref 18] rfl rfl (Nat.le_of_ble_eq_true rfl) (Nat.le_of_ble_eq_true rfl) ?_
  refine zV.post T ?_
  rintro v M24 ⟨r23, rfl, T⟩
  refine ⟨r23, rfl, ?_⟩
  refine zr_istore_n dX1_readCut_18 rfl (by decide) (L2 := [(1, .int r23), (0, .ref 221)]) rfl ?_
  refine zr_iload_n dX1_readCut_19 rfl 0 rfl ?_
  refine zr_iconst (v := (-1)) dX1_readCut_20 (by decide) ?_
  refine zr_icmp_ne (tgt := 26) dX1_readCut_21 (by decide) (fun h25 => ?_) (fun h25 => ?_)
  · have T := T.1 h25
    refine zr_aload_n dX1_readCut_26 rfl 1 rfl ?_
    refine zm_getr (a := 220) dX1_readCut_27 f_X1_15 (by decide) (by decide) (by decide) (by decide) ?_
    refine zm_callV_v (c := 6) (b := 220) dX1_readCut_30 w_X6_next l_X1_82 rfl (by decide) (by decide) s_X6_next [] rfl rfl (Nat.le_of_ble_eq_true rfl) (Nat.le_of_ble_eq_true rfl) ?_
    refine zV.post T ?_
    rintro v M27 ⟨rfl, T⟩
    refine ⟨rfl, ?_⟩
    refine zr_aload_n dX1_readCut_33 rfl 1 rfl ?_
    refine zm_getr (a := 220) dX1_readCut_34 f_X1_15 (by decide) (by decide) (by decide) (by decide) ?_
    refine zr_aload_n dX1_readCut_37 rfl 1 rfl ?_
    refine zm_getr (a := 18) dX1_readCut_38 f_X1_25 (by decide) (by decide) (by decide) (by decide) ?_
    refine zm_callV_i (c := 6) (b := 220) dX1_readCut_41 w_X6_seePeer l_X1_122 rfl (by decide) (by decide) s_X6_seePeer [.ref 18] rfl rfl (Nat.le_of_ble_eq_true rfl) (Nat.le_of_ble_eq_true rfl) ?_
    refine zV.post T ?_
    rintro v M29 ⟨r28, rfl, T⟩
    refine ⟨r28, rfl, ?_⟩
    refine zr_istore_n dX1_readCut_44 rfl (by decide) (L2 := [(2, .int r28), (1, .int r23), (0, .ref 221)]) rfl ?_
    refine zr_iload_n dX1_readCut_45 rfl 0 rfl ?_
    refine zr_iconst (v := (-1)) dX1_readCut_46 (by decide) ?_
    refine zr_icmp_ne (tgt := 52) dX1_readCut_47 (by decide) (fun h30 => ?_) (fun h30 => ?_)
    · have T := T.1 h30
      refine zr_iload_n dX1_readCut_52 rfl 1 rfl ?_
      refine zr_iload_n dX1_readCut_53 rfl 0 rfl ?_
      refine zr_icmp_eq (tgt := 69) dX1_readCut_54 (by decide) (fun h31 => ?_) (fun h31 => ?_)
      · have T := T.1 h31
        refine zr_aload_n dX1_readCut_69 rfl 2 rfl ?_
        refine zm_getr (a := 220) dX1_readCut_70 f_X1_15 (by decide) (by decide) (by decide) (by decide) ?_
        refine zr_iconst (v := 3) dX1_readCut_73 (by decide) ?_
        refine zm_callV_b (c := 6) (b := 220) dX1_readCut_74 w_X6_fail l_X1_76 rfl (by decide) (by decide) s_X6_fail [.int 3] rfl rfl (Nat.le_of_ble_eq_true rfl) (Nat.le_of_ble_eq_true rfl) ?_
        refine zV.post T ?_
        rintro v M33 ⟨r32, rfl, T⟩
        refine ⟨r32, rfl, ?_⟩
        exact zm_zret dX1_readCut_77 rfl (bi_01 _) T
      · have T := T.2 h31
        refine zr_aload_n dX1_readCut_57 rfl 2 rfl ?_
        refine zm_getr (a := 25) dX1_readCut_58 f_X1_30 (by decide) (by decide) (by decide) (by decide) ?_
        refine zr_iload_n dX1_readCut_61 rfl 1 rfl ?_
        refine zr_iload_n dX1_readCut_62 rfl 0 rfl ?_
        refine zm_callV_b (c := 3) (b := 25) dX1_readCut_63 w_X3_areCut l_X1_137 rfl (by decide) (by decide) s_X3_areCut [.int r23, .int r28] rfl rfl (Nat.le_of_ble_eq_true rfl) (Nat.le_of_ble_eq_true rfl) ?_
        refine zV.post T ?_
        rintro v M35 ⟨r34, rfl, T⟩
        refine ⟨r34, rfl, ?_⟩
        refine zm_ifb_eq (tgt := 78) dX1_readCut_66 (by decide) (fun h36 => ?_) (fun h36 => ?_)
        · have T := T.1 h36
          refine zr_aload_n dX1_readCut_78 rfl 2 rfl ?_
          refine zm_getr (a := 25) dX1_readCut_79 f_X1_30 (by decide) (by decide) (by decide) (by decide) ?_
          refine zr_iload_n dX1_readCut_82 rfl 1 rfl ?_
          refine zr_iload_n dX1_readCut_83 rfl 0 rfl ?_
          refine zm_callV_v (c := 3) (b := 25) dX1_readCut_84 w_X3_turnLink l_X1_140 rfl (by decide) (by decide) s_X3_turnLink [.int r23, .int r28] rfl rfl (Nat.le_of_ble_eq_true rfl) (Nat.le_of_ble_eq_true rfl) ?_
          refine zV.post T ?_
          rintro v M38 ⟨rfl, T⟩
          refine ⟨rfl, ?_⟩
          refine zr_aload_n dX1_readCut_87 rfl 2 rfl ?_
          refine zm_getr (a := 220) dX1_readCut_88 f_X1_15 (by decide) (by decide) (by decide) (by decide) ?_
          refine zm_callV_v (c := 6) (b := 220) dX1_readCut_91 w_X6_next l_X1_82 rfl (by decide) (by decide) s_X6_next [] rfl rfl (Nat.le_of_ble_eq_true rfl) (Nat.le_of_ble_eq_true rfl) ?_
          refine zV.post T ?_
          rintro v M40 ⟨rfl, T⟩
          refine ⟨rfl, ?_⟩
          refine zr_iconst (v := 1) dX1_readCut_94 (by decide) ?_
          exact zm_zret dX1_readCut_95 rfl (by decide) T
        · have T := T.2 h36
          refine zr_aload_n dX1_readCut_69 rfl 2 rfl ?_
          refine zm_getr (a := 220) dX1_readCut_70 f_X1_15 (by decide) (by decide) (by decide) (by decide) ?_
          refine zr_iconst (v := 3) dX1_readCut_73 (by decide) ?_
          refine zm_callV_b (c := 6) (b := 220) dX1_readCut_74 w_X6_fail l_X1_76 rfl (by decide) (by decide) s_X6_fail [.int 3] rfl rfl (Nat.le_of_ble_eq_true rfl) (Nat.le_of_ble_eq_true rfl) ?_
          refine zV.post T ?_
          rintro v M42 ⟨r41, rfl, T⟩
          refine ⟨r41, rfl, ?_⟩
          exact zm_zret dX1_readCut_77 rfl (bi_01 _) T
    · have T := T.2 h30
      refine zr_iconst (v := 0) dX1_readCut_50 (by decide) ?_
      exact zm_zret dX1_readCut_51 rfl (by decide) T
  · have T := T.2 h25
    refine zr_iconst (v := 0) dX1_readCut_24 (by decide) ?_
    exact zm_zret dX1_readCut_25 rfl (by decide) T
set_option maxRecDepth 100000 in
set_option maxHeartbeats 4000000 in
theorem t_X6_isWhole {d : Nat}  {M : zMem} {K : zK} 
    (T : ((M.1 220 1) ≤ (M.1 220 2) → K (some (.int 1)) M) ∧ (¬ ((M.1 220 1) ≤ (M.1 220 2)) → S_X6_fail d 1 M (zB (fun r22 M23 => (r22 = false → K (some (.int 0)) M23) ∧ (r22 = true → K (some (.int 1)) M23))))) : S_X6_isWhole (d + 1)  M K := by
  show zV m_X6_isWhole (d + 1) 0 [(0, .ref 220)] [] M K
  refine zr_aload_n dX6_isWhole_0 rfl 0 rfl ?_
  refine zm_geti dX6_isWhole_1 f_X6_9 (by decide) (by decide) (by decide) ?_
  refine zr_aload_n dX6_isWhole_4 rfl 0 rfl ?_
  refine zm_geti dX6_isWhole_5 f_X6_15 (by decide) (by decide) (by decide) ?_
  refine zr_icmp_le (tgt := 19) dX6_isWhole_8 (by decide) (fun h21 => ?_) (fun h21 => ?_)
  · have T := T.1 h21
    refine zr_iconst (v := 1) dX6_isWhole_19 (by decide) ?_
    refine zr_goto (tgt := 24) dX6_isWhole_20 (by decide) ?_
    exact zm_zret dX6_isWhole_24 rfl (by decide) T
  · have T := T.2 h21
    refine zr_aload_n dX6_isWhole_11 rfl 0 rfl ?_
    refine zr_iconst (v := 1) dX6_isWhole_12 (by decide) ?_
    refine zm_callV_b (c := 6) (b := 220) dX6_isWhole_13 w_X6_fail l_X6_84 rfl (by decide) (by decide) s_X6_fail [.int 1] rfl rfl (Nat.le_of_ble_eq_true rfl) (Nat.le_of_ble_eq_true rfl) ?_
    refine zV.post T ?_
    rintro v M23 ⟨r22, rfl, T⟩
    refine ⟨r22, rfl, ?_⟩
    refine zm_ifb_eq (tgt := 23) dX6_isWhole_16 (by decide) (fun h24 => ?_) (fun h24 => ?_)
    · have T := T.1 h24
      refine zr_iconst (v := 0) dX6_isWhole_23 (by decide) ?_
      exact zm_zret dX6_isWhole_24 rfl (by decide) T
    · have T := T.2 h24
      refine zr_iconst (v := 1) dX6_isWhole_19 (by decide) ?_
      refine zr_goto (tgt := 24) dX6_isWhole_20 (by decide) ?_
      exact zm_zret dX6_isWhole_24 rfl (by decide) T
set_option maxRecDepth 100000 in
set_option maxHeartbeats 4000000 in
theorem t_X6_passSign {d : Nat} {x1 : Int32} {M : zMem} {K : zK} 
    (T : ((M.1 220 9) = x1 → S_X6_next d  M (zU (fun M23 => K (some (.int 1)) M23))) ∧ (¬ ((M.1 220 9) = x1) → S_X6_fail d 1 M (zB (fun r24 M25 => K (some (.int (bi r24))) M25)))) : S_X6_passSign (d + 1) x1 M K := by
  show zV m_X6_passSign (d + 1) 0 [(0, .ref 220), (1, .int x1)] [] M K
  refine zr_aload_n dX6_passSign_0 rfl 0 rfl ?_
  refine zm_geti dX6_passSign_1 f_X6_37 (by decide) (by decide) (by decide) ?_
  refine zr_iload_n dX6_passSign_4 rfl 1 rfl ?_
  refine zr_icmp_eq (tgt := 14) dX6_passSign_5 (by decide) (fun h21 => ?_) (fun h21 => ?_)
  · have T := T.1 h21
    refine zr_aload_n dX6_passSign_14 rfl 0 rfl ?_
    refine zm_callV_v (c := 6) (b := 220) dX6_passSign_15 w_X6_next l_X6_53 rfl (by decide) (by decide) s_X6_next [] rfl rfl (Nat.le_of_ble_eq_true rfl) (Nat.le_of_ble_eq_true rfl) ?_
    refine zV.post T ?_
    rintro v M23 ⟨rfl, T⟩
    refine ⟨rfl, ?_⟩
    refine zr_iconst (v := 1) dX6_passSign_18 (by decide) ?_
    exact zm_zret dX6_passSign_19 rfl (by decide) T
  · have T := T.2 h21
    refine zr_aload_n dX6_passSign_8 rfl 0 rfl ?_
    refine zr_iconst (v := 1) dX6_passSign_9 (by decide) ?_
    refine zm_callV_b (c := 6) (b := 220) dX6_passSign_10 w_X6_fail l_X6_84 rfl (by decide) (by decide) s_X6_fail [.int 1] rfl rfl (Nat.le_of_ble_eq_true rfl) (Nat.le_of_ble_eq_true rfl) ?_
    refine zV.post T ?_
    rintro v M25 ⟨r24, rfl, T⟩
    refine ⟨r24, rfl, ?_⟩
    exact zm_zret dX6_passSign_13 rfl (bi_01 _) T
