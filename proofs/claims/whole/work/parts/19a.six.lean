-- ===== z_T over a memory of numbers =====
abbrev zT (y : z_MD) (d pc : Nat) (L : List (Nat × Value)) (st : List Value) (M : zMem) (K : zK) (X : zMem → Prop) : Prop := z_T y d 1 6 0 0 pc L st zN (zE M) (zKw K) (fun N' G' => N' = zN ∧ ∃ M', G' = zE M' ∧ X M')
section
variable {y y2 : z_MD} {d pc index n b c i j a : Nat} {L : List (Nat × Value)} {st As : List Value} {M : zMem} {K : zK} {X : zMem → Prop} {fin : Bool} {ty : FieldType}
theorem zT.of (h : zV y d pc L st M K) : zT y d pc L st M K X :=
  z_T.of (fun p l e R s m args below meth c D sA cA Hb Q H locs ls C r hc hs hl hw hS => h p l e R s m args below meth c D sA cA Hb Q H locs ls C (fun v N' G' H locs pc ls k1 k2 k3 k4 k5 => W.widen (Nat.zero_le _) (Nat.zero_le _) (r v N' G' H locs pc ls k1 k2 k3 k4 k5)) (Nat.zero_le _) (Nat.zero_le _) hl hw hS)
theorem zq_geti (hd : decode y.2.1 pc = .ok (.getfield index, 3)) (hf : z_fld y.1.cls index c j fin ty) (hb : zc b = c ∧ b < zN) (h9 : c < 100) (hk : (zk c)[j]? = some 0) (k : zT y d (pc + 3) L (.int (M.1 b j) :: st) M K X) : zT y d pc L (.ref b :: st) M K X := zt_get hd hf hb.2 (zE_o hb.1 h9) (zf_i hk) k
theorem zq_getr (hd : decode y.2.1 pc = .ok (.getfield index, 3)) (hf : z_fld y.1.cls index c j fin ty) (hb : zc b = c ∧ b < zN) (h9 : c < 100) (hk : (zk c)[j]? = some 2) (ho : zr b j = a) (k : zT y d (pc + 3) L (.ref a :: st) M K X) : zT y d pc L (.ref b :: st) M K X := zt_get hd hf hb.2 (zE_o hb.1 h9) (by rw [zf_r hk, ho]) k
theorem zq_aald {x : Int32} {t o : Nat} {Cn : String} (hd : decode y.2.1 pc = .ok (.aaload, 1)) (ha : zc a = 100 + t ∧ a < zN) (h3 : 3 < t) (h7 : t < 7) (ht : ∀ cA : Nat → ClassId, (z_tys cA)[t]? = some (cA t, .object Cn)) (hn : zl a = n) (hx : vp_in x n) {q : Nat} (hq : x.toNatClampNeg = q) (ho : zr a q = o) (k : zT y d (pc + 1) L (.ref o :: st) M K X) : zT y d pc L (.int x :: .ref a :: st) M K X :=
  zt_aald (o := o) hd ha.2 (zE_r ha.1 h3 h7) ht (by rw [hn]; exact hx) (by rw [hq, ho]) k
theorem zq_callV_b {S0 : List Value} (hd : decode y.2.1 pc = .ok (.invokevirtual index, 3)) (hy : z_mth y2 n) (hlk : Cond.methodLink y.1.cls index y2.1 ∈ z_good) (hci : (vwCl[c]?).map (fun q => q.1) = some y2.1.cls) (hb : zc b = c ∧ b < zN) (h9 : c < 100) (hsel : Cond.instanceMethod y2.1 ∈ z_good ∧ Cond.selects y2.1.cls y2.1 y2.1 ∈ z_good) (As : List Value) (hS0 : S0 = As.reverse ++ .ref b :: st) (hA : As.length = n) (hsl : (lg_sl (.ref b :: As)).length ≤ y2.2.2.1) (hst : (st.map fun v => v.category).sum ≤ 8) (k : zV y2 d 0 (lv_args 0 (.ref b :: As)) [] M (zB (fun r M' => zT y (d + 1) (pc + 3) L (.int (bi r) :: st) M' K X))) : zT y (d + 1) pc L S0 M K X := by
  subst hS0
  refine zt_callV hd hy hlk hci hb.2 (zE_o hb.1 h9) hsel hA hsl hst (mc2 := 0) (ms2 := 0) (Nat.zero_le _) (Nat.zero_le _) (z_V.post k ?_)
  rintro v N' G' ⟨rfl, M', rfl, r, rfl, h⟩ _
  exact h
theorem zq_ifb_eq {x : Bool} {off : Int} {tgt : Nat} (hd : decode y.2.1 pc = .ok (.ifCond .eq off, 3)) (ht : (pc : Int) + off = (tgt : Int)) (kt : x = false → zT y d tgt L st M K X) (kf : x = true → zT y d (pc + 3) L st M K X) : zT y d pc L (.int (bi x) :: st) M K X :=
  zt_if_eq hd ht (fun h => kt (by cases x; rfl; exact absurd h (by decide))) (fun h => kf (by cases x; exact absurd rfl h; rfl))
theorem zq_ifb_ne {x : Bool} {off : Int} {tgt : Nat} (hd : decode y.2.1 pc = .ok (.ifCond .ne off, 3)) (ht : (pc : Int) + off = (tgt : Int)) (kt : x = true → zT y d tgt L st M K X) (kf : x = false → zT y d (pc + 3) L st M K X) : zT y d pc L (.int (bi x) :: st) M K X :=
  zt_if_ne hd ht (fun h => kt (by cases x; exact absurd rfl h; rfl)) (fun h => kf (by cases x; rfl; exact absurd h (by decide)))
end
section
variable {d : Nat} {x1 x2 x3 : Int32} {M : zMem} {K : zK} {X : zMem → Prop}
theorem tq_digest (T : S_X11_isKey (d + 5) x1 M (zB fun r M1 => (r = false → X M1) ∧ (r = true → vp_in x1 24 ∧ K (some (.int (M1.1 6 (Int32.toNatClampNeg x1)))) M1))) : zT m_X11_digest (d + 6) 0 [(0, .ref 0), (1, .int x1)] [] M K X := by
  refine zt_aload_n dX11_digest_0 rfl 0 rfl ?_
  refine zt_iload_n dX11_digest_1 rfl 1 rfl ?_
  refine zq_callV_b (c := 11) (b := 0) dX11_digest_2 w_X11_isKey l_X11_153 rfl (by decide) (by decide) s_X11_isKey [.int x1] rfl rfl (Nat.le_of_ble_eq_true rfl) (Nat.le_of_ble_eq_true rfl) ?_
  refine zV.post T ?_
  rintro v M22 ⟨r21, rfl, T⟩
  refine ⟨r21, rfl, ?_⟩
  refine zq_ifb_ne (tgt := 18) dX11_digest_5 (by decide) (fun h => ?_) (fun h => ?_)
  · obtain ⟨hq, T⟩ := T.2 h
    refine zT.of ?_
    refine zr_aload_n dX11_digest_18 rfl 0 rfl ?_
    refine zm_getr (a := 2) dX11_digest_19 f_X11_20 (by decide) (by decide) (by decide) (by decide) ?_
    refine zm_getr (a := 3) dX11_digest_22 f_X11_33 (by decide) (by decide) (by decide) (by decide) ?_
    refine zm_getr (a := 6) dX11_digest_25 f_X11_176 (by decide) (by decide) (by decide) (by decide) ?_
    refine zr_iload_n dX11_digest_28 rfl 1 rfl ?_
    refine zm_iald (n := 24) dX11_digest_29 (by decide) (by decide) hq rfl ?_
    exact zm_iret dX11_digest_30 rfl T
  · exact zt_throw (i := 3) (by decide) rfl dX11_digest_8 dX11_digest_11 dX11_digest_12 dX11_digest_14 dX11_digest_17 (by decide) (by decide) ⟨rfl, M22, rfl, T.1 h⟩
theorem tq_root (T : S_X11_isPeer (d + 5) x1 M (zB fun r M1 => (r = false → X M1) ∧ (r = true → S_X4_rootOf (d + 5) 63 x1 M1 (zI fun r M2 => K (some (.int r)) M2)))) : zT m_X11_root (d + 6) 0 [(0, .ref 0), (1, .int x1)] [] M K X := by
  refine zt_aload_n dX11_root_0 rfl 0 rfl ?_
  refine zt_iload_n dX11_root_1 rfl 1 rfl ?_
  refine zq_callV_b (c := 11) (b := 0) dX11_root_2 w_X11_isPeer l_X11_179 rfl (by decide) (by decide) s_X11_isPeer [.int x1] rfl rfl (Nat.le_of_ble_eq_true rfl) (Nat.le_of_ble_eq_true rfl) ?_
  refine zV.post T ?_
  rintro v M22 ⟨r21, rfl, T⟩
  refine ⟨r21, rfl, ?_⟩
  refine zq_ifb_ne (tgt := 18) dX11_root_5 (by decide) (fun h => ?_) (fun h => ?_)
  · have T := T.2 h
    refine zT.of ?_
    refine zr_aload_n dX11_root_18 rfl 0 rfl ?_
    refine zm_getr (a := 63) dX11_root_19 f_X11_44 (by decide) (by decide) (by decide) (by decide) ?_
    refine zr_iload_n dX11_root_22 rfl 1 rfl ?_
    refine zm_callV_i (c := 4) (b := 63) dX11_root_23 w_X4_rootOf l_X11_211 rfl (by decide) (by decide) s_X4_rootOf [.int x1] rfl rfl (Nat.le_of_ble_eq_true rfl) (Nat.le_of_ble_eq_true rfl) ?_
    refine zV.post T ?_
    rintro v M32 ⟨r31, rfl, T⟩
    refine ⟨r31, rfl, ?_⟩
    exact zm_iret dX11_root_26 rfl T
  · exact zt_throw (i := 4) (by decide) rfl dX11_root_8 dX11_root_11 dX11_root_12 dX11_root_14 dX11_root_17 (by decide) (by decide) ⟨rfl, M22, rfl, T.1 h⟩
theorem tq_entry (T : S_X11_isPeer (d + 5) x1 M (zB fun r M1 => (r = false → X M1) ∧ (r = true → S_X11_isKey (d + 5) x2 M1 (zB fun r M2 => (r = false → X M2) ∧ (r = true → (x3 < 0 → X M2) ∧ (¬ x3 < 0 → (2 < x3 → X M2) ∧ (¬ 2 < x3 → S_X3_has (d + 5) 10 x1 x2 M2 (zB fun r M3 => (r = false → X M3) ∧ (r = true →
    (x3 = 0 → S_X3_valueOf (d + 5) 10 x1 x2 M3 (zI fun r M4 => K (some (.int r)) M4)) ∧ (¬ x3 = 0 → (x3 = 1 → S_X3_stampOf (d + 5) 10 x1 x2 M3 (zI fun r M4 => K (some (.int r)) M4)) ∧ (¬ x3 = 1 → S_X3_digestOf (d + 5) 10 3 x1 x2 M3 (zI fun r M4 => K (some (.int r)) M4)))))))))))) : zT m_X11_entry (d + 6) 0 [(0, .ref 0), (1, .int x1), (2, .int x2), (3, .int x3)] [] M K X := by
  have thr : ∀ M2, X M2 → zT m_X11_entry (d + 6) 40 [(0, .ref 0), (1, .int x1), (2, .int x2), (3, .int x3)] [] M2 K X := fun M2 h => zt_throw (i := 5) (by decide) rfl dX11_entry_40 dX11_entry_43 dX11_entry_44 dX11_entry_46 dX11_entry_49 (by decide) (by decide) ⟨rfl, M2, rfl, h⟩
  refine zt_aload_n dX11_entry_0 rfl 0 rfl ?_
  refine zt_iload_n dX11_entry_1 rfl 1 rfl ?_
  refine zq_callV_b (c := 11) (b := 0) dX11_entry_2 w_X11_isPeer l_X11_179 rfl (by decide) (by decide) s_X11_isPeer [.int x1] rfl rfl (Nat.le_of_ble_eq_true rfl) (Nat.le_of_ble_eq_true rfl) ?_
  refine zV.post T ?_
  rintro v M1 ⟨r1, rfl, T⟩
  refine ⟨r1, rfl, ?_⟩
  refine zq_ifb_eq (tgt := 40) dX11_entry_5 (by decide) (fun h => thr _ (T.1 h)) (fun h => ?_)
  have T := T.2 h
  refine zt_aload_n dX11_entry_8 rfl 0 rfl ?_
  refine zt_iload_n dX11_entry_9 rfl 2 rfl ?_
  refine zq_callV_b (c := 11) (b := 0) dX11_entry_10 w_X11_isKey l_X11_153 rfl (by decide) (by decide) s_X11_isKey [.int x2] rfl rfl (Nat.le_of_ble_eq_true rfl) (Nat.le_of_ble_eq_true rfl) ?_
  refine zV.post T ?_
  rintro v M2 ⟨r2, rfl, T⟩
  refine ⟨r2, rfl, ?_⟩
  refine zq_ifb_eq (tgt := 40) dX11_entry_13 (by decide) (fun h => thr _ (T.1 h)) (fun h => ?_)
  have T := T.2 h
  refine zt_iload_n dX11_entry_16 rfl 3 rfl ?_
  refine zt_if_lt (tgt := 40) dX11_entry_17 (by decide) (fun h => thr _ (T.1 h)) (fun h => ?_)
  have T := T.2 h
  refine zt_iload_n dX11_entry_20 rfl 3 rfl ?_
  refine zt_iconst (v := 2) dX11_entry_21 (by decide) ?_
  refine zt_icmp_gt (tgt := 40) dX11_entry_22 (by decide) (fun h => thr _ (T.1 h)) (fun h => ?_)
  have T := T.2 h
  refine zt_aload_n dX11_entry_25 rfl 0 rfl ?_
  refine zq_getr (a := 2) dX11_entry_26 f_X11_20 (by decide) (by decide) (by decide) (by decide) ?_
  refine zq_getr (a := 10) dX11_entry_29 f_X11_37 (by decide) (by decide) (by decide) (by decide) ?_
  refine zt_iload_n dX11_entry_32 rfl 1 rfl ?_
  refine zt_iload_n dX11_entry_33 rfl 2 rfl ?_
  refine zq_callV_b (c := 3) (b := 10) dX11_entry_34 w_X3_has l_X11_214 rfl (by decide) (by decide) s_X3_has [.int x1, .int x2] rfl rfl (Nat.le_of_ble_eq_true rfl) (Nat.le_of_ble_eq_true rfl) ?_
  refine zV.post T ?_
  rintro v M3 ⟨r3, rfl, T⟩
  refine ⟨r3, rfl, ?_⟩
  refine zq_ifb_ne (tgt := 50) dX11_entry_37 (by decide) (fun h => ?_) (fun h => thr _ (T.1 h))
  have T := T.2 h
  refine zT.of ?_
  refine zr_iload_n dX11_entry_50 rfl 3 rfl ?_
  refine zr_if_ne (tgt := 67) dX11_entry_51 (by decide) (fun h => ?_) (fun h => ?_)
  · have T := T.2 h
    refine zr_iload_n dX11_entry_67 rfl 3 rfl ?_
    refine zr_iconst (v := 1) dX11_entry_68 (by decide) ?_
    refine zr_icmp_ne (tgt := 87) dX11_entry_69 (by decide) (fun h => ?_) (fun h => ?_)
    · have T := T.2 h
      refine zr_aload_n dX11_entry_87 rfl 0 rfl ?_
      refine zm_getr (a := 2) dX11_entry_88 f_X11_20 (by decide) (by decide) (by decide) (by decide) ?_
      refine zm_getr (a := 10) dX11_entry_91 f_X11_37 (by decide) (by decide) (by decide) (by decide) ?_
      refine zr_aload_n dX11_entry_94 rfl 0 rfl ?_
      refine zm_getr (a := 2) dX11_entry_95 f_X11_20 (by decide) (by decide) (by decide) (by decide) ?_
      refine zm_getr (a := 3) dX11_entry_98 f_X11_33 (by decide) (by decide) (by decide) (by decide) ?_
      refine zr_iload_n dX11_entry_101 rfl 1 rfl ?_
      refine zr_iload_n dX11_entry_102 rfl 2 rfl ?_
      refine zm_callV_i (c := 3) (b := 10) dX11_entry_103 w_X3_digestOf l_X11_227 rfl (by decide) (by decide) s_X3_digestOf [.ref 3, .int x1, .int x2] rfl rfl (Nat.le_of_ble_eq_true rfl) (Nat.le_of_ble_eq_true rfl) ?_
      refine zV.post T ?_
      rintro v M4 ⟨r4, rfl, T⟩
      refine ⟨r4, rfl, ?_⟩
      exact zm_iret dX11_entry_106 rfl T
    · have T := T.1 h
      refine zr_aload_n dX11_entry_72 rfl 0 rfl ?_
      refine zm_getr (a := 2) dX11_entry_73 f_X11_20 (by decide) (by decide) (by decide) (by decide) ?_
      refine zm_getr (a := 10) dX11_entry_76 f_X11_37 (by decide) (by decide) (by decide) (by decide) ?_
      refine zr_iload_n dX11_entry_79 rfl 1 rfl ?_
      refine zr_iload_n dX11_entry_80 rfl 2 rfl ?_
      refine zm_callV_i (c := 3) (b := 10) dX11_entry_81 w_X3_stampOf l_X11_224 rfl (by decide) (by decide) s_X3_stampOf [.int x1, .int x2] rfl rfl (Nat.le_of_ble_eq_true rfl) (Nat.le_of_ble_eq_true rfl) ?_
      refine zV.post T ?_
      rintro v M4 ⟨r4, rfl, T⟩
      refine ⟨r4, rfl, ?_⟩
      refine zr_goto (tgt := 106) dX11_entry_84 (by decide) ?_
      exact zm_iret dX11_entry_106 rfl T
  · have T := T.1 h
    refine zr_aload_n dX11_entry_54 rfl 0 rfl ?_
    refine zm_getr (a := 2) dX11_entry_55 f_X11_20 (by decide) (by decide) (by decide) (by decide) ?_
    refine zm_getr (a := 10) dX11_entry_58 f_X11_37 (by decide) (by decide) (by decide) (by decide) ?_
    refine zr_iload_n dX11_entry_61 rfl 1 rfl ?_
    refine zr_iload_n dX11_entry_62 rfl 2 rfl ?_
    refine zm_callV_i (c := 3) (b := 10) dX11_entry_63 w_X3_valueOf l_X11_220 rfl (by decide) (by decide) s_X3_valueOf [.int x1, .int x2] rfl rfl (Nat.le_of_ble_eq_true rfl) (Nat.le_of_ble_eq_true rfl) ?_
    refine zV.post T ?_
    rintro v M4 ⟨r4, rfl, T⟩
    refine ⟨r4, rfl, ?_⟩
    exact zm_iret dX11_entry_66 rfl T
theorem tq_node (T : S_X11_isPeer (d + 5) x1 M (zB fun r M1 => (r = false → X M1) ∧ (r = true → (x2 < 0 → X M1) ∧ (¬ x2 < 0 → vp_in x1 4 ∧ (M1.1 (65 + 12 * Int32.toNatClampNeg x1) 12 ≤ x2 → X M1) ∧ (¬ M1.1 (65 + 12 * Int32.toNatClampNeg x1) 12 ≤ x2 → (x3 < 0 → X M1) ∧ (¬ x3 < 0 → (x3 ≤ 6 → S_X9_tell (d + 5) (65 + 12 * Int32.toNatClampNeg x1) x2 x3 M1 (zI fun r M2 => K (some (.int r)) M2)) ∧ (¬ x3 ≤ 6 → X M1))))))) : zT m_X11_node (d + 6) 0 [(0, .ref 0), (1, .int x1), (2, .int x2), (3, .int x3)] [] M K X := by
  have thr : ∀ M2, X M2 → zT m_X11_node (d + 6) 38 [(0, .ref 0), (1, .int x1), (2, .int x2), (3, .int x3)] [] M2 K X := fun M2 h => zt_throw (i := 6) (by decide) rfl dX11_node_38 dX11_node_41 dX11_node_42 dX11_node_44 dX11_node_47 (by decide) (by decide) ⟨rfl, M2, rfl, h⟩
  refine zt_aload_n dX11_node_0 rfl 0 rfl ?_
  refine zt_iload_n dX11_node_1 rfl 1 rfl ?_
  refine zq_callV_b (c := 11) (b := 0) dX11_node_2 w_X11_isPeer l_X11_179 rfl (by decide) (by decide) s_X11_isPeer [.int x1] rfl rfl (Nat.le_of_ble_eq_true rfl) (Nat.le_of_ble_eq_true rfl) ?_
  refine zV.post T ?_
  rintro v M1 ⟨r1, rfl, T⟩
  refine ⟨r1, rfl, ?_⟩
  refine zq_ifb_eq (tgt := 38) dX11_node_5 (by decide) (fun h => thr _ (T.1 h)) (fun h => ?_)
  have T := T.2 h
  refine zt_iload_n dX11_node_8 rfl 2 rfl ?_
  refine zt_if_lt (tgt := 38) dX11_node_9 (by decide) (fun h => thr _ (T.1 h)) (fun h => ?_)
  obtain ⟨hq, T⟩ := T.2 h
  refine zt_iload_n dX11_node_12 rfl 2 rfl ?_
  refine zt_aload_n dX11_node_13 rfl 0 rfl ?_
  refine zq_getr (a := 63) dX11_node_14 f_X11_44 (by decide) (by decide) (by decide) (by decide) ?_
  refine zq_getr (a := 64) dX11_node_17 f_X11_182 (by decide) (by decide) (by decide) (by decide) ?_
  refine zt_iload_n dX11_node_20 rfl 1 rfl ?_
  refine zq_aald (t := 4) (n := 4) (q := (Int32.toNatClampNeg x1)) (o := 65 + 12 * (Int32.toNatClampNeg x1)) dX11_node_21 (by decide) (by decide) (by decide) (fun _ => rfl) (by decide) hq rfl (e64 (z_lt hq)) ?_
  refine zq_geti dX11_node_22 f_X11_194 (oX9 _ (e64q (z_lt hq))) (by decide) (by decide) ?_
  refine zt_icmp_ge (tgt := 38) dX11_node_25 (by decide) (fun h => thr _ (T.1 h)) (fun h => ?_)
  have T := T.2 h
  refine zt_iload_n dX11_node_28 rfl 3 rfl ?_
  refine zt_if_lt (tgt := 38) dX11_node_29 (by decide) (fun h => thr _ (T.1 h)) (fun h => ?_)
  have T := T.2 h
  refine zt_iload_n dX11_node_32 rfl 3 rfl ?_
  refine zt_bipush (v := 6) dX11_node_33 (by decide) ?_
  refine zt_icmp_le (tgt := 48) dX11_node_35 (by decide) (fun h => ?_) (fun h => thr _ (T.2 h))
  have T := T.1 h
  refine zT.of ?_
  refine zr_aload_n dX11_node_48 rfl 0 rfl ?_
  refine zm_getr (a := 63) dX11_node_49 f_X11_44 (by decide) (by decide) (by decide) (by decide) ?_
  refine zm_getr (a := 64) dX11_node_52 f_X11_182 (by decide) (by decide) (by decide) (by decide) ?_
  refine zr_iload_n dX11_node_55 rfl 1 rfl ?_
  refine zm_aald (t := 4) (n := 4) (q := (Int32.toNatClampNeg x1)) (o := 65 + 12 * (Int32.toNatClampNeg x1)) dX11_node_56 (by decide) (by decide) (by decide) (fun _ => rfl) (by decide) hq rfl (e64 (z_lt hq)) ?_
  refine zr_iload_n dX11_node_57 rfl 2 rfl ?_
  refine zr_iload_n dX11_node_58 rfl 3 rfl ?_
  refine zm_callV_i (c := 9) (b := 65 + 12 * (Int32.toNatClampNeg x1)) dX11_node_59 w_X9_tell l_X11_233 rfl (oX9 _ (e64q (z_lt hq))) (by decide) s_X9_tell [.int x2, .int x3] rfl rfl (Nat.le_of_ble_eq_true rfl) (Nat.le_of_ble_eq_true rfl) ?_
  refine zV.post T ?_
  rintro v M4 ⟨r4, rfl, T⟩
  refine ⟨r4, rfl, ?_⟩
  exact zm_iret dX11_node_62 rfl T
end
