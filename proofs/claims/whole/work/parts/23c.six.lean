-- ===== the six cases that throw =====
theorem lg_same (x : Int64) : lg_cmp x x = 0 := by simp [lg_cmp]
theorem z_H.post {hp : Nat} {y : z_MD} {d mc ms cells slots pc : Nat} {L : List (Nat × Value)} {st : List Value} {N : Nat} {G : Nat → va_E} {K K2 : z_K} (h : z_H hp y d mc ms cells slots pc L st N G K) (hk : ∀ v N' G', K v N' G' → z_ok y v → K2 v N' G') : z_H hp y d mc ms cells slots pc L st N G K2 := by
  intro p l e R s m args below meth c D sA cA Hb Q H locs ls C hx r hc hs hl hw hS
  exact h p l e R s m args below meth c D sA cA Hb Q H locs ls C hx (fun v N' G' H locs pc ls k1 k2 => r v N' G' H locs pc ls (hk v N' G' k1 k2) k2) hc hs hl hw hS
theorem dL_digest_0 : decode cL_digest 0 = .ok (.aload_n 2, 1) := by decide +kernel
theorem dL_digest_1 : decode cL_digest 1 = .ok (.iconst 0, 1) := by decide +kernel
theorem dL_digest_2 : decode cL_digest 2 = .ok (.aload_n 0, 1) := by decide +kernel
theorem dL_digest_3 : decode cL_digest 3 = .ok (.iload_n 1, 1) := by decide +kernel
theorem dL_digest_4 : decode cL_digest 4 = .ok (.invokevirtual 7, 3) := by decide +kernel
theorem dL_digest_7 : decode cL_digest 7 = .ok (.i2l, 1) := by decide +kernel
theorem dL_digest_8 : decode cL_digest 8 = .ok (.lastore, 1) := by decide +kernel
theorem dL_digest_9 : decode cL_digest 9 = .ok (.goto 6, 3) := by decide +kernel
theorem dL_digest_12 : decode cL_digest 12 = .ok (.astore_n 3, 1) := by decide +kernel
theorem dL_digest_13 : decode cL_digest 13 = .ok (.iconst 1, 1) := by decide +kernel
theorem dL_digest_14 : decode cL_digest 14 = .ok (.ireturn, 1) := by decide +kernel
theorem dL_digest_15 : decode cL_digest 15 = .ok (.iconst 0, 1) := by decide +kernel
theorem dL_digest_16 : decode cL_digest 16 = .ok (.ireturn, 1) := by decide +kernel
theorem dL_root_0 : decode cL_root 0 = .ok (.aload_n 2, 1) := by decide +kernel
theorem dL_root_1 : decode cL_root 1 = .ok (.iconst 0, 1) := by decide +kernel
theorem dL_root_2 : decode cL_root 2 = .ok (.aload_n 0, 1) := by decide +kernel
theorem dL_root_3 : decode cL_root 3 = .ok (.iload_n 1, 1) := by decide +kernel
theorem dL_root_4 : decode cL_root 4 = .ok (.invokevirtual 15, 3) := by decide +kernel
theorem dL_root_7 : decode cL_root 7 = .ok (.i2l, 1) := by decide +kernel
theorem dL_root_8 : decode cL_root 8 = .ok (.lastore, 1) := by decide +kernel
theorem dL_root_9 : decode cL_root 9 = .ok (.goto 6, 3) := by decide +kernel
theorem dL_root_12 : decode cL_root 12 = .ok (.astore_n 3, 1) := by decide +kernel
theorem dL_root_13 : decode cL_root 13 = .ok (.iconst 1, 1) := by decide +kernel
theorem dL_root_14 : decode cL_root 14 = .ok (.ireturn, 1) := by decide +kernel
theorem dL_root_15 : decode cL_root 15 = .ok (.iconst 0, 1) := by decide +kernel
theorem dL_root_16 : decode cL_root 16 = .ok (.ireturn, 1) := by decide +kernel
theorem dL_entry_0 : decode cL_entry 0 = .ok (.aload 4, 2) := by decide +kernel
theorem dL_entry_2 : decode cL_entry 2 = .ok (.iconst 0, 1) := by decide +kernel
theorem dL_entry_3 : decode cL_entry 3 = .ok (.aload_n 0, 1) := by decide +kernel
theorem dL_entry_4 : decode cL_entry 4 = .ok (.iload_n 1, 1) := by decide +kernel
theorem dL_entry_5 : decode cL_entry 5 = .ok (.iload_n 2, 1) := by decide +kernel
theorem dL_entry_6 : decode cL_entry 6 = .ok (.iload_n 3, 1) := by decide +kernel
theorem dL_entry_7 : decode cL_entry 7 = .ok (.invokevirtual 18, 3) := by decide +kernel
theorem dL_entry_10 : decode cL_entry 10 = .ok (.i2l, 1) := by decide +kernel
theorem dL_entry_11 : decode cL_entry 11 = .ok (.lastore, 1) := by decide +kernel
theorem dL_entry_12 : decode cL_entry 12 = .ok (.goto 7, 3) := by decide +kernel
theorem dL_entry_15 : decode cL_entry 15 = .ok (.astore 5, 2) := by decide +kernel
theorem dL_entry_17 : decode cL_entry 17 = .ok (.iconst 1, 1) := by decide +kernel
theorem dL_entry_18 : decode cL_entry 18 = .ok (.ireturn, 1) := by decide +kernel
theorem dL_entry_19 : decode cL_entry 19 = .ok (.iconst 0, 1) := by decide +kernel
theorem dL_entry_20 : decode cL_entry 20 = .ok (.ireturn, 1) := by decide +kernel
theorem dL_node_0 : decode cL_node 0 = .ok (.aload 4, 2) := by decide +kernel
theorem dL_node_2 : decode cL_node 2 = .ok (.iconst 0, 1) := by decide +kernel
theorem dL_node_3 : decode cL_node 3 = .ok (.aload_n 0, 1) := by decide +kernel
theorem dL_node_4 : decode cL_node 4 = .ok (.iload_n 1, 1) := by decide +kernel
theorem dL_node_5 : decode cL_node 5 = .ok (.iload_n 2, 1) := by decide +kernel
theorem dL_node_6 : decode cL_node 6 = .ok (.iload_n 3, 1) := by decide +kernel
theorem dL_node_7 : decode cL_node 7 = .ok (.invokevirtual 22, 3) := by decide +kernel
theorem dL_node_10 : decode cL_node 10 = .ok (.i2l, 1) := by decide +kernel
theorem dL_node_11 : decode cL_node 11 = .ok (.lastore, 1) := by decide +kernel
theorem dL_node_12 : decode cL_node 12 = .ok (.goto 7, 3) := by decide +kernel
theorem dL_node_15 : decode cL_node 15 = .ok (.astore 5, 2) := by decide +kernel
theorem dL_node_17 : decode cL_node 17 = .ok (.iconst 1, 1) := by decide +kernel
theorem dL_node_18 : decode cL_node 18 = .ok (.ireturn, 1) := by decide +kernel
theorem dL_node_19 : decode cL_node 19 = .ok (.iconst 0, 1) := by decide +kernel
theorem dL_node_20 : decode cL_node 20 = .ok (.ireturn, 1) := by decide +kernel
theorem dL_mean_0 : decode cL_mean 0 = .ok (.aload_n 3, 1) := by decide +kernel
theorem dL_mean_1 : decode cL_mean 1 = .ok (.iconst 0, 1) := by decide +kernel
theorem dL_mean_2 : decode cL_mean 2 = .ok (.aload_n 0, 1) := by decide +kernel
theorem dL_mean_3 : decode cL_mean 3 = .ok (.iload_n 1, 1) := by decide +kernel
theorem dL_mean_4 : decode cL_mean 4 = .ok (.iload_n 2, 1) := by decide +kernel
theorem dL_mean_5 : decode cL_mean 5 = .ok (.invokevirtual 25, 3) := by decide +kernel
theorem dL_mean_8 : decode cL_mean 8 = .ok (.i2l, 1) := by decide +kernel
theorem dL_mean_9 : decode cL_mean 9 = .ok (.lastore, 1) := by decide +kernel
theorem dL_mean_10 : decode cL_mean 10 = .ok (.goto 7, 3) := by decide +kernel
theorem dL_mean_13 : decode cL_mean 13 = .ok (.astore 4, 2) := by decide +kernel
theorem dL_mean_15 : decode cL_mean 15 = .ok (.iconst 1, 1) := by decide +kernel
theorem dL_mean_16 : decode cL_mean 16 = .ok (.ireturn, 1) := by decide +kernel
theorem dL_mean_17 : decode cL_mean 17 = .ok (.iconst 0, 1) := by decide +kernel
theorem dL_mean_18 : decode cL_mean 18 = .ok (.ireturn, 1) := by decide +kernel
theorem dL_part_0 : decode cL_part 0 = .ok (.aload 4, 2) := by decide +kernel
theorem dL_part_2 : decode cL_part 2 = .ok (.iconst 0, 1) := by decide +kernel
theorem dL_part_3 : decode cL_part 3 = .ok (.aload_n 0, 1) := by decide +kernel
theorem dL_part_4 : decode cL_part 4 = .ok (.iload_n 1, 1) := by decide +kernel
theorem dL_part_5 : decode cL_part 5 = .ok (.iload_n 2, 1) := by decide +kernel
theorem dL_part_6 : decode cL_part 6 = .ok (.iload_n 3, 1) := by decide +kernel
theorem dL_part_7 : decode cL_part 7 = .ok (.invokevirtual 29, 3) := by decide +kernel
theorem dL_part_10 : decode cL_part 10 = .ok (.i2l, 1) := by decide +kernel
theorem dL_part_11 : decode cL_part 11 = .ok (.lastore, 1) := by decide +kernel
theorem dL_part_12 : decode cL_part 12 = .ok (.goto 7, 3) := by decide +kernel
theorem dL_part_15 : decode cL_part 15 = .ok (.astore 5, 2) := by decide +kernel
theorem dL_part_17 : decode cL_part 17 = .ok (.iconst 1, 1) := by decide +kernel
theorem dL_part_18 : decode cL_part 18 = .ok (.ireturn, 1) := by decide +kernel
theorem dL_part_19 : decode cL_part 19 = .ok (.iconst 0, 1) := by decide +kernel
theorem dL_part_20 : decode cL_part 20 = .ok (.ireturn, 1) := by decide +kernel
theorem zg_0 : Cond.codeWith yL_digest cL_digest 4 (some .int) [(0, 9, 12, 13)] ∈ z_good := z_int6 12 (by decide +kernel) (by decide +kernel)
theorem zg_1 : Cond.methodLink RL 7 yX11_digest ∈ z_good := z_int6 14 (by decide +kernel) (by decide +kernel)
theorem zg_2 : Cond.methodLink RL 63 yL_digest ∈ z_good := z_int6 10 (by decide +kernel) (by decide +kernel)
theorem zg_3 : Cond.static yL_digest ∈ z_good := z_int6 11 (by decide +kernel) (by decide +kernel)
theorem zg_4 : Cond.initialized RL ∈ z_good := z_int1 0 (by decide +kernel) (by decide +kernel)
theorem zg_5 : Cond.methodLink RL 68 yX12_digest ∈ z_good := z_int8 16 (by decide +kernel) (by decide +kernel)
theorem zg_6 : Cond.methodLink RL 69 yX12_thrown ∈ z_good := z_int6 133 (by decide +kernel) (by decide +kernel)
theorem zg_7 : Cond.codeWith yL_root cL_root 4 (some .int) [(0, 9, 12, 13)] ∈ z_good := z_int6 85 (by decide +kernel) (by decide +kernel)
theorem zg_8 : Cond.methodLink RL 15 yX11_root ∈ z_good := z_int6 86 (by decide +kernel) (by decide +kernel)
theorem zg_9 : Cond.methodLink RL 76 yL_root ∈ z_good := z_int6 83 (by decide +kernel) (by decide +kernel)
theorem zg_10 : Cond.static yL_root ∈ z_good := z_int6 84 (by decide +kernel) (by decide +kernel)
theorem zg_11 : Cond.methodLink RL 78 yX12_root ∈ z_good := z_int8 64 (by decide +kernel) (by decide +kernel)
theorem zg_12 : Cond.codeWith yL_entry cL_entry 6 (some .int) [(0, 12, 15, 13)] ∈ z_good := z_int6 93 (by decide +kernel) (by decide +kernel)
theorem zg_13 : Cond.methodLink RL 18 yX11_entry ∈ z_good := z_int6 94 (by decide +kernel) (by decide +kernel)
theorem zg_14 : Cond.methodLink RL 79 yL_entry ∈ z_good := z_int6 91 (by decide +kernel) (by decide +kernel)
theorem zg_15 : Cond.static yL_entry ∈ z_good := z_int6 92 (by decide +kernel) (by decide +kernel)
theorem zg_16 : Cond.methodLink RL 82 yX12_entry ∈ z_good := z_int8 68 (by decide +kernel) (by decide +kernel)
theorem zg_17 : Cond.codeWith yL_node cL_node 6 (some .int) [(0, 12, 15, 13)] ∈ z_good := z_int6 104 (by decide +kernel) (by decide +kernel)
theorem zg_18 : Cond.methodLink RL 22 yX11_node ∈ z_good := z_int6 105 (by decide +kernel) (by decide +kernel)
theorem zg_19 : Cond.methodLink RL 83 yL_node ∈ z_good := z_int6 102 (by decide +kernel) (by decide +kernel)
theorem zg_20 : Cond.static yL_node ∈ z_good := z_int6 103 (by decide +kernel) (by decide +kernel)
theorem zg_21 : Cond.methodLink RL 85 yX12_node ∈ z_good := z_int8 72 (by decide +kernel) (by decide +kernel)
theorem zg_22 : Cond.codeWith yL_mean cL_mean 5 (some .int) [(0, 10, 13, 13)] ∈ z_good := z_int6 116 (by decide +kernel) (by decide +kernel)
theorem zg_23 : Cond.methodLink RL 25 yX11_mean ∈ z_good := z_int6 117 (by decide +kernel) (by decide +kernel)
theorem zg_24 : Cond.methodLink RL 142 yL_mean ∈ z_good := z_int6 114 (by decide +kernel) (by decide +kernel)
theorem zg_25 : Cond.static yL_mean ∈ z_good := z_int6 115 (by decide +kernel) (by decide +kernel)
theorem zg_26 : Cond.methodLink RL 145 yX12_mean ∈ z_good := z_int8 221 (by decide +kernel) (by decide +kernel)
theorem zg_27 : Cond.codeWith yL_part cL_part 6 (some .int) [(0, 12, 15, 13)] ∈ z_good := z_int6 127 (by decide +kernel) (by decide +kernel)
theorem zg_28 : Cond.methodLink RL 29 yX11_part ∈ z_good := z_int6 128 (by decide +kernel) (by decide +kernel)
theorem zg_29 : Cond.methodLink RL 146 yL_part ∈ z_good := z_int6 125 (by decide +kernel) (by decide +kernel)
theorem zg_30 : Cond.static yL_part ∈ z_good := z_int6 126 (by decide +kernel) (by decide +kernel)
theorem zg_31 : Cond.methodLink RL 148 yX12_part ∈ z_good := z_int8 232 (by decide +kernel) (by decide +kernel)
abbrev yW_digest : z_MD := (yL_digest, cL_digest, 4, some .int)
theorem k_w_digest {B : Nat} {M : zMem} {N : zNm} {F : Nat → Int32} {us : List (Nat → Int32)} {x : Int32} {Kz : Int32 → zMem → Prop} (h : JA B M N F us) (kr : ∀ r M1, S_X12_digest 99 x M1 (zI (eR B r)) → Kz 0 M1) (kt : ∀ M1, S_X12_digest 99 x M1 (zI (eX B)) → Kz 1 M1) : z_H 12 yW_digest 100 1 6 0 0 0 [(0, .ref 0), (1, .int x), (2, .ref 263)] [] zN (zE M) (zKw (zI Kz)) := by
  refine zh_aload_n dL_digest_0 rfl 2 rfl ?_
  refine zh_iconst (v := 0) dL_digest_1 (by decide) ?_
  refine zh_aload_n dL_digest_2 rfl 0 rfl ?_
  refine zh_iload_n dL_digest_3 rfl 1 rfl ?_
  refine zh_callX (hp := 12) (y2 := m_X11_digest) (As := [.int x]) (b := 0) (st := [.int 0, .ref 263]) dL_digest_4 w_X11_digest zg_1 rfl (by decide) (zE_o (c := 11) (by decide) (by decide)) s_X11_digest rfl (Nat.le_of_ble_eq_true rfl) (Nat.le_of_ble_eq_true rfl) rfl rfl (by decide) rfl rfl (o_digest (d := 59) h) ?_ ?_
  · rintro v N2 G2 ⟨rfl, M1, rfl, r, rfl, T⟩
    refine zr_i2l dL_digest_7 ?_
    refine zr_last dL_digest_8 (by decide) (zE_l (by decide)) (by unfold vp_in; decide) ?_
    rw [zu_l (by decide)]
    refine zr_goto (tgt := 15) dL_digest_9 (by decide) ?_
    refine zr_iconst (v := 0) dL_digest_15 (by decide) ?_
    exact zr_ret (v := some (.int 0)) ⟨rfl, _, rfl, 0, rfl, kr r _ T⟩ ⟨.int, rfl, rfl⟩ dL_digest_16
  · rintro N2 G2 ⟨rfl, M1, rfl, T⟩
    refine z_X.asn dL_digest_12 rfl (by decide) ?_
    refine zr_iconst (v := 1) dL_digest_13 (by decide) ?_
    exact zr_ret (v := some (.int 1)) ⟨rfl, _, rfl, 1, rfl, kt _ T⟩ ⟨.int, rfl, rfl⟩ dL_digest_14
theorem hws_digest : ∀ w ∈ va_wsS yU.1.cls 63 yW_digest.1 (z_wsH 12 yW_digest), w ∈ z_good := by
  intro w hw
  simp only [va_wsS, z_wsH, List.cons_append, List.nil_append, List.mem_cons] at hw
  rcases hw with rfl | rfl | rfl | rfl | hw
  · exact zg_2
  · exact zg_3
  · exact zg_4
  · exact zg_0
  · exact hw
theorem uc_6 : UCase 386 := by
  intro sn k i xs M hJ hk h1 h2 h3 h4 h5 kk
  obtain ⟨N, F, us, h⟩ := hJ
  have h : JA (1000 * k) M N F us := h
  have hc1 : 264 + k + 1 ≤ 601024 := by omega
  have hc2 : 13600 + 6 * k + 6 ≤ 7293034 := by omega
  refine zu_aload_n dL_law_386 rfl 2 rfl ?_
  refine zu_aloadT_n dL_law_387 rfl 1 rfl ?_
  refine zu_iload dL_law_388 0 rfl ?_
  refine zu_iconst (v := 1) dL_law_390 (by decide) ?_
  refine zu_iadd dL_law_391 ?_
  refine zu_sald dL_law_392 h1 ?_
  refine zu_aload_n dL_law_393 rfl 4 rfl ?_
  refine zu_callH (n := 3) (y := yU) (y2 := yW_digest) (hp := 12) (As := [.ref 0, .int (xs (Int32.toNatClampNeg (nI i + 1))), .ref 263]) (st := []) dL_law_394 (by decide +kernel) hws_digest ⟨by decide +kernel, by decide +kernel, by decide +kernel⟩ (by decide) rfl (Nat.le_of_ble_eq_true rfl) (Nat.le_of_ble_eq_true rfl) hc1 hc2 (z_H.post (k_w_digest h (Kz := fun v M1 => zUL sn xs (k + 1) 397 (LU i) [.int v] M1) ?_ ?_) ?_)
  · intro r M1 T
    refine zu_istore dL_law_397 (by decide) (L2 := (5, .int 0) :: LU i) rfl ?_
    refine zu_aload_n dL_law_399 rfl 4 rfl ?_
    refine zu_aloadT_n dL_law_400 rfl 2 rfl ?_
    refine zu_iload dL_law_401 1 rfl ?_
    refine zu_iconst (v := 1) dL_law_403 (by decide) ?_
    refine zu_iadd dL_law_404 ?_
    refine zu_sald dL_law_405 h1 ?_
    refine zu_callI (c := 12) (b := 229) dL_law_406 w_X12_digest zg_5 rfl (by decide) (by decide) s_X12_digest [.int (xs (Int32.toNatClampNeg (nI i + 1)))] rfl rfl (Nat.le_of_ble_eq_true rfl) (Nat.le_of_ble_eq_true rfl) ?_ (by omega)
    refine zV.post (z_V.deep (show 99 ≤ 100 by decide) T) ?_
    rintro v M2 ⟨r2, rfl, hr, h0, h3, hj⟩
    refine ⟨_, rfl, ?_⟩
    refine zu_istore dL_law_409 (by decide) (L2 := (6, .int r2) :: (5, .int 0) :: LU i) rfl ?_
    refine zu_aload_n dL_law_411 rfl 5 rfl ?_
    refine zu_callI (c := 12) (b := 229) dL_law_412 w_X12_thrown zg_6 rfl (by decide) (by decide) s_X12_thrown [] rfl rfl (Nat.le_of_ble_eq_true rfl) (Nat.le_of_ble_eq_true rfl) ?_ (by omega)
    refine t_X12_thrown (zii ?_)
    rw [h0]
    refine zu_iload dL_law_415 1 rfl ?_
    refine zu_icmp_eq (tgt := 422) dL_law_417 (by decide) (fun _ => ?_) (fun q => absurd rfl q)
    refine zu_iload dL_law_422 1 rfl ?_
    refine zu_if_ne (tgt := 439) dL_law_424 (by decide) (fun q => absurd rfl q) (fun _ => ?_)
    refine zu_aload_n dL_law_427 rfl 6 rfl ?_
    refine zu_iconst (v := 0) dL_law_428 (by decide) ?_
    refine zu_lald dL_law_429 (by decide) (zE_l (by decide)) (by unfold vp_in; decide) ?_
    refine zu_iload dL_law_430 0 rfl ?_
    refine zu_i2l dL_law_432 ?_
    refine zu_lcmp dL_law_433 ?_
    rw [show M2.2 263 (Int32.toNatClampNeg 0) = r.toInt64 from h3, hr, lg_same]
    refine zu_if_eq (tgt := 439) dL_law_434 (by decide) (fun _ => ?_) (fun q => absurd rfl q)
    refine zu_goto (tgt := 1649) dL_law_439 (by decide) ?_
    exact z_U.sub (kk _ (J_up9 hj (by omega))) (fun q hq => List.mem_cons_of_mem _ (List.mem_cons_of_mem _ hq))
  · intro M1 T
    refine zu_istore dL_law_397 (by decide) (L2 := (5, .int 1) :: LU i) rfl ?_
    refine zu_aload_n dL_law_399 rfl 4 rfl ?_
    refine zu_aloadT_n dL_law_400 rfl 2 rfl ?_
    refine zu_iload dL_law_401 1 rfl ?_
    refine zu_iconst (v := 1) dL_law_403 (by decide) ?_
    refine zu_iadd dL_law_404 ?_
    refine zu_sald dL_law_405 h1 ?_
    refine zu_callI (c := 12) (b := 229) dL_law_406 w_X12_digest zg_5 rfl (by decide) (by decide) s_X12_digest [.int (xs (Int32.toNatClampNeg (nI i + 1)))] rfl rfl (Nat.le_of_ble_eq_true rfl) (Nat.le_of_ble_eq_true rfl) ?_ (by omega)
    refine zV.post (z_V.deep (show 99 ≤ 100 by decide) T) ?_
    rintro v M2 ⟨r2, rfl, h0, hj⟩
    refine ⟨_, rfl, ?_⟩
    refine zu_istore dL_law_409 (by decide) (L2 := (6, .int r2) :: (5, .int 1) :: LU i) rfl ?_
    refine zu_aload_n dL_law_411 rfl 5 rfl ?_
    refine zu_callI (c := 12) (b := 229) dL_law_412 w_X12_thrown zg_6 rfl (by decide) (by decide) s_X12_thrown [] rfl rfl (Nat.le_of_ble_eq_true rfl) (Nat.le_of_ble_eq_true rfl) ?_ (by omega)
    refine t_X12_thrown (zii ?_)
    rw [h0]
    refine zu_iload dL_law_415 1 rfl ?_
    refine zu_icmp_eq (tgt := 422) dL_law_417 (by decide) (fun _ => ?_) (fun q => absurd rfl q)
    refine zu_iload dL_law_422 1 rfl ?_
    refine zu_if_ne (tgt := 439) dL_law_424 (by decide) (fun _ => ?_) (fun q => absurd q (by decide))
    refine zu_goto (tgt := 1649) dL_law_439 (by decide) ?_
    exact z_U.sub (kk _ (J_up9 hj (by omega))) (fun q hq => List.mem_cons_of_mem _ (List.mem_cons_of_mem _ hq))
  · rintro v N2 G2 ⟨rfl, M1, rfl, r, rfl, hz⟩ _
    exact hz
abbrev yW_root : z_MD := (yL_root, cL_root, 4, some .int)
theorem k_w_root {B : Nat} {M : zMem} {N : zNm} {F : Nat → Int32} {us : List (Nat → Int32)} {x : Int32} {Kz : Int32 → zMem → Prop} (h : JA B M N F us) (kr : ∀ r M1, S_X12_root 99 x M1 (zI (eR B r)) → Kz 0 M1) (kt : ∀ M1, S_X12_root 99 x M1 (zI (eX B)) → Kz 1 M1) : z_H 12 yW_root 100 1 6 0 0 0 [(0, .ref 0), (1, .int x), (2, .ref 263)] [] zN (zE M) (zKw (zI Kz)) := by
  refine zh_aload_n dL_root_0 rfl 2 rfl ?_
  refine zh_iconst (v := 0) dL_root_1 (by decide) ?_
  refine zh_aload_n dL_root_2 rfl 0 rfl ?_
  refine zh_iload_n dL_root_3 rfl 1 rfl ?_
  refine zh_callX (hp := 12) (y2 := m_X11_root) (As := [.int x]) (b := 0) (st := [.int 0, .ref 263]) dL_root_4 w_X11_root zg_8 rfl (by decide) (zE_o (c := 11) (by decide) (by decide)) s_X11_root rfl (Nat.le_of_ble_eq_true rfl) (Nat.le_of_ble_eq_true rfl) rfl rfl (by decide) rfl rfl (o_root (d := 59) h) ?_ ?_
  · rintro v N2 G2 ⟨rfl, M1, rfl, r, rfl, T⟩
    refine zr_i2l dL_root_7 ?_
    refine zr_last dL_root_8 (by decide) (zE_l (by decide)) (by unfold vp_in; decide) ?_
    rw [zu_l (by decide)]
    refine zr_goto (tgt := 15) dL_root_9 (by decide) ?_
    refine zr_iconst (v := 0) dL_root_15 (by decide) ?_
    exact zr_ret (v := some (.int 0)) ⟨rfl, _, rfl, 0, rfl, kr r _ T⟩ ⟨.int, rfl, rfl⟩ dL_root_16
  · rintro N2 G2 ⟨rfl, M1, rfl, T⟩
    refine z_X.asn dL_root_12 rfl (by decide) ?_
    refine zr_iconst (v := 1) dL_root_13 (by decide) ?_
    exact zr_ret (v := some (.int 1)) ⟨rfl, _, rfl, 1, rfl, kt _ T⟩ ⟨.int, rfl, rfl⟩ dL_root_14
theorem hws_root : ∀ w ∈ va_wsS yU.1.cls 76 yW_root.1 (z_wsH 12 yW_root), w ∈ z_good := by
  intro w hw
  simp only [va_wsS, z_wsH, List.cons_append, List.nil_append, List.mem_cons] at hw
  rcases hw with rfl | rfl | rfl | rfl | hw
  · exact zg_9
  · exact zg_10
  · exact zg_4
  · exact zg_7
  · exact hw
theorem uc_8 : UCase 479 := by
  intro sn k i xs M hJ hk h1 h2 h3 h4 h5 kk
  obtain ⟨N, F, us, h⟩ := hJ
  have h : JA (1000 * k) M N F us := h
  have hc1 : 264 + k + 1 ≤ 601024 := by omega
  have hc2 : 13600 + 6 * k + 6 ≤ 7293034 := by omega
  refine zu_aload_n dL_law_479 rfl 2 rfl ?_
  refine zu_aloadT_n dL_law_480 rfl 1 rfl ?_
  refine zu_iload dL_law_481 0 rfl ?_
  refine zu_iconst (v := 1) dL_law_483 (by decide) ?_
  refine zu_iadd dL_law_484 ?_
  refine zu_sald dL_law_485 h1 ?_
  refine zu_aload_n dL_law_486 rfl 4 rfl ?_
  refine zu_callH (n := 3) (y := yU) (y2 := yW_root) (hp := 12) (As := [.ref 0, .int (xs (Int32.toNatClampNeg (nI i + 1))), .ref 263]) (st := []) dL_law_487 (by decide +kernel) hws_root ⟨by decide +kernel, by decide +kernel, by decide +kernel⟩ (by decide) rfl (Nat.le_of_ble_eq_true rfl) (Nat.le_of_ble_eq_true rfl) hc1 hc2 (z_H.post (k_w_root h (Kz := fun v M1 => zUL sn xs (k + 1) 490 (LU i) [.int v] M1) ?_ ?_) ?_)
  · intro r M1 T
    refine zu_istore dL_law_490 (by decide) (L2 := (5, .int 0) :: LU i) rfl ?_
    refine zu_aload_n dL_law_492 rfl 4 rfl ?_
    refine zu_aloadT_n dL_law_493 rfl 2 rfl ?_
    refine zu_iload dL_law_494 1 rfl ?_
    refine zu_iconst (v := 1) dL_law_496 (by decide) ?_
    refine zu_iadd dL_law_497 ?_
    refine zu_sald dL_law_498 h1 ?_
    refine zu_callI (c := 12) (b := 229) dL_law_499 w_X12_root zg_11 rfl (by decide) (by decide) s_X12_root [.int (xs (Int32.toNatClampNeg (nI i + 1)))] rfl rfl (Nat.le_of_ble_eq_true rfl) (Nat.le_of_ble_eq_true rfl) ?_ (by omega)
    refine zV.post (z_V.deep (show 99 ≤ 100 by decide) T) ?_
    rintro v M2 ⟨r2, rfl, hr, h0, h3, hj⟩
    refine ⟨_, rfl, ?_⟩
    refine zu_istore dL_law_502 (by decide) (L2 := (6, .int r2) :: (5, .int 0) :: LU i) rfl ?_
    refine zu_aload_n dL_law_504 rfl 5 rfl ?_
    refine zu_callI (c := 12) (b := 229) dL_law_505 w_X12_thrown zg_6 rfl (by decide) (by decide) s_X12_thrown [] rfl rfl (Nat.le_of_ble_eq_true rfl) (Nat.le_of_ble_eq_true rfl) ?_ (by omega)
    refine t_X12_thrown (zii ?_)
    rw [h0]
    refine zu_iload dL_law_508 1 rfl ?_
    refine zu_icmp_eq (tgt := 515) dL_law_510 (by decide) (fun _ => ?_) (fun q => absurd rfl q)
    refine zu_iload dL_law_515 1 rfl ?_
    refine zu_if_ne (tgt := 532) dL_law_517 (by decide) (fun q => absurd rfl q) (fun _ => ?_)
    refine zu_aload_n dL_law_520 rfl 6 rfl ?_
    refine zu_iconst (v := 0) dL_law_521 (by decide) ?_
    refine zu_lald dL_law_522 (by decide) (zE_l (by decide)) (by unfold vp_in; decide) ?_
    refine zu_iload dL_law_523 0 rfl ?_
    refine zu_i2l dL_law_525 ?_
    refine zu_lcmp dL_law_526 ?_
    rw [show M2.2 263 (Int32.toNatClampNeg 0) = r.toInt64 from h3, hr, lg_same]
    refine zu_if_eq (tgt := 532) dL_law_527 (by decide) (fun _ => ?_) (fun q => absurd rfl q)
    refine zu_goto (tgt := 1649) dL_law_532 (by decide) ?_
    exact z_U.sub (kk _ (J_up9 hj (by omega))) (fun q hq => List.mem_cons_of_mem _ (List.mem_cons_of_mem _ hq))
  · intro M1 T
    refine zu_istore dL_law_490 (by decide) (L2 := (5, .int 1) :: LU i) rfl ?_
    refine zu_aload_n dL_law_492 rfl 4 rfl ?_
    refine zu_aloadT_n dL_law_493 rfl 2 rfl ?_
    refine zu_iload dL_law_494 1 rfl ?_
    refine zu_iconst (v := 1) dL_law_496 (by decide) ?_
    refine zu_iadd dL_law_497 ?_
    refine zu_sald dL_law_498 h1 ?_
    refine zu_callI (c := 12) (b := 229) dL_law_499 w_X12_root zg_11 rfl (by decide) (by decide) s_X12_root [.int (xs (Int32.toNatClampNeg (nI i + 1)))] rfl rfl (Nat.le_of_ble_eq_true rfl) (Nat.le_of_ble_eq_true rfl) ?_ (by omega)
    refine zV.post (z_V.deep (show 99 ≤ 100 by decide) T) ?_
    rintro v M2 ⟨r2, rfl, h0, hj⟩
    refine ⟨_, rfl, ?_⟩
    refine zu_istore dL_law_502 (by decide) (L2 := (6, .int r2) :: (5, .int 1) :: LU i) rfl ?_
    refine zu_aload_n dL_law_504 rfl 5 rfl ?_
    refine zu_callI (c := 12) (b := 229) dL_law_505 w_X12_thrown zg_6 rfl (by decide) (by decide) s_X12_thrown [] rfl rfl (Nat.le_of_ble_eq_true rfl) (Nat.le_of_ble_eq_true rfl) ?_ (by omega)
    refine t_X12_thrown (zii ?_)
    rw [h0]
    refine zu_iload dL_law_508 1 rfl ?_
    refine zu_icmp_eq (tgt := 515) dL_law_510 (by decide) (fun _ => ?_) (fun q => absurd rfl q)
    refine zu_iload dL_law_515 1 rfl ?_
    refine zu_if_ne (tgt := 532) dL_law_517 (by decide) (fun _ => ?_) (fun q => absurd q (by decide))
    refine zu_goto (tgt := 1649) dL_law_532 (by decide) ?_
    exact z_U.sub (kk _ (J_up9 hj (by omega))) (fun q hq => List.mem_cons_of_mem _ (List.mem_cons_of_mem _ hq))
  · rintro v N2 G2 ⟨rfl, M1, rfl, r, rfl, hz⟩ _
    exact hz
abbrev yW_entry : z_MD := (yL_entry, cL_entry, 6, some .int)
theorem k_w_entry {B : Nat} {M : zMem} {N : zNm} {F : Nat → Int32} {us : List (Nat → Int32)} {x y z : Int32} {Kz : Int32 → zMem → Prop} (h : JA B M N F us) (kr : ∀ r M1, S_X12_entry 99 x y z M1 (zI (eR B r)) → Kz 0 M1) (kt : ∀ M1, S_X12_entry 99 x y z M1 (zI (eX B)) → Kz 1 M1) : z_H 15 yW_entry 100 1 6 0 0 0 [(0, .ref 0), (1, .int x), (2, .int y), (3, .int z), (4, .ref 263)] [] zN (zE M) (zKw (zI Kz)) := by
  refine zh_aload dL_entry_0 4 rfl ?_
  refine zh_iconst (v := 0) dL_entry_2 (by decide) ?_
  refine zh_aload_n dL_entry_3 rfl 0 rfl ?_
  refine zh_iload_n dL_entry_4 rfl 1 rfl ?_
  refine zh_iload_n dL_entry_5 rfl 2 rfl ?_
  refine zh_iload_n dL_entry_6 rfl 3 rfl ?_
  refine zh_callX (hp := 15) (y2 := m_X11_entry) (As := [.int x, .int y, .int z]) (b := 0) (st := [.int 0, .ref 263]) dL_entry_7 w_X11_entry zg_13 rfl (by decide) (zE_o (c := 11) (by decide) (by decide)) s_X11_entry rfl (Nat.le_of_ble_eq_true rfl) (Nat.le_of_ble_eq_true rfl) rfl rfl (by decide) rfl rfl (o_entry (d := 59) h) ?_ ?_
  · rintro v N2 G2 ⟨rfl, M1, rfl, r, rfl, T⟩
    refine zr_i2l dL_entry_10 ?_
    refine zr_last dL_entry_11 (by decide) (zE_l (by decide)) (by unfold vp_in; decide) ?_
    rw [zu_l (by decide)]
    refine zr_goto (tgt := 19) dL_entry_12 (by decide) ?_
    refine zr_iconst (v := 0) dL_entry_19 (by decide) ?_
    exact zr_ret (v := some (.int 0)) ⟨rfl, _, rfl, 0, rfl, kr r _ T⟩ ⟨.int, rfl, rfl⟩ dL_entry_20
  · rintro N2 G2 ⟨rfl, M1, rfl, T⟩
    refine z_X.asw dL_entry_15 (by decide) ?_
    refine zr_iconst (v := 1) dL_entry_17 (by decide) ?_
    exact zr_ret (v := some (.int 1)) ⟨rfl, _, rfl, 1, rfl, kt _ T⟩ ⟨.int, rfl, rfl⟩ dL_entry_18
theorem hws_entry : ∀ w ∈ va_wsS yU.1.cls 79 yW_entry.1 (z_wsH 15 yW_entry), w ∈ z_good := by
  intro w hw
  simp only [va_wsS, z_wsH, List.cons_append, List.nil_append, List.mem_cons] at hw
  rcases hw with rfl | rfl | rfl | rfl | hw
  · exact zg_14
  · exact zg_15
  · exact zg_4
  · exact zg_12
  · exact hw
theorem uc_9 : UCase 535 := by
  intro sn k i xs M hJ hk h1 h2 h3 h4 h5 kk
  obtain ⟨N, F, us, h⟩ := hJ
  have h : JA (1000 * k) M N F us := h
  have hc1 : 264 + k + 1 ≤ 601024 := by omega
  have hc2 : 13600 + 6 * k + 6 ≤ 7293034 := by omega
  refine zu_aload_n dL_law_535 rfl 2 rfl ?_
  refine zu_aloadT_n dL_law_536 rfl 1 rfl ?_
  refine zu_iload dL_law_537 0 rfl ?_
  refine zu_iconst (v := 1) dL_law_539 (by decide) ?_
  refine zu_iadd dL_law_540 ?_
  refine zu_sald dL_law_541 h1 ?_
  refine zu_aloadT_n dL_law_542 rfl 1 rfl ?_
  refine zu_iload dL_law_543 0 rfl ?_
  refine zu_iconst (v := 2) dL_law_545 (by decide) ?_
  refine zu_iadd dL_law_546 ?_
  refine zu_sald dL_law_547 h2 ?_
  refine zu_aloadT_n dL_law_548 rfl 1 rfl ?_
  refine zu_iload dL_law_549 0 rfl ?_
  refine zu_iconst (v := 3) dL_law_551 (by decide) ?_
  refine zu_iadd dL_law_552 ?_
  refine zu_sald dL_law_553 h3 ?_
  refine zu_aload_n dL_law_554 rfl 4 rfl ?_
  refine zu_callH (n := 5) (y := yU) (y2 := yW_entry) (hp := 15) (As := [.ref 0, .int (xs (Int32.toNatClampNeg (nI i + 1))), .int (xs (Int32.toNatClampNeg (nI i + 2))), .int (xs (Int32.toNatClampNeg (nI i + 3))), .ref 263]) (st := []) dL_law_555 (by decide +kernel) hws_entry ⟨by decide +kernel, by decide +kernel, by decide +kernel⟩ (by decide) rfl (Nat.le_of_ble_eq_true rfl) (Nat.le_of_ble_eq_true rfl) hc1 hc2 (z_H.post (k_w_entry h (Kz := fun v M1 => zUL sn xs (k + 1) 558 (LU i) [.int v] M1) ?_ ?_) ?_)
  · intro r M1 T
    refine zu_istore dL_law_558 (by decide) (L2 := (5, .int 0) :: LU i) rfl ?_
    refine zu_aload_n dL_law_560 rfl 4 rfl ?_
    refine zu_aloadT_n dL_law_561 rfl 2 rfl ?_
    refine zu_iload dL_law_562 1 rfl ?_
    refine zu_iconst (v := 1) dL_law_564 (by decide) ?_
    refine zu_iadd dL_law_565 ?_
    refine zu_sald dL_law_566 h1 ?_
    refine zu_aloadT_n dL_law_567 rfl 2 rfl ?_
    refine zu_iload dL_law_568 1 rfl ?_
    refine zu_iconst (v := 2) dL_law_570 (by decide) ?_
    refine zu_iadd dL_law_571 ?_
    refine zu_sald dL_law_572 h2 ?_
    refine zu_aloadT_n dL_law_573 rfl 2 rfl ?_
    refine zu_iload dL_law_574 1 rfl ?_
    refine zu_iconst (v := 3) dL_law_576 (by decide) ?_
    refine zu_iadd dL_law_577 ?_
    refine zu_sald dL_law_578 h3 ?_
    refine zu_callI (c := 12) (b := 229) dL_law_579 w_X12_entry zg_16 rfl (by decide) (by decide) s_X12_entry [.int (xs (Int32.toNatClampNeg (nI i + 1))), .int (xs (Int32.toNatClampNeg (nI i + 2))), .int (xs (Int32.toNatClampNeg (nI i + 3)))] rfl rfl (Nat.le_of_ble_eq_true rfl) (Nat.le_of_ble_eq_true rfl) ?_ (by omega)
    refine zV.post (z_V.deep (show 99 ≤ 100 by decide) T) ?_
    rintro v M2 ⟨r2, rfl, hr, h0, h3, hj⟩
    refine ⟨_, rfl, ?_⟩
    refine zu_istore dL_law_582 (by decide) (L2 := (6, .int r2) :: (5, .int 0) :: LU i) rfl ?_
    refine zu_aload_n dL_law_584 rfl 5 rfl ?_
    refine zu_callI (c := 12) (b := 229) dL_law_585 w_X12_thrown zg_6 rfl (by decide) (by decide) s_X12_thrown [] rfl rfl (Nat.le_of_ble_eq_true rfl) (Nat.le_of_ble_eq_true rfl) ?_ (by omega)
    refine t_X12_thrown (zii ?_)
    rw [h0]
    refine zu_iload dL_law_588 1 rfl ?_
    refine zu_icmp_eq (tgt := 595) dL_law_590 (by decide) (fun _ => ?_) (fun q => absurd rfl q)
    refine zu_iload dL_law_595 1 rfl ?_
    refine zu_if_ne (tgt := 612) dL_law_597 (by decide) (fun q => absurd rfl q) (fun _ => ?_)
    refine zu_aload_n dL_law_600 rfl 6 rfl ?_
    refine zu_iconst (v := 0) dL_law_601 (by decide) ?_
    refine zu_lald dL_law_602 (by decide) (zE_l (by decide)) (by unfold vp_in; decide) ?_
    refine zu_iload dL_law_603 0 rfl ?_
    refine zu_i2l dL_law_605 ?_
    refine zu_lcmp dL_law_606 ?_
    rw [show M2.2 263 (Int32.toNatClampNeg 0) = r.toInt64 from h3, hr, lg_same]
    refine zu_if_eq (tgt := 612) dL_law_607 (by decide) (fun _ => ?_) (fun q => absurd rfl q)
    refine zu_goto (tgt := 1649) dL_law_612 (by decide) ?_
    exact z_U.sub (kk _ (J_up9 hj (by omega))) (fun q hq => List.mem_cons_of_mem _ (List.mem_cons_of_mem _ hq))
  · intro M1 T
    refine zu_istore dL_law_558 (by decide) (L2 := (5, .int 1) :: LU i) rfl ?_
    refine zu_aload_n dL_law_560 rfl 4 rfl ?_
    refine zu_aloadT_n dL_law_561 rfl 2 rfl ?_
    refine zu_iload dL_law_562 1 rfl ?_
    refine zu_iconst (v := 1) dL_law_564 (by decide) ?_
    refine zu_iadd dL_law_565 ?_
    refine zu_sald dL_law_566 h1 ?_
    refine zu_aloadT_n dL_law_567 rfl 2 rfl ?_
    refine zu_iload dL_law_568 1 rfl ?_
    refine zu_iconst (v := 2) dL_law_570 (by decide) ?_
    refine zu_iadd dL_law_571 ?_
    refine zu_sald dL_law_572 h2 ?_
    refine zu_aloadT_n dL_law_573 rfl 2 rfl ?_
    refine zu_iload dL_law_574 1 rfl ?_
    refine zu_iconst (v := 3) dL_law_576 (by decide) ?_
    refine zu_iadd dL_law_577 ?_
    refine zu_sald dL_law_578 h3 ?_
    refine zu_callI (c := 12) (b := 229) dL_law_579 w_X12_entry zg_16 rfl (by decide) (by decide) s_X12_entry [.int (xs (Int32.toNatClampNeg (nI i + 1))), .int (xs (Int32.toNatClampNeg (nI i + 2))), .int (xs (Int32.toNatClampNeg (nI i + 3)))] rfl rfl (Nat.le_of_ble_eq_true rfl) (Nat.le_of_ble_eq_true rfl) ?_ (by omega)
    refine zV.post (z_V.deep (show 99 ≤ 100 by decide) T) ?_
    rintro v M2 ⟨r2, rfl, h0, hj⟩
    refine ⟨_, rfl, ?_⟩
    refine zu_istore dL_law_582 (by decide) (L2 := (6, .int r2) :: (5, .int 1) :: LU i) rfl ?_
    refine zu_aload_n dL_law_584 rfl 5 rfl ?_
    refine zu_callI (c := 12) (b := 229) dL_law_585 w_X12_thrown zg_6 rfl (by decide) (by decide) s_X12_thrown [] rfl rfl (Nat.le_of_ble_eq_true rfl) (Nat.le_of_ble_eq_true rfl) ?_ (by omega)
    refine t_X12_thrown (zii ?_)
    rw [h0]
    refine zu_iload dL_law_588 1 rfl ?_
    refine zu_icmp_eq (tgt := 595) dL_law_590 (by decide) (fun _ => ?_) (fun q => absurd rfl q)
    refine zu_iload dL_law_595 1 rfl ?_
    refine zu_if_ne (tgt := 612) dL_law_597 (by decide) (fun _ => ?_) (fun q => absurd q (by decide))
    refine zu_goto (tgt := 1649) dL_law_612 (by decide) ?_
    exact z_U.sub (kk _ (J_up9 hj (by omega))) (fun q hq => List.mem_cons_of_mem _ (List.mem_cons_of_mem _ hq))
  · rintro v N2 G2 ⟨rfl, M1, rfl, r, rfl, hz⟩ _
    exact hz
abbrev yW_node : z_MD := (yL_node, cL_node, 6, some .int)
theorem k_w_node {B : Nat} {M : zMem} {N : zNm} {F : Nat → Int32} {us : List (Nat → Int32)} {x y z : Int32} {Kz : Int32 → zMem → Prop} (h : JA B M N F us) (kr : ∀ r M1, S_X12_node 99 x y z M1 (zI (eR B r)) → Kz 0 M1) (kt : ∀ M1, S_X12_node 99 x y z M1 (zI (eX B)) → Kz 1 M1) : z_H 15 yW_node 100 1 6 0 0 0 [(0, .ref 0), (1, .int x), (2, .int y), (3, .int z), (4, .ref 263)] [] zN (zE M) (zKw (zI Kz)) := by
  refine zh_aload dL_node_0 4 rfl ?_
  refine zh_iconst (v := 0) dL_node_2 (by decide) ?_
  refine zh_aload_n dL_node_3 rfl 0 rfl ?_
  refine zh_iload_n dL_node_4 rfl 1 rfl ?_
  refine zh_iload_n dL_node_5 rfl 2 rfl ?_
  refine zh_iload_n dL_node_6 rfl 3 rfl ?_
  refine zh_callX (hp := 15) (y2 := m_X11_node) (As := [.int x, .int y, .int z]) (b := 0) (st := [.int 0, .ref 263]) dL_node_7 w_X11_node zg_18 rfl (by decide) (zE_o (c := 11) (by decide) (by decide)) s_X11_node rfl (Nat.le_of_ble_eq_true rfl) (Nat.le_of_ble_eq_true rfl) rfl rfl (by decide) rfl rfl (o_node (d := 59) h) ?_ ?_
  · rintro v N2 G2 ⟨rfl, M1, rfl, r, rfl, T⟩
    refine zr_i2l dL_node_10 ?_
    refine zr_last dL_node_11 (by decide) (zE_l (by decide)) (by unfold vp_in; decide) ?_
    rw [zu_l (by decide)]
    refine zr_goto (tgt := 19) dL_node_12 (by decide) ?_
    refine zr_iconst (v := 0) dL_node_19 (by decide) ?_
    exact zr_ret (v := some (.int 0)) ⟨rfl, _, rfl, 0, rfl, kr r _ T⟩ ⟨.int, rfl, rfl⟩ dL_node_20
  · rintro N2 G2 ⟨rfl, M1, rfl, T⟩
    refine z_X.asw dL_node_15 (by decide) ?_
    refine zr_iconst (v := 1) dL_node_17 (by decide) ?_
    exact zr_ret (v := some (.int 1)) ⟨rfl, _, rfl, 1, rfl, kt _ T⟩ ⟨.int, rfl, rfl⟩ dL_node_18
theorem hws_node : ∀ w ∈ va_wsS yU.1.cls 83 yW_node.1 (z_wsH 15 yW_node), w ∈ z_good := by
  intro w hw
  simp only [va_wsS, z_wsH, List.cons_append, List.nil_append, List.mem_cons] at hw
  rcases hw with rfl | rfl | rfl | rfl | hw
  · exact zg_19
  · exact zg_20
  · exact zg_4
  · exact zg_17
  · exact hw
theorem uc_10 : UCase 615 := by
  intro sn k i xs M hJ hk h1 h2 h3 h4 h5 kk
  obtain ⟨N, F, us, h⟩ := hJ
  have h : JA (1000 * k) M N F us := h
  have hc1 : 264 + k + 1 ≤ 601024 := by omega
  have hc2 : 13600 + 6 * k + 6 ≤ 7293034 := by omega
  refine zu_aload_n dL_law_615 rfl 2 rfl ?_
  refine zu_aloadT_n dL_law_616 rfl 1 rfl ?_
  refine zu_iload dL_law_617 0 rfl ?_
  refine zu_iconst (v := 1) dL_law_619 (by decide) ?_
  refine zu_iadd dL_law_620 ?_
  refine zu_sald dL_law_621 h1 ?_
  refine zu_aloadT_n dL_law_622 rfl 1 rfl ?_
  refine zu_iload dL_law_623 0 rfl ?_
  refine zu_iconst (v := 2) dL_law_625 (by decide) ?_
  refine zu_iadd dL_law_626 ?_
  refine zu_sald dL_law_627 h2 ?_
  refine zu_aloadT_n dL_law_628 rfl 1 rfl ?_
  refine zu_iload dL_law_629 0 rfl ?_
  refine zu_iconst (v := 3) dL_law_631 (by decide) ?_
  refine zu_iadd dL_law_632 ?_
  refine zu_sald dL_law_633 h3 ?_
  refine zu_aload_n dL_law_634 rfl 4 rfl ?_
  refine zu_callH (n := 5) (y := yU) (y2 := yW_node) (hp := 15) (As := [.ref 0, .int (xs (Int32.toNatClampNeg (nI i + 1))), .int (xs (Int32.toNatClampNeg (nI i + 2))), .int (xs (Int32.toNatClampNeg (nI i + 3))), .ref 263]) (st := []) dL_law_635 (by decide +kernel) hws_node ⟨by decide +kernel, by decide +kernel, by decide +kernel⟩ (by decide) rfl (Nat.le_of_ble_eq_true rfl) (Nat.le_of_ble_eq_true rfl) hc1 hc2 (z_H.post (k_w_node h (Kz := fun v M1 => zUL sn xs (k + 1) 638 (LU i) [.int v] M1) ?_ ?_) ?_)
  · intro r M1 T
    refine zu_istore dL_law_638 (by decide) (L2 := (5, .int 0) :: LU i) rfl ?_
    refine zu_aload_n dL_law_640 rfl 4 rfl ?_
    refine zu_aloadT_n dL_law_641 rfl 2 rfl ?_
    refine zu_iload dL_law_642 1 rfl ?_
    refine zu_iconst (v := 1) dL_law_644 (by decide) ?_
    refine zu_iadd dL_law_645 ?_
    refine zu_sald dL_law_646 h1 ?_
    refine zu_aloadT_n dL_law_647 rfl 2 rfl ?_
    refine zu_iload dL_law_648 1 rfl ?_
    refine zu_iconst (v := 2) dL_law_650 (by decide) ?_
    refine zu_iadd dL_law_651 ?_
    refine zu_sald dL_law_652 h2 ?_
    refine zu_aloadT_n dL_law_653 rfl 2 rfl ?_
    refine zu_iload dL_law_654 1 rfl ?_
    refine zu_iconst (v := 3) dL_law_656 (by decide) ?_
    refine zu_iadd dL_law_657 ?_
    refine zu_sald dL_law_658 h3 ?_
    refine zu_callI (c := 12) (b := 229) dL_law_659 w_X12_node zg_21 rfl (by decide) (by decide) s_X12_node [.int (xs (Int32.toNatClampNeg (nI i + 1))), .int (xs (Int32.toNatClampNeg (nI i + 2))), .int (xs (Int32.toNatClampNeg (nI i + 3)))] rfl rfl (Nat.le_of_ble_eq_true rfl) (Nat.le_of_ble_eq_true rfl) ?_ (by omega)
    refine zV.post (z_V.deep (show 99 ≤ 100 by decide) T) ?_
    rintro v M2 ⟨r2, rfl, hr, h0, h3, hj⟩
    refine ⟨_, rfl, ?_⟩
    refine zu_istore dL_law_662 (by decide) (L2 := (6, .int r2) :: (5, .int 0) :: LU i) rfl ?_
    refine zu_aload_n dL_law_664 rfl 5 rfl ?_
    refine zu_callI (c := 12) (b := 229) dL_law_665 w_X12_thrown zg_6 rfl (by decide) (by decide) s_X12_thrown [] rfl rfl (Nat.le_of_ble_eq_true rfl) (Nat.le_of_ble_eq_true rfl) ?_ (by omega)
    refine t_X12_thrown (zii ?_)
    rw [h0]
    refine zu_iload dL_law_668 1 rfl ?_
    refine zu_icmp_eq (tgt := 675) dL_law_670 (by decide) (fun _ => ?_) (fun q => absurd rfl q)
    refine zu_iload dL_law_675 1 rfl ?_
    refine zu_if_ne (tgt := 692) dL_law_677 (by decide) (fun q => absurd rfl q) (fun _ => ?_)
    refine zu_aload_n dL_law_680 rfl 6 rfl ?_
    refine zu_iconst (v := 0) dL_law_681 (by decide) ?_
    refine zu_lald dL_law_682 (by decide) (zE_l (by decide)) (by unfold vp_in; decide) ?_
    refine zu_iload dL_law_683 0 rfl ?_
    refine zu_i2l dL_law_685 ?_
    refine zu_lcmp dL_law_686 ?_
    rw [show M2.2 263 (Int32.toNatClampNeg 0) = r.toInt64 from h3, hr, lg_same]
    refine zu_if_eq (tgt := 692) dL_law_687 (by decide) (fun _ => ?_) (fun q => absurd rfl q)
    refine zu_goto (tgt := 1649) dL_law_692 (by decide) ?_
    exact z_U.sub (kk _ (J_up9 hj (by omega))) (fun q hq => List.mem_cons_of_mem _ (List.mem_cons_of_mem _ hq))
  · intro M1 T
    refine zu_istore dL_law_638 (by decide) (L2 := (5, .int 1) :: LU i) rfl ?_
    refine zu_aload_n dL_law_640 rfl 4 rfl ?_
    refine zu_aloadT_n dL_law_641 rfl 2 rfl ?_
    refine zu_iload dL_law_642 1 rfl ?_
    refine zu_iconst (v := 1) dL_law_644 (by decide) ?_
    refine zu_iadd dL_law_645 ?_
    refine zu_sald dL_law_646 h1 ?_
    refine zu_aloadT_n dL_law_647 rfl 2 rfl ?_
    refine zu_iload dL_law_648 1 rfl ?_
    refine zu_iconst (v := 2) dL_law_650 (by decide) ?_
    refine zu_iadd dL_law_651 ?_
    refine zu_sald dL_law_652 h2 ?_
    refine zu_aloadT_n dL_law_653 rfl 2 rfl ?_
    refine zu_iload dL_law_654 1 rfl ?_
    refine zu_iconst (v := 3) dL_law_656 (by decide) ?_
    refine zu_iadd dL_law_657 ?_
    refine zu_sald dL_law_658 h3 ?_
    refine zu_callI (c := 12) (b := 229) dL_law_659 w_X12_node zg_21 rfl (by decide) (by decide) s_X12_node [.int (xs (Int32.toNatClampNeg (nI i + 1))), .int (xs (Int32.toNatClampNeg (nI i + 2))), .int (xs (Int32.toNatClampNeg (nI i + 3)))] rfl rfl (Nat.le_of_ble_eq_true rfl) (Nat.le_of_ble_eq_true rfl) ?_ (by omega)
    refine zV.post (z_V.deep (show 99 ≤ 100 by decide) T) ?_
    rintro v M2 ⟨r2, rfl, h0, hj⟩
    refine ⟨_, rfl, ?_⟩
    refine zu_istore dL_law_662 (by decide) (L2 := (6, .int r2) :: (5, .int 1) :: LU i) rfl ?_
    refine zu_aload_n dL_law_664 rfl 5 rfl ?_
    refine zu_callI (c := 12) (b := 229) dL_law_665 w_X12_thrown zg_6 rfl (by decide) (by decide) s_X12_thrown [] rfl rfl (Nat.le_of_ble_eq_true rfl) (Nat.le_of_ble_eq_true rfl) ?_ (by omega)
    refine t_X12_thrown (zii ?_)
    rw [h0]
    refine zu_iload dL_law_668 1 rfl ?_
    refine zu_icmp_eq (tgt := 675) dL_law_670 (by decide) (fun _ => ?_) (fun q => absurd rfl q)
    refine zu_iload dL_law_675 1 rfl ?_
    refine zu_if_ne (tgt := 692) dL_law_677 (by decide) (fun _ => ?_) (fun q => absurd q (by decide))
    refine zu_goto (tgt := 1649) dL_law_692 (by decide) ?_
    exact z_U.sub (kk _ (J_up9 hj (by omega))) (fun q hq => List.mem_cons_of_mem _ (List.mem_cons_of_mem _ hq))
  · rintro v N2 G2 ⟨rfl, M1, rfl, r, rfl, hz⟩ _
    exact hz
abbrev yW_mean : z_MD := (yL_mean, cL_mean, 5, some .int)
theorem k_w_mean {B : Nat} {M : zMem} {N : zNm} {F : Nat → Int32} {us : List (Nat → Int32)} {x y : Int32} {Kz : Int32 → zMem → Prop} (h : JA B M N F us) (kr : ∀ r M1, S_X12_mean 99 x y M1 (zI (eR B r)) → Kz 0 M1) (kt : ∀ M1, S_X12_mean 99 x y M1 (zI (eX B)) → Kz 1 M1) : z_H 13 yW_mean 100 1 6 0 0 0 [(0, .ref 0), (1, .int x), (2, .int y), (3, .ref 263)] [] zN (zE M) (zKw (zI Kz)) := by
  refine zh_aload_n dL_mean_0 rfl 3 rfl ?_
  refine zh_iconst (v := 0) dL_mean_1 (by decide) ?_
  refine zh_aload_n dL_mean_2 rfl 0 rfl ?_
  refine zh_iload_n dL_mean_3 rfl 1 rfl ?_
  refine zh_iload_n dL_mean_4 rfl 2 rfl ?_
  refine zh_callX (hp := 13) (y2 := m_X11_mean) (As := [.int x, .int y]) (b := 0) (st := [.int 0, .ref 263]) dL_mean_5 w_X11_mean zg_23 rfl (by decide) (zE_o (c := 11) (by decide) (by decide)) s_X11_mean rfl (Nat.le_of_ble_eq_true rfl) (Nat.le_of_ble_eq_true rfl) rfl rfl (by decide) rfl rfl (o_mean (d := 59) h) ?_ ?_
  · rintro v N2 G2 ⟨rfl, M1, rfl, r, rfl, T⟩
    refine zr_i2l dL_mean_8 ?_
    refine zr_last dL_mean_9 (by decide) (zE_l (by decide)) (by unfold vp_in; decide) ?_
    rw [zu_l (by decide)]
    refine zr_goto (tgt := 17) dL_mean_10 (by decide) ?_
    refine zr_iconst (v := 0) dL_mean_17 (by decide) ?_
    exact zr_ret (v := some (.int 0)) ⟨rfl, _, rfl, 0, rfl, kr r _ T⟩ ⟨.int, rfl, rfl⟩ dL_mean_18
  · rintro N2 G2 ⟨rfl, M1, rfl, T⟩
    refine z_X.asw dL_mean_13 (by decide) ?_
    refine zr_iconst (v := 1) dL_mean_15 (by decide) ?_
    exact zr_ret (v := some (.int 1)) ⟨rfl, _, rfl, 1, rfl, kt _ T⟩ ⟨.int, rfl, rfl⟩ dL_mean_16
theorem hws_mean : ∀ w ∈ va_wsS yU.1.cls 142 yW_mean.1 (z_wsH 13 yW_mean), w ∈ z_good := by
  intro w hw
  simp only [va_wsS, z_wsH, List.cons_append, List.nil_append, List.mem_cons] at hw
  rcases hw with rfl | rfl | rfl | rfl | hw
  · exact zg_24
  · exact zg_25
  · exact zg_4
  · exact zg_22
  · exact hw
theorem uc_25 : UCase 1189 := by
  intro sn k i xs M hJ hk h1 h2 h3 h4 h5 kk
  obtain ⟨N, F, us, h⟩ := hJ
  have h : JA (1000 * k) M N F us := h
  have hc1 : 264 + k + 1 ≤ 601024 := by omega
  have hc2 : 13600 + 6 * k + 6 ≤ 7293034 := by omega
  refine zu_aload_n dL_law_1189 rfl 2 rfl ?_
  refine zu_aloadT_n dL_law_1190 rfl 1 rfl ?_
  refine zu_iload dL_law_1191 0 rfl ?_
  refine zu_iconst (v := 1) dL_law_1193 (by decide) ?_
  refine zu_iadd dL_law_1194 ?_
  refine zu_sald dL_law_1195 h1 ?_
  refine zu_aloadT_n dL_law_1196 rfl 1 rfl ?_
  refine zu_iload dL_law_1197 0 rfl ?_
  refine zu_iconst (v := 2) dL_law_1199 (by decide) ?_
  refine zu_iadd dL_law_1200 ?_
  refine zu_sald dL_law_1201 h2 ?_
  refine zu_aload_n dL_law_1202 rfl 4 rfl ?_
  refine zu_callH (n := 4) (y := yU) (y2 := yW_mean) (hp := 13) (As := [.ref 0, .int (xs (Int32.toNatClampNeg (nI i + 1))), .int (xs (Int32.toNatClampNeg (nI i + 2))), .ref 263]) (st := []) dL_law_1203 (by decide +kernel) hws_mean ⟨by decide +kernel, by decide +kernel, by decide +kernel⟩ (by decide) rfl (Nat.le_of_ble_eq_true rfl) (Nat.le_of_ble_eq_true rfl) hc1 hc2 (z_H.post (k_w_mean h (Kz := fun v M1 => zUL sn xs (k + 1) 1206 (LU i) [.int v] M1) ?_ ?_) ?_)
  · intro r M1 T
    refine zu_istore dL_law_1206 (by decide) (L2 := (5, .int 0) :: LU i) rfl ?_
    refine zu_aload_n dL_law_1208 rfl 4 rfl ?_
    refine zu_aloadT_n dL_law_1209 rfl 2 rfl ?_
    refine zu_iload dL_law_1210 1 rfl ?_
    refine zu_iconst (v := 1) dL_law_1212 (by decide) ?_
    refine zu_iadd dL_law_1213 ?_
    refine zu_sald dL_law_1214 h1 ?_
    refine zu_aloadT_n dL_law_1215 rfl 2 rfl ?_
    refine zu_iload dL_law_1216 1 rfl ?_
    refine zu_iconst (v := 2) dL_law_1218 (by decide) ?_
    refine zu_iadd dL_law_1219 ?_
    refine zu_sald dL_law_1220 h2 ?_
    refine zu_callI (c := 12) (b := 229) dL_law_1221 w_X12_mean zg_26 rfl (by decide) (by decide) s_X12_mean [.int (xs (Int32.toNatClampNeg (nI i + 1))), .int (xs (Int32.toNatClampNeg (nI i + 2)))] rfl rfl (Nat.le_of_ble_eq_true rfl) (Nat.le_of_ble_eq_true rfl) ?_ (by omega)
    refine zV.post (z_V.deep (show 99 ≤ 100 by decide) T) ?_
    rintro v M2 ⟨r2, rfl, hr, h0, h3, hj⟩
    refine ⟨_, rfl, ?_⟩
    refine zu_istore dL_law_1224 (by decide) (L2 := (6, .int r2) :: (5, .int 0) :: LU i) rfl ?_
    refine zu_aload_n dL_law_1226 rfl 5 rfl ?_
    refine zu_callI (c := 12) (b := 229) dL_law_1227 w_X12_thrown zg_6 rfl (by decide) (by decide) s_X12_thrown [] rfl rfl (Nat.le_of_ble_eq_true rfl) (Nat.le_of_ble_eq_true rfl) ?_ (by omega)
    refine t_X12_thrown (zii ?_)
    rw [h0]
    refine zu_iload dL_law_1230 1 rfl ?_
    refine zu_icmp_eq (tgt := 1237) dL_law_1232 (by decide) (fun _ => ?_) (fun q => absurd rfl q)
    refine zu_iload dL_law_1237 1 rfl ?_
    refine zu_if_ne (tgt := 1254) dL_law_1239 (by decide) (fun q => absurd rfl q) (fun _ => ?_)
    refine zu_aload_n dL_law_1242 rfl 6 rfl ?_
    refine zu_iconst (v := 0) dL_law_1243 (by decide) ?_
    refine zu_lald dL_law_1244 (by decide) (zE_l (by decide)) (by unfold vp_in; decide) ?_
    refine zu_iload dL_law_1245 0 rfl ?_
    refine zu_i2l dL_law_1247 ?_
    refine zu_lcmp dL_law_1248 ?_
    rw [show M2.2 263 (Int32.toNatClampNeg 0) = r.toInt64 from h3, hr, lg_same]
    refine zu_if_eq (tgt := 1254) dL_law_1249 (by decide) (fun _ => ?_) (fun q => absurd rfl q)
    refine zu_goto (tgt := 1649) dL_law_1254 (by decide) ?_
    exact z_U.sub (kk _ (J_up9 hj (by omega))) (fun q hq => List.mem_cons_of_mem _ (List.mem_cons_of_mem _ hq))
  · intro M1 T
    refine zu_istore dL_law_1206 (by decide) (L2 := (5, .int 1) :: LU i) rfl ?_
    refine zu_aload_n dL_law_1208 rfl 4 rfl ?_
    refine zu_aloadT_n dL_law_1209 rfl 2 rfl ?_
    refine zu_iload dL_law_1210 1 rfl ?_
    refine zu_iconst (v := 1) dL_law_1212 (by decide) ?_
    refine zu_iadd dL_law_1213 ?_
    refine zu_sald dL_law_1214 h1 ?_
    refine zu_aloadT_n dL_law_1215 rfl 2 rfl ?_
    refine zu_iload dL_law_1216 1 rfl ?_
    refine zu_iconst (v := 2) dL_law_1218 (by decide) ?_
    refine zu_iadd dL_law_1219 ?_
    refine zu_sald dL_law_1220 h2 ?_
    refine zu_callI (c := 12) (b := 229) dL_law_1221 w_X12_mean zg_26 rfl (by decide) (by decide) s_X12_mean [.int (xs (Int32.toNatClampNeg (nI i + 1))), .int (xs (Int32.toNatClampNeg (nI i + 2)))] rfl rfl (Nat.le_of_ble_eq_true rfl) (Nat.le_of_ble_eq_true rfl) ?_ (by omega)
    refine zV.post (z_V.deep (show 99 ≤ 100 by decide) T) ?_
    rintro v M2 ⟨r2, rfl, h0, hj⟩
    refine ⟨_, rfl, ?_⟩
    refine zu_istore dL_law_1224 (by decide) (L2 := (6, .int r2) :: (5, .int 1) :: LU i) rfl ?_
    refine zu_aload_n dL_law_1226 rfl 5 rfl ?_
    refine zu_callI (c := 12) (b := 229) dL_law_1227 w_X12_thrown zg_6 rfl (by decide) (by decide) s_X12_thrown [] rfl rfl (Nat.le_of_ble_eq_true rfl) (Nat.le_of_ble_eq_true rfl) ?_ (by omega)
    refine t_X12_thrown (zii ?_)
    rw [h0]
    refine zu_iload dL_law_1230 1 rfl ?_
    refine zu_icmp_eq (tgt := 1237) dL_law_1232 (by decide) (fun _ => ?_) (fun q => absurd rfl q)
    refine zu_iload dL_law_1237 1 rfl ?_
    refine zu_if_ne (tgt := 1254) dL_law_1239 (by decide) (fun _ => ?_) (fun q => absurd q (by decide))
    refine zu_goto (tgt := 1649) dL_law_1254 (by decide) ?_
    exact z_U.sub (kk _ (J_up9 hj (by omega))) (fun q hq => List.mem_cons_of_mem _ (List.mem_cons_of_mem _ hq))
  · rintro v N2 G2 ⟨rfl, M1, rfl, r, rfl, hz⟩ _
    exact hz
abbrev yW_part : z_MD := (yL_part, cL_part, 6, some .int)
theorem k_w_part {B : Nat} {M : zMem} {N : zNm} {F : Nat → Int32} {us : List (Nat → Int32)} {x y z : Int32} {Kz : Int32 → zMem → Prop} (h : JA B M N F us) (kr : ∀ r M1, S_X12_part 99 x y z M1 (zI (eR B r)) → Kz 0 M1) (kt : ∀ M1, S_X12_part 99 x y z M1 (zI (eX B)) → Kz 1 M1) : z_H 15 yW_part 100 1 6 0 0 0 [(0, .ref 0), (1, .int x), (2, .int y), (3, .int z), (4, .ref 263)] [] zN (zE M) (zKw (zI Kz)) := by
  refine zh_aload dL_part_0 4 rfl ?_
  refine zh_iconst (v := 0) dL_part_2 (by decide) ?_
  refine zh_aload_n dL_part_3 rfl 0 rfl ?_
  refine zh_iload_n dL_part_4 rfl 1 rfl ?_
  refine zh_iload_n dL_part_5 rfl 2 rfl ?_
  refine zh_iload_n dL_part_6 rfl 3 rfl ?_
  refine zh_callX (hp := 15) (y2 := m_X11_part) (As := [.int x, .int y, .int z]) (b := 0) (st := [.int 0, .ref 263]) dL_part_7 w_X11_part zg_28 rfl (by decide) (zE_o (c := 11) (by decide) (by decide)) s_X11_part rfl (Nat.le_of_ble_eq_true rfl) (Nat.le_of_ble_eq_true rfl) rfl rfl (by decide) rfl rfl (o_part (d := 59) h) ?_ ?_
  · rintro v N2 G2 ⟨rfl, M1, rfl, r, rfl, T⟩
    refine zr_i2l dL_part_10 ?_
    refine zr_last dL_part_11 (by decide) (zE_l (by decide)) (by unfold vp_in; decide) ?_
    rw [zu_l (by decide)]
    refine zr_goto (tgt := 19) dL_part_12 (by decide) ?_
    refine zr_iconst (v := 0) dL_part_19 (by decide) ?_
    exact zr_ret (v := some (.int 0)) ⟨rfl, _, rfl, 0, rfl, kr r _ T⟩ ⟨.int, rfl, rfl⟩ dL_part_20
  · rintro N2 G2 ⟨rfl, M1, rfl, T⟩
    refine z_X.asw dL_part_15 (by decide) ?_
    refine zr_iconst (v := 1) dL_part_17 (by decide) ?_
    exact zr_ret (v := some (.int 1)) ⟨rfl, _, rfl, 1, rfl, kt _ T⟩ ⟨.int, rfl, rfl⟩ dL_part_18
theorem hws_part : ∀ w ∈ va_wsS yU.1.cls 146 yW_part.1 (z_wsH 15 yW_part), w ∈ z_good := by
  intro w hw
  simp only [va_wsS, z_wsH, List.cons_append, List.nil_append, List.mem_cons] at hw
  rcases hw with rfl | rfl | rfl | rfl | hw
  · exact zg_29
  · exact zg_30
  · exact zg_4
  · exact zg_27
  · exact hw
theorem uc_26 : UCase 1257 := by
  intro sn k i xs M hJ hk h1 h2 h3 h4 h5 kk
  obtain ⟨N, F, us, h⟩ := hJ
  have h : JA (1000 * k) M N F us := h
  have hc1 : 264 + k + 1 ≤ 601024 := by omega
  have hc2 : 13600 + 6 * k + 6 ≤ 7293034 := by omega
  refine zu_aload_n dL_law_1257 rfl 2 rfl ?_
  refine zu_aloadT_n dL_law_1258 rfl 1 rfl ?_
  refine zu_iload dL_law_1259 0 rfl ?_
  refine zu_iconst (v := 1) dL_law_1261 (by decide) ?_
  refine zu_iadd dL_law_1262 ?_
  refine zu_sald dL_law_1263 h1 ?_
  refine zu_aloadT_n dL_law_1264 rfl 1 rfl ?_
  refine zu_iload dL_law_1265 0 rfl ?_
  refine zu_iconst (v := 2) dL_law_1267 (by decide) ?_
  refine zu_iadd dL_law_1268 ?_
  refine zu_sald dL_law_1269 h2 ?_
  refine zu_aloadT_n dL_law_1270 rfl 1 rfl ?_
  refine zu_iload dL_law_1271 0 rfl ?_
  refine zu_iconst (v := 3) dL_law_1273 (by decide) ?_
  refine zu_iadd dL_law_1274 ?_
  refine zu_sald dL_law_1275 h3 ?_
  refine zu_aload_n dL_law_1276 rfl 4 rfl ?_
  refine zu_callH (n := 5) (y := yU) (y2 := yW_part) (hp := 15) (As := [.ref 0, .int (xs (Int32.toNatClampNeg (nI i + 1))), .int (xs (Int32.toNatClampNeg (nI i + 2))), .int (xs (Int32.toNatClampNeg (nI i + 3))), .ref 263]) (st := []) dL_law_1277 (by decide +kernel) hws_part ⟨by decide +kernel, by decide +kernel, by decide +kernel⟩ (by decide) rfl (Nat.le_of_ble_eq_true rfl) (Nat.le_of_ble_eq_true rfl) hc1 hc2 (z_H.post (k_w_part h (Kz := fun v M1 => zUL sn xs (k + 1) 1280 (LU i) [.int v] M1) ?_ ?_) ?_)
  · intro r M1 T
    refine zu_istore dL_law_1280 (by decide) (L2 := (5, .int 0) :: LU i) rfl ?_
    refine zu_aload_n dL_law_1282 rfl 4 rfl ?_
    refine zu_aloadT_n dL_law_1283 rfl 2 rfl ?_
    refine zu_iload dL_law_1284 1 rfl ?_
    refine zu_iconst (v := 1) dL_law_1286 (by decide) ?_
    refine zu_iadd dL_law_1287 ?_
    refine zu_sald dL_law_1288 h1 ?_
    refine zu_aloadT_n dL_law_1289 rfl 2 rfl ?_
    refine zu_iload dL_law_1290 1 rfl ?_
    refine zu_iconst (v := 2) dL_law_1292 (by decide) ?_
    refine zu_iadd dL_law_1293 ?_
    refine zu_sald dL_law_1294 h2 ?_
    refine zu_aloadT_n dL_law_1295 rfl 2 rfl ?_
    refine zu_iload dL_law_1296 1 rfl ?_
    refine zu_iconst (v := 3) dL_law_1298 (by decide) ?_
    refine zu_iadd dL_law_1299 ?_
    refine zu_sald dL_law_1300 h3 ?_
    refine zu_callI (c := 12) (b := 229) dL_law_1301 w_X12_part zg_31 rfl (by decide) (by decide) s_X12_part [.int (xs (Int32.toNatClampNeg (nI i + 1))), .int (xs (Int32.toNatClampNeg (nI i + 2))), .int (xs (Int32.toNatClampNeg (nI i + 3)))] rfl rfl (Nat.le_of_ble_eq_true rfl) (Nat.le_of_ble_eq_true rfl) ?_ (by omega)
    refine zV.post (z_V.deep (show 99 ≤ 100 by decide) T) ?_
    rintro v M2 ⟨r2, rfl, hr, h0, h3, hj⟩
    refine ⟨_, rfl, ?_⟩
    refine zu_istore dL_law_1304 (by decide) (L2 := (6, .int r2) :: (5, .int 0) :: LU i) rfl ?_
    refine zu_aload_n dL_law_1306 rfl 5 rfl ?_
    refine zu_callI (c := 12) (b := 229) dL_law_1307 w_X12_thrown zg_6 rfl (by decide) (by decide) s_X12_thrown [] rfl rfl (Nat.le_of_ble_eq_true rfl) (Nat.le_of_ble_eq_true rfl) ?_ (by omega)
    refine t_X12_thrown (zii ?_)
    rw [h0]
    refine zu_iload dL_law_1310 1 rfl ?_
    refine zu_icmp_eq (tgt := 1317) dL_law_1312 (by decide) (fun _ => ?_) (fun q => absurd rfl q)
    refine zu_iload dL_law_1317 1 rfl ?_
    refine zu_if_ne (tgt := 1334) dL_law_1319 (by decide) (fun q => absurd rfl q) (fun _ => ?_)
    refine zu_aload_n dL_law_1322 rfl 6 rfl ?_
    refine zu_iconst (v := 0) dL_law_1323 (by decide) ?_
    refine zu_lald dL_law_1324 (by decide) (zE_l (by decide)) (by unfold vp_in; decide) ?_
    refine zu_iload dL_law_1325 0 rfl ?_
    refine zu_i2l dL_law_1327 ?_
    refine zu_lcmp dL_law_1328 ?_
    rw [show M2.2 263 (Int32.toNatClampNeg 0) = r.toInt64 from h3, hr, lg_same]
    refine zu_if_eq (tgt := 1334) dL_law_1329 (by decide) (fun _ => ?_) (fun q => absurd rfl q)
    refine zu_goto (tgt := 1649) dL_law_1334 (by decide) ?_
    exact z_U.sub (kk _ (J_up9 hj (by omega))) (fun q hq => List.mem_cons_of_mem _ (List.mem_cons_of_mem _ hq))
  · intro M1 T
    refine zu_istore dL_law_1280 (by decide) (L2 := (5, .int 1) :: LU i) rfl ?_
    refine zu_aload_n dL_law_1282 rfl 4 rfl ?_
    refine zu_aloadT_n dL_law_1283 rfl 2 rfl ?_
    refine zu_iload dL_law_1284 1 rfl ?_
    refine zu_iconst (v := 1) dL_law_1286 (by decide) ?_
    refine zu_iadd dL_law_1287 ?_
    refine zu_sald dL_law_1288 h1 ?_
    refine zu_aloadT_n dL_law_1289 rfl 2 rfl ?_
    refine zu_iload dL_law_1290 1 rfl ?_
    refine zu_iconst (v := 2) dL_law_1292 (by decide) ?_
    refine zu_iadd dL_law_1293 ?_
    refine zu_sald dL_law_1294 h2 ?_
    refine zu_aloadT_n dL_law_1295 rfl 2 rfl ?_
    refine zu_iload dL_law_1296 1 rfl ?_
    refine zu_iconst (v := 3) dL_law_1298 (by decide) ?_
    refine zu_iadd dL_law_1299 ?_
    refine zu_sald dL_law_1300 h3 ?_
    refine zu_callI (c := 12) (b := 229) dL_law_1301 w_X12_part zg_31 rfl (by decide) (by decide) s_X12_part [.int (xs (Int32.toNatClampNeg (nI i + 1))), .int (xs (Int32.toNatClampNeg (nI i + 2))), .int (xs (Int32.toNatClampNeg (nI i + 3)))] rfl rfl (Nat.le_of_ble_eq_true rfl) (Nat.le_of_ble_eq_true rfl) ?_ (by omega)
    refine zV.post (z_V.deep (show 99 ≤ 100 by decide) T) ?_
    rintro v M2 ⟨r2, rfl, h0, hj⟩
    refine ⟨_, rfl, ?_⟩
    refine zu_istore dL_law_1304 (by decide) (L2 := (6, .int r2) :: (5, .int 1) :: LU i) rfl ?_
    refine zu_aload_n dL_law_1306 rfl 5 rfl ?_
    refine zu_callI (c := 12) (b := 229) dL_law_1307 w_X12_thrown zg_6 rfl (by decide) (by decide) s_X12_thrown [] rfl rfl (Nat.le_of_ble_eq_true rfl) (Nat.le_of_ble_eq_true rfl) ?_ (by omega)
    refine t_X12_thrown (zii ?_)
    rw [h0]
    refine zu_iload dL_law_1310 1 rfl ?_
    refine zu_icmp_eq (tgt := 1317) dL_law_1312 (by decide) (fun _ => ?_) (fun q => absurd rfl q)
    refine zu_iload dL_law_1317 1 rfl ?_
    refine zu_if_ne (tgt := 1334) dL_law_1319 (by decide) (fun _ => ?_) (fun q => absurd q (by decide))
    refine zu_goto (tgt := 1649) dL_law_1334 (by decide) ?_
    exact z_U.sub (kk _ (J_up9 hj (by omega))) (fun q hq => List.mem_cons_of_mem _ (List.mem_cons_of_mem _ hq))
  · rintro v N2 G2 ⟨rfl, M1, rfl, r, rfl, hz⟩ _
    exact hz
