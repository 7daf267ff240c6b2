-- ===== the law from its entry on =====
theorem zj_0 : Cond.classLink RL 8 RX11 ∈ z_good := z_int1 25 (by decide +kernel) (by decide +kernel)
theorem zj_1 : Cond.classLink RL 33 RX12 ∈ z_good := z_int6 150 (by decide +kernel) (by decide +kernel)
theorem zj_2 : Cond.instantiable RX11 18 ∈ z_good := z_int1 26 (by decide +kernel) (by decide +kernel)
theorem zj_3 : Cond.instantiable RX12 60 ∈ z_good := z_int6 144 (by decide +kernel) (by decide +kernel)
theorem zj_4 : Cond.methodLink RL 32 yX11_init ∈ z_good := z_int1 27 (by decide +kernel) (by decide +kernel)
theorem zj_5 : Cond.methodLink RL 35 yX12_init ∈ z_good := z_int6 151 (by decide +kernel) (by decide +kernel)
set_option maxRecDepth 20000 in
theorem u_entry {sn : Nat} {xs : Nat → Int32} {G : Nat → va_E} (hsn : sn ≤ 3072) : z_M sn xs yU 101 601024 7293034 0 0 0 [(0, .retAddr 19)] [] 0 G KU := by
  refine zm9_new (ci := 11) (fs := [.null, .int 0, .null, .null, .null, .null, .null, .null, .null, .null, .null, .null, .null, .int 0, .null, .int 0, .int 0, .int 0]) dL_law_0 zj_0 zj_2 zy_12 rfl uX11 tyX11 tyX11_ok dv_X11 (fun _ _ => rfl) (by decide) (by decide) ?_
  refine zm9_dup dL_law_3 rfl ?_
  refine zm9_callI (mc2 := 228) (ms2 := 7213) (As := []) (b := 0) (st := [.ref 0]) dL_law_4 w_X11_init zj_4 rfl rfl s_X11_init rfl (Nat.le_of_ble_eq_true rfl) (Nat.le_of_ble_eq_true rfl) (by decide) (by decide) (k_X11 (d := 97) (z_up_s _ _ _) ⟨rfl, ?_⟩)
  refine zm9_astore_n dL_law_7 rfl (by decide) (L2 := [(1, .ref 0), (0, .retAddr 19)]) rfl ?_
  refine zm9_new (ci := 12) (fs := [.int 0, .null, .int 0, .int 0, .int 0, .int 0, .int 0, .int 0, .int 0, .int 0, .int 0, .int 0, .long 0, .int 0, .null, .null, .null, .null, .null, .null, .null, .null, .null, .null, .null, .int 0, .int 0, .int 0, .null, .null, .null, .null, .null, .null, .null, .null, .null, .null, .null, .null, .null, .null, .null, .int 0, .int 0, .null, .int 0, .null, .null, .int 0, .int 0, .null, .null, .int 0, .int 0, .null, .int 0, .int 0, .int 0, .int 0]) dL_law_8 zj_1 zj_3 zy_36 rfl uX12 tyX12 tyX12_ok dv_X12 (fun _ _ => rfl) (by decide) (by decide) ?_
  refine zm9_dup dL_law_11 rfl ?_
  refine zm9_callI (mc2 := 33) (ms2 := 6220) (As := []) (b := 229) (st := [.ref 229]) dL_law_12 w_X12_init zj_5 rfl rfl s_X12_init rfl (Nat.le_of_ble_eq_true rfl) (Nat.le_of_ble_eq_true rfl) (by decide) (by decide) (k_X12 (d := 99) (z_up_s _ _ _) ⟨rfl, ?_⟩)
  refine zm9_astore_n dL_law_15 rfl (by decide) (L2 := [(2, .ref 229), (1, .ref 0), (0, .retAddr 19)]) rfl ?_
  refine zm9_iconst (v := 1) dL_law_16 (by decide) ?_
  refine zm9_newa (n := 1) (t := 1) (a0 := TL 1) dL_law_17 zx_long (fun _ => rfl) (fun _ => rfl) (fun _ => rfl) (by decide) (by decide) (by decide) (by decide) (by decide) ?_
  refine zm9_astore_n dL_law_19 rfl (by decide) (L2 := [(3, .ref 263), (2, .ref 229), (1, .ref 0), (0, .retAddr 19)]) rfl ?_
  refine zm9_iconst (v := 0) dL_law_20 (by decide) ?_
  refine zm9_istore dL_law_21 (by decide) (L2 := [(4, .int 0), (3, .ref 263), (2, .ref 229), (1, .ref 0), (0, .retAddr 19)]) rfl ?_
  refine z_M.of (G2 := zE M1) (a := 264) (b := 13600) (by decide) (by decide) (M1_E (fun i hi h231 => ?_) ?_) (z_U.sub (u_run hsn) ?_)
  · by_cases e : i = 263
    · subst e
      rw [z_up_s, aO_l (n := 1) (by decide)]
    · rw [z_up_n _ _ e, z_up_n _ _ h231, z_up_n _ _ h231]
      by_cases e2 : 229 ≤ i
      · unfold zF; rw [if_pos (by omega)]
      · rw [show ∀ G2 : Nat → va_E, zF G2 229 230 263 i = G2 i from fun G2 => if_neg (by omega), z_up_n _ _ (by omega)]
        unfold zF; rw [if_pos (by omega)]
  · rw [z_up_n _ _ (by decide), z_up_s]
  · intro q hq
    simp only [LU, List.mem_cons, List.not_mem_nil, or_false] at hq ⊢
    rcases hq with rfl | rfl | rfl | rfl | rfl
    · exact Or.inl rfl
    · exact Or.inr (Or.inr (Or.inr (Or.inr rfl)))
    · exact Or.inr (Or.inr (Or.inr (Or.inl rfl)))
    · exact Or.inr (Or.inr (Or.inl rfl))
    · exact Or.inr (Or.inl rfl)
