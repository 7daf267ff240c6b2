-- ===== the law, case by case =====
theorem bdG_up9 {B B2 m : Nat} {F : Nat → Int32} (h : bdG B m F) (hb : B ≤ B2) : bdG B2 m F := by
  obtain ⟨⟨g, g1, g2⟩, h2, h3⟩ := h
  exact ⟨⟨g, by omega, g2⟩, fun i hi => ⟨(h2 i hi).1, by obtain ⟨t, t1, t2⟩ := (h2 i hi).2; exact ⟨t, by omega, t2⟩⟩, h3⟩
theorem J_up9 {B B2 : Nat} {M : zMem} (h : J B M) (hb : B ≤ B2) : J B2 M := by
  obtain ⟨N, F, us, h0, ⟨c1, c2, c3⟩, ⟨u1, u2, u3⟩, a1, a2, a3, a4, a5⟩ := h
  refine ⟨N, F, us, h0, ⟨c1, c2, bdG_up9 c3 hb⟩, ⟨u1, u2, fun G hG => ⟨(u3 G hG).1, bdG_up9 (u3 G hG).2 hb⟩⟩, a1, a2, a3, fun k hk => ?_, a5⟩
  obtain ⟨b1, b2⟩ := a4 k hk
  refine ⟨b1, fun q => ?_⟩
  obtain ⟨N2, G, d1, d2, d3, d4, d5, d6, d7, d8, d9, d10, d11, d12, d13, d14⟩ := b2 q
  exact ⟨N2, G, d1, d2, d3, d4, d5, d6, d7, d8, d9, d10, d11, d12, bdG_up9 d13 hb, d14⟩
theorem z_V.deep {y : z_MD} {d d2 mc ms cells slots pc : Nat} {L : List (Nat × Value)} {st : List Value} {N : Nat} {G : Nat → va_E} {K : z_K} (hd : d ≤ d2) (h : z_V y d mc ms cells slots pc L st N G K) : z_V y d2 mc ms cells slots pc L st N G K := by
  intro p l e R s m args below meth c D sA cA Hb Q H locs ls C r hc hs hl hw hS
  obtain ⟨c1, c2, c3, c4, c5, c6, c7, c8, c9, c10, c11, c12⟩ := C
  exact h p l e R s m args below meth c D sA cA Hb Q H locs ls ⟨c1, c2, c3, c4, c5, c6, c7, c8, c9, Nat.le_trans hd c10, Nat.le_trans (Nat.mul_le_mul_left 60 hd) c11, c12⟩ r hc hs hl hw hS
abbrev LU (i : Nat) : List (Nat × Value) := [(4, .int (nI i)), (0, .retAddr 19), (1, .ref 0), (2, .ref 229), (3, .ref 263)]
theorem zz_0 : Cond.methodLink RL 36 yX11_feed ∈ z_good := z_int3 1 (by decide +kernel) (by decide +kernel)
theorem zz_1 : Cond.methodLink RL 40 yX12_feed ∈ z_good := z_int6 137 (by decide +kernel) (by decide +kernel)
theorem zz_2 : Cond.methodLink RL 41 yX11_end ∈ z_good := z_int3 9 (by decide +kernel) (by decide +kernel)
theorem zz_3 : Cond.methodLink RL 45 yX12_end ∈ z_good := z_int6 146 (by decide +kernel) (by decide +kernel)
theorem zz_4 : Cond.methodLink RL 46 yX11_cluster ∈ z_good := z_int3 13 (by decide +kernel) (by decide +kernel)
theorem zz_5 : Cond.methodLink RL 50 yX12_cluster ∈ z_good := z_int7 96 (by decide +kernel) (by decide +kernel)
theorem zz_6 : Cond.methodLink RL 51 yX11_fault ∈ z_good := z_int4 7 (by decide +kernel) (by decide +kernel)
theorem zz_7 : Cond.methodLink RL 54 yX12_fault ∈ z_good := z_int7 233 (by decide +kernel) (by decide +kernel)
theorem zz_8 : Cond.methodLink RL 55 yX11_faultLine ∈ z_good := z_int4 11 (by decide +kernel) (by decide +kernel)
theorem zz_9 : Cond.methodLink RL 58 yX12_faultLine ∈ z_good := z_int7 237 (by decide +kernel) (by decide +kernel)
theorem zz_10 : Cond.methodLink RL 59 yX11_key ∈ z_good := z_int4 15 (by decide +kernel) (by decide +kernel)
theorem zz_11 : Cond.methodLink RL 62 yX12_key ∈ z_good := z_int8 1 (by decide +kernel) (by decide +kernel)
theorem zz_12 : Cond.methodLink RL 72 yX11_peer ∈ z_good := z_int4 28 (by decide +kernel) (by decide +kernel)
theorem zz_13 : Cond.methodLink RL 75 yX12_peer ∈ z_good := z_int8 24 (by decide +kernel) (by decide +kernel)
theorem zz_14 : Cond.methodLink RL 86 yX11_now ∈ z_good := z_int4 53 (by decide +kernel) (by decide +kernel)
theorem zz_15 : Cond.methodLink RL 89 yX12_now ∈ z_good := z_int8 79 (by decide +kernel) (by decide +kernel)
theorem zz_16 : Cond.methodLink RL 90 yX11_put ∈ z_good := z_int4 74 (by decide +kernel) (by decide +kernel)
theorem zz_17 : Cond.methodLink RL 93 yX12_put ∈ z_good := z_int8 142 (by decide +kernel) (by decide +kernel)
theorem zz_18 : Cond.methodLink RL 94 yX11_drop ∈ z_good := z_int4 98 (by decide +kernel) (by decide +kernel)
theorem zz_19 : Cond.methodLink RL 97 yX12_drop ∈ z_good := z_int8 185 (by decide +kernel) (by decide +kernel)
theorem zz_20 : Cond.methodLink RL 98 yX11_pull ∈ z_good := z_int4 106 (by decide +kernel) (by decide +kernel)
theorem zz_21 : Cond.methodLink RL 101 yX12_pull ∈ z_good := z_int8 189 (by decide +kernel) (by decide +kernel)
theorem zz_22 : Cond.methodLink RL 102 yX11_cut ∈ z_good := z_int4 141 (by decide +kernel) (by decide +kernel)
theorem zz_23 : Cond.methodLink RL 105 yX12_cut ∈ z_good := z_int8 193 (by decide +kernel) (by decide +kernel)
theorem zz_24 : Cond.methodLink RL 106 yX11_heal ∈ z_good := z_int4 150 (by decide +kernel) (by decide +kernel)
theorem zz_25 : Cond.methodLink RL 109 yX12_heal ∈ z_good := z_int8 197 (by decide +kernel) (by decide +kernel)
theorem zz_26 : Cond.methodLink RL 110 yX11_undo ∈ z_good := z_int4 158 (by decide +kernel) (by decide +kernel)
theorem zz_27 : Cond.methodLink RL 113 yX12_undo ∈ z_good := z_int8 201 (by decide +kernel) (by decide +kernel)
theorem zz_28 : Cond.methodLink RL 114 yX11_visits ∈ z_good := z_int4 166 (by decide +kernel) (by decide +kernel)
theorem zz_29 : Cond.methodLink RL 117 yX12_visits ∈ z_good := z_int8 134 (by decide +kernel) (by decide +kernel)
theorem zz_30 : Cond.methodLink RL 118 yX11_differs ∈ z_good := z_int4 177 (by decide +kernel) (by decide +kernel)
theorem zz_31 : Cond.methodLink RL 121 yX12_differs ∈ z_good := z_int8 138 (by decide +kernel) (by decide +kernel)
theorem zz_32 : Cond.methodLink RL 122 yX11_offers ∈ z_good := z_int4 182 (by decide +kernel) (by decide +kernel)
theorem zz_33 : Cond.methodLink RL 125 yX12_offers ∈ z_good := z_int8 95 (by decide +kernel) (by decide +kernel)
theorem zz_34 : Cond.methodLink RL 126 yX11_offerAt ∈ z_good := z_int4 188 (by decide +kernel) (by decide +kernel)
theorem zz_35 : Cond.methodLink RL 129 yX12_offerAt ∈ z_good := z_int8 130 (by decide +kernel) (by decide +kernel)
theorem zz_36 : Cond.methodLink RL 130 yX11_fresh ∈ z_good := z_int4 192 (by decide +kernel) (by decide +kernel)
theorem zz_37 : Cond.methodLink RL 133 yX12_fresh ∈ z_good := z_int8 209 (by decide +kernel) (by decide +kernel)
theorem zz_38 : Cond.methodLink RL 134 yX11_pulls ∈ z_good := z_int4 211 (by decide +kernel) (by decide +kernel)
theorem zz_39 : Cond.methodLink RL 137 yX12_pulls ∈ z_good := z_int8 213 (by decide +kernel) (by decide +kernel)
theorem zz_40 : Cond.methodLink RL 138 yX11_path ∈ z_good := z_int4 217 (by decide +kernel) (by decide +kernel)
theorem zz_41 : Cond.methodLink RL 141 yX12_path ∈ z_good := z_int8 217 (by decide +kernel) (by decide +kernel)
theorem zz_42 : Cond.methodLink RL 149 yX11_tag ∈ z_good := z_int4 226 (by decide +kernel) (by decide +kernel)
theorem zz_43 : Cond.methodLink RL 152 yX12_tag ∈ z_good := z_int8 236 (by decide +kernel) (by decide +kernel)
theorem zz_44 : Cond.methodLink RL 153 yX11_byteAt ∈ z_good := z_int5 63 (by decide +kernel) (by decide +kernel)
theorem zz_45 : Cond.methodLink RL 156 yX12_byteAt ∈ z_good := z_int9 16 (by decide +kernel) (by decide +kernel)
theorem zz_46 : Cond.methodLink RL 157 yX11_drawn ∈ z_good := z_int5 67 (by decide +kernel) (by decide +kernel)
theorem zz_47 : Cond.methodLink RL 160 yX12_drawn ∈ z_good := z_int9 20 (by decide +kernel) (by decide +kernel)
theorem zz_48 : Cond.methodLink RL 161 yX11_refused ∈ z_good := z_int5 105 (by decide +kernel) (by decide +kernel)
theorem zz_49 : Cond.methodLink RL 164 yX12_refused ∈ z_good := z_int9 45 (by decide +kernel) (by decide +kernel)
theorem zz_50 : Cond.methodLink RL 165 yX11_odds ∈ z_good := z_int5 113 (by decide +kernel) (by decide +kernel)
theorem zz_51 : Cond.methodLink RL 168 yX12_odds ∈ z_good := z_int9 49 (by decide +kernel) (by decide +kernel)
theorem zz_52 : Cond.methodLink RL 169 yX11_book ∈ z_good := z_int5 117 (by decide +kernel) (by decide +kernel)
theorem zz_53 : Cond.methodLink RL 172 yX12_book ∈ z_good := z_int9 53 (by decide +kernel) (by decide +kernel)
theorem zz_54 : Cond.methodLink RL 173 yX11_told ∈ z_good := z_int5 161 (by decide +kernel) (by decide +kernel)
theorem zz_55 : Cond.methodLink RL 176 yX12_told ∈ z_good := z_int9 85 (by decide +kernel) (by decide +kernel)
theorem zz_56 : Cond.methodLink RL 177 yX11_sentence ∈ z_good := z_int5 169 (by decide +kernel) (by decide +kernel)
theorem zz_57 : Cond.methodLink RL 180 yX12_sentence ∈ z_good := z_int9 89 (by decide +kernel) (by decide +kernel)
theorem zz_58 : Cond.methodLink RL 181 yX11_said ∈ z_good := z_int5 212 (by decide +kernel) (by decide +kernel)
theorem zz_59 : Cond.methodLink RL 184 yX12_said ∈ z_good := z_int9 125 (by decide +kernel) (by decide +kernel)
theorem zz_60 : Cond.methodLink RL 185 yX11_image ∈ z_good := z_int5 238 (by decide +kernel) (by decide +kernel)
theorem zz_61 : Cond.methodLink RL 188 yX12_image ∈ z_good := z_int9 141 (by decide +kernel) (by decide +kernel)
theorem zz_62 : Cond.methodLink RL 189 yX11_restore ∈ z_good := z_int6 2 (by decide +kernel) (by decide +kernel)
theorem zz_63 : Cond.methodLink RL 192 yX12_restore ∈ z_good := z_int9 145 (by decide +kernel) (by decide +kernel)
theorem zz_64 : Cond.methodLink RL 193 yX11_count ∈ z_good := z_int6 6 (by decide +kernel) (by decide +kernel)
theorem zz_65 : Cond.methodLink RL 196 yX12_count ∈ z_good := z_int9 149 (by decide +kernel) (by decide +kernel)
section
variable {sn k i : Nat} {xs : Nat → Int32} {M : zMem}
theorem u_0 (hJ : J (1000 * k) M) (hk : k < 512) (h1 : vp_in (nI i + 1) sn) (h2 : vp_in (nI i + 2) sn) (h3 : vp_in (nI i + 3) sn) (h4 : vp_in (nI i + 4) sn) (h5 : vp_in (nI i + 5) sn) (kk : ∀ M2, J (1000 * (k + 1)) M2 → zUL sn xs k 1649 (LU i) [] M2) : zUL sn xs k 212 (LU i) [] M := by
  obtain ⟨N, F, us, h⟩ := hJ
  have h : JA (1000 * k) M N F us := h
  refine zu_aload_n dL_law_212 rfl 2 rfl ?_
  refine zu_aloadT_n dL_law_213 rfl 1 rfl ?_
  refine zu_iload dL_law_214 0 rfl ?_
  refine zu_iconst (v := 1) dL_law_216 (by decide) ?_
  refine zu_iadd dL_law_217 ?_
  refine zu_sald dL_law_218 h1 ?_
  refine zu_aloadT_n dL_law_219 rfl 1 rfl ?_
  refine zu_iload dL_law_220 0 rfl ?_
  refine zu_iconst (v := 2) dL_law_222 (by decide) ?_
  refine zu_iadd dL_law_223 ?_
  refine zu_sald dL_law_224 h2 ?_
  refine zu_aloadT_n dL_law_225 rfl 1 rfl ?_
  refine zu_iload dL_law_226 0 rfl ?_
  refine zu_iconst (v := 3) dL_law_228 (by decide) ?_
  refine zu_iadd dL_law_229 ?_
  refine zu_sald dL_law_230 h3 ?_
  refine zu_aloadT_n dL_law_231 rfl 1 rfl ?_
  refine zu_iload dL_law_232 0 rfl ?_
  refine zu_iconst (v := 4) dL_law_234 (by decide) ?_
  refine zu_iadd dL_law_235 ?_
  refine zu_sald dL_law_236 h4 ?_
  refine zu_aloadT_n dL_law_237 rfl 1 rfl ?_
  refine zu_iload dL_law_238 0 rfl ?_
  refine zu_iconst (v := 5) dL_law_240 (by decide) ?_
  refine zu_iadd dL_law_241 ?_
  refine zu_sald dL_law_242 h5 ?_
  refine zu_callI (c := 11) (b := 0) dL_law_243 w_X11_feed zz_0 rfl (by decide) (by decide) s_X11_feed [.int (xs (Int32.toNatClampNeg (nI i + 1))), .int (xs (Int32.toNatClampNeg (nI i + 2))), .int (xs (Int32.toNatClampNeg (nI i + 3))), .int (xs (Int32.toNatClampNeg (nI i + 4))), .int (xs (Int32.toNatClampNeg (nI i + 5)))] rfl rfl (Nat.le_of_ble_eq_true rfl) (Nat.le_of_ble_eq_true rfl) ?_ (by omega)
  refine zV.post (z_V.deep (show 100 ≤ 100 by decide) (o_feed (d := 99) h)) ?_
  rintro v M1 ⟨r, rfl, T⟩
  refine ⟨r, rfl, ?_⟩
  refine zu_aload_n dL_law_246 rfl 3 rfl ?_
  refine zu_aloadT_n dL_law_247 rfl 1 rfl ?_
  refine zu_iload dL_law_248 0 rfl ?_
  refine zu_iconst (v := 1) dL_law_250 (by decide) ?_
  refine zu_iadd dL_law_251 ?_
  refine zu_sald dL_law_252 h1 ?_
  refine zu_aloadT_n dL_law_253 rfl 1 rfl ?_
  refine zu_iload dL_law_254 0 rfl ?_
  refine zu_iconst (v := 2) dL_law_256 (by decide) ?_
  refine zu_iadd dL_law_257 ?_
  refine zu_sald dL_law_258 h2 ?_
  refine zu_aloadT_n dL_law_259 rfl 1 rfl ?_
  refine zu_iload dL_law_260 0 rfl ?_
  refine zu_iconst (v := 3) dL_law_262 (by decide) ?_
  refine zu_iadd dL_law_263 ?_
  refine zu_sald dL_law_264 h3 ?_
  refine zu_aloadT_n dL_law_265 rfl 1 rfl ?_
  refine zu_iload dL_law_266 0 rfl ?_
  refine zu_iconst (v := 4) dL_law_268 (by decide) ?_
  refine zu_iadd dL_law_269 ?_
  refine zu_sald dL_law_270 h4 ?_
  refine zu_aloadT_n dL_law_271 rfl 1 rfl ?_
  refine zu_iload dL_law_272 0 rfl ?_
  refine zu_iconst (v := 5) dL_law_274 (by decide) ?_
  refine zu_iadd dL_law_275 ?_
  refine zu_sald dL_law_276 h5 ?_
  refine zu_callI (c := 12) (b := 229) dL_law_277 w_X12_feed zz_1 rfl (by decide) (by decide) s_X12_feed [.int (xs (Int32.toNatClampNeg (nI i + 1))), .int (xs (Int32.toNatClampNeg (nI i + 2))), .int (xs (Int32.toNatClampNeg (nI i + 3))), .int (xs (Int32.toNatClampNeg (nI i + 4))), .int (xs (Int32.toNatClampNeg (nI i + 5)))] rfl rfl (Nat.le_of_ble_eq_true rfl) (Nat.le_of_ble_eq_true rfl) ?_ (by omega)
  refine zV.post (z_V.deep (show 100 ≤ 100 by decide) T) ?_
  rintro v M2 ⟨r2, rfl, rfl, hj⟩
  refine ⟨_, rfl, ?_⟩
  exact zu_icmp_eq (tgt := 1649) dL_law_280 (by decide) (fun _ => kk _ (J_up9 hj (by omega))) (fun q => absurd rfl q)
theorem u_1 (hJ : J (1000 * k) M) (hk : k < 512) (h1 : vp_in (nI i + 1) sn) (h2 : vp_in (nI i + 2) sn) (h3 : vp_in (nI i + 3) sn) (h4 : vp_in (nI i + 4) sn) (h5 : vp_in (nI i + 5) sn) (kk : ∀ M2, J (1000 * (k + 1)) M2 → zUL sn xs k 1649 (LU i) [] M2) : zUL sn xs k 285 (LU i) [] M := by
  obtain ⟨N, F, us, h⟩ := hJ
  have h : JA (1000 * k) M N F us := h
  refine zu_aload_n dL_law_285 rfl 2 rfl ?_
  refine zu_aloadT_n dL_law_286 rfl 1 rfl ?_
  refine zu_iload dL_law_287 0 rfl ?_
  refine zu_iconst (v := 1) dL_law_289 (by decide) ?_
  refine zu_iadd dL_law_290 ?_
  refine zu_sald dL_law_291 h1 ?_
  refine zu_callI (c := 11) (b := 0) dL_law_292 w_X11_end zz_2 rfl (by decide) (by decide) s_X11_end [.int (xs (Int32.toNatClampNeg (nI i + 1)))] rfl rfl (Nat.le_of_ble_eq_true rfl) (Nat.le_of_ble_eq_true rfl) ?_ (by omega)
  refine zV.post (z_V.deep (show 100 ≤ 100 by decide) (o_end (d := 100) h)) ?_
  rintro v M1 ⟨r, rfl, T⟩
  refine ⟨r, rfl, ?_⟩
  refine zu_aload_n dL_law_295 rfl 3 rfl ?_
  refine zu_aloadT_n dL_law_296 rfl 1 rfl ?_
  refine zu_iload dL_law_297 0 rfl ?_
  refine zu_iconst (v := 1) dL_law_299 (by decide) ?_
  refine zu_iadd dL_law_300 ?_
  refine zu_sald dL_law_301 h1 ?_
  refine zu_callI (c := 12) (b := 229) dL_law_302 w_X12_end zz_3 rfl (by decide) (by decide) s_X12_end [.int (xs (Int32.toNatClampNeg (nI i + 1)))] rfl rfl (Nat.le_of_ble_eq_true rfl) (Nat.le_of_ble_eq_true rfl) ?_ (by omega)
  refine zV.post (z_V.deep (show 100 ≤ 100 by decide) T) ?_
  rintro v M2 ⟨r2, rfl, rfl, hj⟩
  refine ⟨_, rfl, ?_⟩
  exact zu_icmp_eq (tgt := 1649) dL_law_305 (by decide) (fun _ => kk _ (J_up9 hj (by omega))) (fun q => absurd rfl q)
theorem u_2 (hJ : J (1000 * k) M) (hk : k < 512) (h1 : vp_in (nI i + 1) sn) (h2 : vp_in (nI i + 2) sn) (h3 : vp_in (nI i + 3) sn) (h4 : vp_in (nI i + 4) sn) (h5 : vp_in (nI i + 5) sn) (kk : ∀ M2, J (1000 * (k + 1)) M2 → zUL sn xs k 1649 (LU i) [] M2) : zUL sn xs k 310 (LU i) [] M := by
  obtain ⟨N, F, us, h⟩ := hJ
  have h : JA (1000 * k) M N F us := h
  refine zu_aload_n dL_law_310 rfl 2 rfl ?_
  refine zu_callI (c := 11) (b := 0) dL_law_311 w_X11_cluster zz_4 rfl (by decide) (by decide) s_X11_cluster [] rfl rfl (Nat.le_of_ble_eq_true rfl) (Nat.le_of_ble_eq_true rfl) ?_ (by omega)
  refine zV.post (z_V.deep (show 100 ≤ 100 by decide) (o_cluster (d := 36) h)) ?_
  rintro v M1 ⟨r, rfl, T⟩
  refine ⟨r, rfl, ?_⟩
  refine zu_aload_n dL_law_314 rfl 3 rfl ?_
  refine zu_callI (c := 12) (b := 229) dL_law_315 w_X12_cluster zz_5 rfl (by decide) (by decide) s_X12_cluster [] rfl rfl (Nat.le_of_ble_eq_true rfl) (Nat.le_of_ble_eq_true rfl) ?_ (by omega)
  refine zV.post (z_V.deep (show 100 ≤ 100 by decide) T) ?_
  rintro v M2 ⟨r2, rfl, rfl, hj⟩
  refine ⟨_, rfl, ?_⟩
  exact zu_icmp_eq (tgt := 1649) dL_law_318 (by decide) (fun _ => kk _ (J_up9 hj (by omega))) (fun q => absurd rfl q)
theorem u_3 (hJ : J (1000 * k) M) (hk : k < 512) (h1 : vp_in (nI i + 1) sn) (h2 : vp_in (nI i + 2) sn) (h3 : vp_in (nI i + 3) sn) (h4 : vp_in (nI i + 4) sn) (h5 : vp_in (nI i + 5) sn) (kk : ∀ M2, J (1000 * (k + 1)) M2 → zUL sn xs k 1649 (LU i) [] M2) : zUL sn xs k 323 (LU i) [] M := by
  obtain ⟨N, F, us, h⟩ := hJ
  have h : JA (1000 * k) M N F us := h
  refine zu_aload_n dL_law_323 rfl 2 rfl ?_
  refine zu_callI (c := 11) (b := 0) dL_law_324 w_X11_fault zz_6 rfl (by decide) (by decide) s_X11_fault [] rfl rfl (Nat.le_of_ble_eq_true rfl) (Nat.le_of_ble_eq_true rfl) ?_ (by omega)
  refine zV.post (z_V.deep (show 100 ≤ 100 by decide) (o_fault (d := 100) h)) ?_
  rintro v M1 ⟨r, rfl, T⟩
  refine ⟨r, rfl, ?_⟩
  refine zu_aload_n dL_law_327 rfl 3 rfl ?_
  refine zu_callI (c := 12) (b := 229) dL_law_328 w_X12_fault zz_7 rfl (by decide) (by decide) s_X12_fault [] rfl rfl (Nat.le_of_ble_eq_true rfl) (Nat.le_of_ble_eq_true rfl) ?_ (by omega)
  refine zV.post (z_V.deep (show 100 ≤ 100 by decide) T) ?_
  rintro v M2 ⟨r2, rfl, rfl, hj⟩
  refine ⟨_, rfl, ?_⟩
  exact zu_icmp_eq (tgt := 1649) dL_law_331 (by decide) (fun _ => kk _ (J_up9 hj (by omega))) (fun q => absurd rfl q)
theorem u_4 (hJ : J (1000 * k) M) (hk : k < 512) (h1 : vp_in (nI i + 1) sn) (h2 : vp_in (nI i + 2) sn) (h3 : vp_in (nI i + 3) sn) (h4 : vp_in (nI i + 4) sn) (h5 : vp_in (nI i + 5) sn) (kk : ∀ M2, J (1000 * (k + 1)) M2 → zUL sn xs k 1649 (LU i) [] M2) : zUL sn xs k 336 (LU i) [] M := by
  obtain ⟨N, F, us, h⟩ := hJ
  have h : JA (1000 * k) M N F us := h
  refine zu_aload_n dL_law_336 rfl 2 rfl ?_
  refine zu_callI (c := 11) (b := 0) dL_law_337 w_X11_faultLine zz_8 rfl (by decide) (by decide) s_X11_faultLine [] rfl rfl (Nat.le_of_ble_eq_true rfl) (Nat.le_of_ble_eq_true rfl) ?_ (by omega)
  refine zV.post (z_V.deep (show 100 ≤ 100 by decide) (o_faultLine (d := 100) h)) ?_
  rintro v M1 ⟨r, rfl, T⟩
  refine ⟨r, rfl, ?_⟩
  refine zu_aload_n dL_law_340 rfl 3 rfl ?_
  refine zu_callI (c := 12) (b := 229) dL_law_341 w_X12_faultLine zz_9 rfl (by decide) (by decide) s_X12_faultLine [] rfl rfl (Nat.le_of_ble_eq_true rfl) (Nat.le_of_ble_eq_true rfl) ?_ (by omega)
  refine zV.post (z_V.deep (show 100 ≤ 100 by decide) T) ?_
  rintro v M2 ⟨r2, rfl, rfl, hj⟩
  refine ⟨_, rfl, ?_⟩
  exact zu_icmp_eq (tgt := 1649) dL_law_344 (by decide) (fun _ => kk _ (J_up9 hj (by omega))) (fun q => absurd rfl q)
theorem u_5 (hJ : J (1000 * k) M) (hk : k < 512) (h1 : vp_in (nI i + 1) sn) (h2 : vp_in (nI i + 2) sn) (h3 : vp_in (nI i + 3) sn) (h4 : vp_in (nI i + 4) sn) (h5 : vp_in (nI i + 5) sn) (kk : ∀ M2, J (1000 * (k + 1)) M2 → zUL sn xs k 1649 (LU i) [] M2) : zUL sn xs k 349 (LU i) [] M := by
  obtain ⟨N, F, us, h⟩ := hJ
  have h : JA (1000 * k) M N F us := h
  refine zu_aload_n dL_law_349 rfl 2 rfl ?_
  refine zu_aloadT_n dL_law_350 rfl 1 rfl ?_
  refine zu_iload dL_law_351 0 rfl ?_
  refine zu_iconst (v := 1) dL_law_353 (by decide) ?_
  refine zu_iadd dL_law_354 ?_
  refine zu_sald dL_law_355 h1 ?_
  refine zu_aloadT_n dL_law_356 rfl 1 rfl ?_
  refine zu_iload dL_law_357 0 rfl ?_
  refine zu_iconst (v := 2) dL_law_359 (by decide) ?_
  refine zu_iadd dL_law_360 ?_
  refine zu_sald dL_law_361 h2 ?_
  refine zu_callI (c := 11) (b := 0) dL_law_362 w_X11_key zz_10 rfl (by decide) (by decide) s_X11_key [.int (xs (Int32.toNatClampNeg (nI i + 1))), .int (xs (Int32.toNatClampNeg (nI i + 2)))] rfl rfl (Nat.le_of_ble_eq_true rfl) (Nat.le_of_ble_eq_true rfl) ?_ (by omega)
  refine zV.post (z_V.deep (show 100 ≤ 100 by decide) (o_key (d := 36) h)) ?_
  rintro v M1 ⟨r, rfl, T⟩
  refine ⟨r, rfl, ?_⟩
  refine zu_aload_n dL_law_365 rfl 3 rfl ?_
  refine zu_aloadT_n dL_law_366 rfl 1 rfl ?_
  refine zu_iload dL_law_367 0 rfl ?_
  refine zu_iconst (v := 1) dL_law_369 (by decide) ?_
  refine zu_iadd dL_law_370 ?_
  refine zu_sald dL_law_371 h1 ?_
  refine zu_aloadT_n dL_law_372 rfl 1 rfl ?_
  refine zu_iload dL_law_373 0 rfl ?_
  refine zu_iconst (v := 2) dL_law_375 (by decide) ?_
  refine zu_iadd dL_law_376 ?_
  refine zu_sald dL_law_377 h2 ?_
  refine zu_callI (c := 12) (b := 229) dL_law_378 w_X12_key zz_11 rfl (by decide) (by decide) s_X12_key [.int (xs (Int32.toNatClampNeg (nI i + 1))), .int (xs (Int32.toNatClampNeg (nI i + 2)))] rfl rfl (Nat.le_of_ble_eq_true rfl) (Nat.le_of_ble_eq_true rfl) ?_ (by omega)
  refine zV.post (z_V.deep (show 100 ≤ 100 by decide) T) ?_
  rintro v M2 ⟨r2, rfl, rfl, hj⟩
  refine ⟨_, rfl, ?_⟩
  exact zu_icmp_eq (tgt := 1649) dL_law_381 (by decide) (fun _ => kk _ (J_up9 hj (by omega))) (fun q => absurd rfl q)
theorem u_7 (hJ : J (1000 * k) M) (hk : k < 512) (h1 : vp_in (nI i + 1) sn) (h2 : vp_in (nI i + 2) sn) (h3 : vp_in (nI i + 3) sn) (h4 : vp_in (nI i + 4) sn) (h5 : vp_in (nI i + 5) sn) (kk : ∀ M2, J (1000 * (k + 1)) M2 → zUL sn xs k 1649 (LU i) [] M2) : zUL sn xs k 442 (LU i) [] M := by
  obtain ⟨N, F, us, h⟩ := hJ
  have h : JA (1000 * k) M N F us := h
  refine zu_aload_n dL_law_442 rfl 2 rfl ?_
  refine zu_aloadT_n dL_law_443 rfl 1 rfl ?_
  refine zu_iload dL_law_444 0 rfl ?_
  refine zu_iconst (v := 1) dL_law_446 (by decide) ?_
  refine zu_iadd dL_law_447 ?_
  refine zu_sald dL_law_448 h1 ?_
  refine zu_aloadT_n dL_law_449 rfl 1 rfl ?_
  refine zu_iload dL_law_450 0 rfl ?_
  refine zu_iconst (v := 2) dL_law_452 (by decide) ?_
  refine zu_iadd dL_law_453 ?_
  refine zu_sald dL_law_454 h2 ?_
  refine zu_callI (c := 11) (b := 0) dL_law_455 w_X11_peer zz_12 rfl (by decide) (by decide) s_X11_peer [.int (xs (Int32.toNatClampNeg (nI i + 1))), .int (xs (Int32.toNatClampNeg (nI i + 2)))] rfl rfl (Nat.le_of_ble_eq_true rfl) (Nat.le_of_ble_eq_true rfl) ?_ (by omega)
  refine zV.post (z_V.deep (show 100 ≤ 100 by decide) (o_peer (d := 36) h)) ?_
  rintro v M1 ⟨r, rfl, T⟩
  refine ⟨r, rfl, ?_⟩
  refine zu_aload_n dL_law_458 rfl 3 rfl ?_
  refine zu_aloadT_n dL_law_459 rfl 1 rfl ?_
  refine zu_iload dL_law_460 0 rfl ?_
  refine zu_iconst (v := 1) dL_law_462 (by decide) ?_
  refine zu_iadd dL_law_463 ?_
  refine zu_sald dL_law_464 h1 ?_
  refine zu_aloadT_n dL_law_465 rfl 1 rfl ?_
  refine zu_iload dL_law_466 0 rfl ?_
  refine zu_iconst (v := 2) dL_law_468 (by decide) ?_
  refine zu_iadd dL_law_469 ?_
  refine zu_sald dL_law_470 h2 ?_
  refine zu_callI (c := 12) (b := 229) dL_law_471 w_X12_peer zz_13 rfl (by decide) (by decide) s_X12_peer [.int (xs (Int32.toNatClampNeg (nI i + 1))), .int (xs (Int32.toNatClampNeg (nI i + 2)))] rfl rfl (Nat.le_of_ble_eq_true rfl) (Nat.le_of_ble_eq_true rfl) ?_ (by omega)
  refine zV.post (z_V.deep (show 100 ≤ 100 by decide) T) ?_
  rintro v M2 ⟨r2, rfl, rfl, hj⟩
  refine ⟨_, rfl, ?_⟩
  exact zu_icmp_eq (tgt := 1649) dL_law_474 (by decide) (fun _ => kk _ (J_up9 hj (by omega))) (fun q => absurd rfl q)
theorem u_11 (hJ : J (1000 * k) M) (hk : k < 512) (h1 : vp_in (nI i + 1) sn) (h2 : vp_in (nI i + 2) sn) (h3 : vp_in (nI i + 3) sn) (h4 : vp_in (nI i + 4) sn) (h5 : vp_in (nI i + 5) sn) (kk : ∀ M2, J (1000 * (k + 1)) M2 → zUL sn xs k 1649 (LU i) [] M2) : zUL sn xs k 695 (LU i) [] M := by
  obtain ⟨N, F, us, h⟩ := hJ
  have h : JA (1000 * k) M N F us := h
  refine zu_aload_n dL_law_695 rfl 2 rfl ?_
  refine zu_aloadT_n dL_law_696 rfl 1 rfl ?_
  refine zu_iload dL_law_697 0 rfl ?_
  refine zu_iconst (v := 1) dL_law_699 (by decide) ?_
  refine zu_iadd dL_law_700 ?_
  refine zu_sald dL_law_701 h1 ?_
  refine zu_callI (c := 11) (b := 0) dL_law_702 w_X11_now zz_14 rfl (by decide) (by decide) s_X11_now [.int (xs (Int32.toNatClampNeg (nI i + 1)))] rfl rfl (Nat.le_of_ble_eq_true rfl) (Nat.le_of_ble_eq_true rfl) ?_ (by omega)
  refine zV.post (z_V.deep (show 100 ≤ 100 by decide) (o_now (d := 36) h)) ?_
  rintro v M1 ⟨r, rfl, T⟩
  refine ⟨r, rfl, ?_⟩
  refine zu_aload_n dL_law_705 rfl 3 rfl ?_
  refine zu_aloadT_n dL_law_706 rfl 1 rfl ?_
  refine zu_iload dL_law_707 0 rfl ?_
  refine zu_iconst (v := 1) dL_law_709 (by decide) ?_
  refine zu_iadd dL_law_710 ?_
  refine zu_sald dL_law_711 h1 ?_
  refine zu_callI (c := 12) (b := 229) dL_law_712 w_X12_now zz_15 rfl (by decide) (by decide) s_X12_now [.int (xs (Int32.toNatClampNeg (nI i + 1)))] rfl rfl (Nat.le_of_ble_eq_true rfl) (Nat.le_of_ble_eq_true rfl) ?_ (by omega)
  refine zV.post (z_V.deep (show 100 ≤ 100 by decide) T) ?_
  rintro v M2 ⟨r2, rfl, rfl, hj⟩
  refine ⟨_, rfl, ?_⟩
  exact zu_icmp_eq (tgt := 1649) dL_law_715 (by decide) (fun _ => kk _ (J_up9 hj (by omega))) (fun q => absurd rfl q)
theorem u_12 (hJ : J (1000 * k) M) (hk : k < 512) (h1 : vp_in (nI i + 1) sn) (h2 : vp_in (nI i + 2) sn) (h3 : vp_in (nI i + 3) sn) (h4 : vp_in (nI i + 4) sn) (h5 : vp_in (nI i + 5) sn) (kk : ∀ M2, J (1000 * (k + 1)) M2 → zUL sn xs k 1649 (LU i) [] M2) : zUL sn xs k 720 (LU i) [] M := by
  obtain ⟨N, F, us, h⟩ := hJ
  have h : JA (1000 * k) M N F us := h
  refine zu_aload_n dL_law_720 rfl 2 rfl ?_
  refine zu_aloadT_n dL_law_721 rfl 1 rfl ?_
  refine zu_iload dL_law_722 0 rfl ?_
  refine zu_iconst (v := 1) dL_law_724 (by decide) ?_
  refine zu_iadd dL_law_725 ?_
  refine zu_sald dL_law_726 h1 ?_
  refine zu_aloadT_n dL_law_727 rfl 1 rfl ?_
  refine zu_iload dL_law_728 0 rfl ?_
  refine zu_iconst (v := 2) dL_law_730 (by decide) ?_
  refine zu_iadd dL_law_731 ?_
  refine zu_sald dL_law_732 h2 ?_
  refine zu_aloadT_n dL_law_733 rfl 1 rfl ?_
  refine zu_iload dL_law_734 0 rfl ?_
  refine zu_iconst (v := 3) dL_law_736 (by decide) ?_
  refine zu_iadd dL_law_737 ?_
  refine zu_sald dL_law_738 h3 ?_
  refine zu_callI (c := 11) (b := 0) dL_law_739 w_X11_put zz_16 rfl (by decide) (by decide) s_X11_put [.int (xs (Int32.toNatClampNeg (nI i + 1))), .int (xs (Int32.toNatClampNeg (nI i + 2))), .int (xs (Int32.toNatClampNeg (nI i + 3)))] rfl rfl (Nat.le_of_ble_eq_true rfl) (Nat.le_of_ble_eq_true rfl) ?_ (by omega)
  refine zV.post (z_V.deep (show 99 ≤ 100 by decide) (o_put (d := 36) h)) ?_
  rintro v M1 ⟨r, rfl, T⟩
  refine ⟨r, rfl, ?_⟩
  refine zu_aload_n dL_law_742 rfl 3 rfl ?_
  refine zu_aloadT_n dL_law_743 rfl 1 rfl ?_
  refine zu_iload dL_law_744 0 rfl ?_
  refine zu_iconst (v := 1) dL_law_746 (by decide) ?_
  refine zu_iadd dL_law_747 ?_
  refine zu_sald dL_law_748 h1 ?_
  refine zu_aloadT_n dL_law_749 rfl 1 rfl ?_
  refine zu_iload dL_law_750 0 rfl ?_
  refine zu_iconst (v := 2) dL_law_752 (by decide) ?_
  refine zu_iadd dL_law_753 ?_
  refine zu_sald dL_law_754 h2 ?_
  refine zu_aloadT_n dL_law_755 rfl 1 rfl ?_
  refine zu_iload dL_law_756 0 rfl ?_
  refine zu_iconst (v := 3) dL_law_758 (by decide) ?_
  refine zu_iadd dL_law_759 ?_
  refine zu_sald dL_law_760 h3 ?_
  refine zu_callI (c := 12) (b := 229) dL_law_761 w_X12_put zz_17 rfl (by decide) (by decide) s_X12_put [.int (xs (Int32.toNatClampNeg (nI i + 1))), .int (xs (Int32.toNatClampNeg (nI i + 2))), .int (xs (Int32.toNatClampNeg (nI i + 3)))] rfl rfl (Nat.le_of_ble_eq_true rfl) (Nat.le_of_ble_eq_true rfl) ?_ (by omega)
  refine zV.post (z_V.deep (show 100 ≤ 100 by decide) T) ?_
  rintro v M2 ⟨r2, rfl, rfl, hj⟩
  refine ⟨_, rfl, ?_⟩
  exact zu_icmp_eq (tgt := 1649) dL_law_764 (by decide) (fun _ => kk _ (J_up9 hj (by omega))) (fun q => absurd rfl q)
theorem u_13 (hJ : J (1000 * k) M) (hk : k < 512) (h1 : vp_in (nI i + 1) sn) (h2 : vp_in (nI i + 2) sn) (h3 : vp_in (nI i + 3) sn) (h4 : vp_in (nI i + 4) sn) (h5 : vp_in (nI i + 5) sn) (kk : ∀ M2, J (1000 * (k + 1)) M2 → zUL sn xs k 1649 (LU i) [] M2) : zUL sn xs k 769 (LU i) [] M := by
  obtain ⟨N, F, us, h⟩ := hJ
  have h : JA (1000 * k) M N F us := h
  refine zu_aload_n dL_law_769 rfl 2 rfl ?_
  refine zu_aloadT_n dL_law_770 rfl 1 rfl ?_
  refine zu_iload dL_law_771 0 rfl ?_
  refine zu_iconst (v := 1) dL_law_773 (by decide) ?_
  refine zu_iadd dL_law_774 ?_
  refine zu_sald dL_law_775 h1 ?_
  refine zu_aloadT_n dL_law_776 rfl 1 rfl ?_
  refine zu_iload dL_law_777 0 rfl ?_
  refine zu_iconst (v := 2) dL_law_779 (by decide) ?_
  refine zu_iadd dL_law_780 ?_
  refine zu_sald dL_law_781 h2 ?_
  refine zu_callI (c := 11) (b := 0) dL_law_782 w_X11_drop zz_18 rfl (by decide) (by decide) s_X11_drop [.int (xs (Int32.toNatClampNeg (nI i + 1))), .int (xs (Int32.toNatClampNeg (nI i + 2)))] rfl rfl (Nat.le_of_ble_eq_true rfl) (Nat.le_of_ble_eq_true rfl) ?_ (by omega)
  refine zV.post (z_V.deep (show 99 ≤ 100 by decide) (o_drop (d := 36) h)) ?_
  rintro v M1 ⟨r, rfl, T⟩
  refine ⟨r, rfl, ?_⟩
  refine zu_aload_n dL_law_785 rfl 3 rfl ?_
  refine zu_aloadT_n dL_law_786 rfl 1 rfl ?_
  refine zu_iload dL_law_787 0 rfl ?_
  refine zu_iconst (v := 1) dL_law_789 (by decide) ?_
  refine zu_iadd dL_law_790 ?_
  refine zu_sald dL_law_791 h1 ?_
  refine zu_aloadT_n dL_law_792 rfl 1 rfl ?_
  refine zu_iload dL_law_793 0 rfl ?_
  refine zu_iconst (v := 2) dL_law_795 (by decide) ?_
  refine zu_iadd dL_law_796 ?_
  refine zu_sald dL_law_797 h2 ?_
  refine zu_callI (c := 12) (b := 229) dL_law_798 w_X12_drop zz_19 rfl (by decide) (by decide) s_X12_drop [.int (xs (Int32.toNatClampNeg (nI i + 1))), .int (xs (Int32.toNatClampNeg (nI i + 2)))] rfl rfl (Nat.le_of_ble_eq_true rfl) (Nat.le_of_ble_eq_true rfl) ?_ (by omega)
  refine zV.post (z_V.deep (show 100 ≤ 100 by decide) T) ?_
  rintro v M2 ⟨r2, rfl, rfl, hj⟩
  refine ⟨_, rfl, ?_⟩
  exact zu_icmp_eq (tgt := 1649) dL_law_801 (by decide) (fun _ => kk _ (J_up9 hj (by omega))) (fun q => absurd rfl q)
theorem u_14 (hJ : J (1000 * k) M) (hk : k < 512) (h1 : vp_in (nI i + 1) sn) (h2 : vp_in (nI i + 2) sn) (h3 : vp_in (nI i + 3) sn) (h4 : vp_in (nI i + 4) sn) (h5 : vp_in (nI i + 5) sn) (kk : ∀ M2, J (1000 * (k + 1)) M2 → zUL sn xs k 1649 (LU i) [] M2) : zUL sn xs k 806 (LU i) [] M := by
  obtain ⟨N, F, us, h⟩ := hJ
  have h : JA (1000 * k) M N F us := h
  refine zu_aload_n dL_law_806 rfl 2 rfl ?_
  refine zu_aloadT_n dL_law_807 rfl 1 rfl ?_
  refine zu_iload dL_law_808 0 rfl ?_
  refine zu_iconst (v := 1) dL_law_810 (by decide) ?_
  refine zu_iadd dL_law_811 ?_
  refine zu_sald dL_law_812 h1 ?_
  refine zu_aloadT_n dL_law_813 rfl 1 rfl ?_
  refine zu_iload dL_law_814 0 rfl ?_
  refine zu_iconst (v := 2) dL_law_816 (by decide) ?_
  refine zu_iadd dL_law_817 ?_
  refine zu_sald dL_law_818 h2 ?_
  refine zu_callI (c := 11) (b := 0) dL_law_819 w_X11_pull zz_20 rfl (by decide) (by decide) s_X11_pull [.int (xs (Int32.toNatClampNeg (nI i + 1))), .int (xs (Int32.toNatClampNeg (nI i + 2)))] rfl rfl (Nat.le_of_ble_eq_true rfl) (Nat.le_of_ble_eq_true rfl) ?_ (by omega)
  refine zV.post (z_V.deep (show 99 ≤ 100 by decide) (o_pull (d := 36) h (by omega))) ?_
  rintro v M1 ⟨r, rfl, T⟩
  refine ⟨r, rfl, ?_⟩
  refine zu_aload_n dL_law_822 rfl 3 rfl ?_
  refine zu_aloadT_n dL_law_823 rfl 1 rfl ?_
  refine zu_iload dL_law_824 0 rfl ?_
  refine zu_iconst (v := 1) dL_law_826 (by decide) ?_
  refine zu_iadd dL_law_827 ?_
  refine zu_sald dL_law_828 h1 ?_
  refine zu_aloadT_n dL_law_829 rfl 1 rfl ?_
  refine zu_iload dL_law_830 0 rfl ?_
  refine zu_iconst (v := 2) dL_law_832 (by decide) ?_
  refine zu_iadd dL_law_833 ?_
  refine zu_sald dL_law_834 h2 ?_
  refine zu_callI (c := 12) (b := 229) dL_law_835 w_X12_pull zz_21 rfl (by decide) (by decide) s_X12_pull [.int (xs (Int32.toNatClampNeg (nI i + 1))), .int (xs (Int32.toNatClampNeg (nI i + 2)))] rfl rfl (Nat.le_of_ble_eq_true rfl) (Nat.le_of_ble_eq_true rfl) ?_ (by omega)
  refine zV.post (z_V.deep (show 100 ≤ 100 by decide) T) ?_
  rintro v M2 ⟨r2, rfl, rfl, hj⟩
  refine ⟨_, rfl, ?_⟩
  exact zu_icmp_eq (tgt := 1649) dL_law_838 (by decide) (fun _ => kk _ (J_up9 hj (by omega))) (fun q => absurd rfl q)
theorem u_15 (hJ : J (1000 * k) M) (hk : k < 512) (h1 : vp_in (nI i + 1) sn) (h2 : vp_in (nI i + 2) sn) (h3 : vp_in (nI i + 3) sn) (h4 : vp_in (nI i + 4) sn) (h5 : vp_in (nI i + 5) sn) (kk : ∀ M2, J (1000 * (k + 1)) M2 → zUL sn xs k 1649 (LU i) [] M2) : zUL sn xs k 843 (LU i) [] M := by
  obtain ⟨N, F, us, h⟩ := hJ
  have h : JA (1000 * k) M N F us := h
  refine zu_aload_n dL_law_843 rfl 2 rfl ?_
  refine zu_aloadT_n dL_law_844 rfl 1 rfl ?_
  refine zu_iload dL_law_845 0 rfl ?_
  refine zu_iconst (v := 1) dL_law_847 (by decide) ?_
  refine zu_iadd dL_law_848 ?_
  refine zu_sald dL_law_849 h1 ?_
  refine zu_aloadT_n dL_law_850 rfl 1 rfl ?_
  refine zu_iload dL_law_851 0 rfl ?_
  refine zu_iconst (v := 2) dL_law_853 (by decide) ?_
  refine zu_iadd dL_law_854 ?_
  refine zu_sald dL_law_855 h2 ?_
  refine zu_callI (c := 11) (b := 0) dL_law_856 w_X11_cut zz_22 rfl (by decide) (by decide) s_X11_cut [.int (xs (Int32.toNatClampNeg (nI i + 1))), .int (xs (Int32.toNatClampNeg (nI i + 2)))] rfl rfl (Nat.le_of_ble_eq_true rfl) (Nat.le_of_ble_eq_true rfl) ?_ (by omega)
  refine zV.post (z_V.deep (show 99 ≤ 100 by decide) (o_cut (d := 36) h)) ?_
  rintro v M1 ⟨r, rfl, T⟩
  refine ⟨r, rfl, ?_⟩
  refine zu_aload_n dL_law_859 rfl 3 rfl ?_
  refine zu_aloadT_n dL_law_860 rfl 1 rfl ?_
  refine zu_iload dL_law_861 0 rfl ?_
  refine zu_iconst (v := 1) dL_law_863 (by decide) ?_
  refine zu_iadd dL_law_864 ?_
  refine zu_sald dL_law_865 h1 ?_
  refine zu_aloadT_n dL_law_866 rfl 1 rfl ?_
  refine zu_iload dL_law_867 0 rfl ?_
  refine zu_iconst (v := 2) dL_law_869 (by decide) ?_
  refine zu_iadd dL_law_870 ?_
  refine zu_sald dL_law_871 h2 ?_
  refine zu_callI (c := 12) (b := 229) dL_law_872 w_X12_cut zz_23 rfl (by decide) (by decide) s_X12_cut [.int (xs (Int32.toNatClampNeg (nI i + 1))), .int (xs (Int32.toNatClampNeg (nI i + 2)))] rfl rfl (Nat.le_of_ble_eq_true rfl) (Nat.le_of_ble_eq_true rfl) ?_ (by omega)
  refine zV.post (z_V.deep (show 100 ≤ 100 by decide) T) ?_
  rintro v M2 ⟨r2, rfl, rfl, hj⟩
  refine ⟨_, rfl, ?_⟩
  exact zu_icmp_eq (tgt := 1649) dL_law_875 (by decide) (fun _ => kk _ (J_up9 hj (by omega))) (fun q => absurd rfl q)
theorem u_16 (hJ : J (1000 * k) M) (hk : k < 512) (h1 : vp_in (nI i + 1) sn) (h2 : vp_in (nI i + 2) sn) (h3 : vp_in (nI i + 3) sn) (h4 : vp_in (nI i + 4) sn) (h5 : vp_in (nI i + 5) sn) (kk : ∀ M2, J (1000 * (k + 1)) M2 → zUL sn xs k 1649 (LU i) [] M2) : zUL sn xs k 880 (LU i) [] M := by
  obtain ⟨N, F, us, h⟩ := hJ
  have h : JA (1000 * k) M N F us := h
  refine zu_aload_n dL_law_880 rfl 2 rfl ?_
  refine zu_aloadT_n dL_law_881 rfl 1 rfl ?_
  refine zu_iload dL_law_882 0 rfl ?_
  refine zu_iconst (v := 1) dL_law_884 (by decide) ?_
  refine zu_iadd dL_law_885 ?_
  refine zu_sald dL_law_886 h1 ?_
  refine zu_aloadT_n dL_law_887 rfl 1 rfl ?_
  refine zu_iload dL_law_888 0 rfl ?_
  refine zu_iconst (v := 2) dL_law_890 (by decide) ?_
  refine zu_iadd dL_law_891 ?_
  refine zu_sald dL_law_892 h2 ?_
  refine zu_callI (c := 11) (b := 0) dL_law_893 w_X11_heal zz_24 rfl (by decide) (by decide) s_X11_heal [.int (xs (Int32.toNatClampNeg (nI i + 1))), .int (xs (Int32.toNatClampNeg (nI i + 2)))] rfl rfl (Nat.le_of_ble_eq_true rfl) (Nat.le_of_ble_eq_true rfl) ?_ (by omega)
  refine zV.post (z_V.deep (show 99 ≤ 100 by decide) (o_heal (d := 36) h)) ?_
  rintro v M1 ⟨r, rfl, T⟩
  refine ⟨r, rfl, ?_⟩
  refine zu_aload_n dL_law_896 rfl 3 rfl ?_
  refine zu_aloadT_n dL_law_897 rfl 1 rfl ?_
  refine zu_iload dL_law_898 0 rfl ?_
  refine zu_iconst (v := 1) dL_law_900 (by decide) ?_
  refine zu_iadd dL_law_901 ?_
  refine zu_sald dL_law_902 h1 ?_
  refine zu_aloadT_n dL_law_903 rfl 1 rfl ?_
  refine zu_iload dL_law_904 0 rfl ?_
  refine zu_iconst (v := 2) dL_law_906 (by decide) ?_
  refine zu_iadd dL_law_907 ?_
  refine zu_sald dL_law_908 h2 ?_
  refine zu_callI (c := 12) (b := 229) dL_law_909 w_X12_heal zz_25 rfl (by decide) (by decide) s_X12_heal [.int (xs (Int32.toNatClampNeg (nI i + 1))), .int (xs (Int32.toNatClampNeg (nI i + 2)))] rfl rfl (Nat.le_of_ble_eq_true rfl) (Nat.le_of_ble_eq_true rfl) ?_ (by omega)
  refine zV.post (z_V.deep (show 100 ≤ 100 by decide) T) ?_
  rintro v M2 ⟨r2, rfl, rfl, hj⟩
  refine ⟨_, rfl, ?_⟩
  exact zu_icmp_eq (tgt := 1649) dL_law_912 (by decide) (fun _ => kk _ (J_up9 hj (by omega))) (fun q => absurd rfl q)
theorem u_17 (hJ : J (1000 * k) M) (hk : k < 512) (h1 : vp_in (nI i + 1) sn) (h2 : vp_in (nI i + 2) sn) (h3 : vp_in (nI i + 3) sn) (h4 : vp_in (nI i + 4) sn) (h5 : vp_in (nI i + 5) sn) (kk : ∀ M2, J (1000 * (k + 1)) M2 → zUL sn xs k 1649 (LU i) [] M2) : zUL sn xs k 917 (LU i) [] M := by
  obtain ⟨N, F, us, h⟩ := hJ
  have h : JA (1000 * k) M N F us := h
  refine zu_aload_n dL_law_917 rfl 2 rfl ?_
  refine zu_callI (c := 11) (b := 0) dL_law_918 w_X11_undo zz_26 rfl (by decide) (by decide) s_X11_undo [] rfl rfl (Nat.le_of_ble_eq_true rfl) (Nat.le_of_ble_eq_true rfl) ?_ (by omega)
  refine zV.post (z_V.deep (show 100 ≤ 100 by decide) (o_undo (d := 36) h)) ?_
  rintro v M1 ⟨r, rfl, T⟩
  refine ⟨r, rfl, ?_⟩
  refine zu_aload_n dL_law_921 rfl 3 rfl ?_
  refine zu_callI (c := 12) (b := 229) dL_law_922 w_X12_undo zz_27 rfl (by decide) (by decide) s_X12_undo [] rfl rfl (Nat.le_of_ble_eq_true rfl) (Nat.le_of_ble_eq_true rfl) ?_ (by omega)
  refine zV.post (z_V.deep (show 100 ≤ 100 by decide) T) ?_
  rintro v M2 ⟨r2, rfl, rfl, hj⟩
  refine ⟨_, rfl, ?_⟩
  exact zu_icmp_eq (tgt := 1649) dL_law_925 (by decide) (fun _ => kk _ (J_up9 hj (by omega))) (fun q => absurd rfl q)
theorem u_18 (hJ : J (1000 * k) M) (hk : k < 512) (h1 : vp_in (nI i + 1) sn) (h2 : vp_in (nI i + 2) sn) (h3 : vp_in (nI i + 3) sn) (h4 : vp_in (nI i + 4) sn) (h5 : vp_in (nI i + 5) sn) (kk : ∀ M2, J (1000 * (k + 1)) M2 → zUL sn xs k 1649 (LU i) [] M2) : zUL sn xs k 930 (LU i) [] M := by
  obtain ⟨N, F, us, h⟩ := hJ
  have h : JA (1000 * k) M N F us := h
  refine zu_aload_n dL_law_930 rfl 2 rfl ?_
  refine zu_aloadT_n dL_law_931 rfl 1 rfl ?_
  refine zu_iload dL_law_932 0 rfl ?_
  refine zu_iconst (v := 1) dL_law_934 (by decide) ?_
  refine zu_iadd dL_law_935 ?_
  refine zu_sald dL_law_936 h1 ?_
  refine zu_aloadT_n dL_law_937 rfl 1 rfl ?_
  refine zu_iload dL_law_938 0 rfl ?_
  refine zu_iconst (v := 2) dL_law_940 (by decide) ?_
  refine zu_iadd dL_law_941 ?_
  refine zu_sald dL_law_942 h2 ?_
  refine zu_callI (c := 11) (b := 0) dL_law_943 w_X11_visits zz_28 rfl (by decide) (by decide) s_X11_visits [.int (xs (Int32.toNatClampNeg (nI i + 1))), .int (xs (Int32.toNatClampNeg (nI i + 2)))] rfl rfl (Nat.le_of_ble_eq_true rfl) (Nat.le_of_ble_eq_true rfl) ?_ (by omega)
  refine zV.post (z_V.deep (show 100 ≤ 100 by decide) (o_visits (d := 36) h)) ?_
  rintro v M1 ⟨r, rfl, T⟩
  refine ⟨r, rfl, ?_⟩
  refine zu_aload_n dL_law_946 rfl 3 rfl ?_
  refine zu_aloadT_n dL_law_947 rfl 1 rfl ?_
  refine zu_iload dL_law_948 0 rfl ?_
  refine zu_iconst (v := 1) dL_law_950 (by decide) ?_
  refine zu_iadd dL_law_951 ?_
  refine zu_sald dL_law_952 h1 ?_
  refine zu_aloadT_n dL_law_953 rfl 1 rfl ?_
  refine zu_iload dL_law_954 0 rfl ?_
  refine zu_iconst (v := 2) dL_law_956 (by decide) ?_
  refine zu_iadd dL_law_957 ?_
  refine zu_sald dL_law_958 h2 ?_
  refine zu_callI (c := 12) (b := 229) dL_law_959 w_X12_visits zz_29 rfl (by decide) (by decide) s_X12_visits [.int (xs (Int32.toNatClampNeg (nI i + 1))), .int (xs (Int32.toNatClampNeg (nI i + 2)))] rfl rfl (Nat.le_of_ble_eq_true rfl) (Nat.le_of_ble_eq_true rfl) ?_ (by omega)
  refine zV.post (z_V.deep (show 100 ≤ 100 by decide) T) ?_
  rintro v M2 ⟨r2, rfl, rfl, hj⟩
  refine ⟨_, rfl, ?_⟩
  exact zu_icmp_eq (tgt := 1649) dL_law_962 (by decide) (fun _ => kk _ (J_up9 hj (by omega))) (fun q => absurd rfl q)
theorem u_19 (hJ : J (1000 * k) M) (hk : k < 512) (h1 : vp_in (nI i + 1) sn) (h2 : vp_in (nI i + 2) sn) (h3 : vp_in (nI i + 3) sn) (h4 : vp_in (nI i + 4) sn) (h5 : vp_in (nI i + 5) sn) (kk : ∀ M2, J (1000 * (k + 1)) M2 → zUL sn xs k 1649 (LU i) [] M2) : zUL sn xs k 967 (LU i) [] M := by
  obtain ⟨N, F, us, h⟩ := hJ
  have h : JA (1000 * k) M N F us := h
  refine zu_aload_n dL_law_967 rfl 2 rfl ?_
  refine zu_aloadT_n dL_law_968 rfl 1 rfl ?_
  refine zu_iload dL_law_969 0 rfl ?_
  refine zu_iconst (v := 1) dL_law_971 (by decide) ?_
  refine zu_iadd dL_law_972 ?_
  refine zu_sald dL_law_973 h1 ?_
  refine zu_aloadT_n dL_law_974 rfl 1 rfl ?_
  refine zu_iload dL_law_975 0 rfl ?_
  refine zu_iconst (v := 2) dL_law_977 (by decide) ?_
  refine zu_iadd dL_law_978 ?_
  refine zu_sald dL_law_979 h2 ?_
  refine zu_callI (c := 11) (b := 0) dL_law_980 w_X11_differs zz_30 rfl (by decide) (by decide) s_X11_differs [.int (xs (Int32.toNatClampNeg (nI i + 1))), .int (xs (Int32.toNatClampNeg (nI i + 2)))] rfl rfl (Nat.le_of_ble_eq_true rfl) (Nat.le_of_ble_eq_true rfl) ?_ (by omega)
  refine zV.post (z_V.deep (show 100 ≤ 100 by decide) (o_differs (d := 36) h)) ?_
  rintro v M1 ⟨r, rfl, T⟩
  refine ⟨r, rfl, ?_⟩
  refine zu_aload_n dL_law_983 rfl 3 rfl ?_
  refine zu_aloadT_n dL_law_984 rfl 1 rfl ?_
  refine zu_iload dL_law_985 0 rfl ?_
  refine zu_iconst (v := 1) dL_law_987 (by decide) ?_
  refine zu_iadd dL_law_988 ?_
  refine zu_sald dL_law_989 h1 ?_
  refine zu_aloadT_n dL_law_990 rfl 1 rfl ?_
  refine zu_iload dL_law_991 0 rfl ?_
  refine zu_iconst (v := 2) dL_law_993 (by decide) ?_
  refine zu_iadd dL_law_994 ?_
  refine zu_sald dL_law_995 h2 ?_
  refine zu_callI (c := 12) (b := 229) dL_law_996 w_X12_differs zz_31 rfl (by decide) (by decide) s_X12_differs [.int (xs (Int32.toNatClampNeg (nI i + 1))), .int (xs (Int32.toNatClampNeg (nI i + 2)))] rfl rfl (Nat.le_of_ble_eq_true rfl) (Nat.le_of_ble_eq_true rfl) ?_ (by omega)
  refine zV.post (z_V.deep (show 100 ≤ 100 by decide) T) ?_
  rintro v M2 ⟨r2, rfl, rfl, hj⟩
  refine ⟨_, rfl, ?_⟩
  exact zu_icmp_eq (tgt := 1649) dL_law_999 (by decide) (fun _ => kk _ (J_up9 hj (by omega))) (fun q => absurd rfl q)
theorem u_20 (hJ : J (1000 * k) M) (hk : k < 512) (h1 : vp_in (nI i + 1) sn) (h2 : vp_in (nI i + 2) sn) (h3 : vp_in (nI i + 3) sn) (h4 : vp_in (nI i + 4) sn) (h5 : vp_in (nI i + 5) sn) (kk : ∀ M2, J (1000 * (k + 1)) M2 → zUL sn xs k 1649 (LU i) [] M2) : zUL sn xs k 1004 (LU i) [] M := by
  obtain ⟨N, F, us, h⟩ := hJ
  have h : JA (1000 * k) M N F us := h
  refine zu_aload_n dL_law_1004 rfl 2 rfl ?_
  refine zu_aloadT_n dL_law_1005 rfl 1 rfl ?_
  refine zu_iload dL_law_1006 0 rfl ?_
  refine zu_iconst (v := 1) dL_law_1008 (by decide) ?_
  refine zu_iadd dL_law_1009 ?_
  refine zu_sald dL_law_1010 h1 ?_
  refine zu_aloadT_n dL_law_1011 rfl 1 rfl ?_
  refine zu_iload dL_law_1012 0 rfl ?_
  refine zu_iconst (v := 2) dL_law_1014 (by decide) ?_
  refine zu_iadd dL_law_1015 ?_
  refine zu_sald dL_law_1016 h2 ?_
  refine zu_callI (c := 11) (b := 0) dL_law_1017 w_X11_offers zz_32 rfl (by decide) (by decide) s_X11_offers [.int (xs (Int32.toNatClampNeg (nI i + 1))), .int (xs (Int32.toNatClampNeg (nI i + 2)))] rfl rfl (Nat.le_of_ble_eq_true rfl) (Nat.le_of_ble_eq_true rfl) ?_ (by omega)
  refine zV.post (z_V.deep (show 100 ≤ 100 by decide) (o_offers (d := 36) h (by omega))) ?_
  rintro v M1 ⟨r, rfl, T⟩
  refine ⟨r, rfl, ?_⟩
  refine zu_aload_n dL_law_1020 rfl 3 rfl ?_
  refine zu_aloadT_n dL_law_1021 rfl 1 rfl ?_
  refine zu_iload dL_law_1022 0 rfl ?_
  refine zu_iconst (v := 1) dL_law_1024 (by decide) ?_
  refine zu_iadd dL_law_1025 ?_
  refine zu_sald dL_law_1026 h1 ?_
  refine zu_aloadT_n dL_law_1027 rfl 1 rfl ?_
  refine zu_iload dL_law_1028 0 rfl ?_
  refine zu_iconst (v := 2) dL_law_1030 (by decide) ?_
  refine zu_iadd dL_law_1031 ?_
  refine zu_sald dL_law_1032 h2 ?_
  refine zu_callI (c := 12) (b := 229) dL_law_1033 w_X12_offers zz_33 rfl (by decide) (by decide) s_X12_offers [.int (xs (Int32.toNatClampNeg (nI i + 1))), .int (xs (Int32.toNatClampNeg (nI i + 2)))] rfl rfl (Nat.le_of_ble_eq_true rfl) (Nat.le_of_ble_eq_true rfl) ?_ (by omega)
  refine zV.post (z_V.deep (show 100 ≤ 100 by decide) T) ?_
  rintro v M2 ⟨r2, rfl, rfl, hj⟩
  refine ⟨_, rfl, ?_⟩
  exact zu_icmp_eq (tgt := 1649) dL_law_1036 (by decide) (fun _ => kk _ (J_up9 hj (by omega))) (fun q => absurd rfl q)
theorem u_21 (hJ : J (1000 * k) M) (hk : k < 512) (h1 : vp_in (nI i + 1) sn) (h2 : vp_in (nI i + 2) sn) (h3 : vp_in (nI i + 3) sn) (h4 : vp_in (nI i + 4) sn) (h5 : vp_in (nI i + 5) sn) (kk : ∀ M2, J (1000 * (k + 1)) M2 → zUL sn xs k 1649 (LU i) [] M2) : zUL sn xs k 1041 (LU i) [] M := by
  obtain ⟨N, F, us, h⟩ := hJ
  have h : JA (1000 * k) M N F us := h
  refine zu_aload_n dL_law_1041 rfl 2 rfl ?_
  refine zu_aloadT_n dL_law_1042 rfl 1 rfl ?_
  refine zu_iload dL_law_1043 0 rfl ?_
  refine zu_iconst (v := 1) dL_law_1045 (by decide) ?_
  refine zu_iadd dL_law_1046 ?_
  refine zu_sald dL_law_1047 h1 ?_
  refine zu_callI (c := 11) (b := 0) dL_law_1048 w_X11_offerAt zz_34 rfl (by decide) (by decide) s_X11_offerAt [.int (xs (Int32.toNatClampNeg (nI i + 1)))] rfl rfl (Nat.le_of_ble_eq_true rfl) (Nat.le_of_ble_eq_true rfl) ?_ (by omega)
  refine zV.post (z_V.deep (show 100 ≤ 100 by decide) (o_offerAt (d := 99) h)) ?_
  rintro v M1 ⟨r, rfl, T⟩
  refine ⟨r, rfl, ?_⟩
  refine zu_aload_n dL_law_1051 rfl 3 rfl ?_
  refine zu_aloadT_n dL_law_1052 rfl 1 rfl ?_
  refine zu_iload dL_law_1053 0 rfl ?_
  refine zu_iconst (v := 1) dL_law_1055 (by decide) ?_
  refine zu_iadd dL_law_1056 ?_
  refine zu_sald dL_law_1057 h1 ?_
  refine zu_callI (c := 12) (b := 229) dL_law_1058 w_X12_offerAt zz_35 rfl (by decide) (by decide) s_X12_offerAt [.int (xs (Int32.toNatClampNeg (nI i + 1)))] rfl rfl (Nat.le_of_ble_eq_true rfl) (Nat.le_of_ble_eq_true rfl) ?_ (by omega)
  refine zV.post (z_V.deep (show 100 ≤ 100 by decide) T) ?_
  rintro v M2 ⟨r2, rfl, rfl, hj⟩
  refine ⟨_, rfl, ?_⟩
  exact zu_icmp_eq (tgt := 1649) dL_law_1061 (by decide) (fun _ => kk _ (J_up9 hj (by omega))) (fun q => absurd rfl q)
theorem u_22 (hJ : J (1000 * k) M) (hk : k < 512) (h1 : vp_in (nI i + 1) sn) (h2 : vp_in (nI i + 2) sn) (h3 : vp_in (nI i + 3) sn) (h4 : vp_in (nI i + 4) sn) (h5 : vp_in (nI i + 5) sn) (kk : ∀ M2, J (1000 * (k + 1)) M2 → zUL sn xs k 1649 (LU i) [] M2) : zUL sn xs k 1066 (LU i) [] M := by
  obtain ⟨N, F, us, h⟩ := hJ
  have h : JA (1000 * k) M N F us := h
  refine zu_aload_n dL_law_1066 rfl 2 rfl ?_
  refine zu_aloadT_n dL_law_1067 rfl 1 rfl ?_
  refine zu_iload dL_law_1068 0 rfl ?_
  refine zu_iconst (v := 1) dL_law_1070 (by decide) ?_
  refine zu_iadd dL_law_1071 ?_
  refine zu_sald dL_law_1072 h1 ?_
  refine zu_aloadT_n dL_law_1073 rfl 1 rfl ?_
  refine zu_iload dL_law_1074 0 rfl ?_
  refine zu_iconst (v := 2) dL_law_1076 (by decide) ?_
  refine zu_iadd dL_law_1077 ?_
  refine zu_sald dL_law_1078 h2 ?_
  refine zu_aloadT_n dL_law_1079 rfl 1 rfl ?_
  refine zu_iload dL_law_1080 0 rfl ?_
  refine zu_iconst (v := 3) dL_law_1082 (by decide) ?_
  refine zu_iadd dL_law_1083 ?_
  refine zu_sald dL_law_1084 h3 ?_
  refine zu_callI (c := 11) (b := 0) dL_law_1085 w_X11_fresh zz_36 rfl (by decide) (by decide) s_X11_fresh [.int (xs (Int32.toNatClampNeg (nI i + 1))), .int (xs (Int32.toNatClampNeg (nI i + 2))), .int (xs (Int32.toNatClampNeg (nI i + 3)))] rfl rfl (Nat.le_of_ble_eq_true rfl) (Nat.le_of_ble_eq_true rfl) ?_ (by omega)
  refine zV.post (z_V.deep (show 100 ≤ 100 by decide) (o_fresh (d := 36) h)) ?_
  rintro v M1 ⟨r, rfl, T⟩
  refine ⟨r, rfl, ?_⟩
  refine zu_aload_n dL_law_1088 rfl 3 rfl ?_
  refine zu_aloadT_n dL_law_1089 rfl 1 rfl ?_
  refine zu_iload dL_law_1090 0 rfl ?_
  refine zu_iconst (v := 1) dL_law_1092 (by decide) ?_
  refine zu_iadd dL_law_1093 ?_
  refine zu_sald dL_law_1094 h1 ?_
  refine zu_aloadT_n dL_law_1095 rfl 1 rfl ?_
  refine zu_iload dL_law_1096 0 rfl ?_
  refine zu_iconst (v := 2) dL_law_1098 (by decide) ?_
  refine zu_iadd dL_law_1099 ?_
  refine zu_sald dL_law_1100 h2 ?_
  refine zu_aloadT_n dL_law_1101 rfl 1 rfl ?_
  refine zu_iload dL_law_1102 0 rfl ?_
  refine zu_iconst (v := 3) dL_law_1104 (by decide) ?_
  refine zu_iadd dL_law_1105 ?_
  refine zu_sald dL_law_1106 h3 ?_
  refine zu_callI (c := 12) (b := 229) dL_law_1107 w_X12_fresh zz_37 rfl (by decide) (by decide) s_X12_fresh [.int (xs (Int32.toNatClampNeg (nI i + 1))), .int (xs (Int32.toNatClampNeg (nI i + 2))), .int (xs (Int32.toNatClampNeg (nI i + 3)))] rfl rfl (Nat.le_of_ble_eq_true rfl) (Nat.le_of_ble_eq_true rfl) ?_ (by omega)
  refine zV.post (z_V.deep (show 100 ≤ 100 by decide) T) ?_
  rintro v M2 ⟨r2, rfl, rfl, hj⟩
  refine ⟨_, rfl, ?_⟩
  exact zu_icmp_eq (tgt := 1649) dL_law_1110 (by decide) (fun _ => kk _ (J_up9 hj (by omega))) (fun q => absurd rfl q)
theorem u_23 (hJ : J (1000 * k) M) (hk : k < 512) (h1 : vp_in (nI i + 1) sn) (h2 : vp_in (nI i + 2) sn) (h3 : vp_in (nI i + 3) sn) (h4 : vp_in (nI i + 4) sn) (h5 : vp_in (nI i + 5) sn) (kk : ∀ M2, J (1000 * (k + 1)) M2 → zUL sn xs k 1649 (LU i) [] M2) : zUL sn xs k 1115 (LU i) [] M := by
  obtain ⟨N, F, us, h⟩ := hJ
  have h : JA (1000 * k) M N F us := h
  refine zu_aload_n dL_law_1115 rfl 2 rfl ?_
  refine zu_aloadT_n dL_law_1116 rfl 1 rfl ?_
  refine zu_iload dL_law_1117 0 rfl ?_
  refine zu_iconst (v := 1) dL_law_1119 (by decide) ?_
  refine zu_iadd dL_law_1120 ?_
  refine zu_sald dL_law_1121 h1 ?_
  refine zu_aloadT_n dL_law_1122 rfl 1 rfl ?_
  refine zu_iload dL_law_1123 0 rfl ?_
  refine zu_iconst (v := 2) dL_law_1125 (by decide) ?_
  refine zu_iadd dL_law_1126 ?_
  refine zu_sald dL_law_1127 h2 ?_
  refine zu_callI (c := 11) (b := 0) dL_law_1128 w_X11_pulls zz_38 rfl (by decide) (by decide) s_X11_pulls [.int (xs (Int32.toNatClampNeg (nI i + 1))), .int (xs (Int32.toNatClampNeg (nI i + 2)))] rfl rfl (Nat.le_of_ble_eq_true rfl) (Nat.le_of_ble_eq_true rfl) ?_ (by omega)
  refine zV.post (z_V.deep (show 99 ≤ 100 by decide) (o_pulls (d := 35) h (by omega))) ?_
  rintro v M1 ⟨r, rfl, T⟩
  refine ⟨r, rfl, ?_⟩
  refine zu_aload_n dL_law_1131 rfl 3 rfl ?_
  refine zu_aloadT_n dL_law_1132 rfl 1 rfl ?_
  refine zu_iload dL_law_1133 0 rfl ?_
  refine zu_iconst (v := 1) dL_law_1135 (by decide) ?_
  refine zu_iadd dL_law_1136 ?_
  refine zu_sald dL_law_1137 h1 ?_
  refine zu_aloadT_n dL_law_1138 rfl 1 rfl ?_
  refine zu_iload dL_law_1139 0 rfl ?_
  refine zu_iconst (v := 2) dL_law_1141 (by decide) ?_
  refine zu_iadd dL_law_1142 ?_
  refine zu_sald dL_law_1143 h2 ?_
  refine zu_callI (c := 12) (b := 229) dL_law_1144 w_X12_pulls zz_39 rfl (by decide) (by decide) s_X12_pulls [.int (xs (Int32.toNatClampNeg (nI i + 1))), .int (xs (Int32.toNatClampNeg (nI i + 2)))] rfl rfl (Nat.le_of_ble_eq_true rfl) (Nat.le_of_ble_eq_true rfl) ?_ (by omega)
  refine zV.post (z_V.deep (show 100 ≤ 100 by decide) T) ?_
  rintro v M2 ⟨r2, rfl, rfl, hj⟩
  refine ⟨_, rfl, ?_⟩
  exact zu_icmp_eq (tgt := 1649) dL_law_1147 (by decide) (fun _ => kk _ (J_up9 hj (by omega))) (fun q => absurd rfl q)
theorem u_24 (hJ : J (1000 * k) M) (hk : k < 512) (h1 : vp_in (nI i + 1) sn) (h2 : vp_in (nI i + 2) sn) (h3 : vp_in (nI i + 3) sn) (h4 : vp_in (nI i + 4) sn) (h5 : vp_in (nI i + 5) sn) (kk : ∀ M2, J (1000 * (k + 1)) M2 → zUL sn xs k 1649 (LU i) [] M2) : zUL sn xs k 1152 (LU i) [] M := by
  obtain ⟨N, F, us, h⟩ := hJ
  have h : JA (1000 * k) M N F us := h
  refine zu_aload_n dL_law_1152 rfl 2 rfl ?_
  refine zu_aloadT_n dL_law_1153 rfl 1 rfl ?_
  refine zu_iload dL_law_1154 0 rfl ?_
  refine zu_iconst (v := 1) dL_law_1156 (by decide) ?_
  refine zu_iadd dL_law_1157 ?_
  refine zu_sald dL_law_1158 h1 ?_
  refine zu_aloadT_n dL_law_1159 rfl 1 rfl ?_
  refine zu_iload dL_law_1160 0 rfl ?_
  refine zu_iconst (v := 2) dL_law_1162 (by decide) ?_
  refine zu_iadd dL_law_1163 ?_
  refine zu_sald dL_law_1164 h2 ?_
  refine zu_callI (c := 11) (b := 0) dL_law_1165 w_X11_path zz_40 rfl (by decide) (by decide) s_X11_path [.int (xs (Int32.toNatClampNeg (nI i + 1))), .int (xs (Int32.toNatClampNeg (nI i + 2)))] rfl rfl (Nat.le_of_ble_eq_true rfl) (Nat.le_of_ble_eq_true rfl) ?_ (by omega)
  refine zV.post (z_V.deep (show 100 ≤ 100 by decide) (o_path (d := 36) h)) ?_
  rintro v M1 ⟨r, rfl, T⟩
  refine ⟨r, rfl, ?_⟩
  refine zu_aload_n dL_law_1168 rfl 3 rfl ?_
  refine zu_aloadT_n dL_law_1169 rfl 1 rfl ?_
  refine zu_iload dL_law_1170 0 rfl ?_
  refine zu_iconst (v := 1) dL_law_1172 (by decide) ?_
  refine zu_iadd dL_law_1173 ?_
  refine zu_sald dL_law_1174 h1 ?_
  refine zu_aloadT_n dL_law_1175 rfl 1 rfl ?_
  refine zu_iload dL_law_1176 0 rfl ?_
  refine zu_iconst (v := 2) dL_law_1178 (by decide) ?_
  refine zu_iadd dL_law_1179 ?_
  refine zu_sald dL_law_1180 h2 ?_
  refine zu_callI (c := 12) (b := 229) dL_law_1181 w_X12_path zz_41 rfl (by decide) (by decide) s_X12_path [.int (xs (Int32.toNatClampNeg (nI i + 1))), .int (xs (Int32.toNatClampNeg (nI i + 2)))] rfl rfl (Nat.le_of_ble_eq_true rfl) (Nat.le_of_ble_eq_true rfl) ?_ (by omega)
  refine zV.post (z_V.deep (show 100 ≤ 100 by decide) T) ?_
  rintro v M2 ⟨r2, rfl, rfl, hj⟩
  refine ⟨_, rfl, ?_⟩
  exact zu_icmp_eq (tgt := 1649) dL_law_1184 (by decide) (fun _ => kk _ (J_up9 hj (by omega))) (fun q => absurd rfl q)
theorem u_27 (hJ : J (1000 * k) M) (hk : k < 512) (h1 : vp_in (nI i + 1) sn) (h2 : vp_in (nI i + 2) sn) (h3 : vp_in (nI i + 3) sn) (h4 : vp_in (nI i + 4) sn) (h5 : vp_in (nI i + 5) sn) (kk : ∀ M2, J (1000 * (k + 1)) M2 → zUL sn xs k 1649 (LU i) [] M2) : zUL sn xs k 1337 (LU i) [] M := by
  obtain ⟨N, F, us, h⟩ := hJ
  have h : JA (1000 * k) M N F us := h
  refine zu_aload_n dL_law_1337 rfl 2 rfl ?_
  refine zu_aloadT_n dL_law_1338 rfl 1 rfl ?_
  refine zu_iload dL_law_1339 0 rfl ?_
  refine zu_iconst (v := 1) dL_law_1341 (by decide) ?_
  refine zu_iadd dL_law_1342 ?_
  refine zu_sald dL_law_1343 h1 ?_
  refine zu_callI (c := 11) (b := 0) dL_law_1344 w_X11_tag zz_42 rfl (by decide) (by decide) s_X11_tag [.int (xs (Int32.toNatClampNeg (nI i + 1)))] rfl rfl (Nat.le_of_ble_eq_true rfl) (Nat.le_of_ble_eq_true rfl) ?_ (by omega)
  refine zV.post (z_V.deep (show 100 ≤ 100 by decide) (o_tag (d := 60) h)) ?_
  rintro v M1 ⟨r, rfl, T⟩
  refine ⟨r, rfl, ?_⟩
  refine zu_aload_n dL_law_1347 rfl 3 rfl ?_
  refine zu_aloadT_n dL_law_1348 rfl 1 rfl ?_
  refine zu_iload dL_law_1349 0 rfl ?_
  refine zu_iconst (v := 1) dL_law_1351 (by decide) ?_
  refine zu_iadd dL_law_1352 ?_
  refine zu_sald dL_law_1353 h1 ?_
  refine zu_callI (c := 12) (b := 229) dL_law_1354 w_X12_tag zz_43 rfl (by decide) (by decide) s_X12_tag [.int (xs (Int32.toNatClampNeg (nI i + 1)))] rfl rfl (Nat.le_of_ble_eq_true rfl) (Nat.le_of_ble_eq_true rfl) ?_ (by omega)
  refine zV.post (z_V.deep (show 100 ≤ 100 by decide) T) ?_
  rintro v M2 ⟨r2, rfl, rfl, hj⟩
  refine ⟨_, rfl, ?_⟩
  exact zu_icmp_eq (tgt := 1649) dL_law_1357 (by decide) (fun _ => kk _ (J_up9 hj (by omega))) (fun q => absurd rfl q)
theorem u_28 (hJ : J (1000 * k) M) (hk : k < 512) (h1 : vp_in (nI i + 1) sn) (h2 : vp_in (nI i + 2) sn) (h3 : vp_in (nI i + 3) sn) (h4 : vp_in (nI i + 4) sn) (h5 : vp_in (nI i + 5) sn) (kk : ∀ M2, J (1000 * (k + 1)) M2 → zUL sn xs k 1649 (LU i) [] M2) : zUL sn xs k 1362 (LU i) [] M := by
  obtain ⟨N, F, us, h⟩ := hJ
  have h : JA (1000 * k) M N F us := h
  refine zu_aload_n dL_law_1362 rfl 2 rfl ?_
  refine zu_aloadT_n dL_law_1363 rfl 1 rfl ?_
  refine zu_iload dL_law_1364 0 rfl ?_
  refine zu_iconst (v := 1) dL_law_1366 (by decide) ?_
  refine zu_iadd dL_law_1367 ?_
  refine zu_sald dL_law_1368 h1 ?_
  refine zu_callI (c := 11) (b := 0) dL_law_1369 w_X11_byteAt zz_44 rfl (by decide) (by decide) s_X11_byteAt [.int (xs (Int32.toNatClampNeg (nI i + 1)))] rfl rfl (Nat.le_of_ble_eq_true rfl) (Nat.le_of_ble_eq_true rfl) ?_ (by omega)
  refine zV.post (z_V.deep (show 100 ≤ 100 by decide) (o_byteAt (d := 99) h)) ?_
  rintro v M1 ⟨r, rfl, T⟩
  refine ⟨r, rfl, ?_⟩
  refine zu_aload_n dL_law_1372 rfl 3 rfl ?_
  refine zu_aloadT_n dL_law_1373 rfl 1 rfl ?_
  refine zu_iload dL_law_1374 0 rfl ?_
  refine zu_iconst (v := 1) dL_law_1376 (by decide) ?_
  refine zu_iadd dL_law_1377 ?_
  refine zu_sald dL_law_1378 h1 ?_
  refine zu_callI (c := 12) (b := 229) dL_law_1379 w_X12_byteAt zz_45 rfl (by decide) (by decide) s_X12_byteAt [.int (xs (Int32.toNatClampNeg (nI i + 1)))] rfl rfl (Nat.le_of_ble_eq_true rfl) (Nat.le_of_ble_eq_true rfl) ?_ (by omega)
  refine zV.post (z_V.deep (show 100 ≤ 100 by decide) T) ?_
  rintro v M2 ⟨r2, rfl, rfl, hj⟩
  refine ⟨_, rfl, ?_⟩
  exact zu_icmp_eq (tgt := 1649) dL_law_1382 (by decide) (fun _ => kk _ (J_up9 hj (by omega))) (fun q => absurd rfl q)
theorem u_29 (hJ : J (1000 * k) M) (hk : k < 512) (h1 : vp_in (nI i + 1) sn) (h2 : vp_in (nI i + 2) sn) (h3 : vp_in (nI i + 3) sn) (h4 : vp_in (nI i + 4) sn) (h5 : vp_in (nI i + 5) sn) (kk : ∀ M2, J (1000 * (k + 1)) M2 → zUL sn xs k 1649 (LU i) [] M2) : zUL sn xs k 1387 (LU i) [] M := by
  obtain ⟨N, F, us, h⟩ := hJ
  have h : JA (1000 * k) M N F us := h
  refine zu_aload_n dL_law_1387 rfl 2 rfl ?_
  refine zu_aloadT_n dL_law_1388 rfl 1 rfl ?_
  refine zu_iload dL_law_1389 0 rfl ?_
  refine zu_iconst (v := 1) dL_law_1391 (by decide) ?_
  refine zu_iadd dL_law_1392 ?_
  refine zu_sald dL_law_1393 h1 ?_
  refine zu_aloadT_n dL_law_1394 rfl 1 rfl ?_
  refine zu_iload dL_law_1395 0 rfl ?_
  refine zu_iconst (v := 2) dL_law_1397 (by decide) ?_
  refine zu_iadd dL_law_1398 ?_
  refine zu_sald dL_law_1399 h2 ?_
  refine zu_callI (c := 11) (b := 0) dL_law_1400 w_X11_drawn zz_46 rfl (by decide) (by decide) s_X11_drawn [.int (xs (Int32.toNatClampNeg (nI i + 1))), .int (xs (Int32.toNatClampNeg (nI i + 2)))] rfl rfl (Nat.le_of_ble_eq_true rfl) (Nat.le_of_ble_eq_true rfl) ?_ (by omega)
  refine zV.post (z_V.deep (show 100 ≤ 100 by decide) (o_drawn (d := 36) h (by omega))) ?_
  rintro v M1 ⟨r, rfl, T⟩
  refine ⟨r, rfl, ?_⟩
  refine zu_aload_n dL_law_1403 rfl 3 rfl ?_
  refine zu_aloadT_n dL_law_1404 rfl 1 rfl ?_
  refine zu_iload dL_law_1405 0 rfl ?_
  refine zu_iconst (v := 1) dL_law_1407 (by decide) ?_
  refine zu_iadd dL_law_1408 ?_
  refine zu_sald dL_law_1409 h1 ?_
  refine zu_aloadT_n dL_law_1410 rfl 1 rfl ?_
  refine zu_iload dL_law_1411 0 rfl ?_
  refine zu_iconst (v := 2) dL_law_1413 (by decide) ?_
  refine zu_iadd dL_law_1414 ?_
  refine zu_sald dL_law_1415 h2 ?_
  refine zu_callI (c := 12) (b := 229) dL_law_1416 w_X12_drawn zz_47 rfl (by decide) (by decide) s_X12_drawn [.int (xs (Int32.toNatClampNeg (nI i + 1))), .int (xs (Int32.toNatClampNeg (nI i + 2)))] rfl rfl (Nat.le_of_ble_eq_true rfl) (Nat.le_of_ble_eq_true rfl) ?_ (by omega)
  refine zV.post (z_V.deep (show 100 ≤ 100 by decide) T) ?_
  rintro v M2 ⟨r2, rfl, rfl, hj⟩
  refine ⟨_, rfl, ?_⟩
  exact zu_icmp_eq (tgt := 1649) dL_law_1419 (by decide) (fun _ => kk _ (J_up9 hj (by omega))) (fun q => absurd rfl q)
theorem u_30 (hJ : J (1000 * k) M) (hk : k < 512) (h1 : vp_in (nI i + 1) sn) (h2 : vp_in (nI i + 2) sn) (h3 : vp_in (nI i + 3) sn) (h4 : vp_in (nI i + 4) sn) (h5 : vp_in (nI i + 5) sn) (kk : ∀ M2, J (1000 * (k + 1)) M2 → zUL sn xs k 1649 (LU i) [] M2) : zUL sn xs k 1424 (LU i) [] M := by
  obtain ⟨N, F, us, h⟩ := hJ
  have h : JA (1000 * k) M N F us := h
  refine zu_aload_n dL_law_1424 rfl 2 rfl ?_
  refine zu_aloadT_n dL_law_1425 rfl 1 rfl ?_
  refine zu_iload dL_law_1426 0 rfl ?_
  refine zu_iconst (v := 1) dL_law_1428 (by decide) ?_
  refine zu_iadd dL_law_1429 ?_
  refine zu_sald dL_law_1430 h1 ?_
  refine zu_callI (c := 11) (b := 0) dL_law_1431 w_X11_refused zz_48 rfl (by decide) (by decide) s_X11_refused [.int (xs (Int32.toNatClampNeg (nI i + 1)))] rfl rfl (Nat.le_of_ble_eq_true rfl) (Nat.le_of_ble_eq_true rfl) ?_ (by omega)
  refine zV.post (z_V.deep (show 100 ≤ 100 by decide) (o_refused (d := 99) h)) ?_
  rintro v M1 ⟨r, rfl, T⟩
  refine ⟨r, rfl, ?_⟩
  refine zu_aload_n dL_law_1434 rfl 3 rfl ?_
  refine zu_aloadT_n dL_law_1435 rfl 1 rfl ?_
  refine zu_iload dL_law_1436 0 rfl ?_
  refine zu_iconst (v := 1) dL_law_1438 (by decide) ?_
  refine zu_iadd dL_law_1439 ?_
  refine zu_sald dL_law_1440 h1 ?_
  refine zu_callI (c := 12) (b := 229) dL_law_1441 w_X12_refused zz_49 rfl (by decide) (by decide) s_X12_refused [.int (xs (Int32.toNatClampNeg (nI i + 1)))] rfl rfl (Nat.le_of_ble_eq_true rfl) (Nat.le_of_ble_eq_true rfl) ?_ (by omega)
  refine zV.post (z_V.deep (show 100 ≤ 100 by decide) T) ?_
  rintro v M2 ⟨r2, rfl, rfl, hj⟩
  refine ⟨_, rfl, ?_⟩
  exact zu_icmp_eq (tgt := 1649) dL_law_1444 (by decide) (fun _ => kk _ (J_up9 hj (by omega))) (fun q => absurd rfl q)
theorem u_31 (hJ : J (1000 * k) M) (hk : k < 512) (h1 : vp_in (nI i + 1) sn) (h2 : vp_in (nI i + 2) sn) (h3 : vp_in (nI i + 3) sn) (h4 : vp_in (nI i + 4) sn) (h5 : vp_in (nI i + 5) sn) (kk : ∀ M2, J (1000 * (k + 1)) M2 → zUL sn xs k 1649 (LU i) [] M2) : zUL sn xs k 1449 (LU i) [] M := by
  obtain ⟨N, F, us, h⟩ := hJ
  have h : JA (1000 * k) M N F us := h
  refine zu_aload_n dL_law_1449 rfl 2 rfl ?_
  refine zu_aloadT_n dL_law_1450 rfl 1 rfl ?_
  refine zu_iload dL_law_1451 0 rfl ?_
  refine zu_iconst (v := 1) dL_law_1453 (by decide) ?_
  refine zu_iadd dL_law_1454 ?_
  refine zu_sald dL_law_1455 h1 ?_
  refine zu_aloadT_n dL_law_1456 rfl 1 rfl ?_
  refine zu_iload dL_law_1457 0 rfl ?_
  refine zu_iconst (v := 2) dL_law_1459 (by decide) ?_
  refine zu_iadd dL_law_1460 ?_
  refine zu_sald dL_law_1461 h2 ?_
  refine zu_callI (c := 11) (b := 0) dL_law_1462 w_X11_odds zz_50 rfl (by decide) (by decide) s_X11_odds [.int (xs (Int32.toNatClampNeg (nI i + 1))), .int (xs (Int32.toNatClampNeg (nI i + 2)))] rfl rfl (Nat.le_of_ble_eq_true rfl) (Nat.le_of_ble_eq_true rfl) ?_ (by omega)
  refine zV.post (z_V.deep (show 100 ≤ 100 by decide) (o_odds (d := 36) h (by omega))) ?_
  rintro v M1 ⟨r, rfl, T⟩
  refine ⟨r, rfl, ?_⟩
  refine zu_aload_n dL_law_1465 rfl 3 rfl ?_
  refine zu_aloadT_n dL_law_1466 rfl 1 rfl ?_
  refine zu_iload dL_law_1467 0 rfl ?_
  refine zu_iconst (v := 1) dL_law_1469 (by decide) ?_
  refine zu_iadd dL_law_1470 ?_
  refine zu_sald dL_law_1471 h1 ?_
  refine zu_aloadT_n dL_law_1472 rfl 1 rfl ?_
  refine zu_iload dL_law_1473 0 rfl ?_
  refine zu_iconst (v := 2) dL_law_1475 (by decide) ?_
  refine zu_iadd dL_law_1476 ?_
  refine zu_sald dL_law_1477 h2 ?_
  refine zu_callI (c := 12) (b := 229) dL_law_1478 w_X12_odds zz_51 rfl (by decide) (by decide) s_X12_odds [.int (xs (Int32.toNatClampNeg (nI i + 1))), .int (xs (Int32.toNatClampNeg (nI i + 2)))] rfl rfl (Nat.le_of_ble_eq_true rfl) (Nat.le_of_ble_eq_true rfl) ?_ (by omega)
  refine zV.post (z_V.deep (show 100 ≤ 100 by decide) T) ?_
  rintro v M2 ⟨r2, rfl, rfl, hj⟩
  refine ⟨_, rfl, ?_⟩
  exact zu_icmp_eq (tgt := 1649) dL_law_1481 (by decide) (fun _ => kk _ (J_up9 hj (by omega))) (fun q => absurd rfl q)
theorem u_32 (hJ : J (1000 * k) M) (hk : k < 512) (h1 : vp_in (nI i + 1) sn) (h2 : vp_in (nI i + 2) sn) (h3 : vp_in (nI i + 3) sn) (h4 : vp_in (nI i + 4) sn) (h5 : vp_in (nI i + 5) sn) (kk : ∀ M2, J (1000 * (k + 1)) M2 → zUL sn xs k 1649 (LU i) [] M2) : zUL sn xs k 1486 (LU i) [] M := by
  obtain ⟨N, F, us, h⟩ := hJ
  have h : JA (1000 * k) M N F us := h
  refine zu_aload_n dL_law_1486 rfl 2 rfl ?_
  refine zu_aloadT_n dL_law_1487 rfl 1 rfl ?_
  refine zu_iload dL_law_1488 0 rfl ?_
  refine zu_iconst (v := 1) dL_law_1490 (by decide) ?_
  refine zu_iadd dL_law_1491 ?_
  refine zu_sald dL_law_1492 h1 ?_
  refine zu_callI (c := 11) (b := 0) dL_law_1493 w_X11_book zz_52 rfl (by decide) (by decide) s_X11_book [.int (xs (Int32.toNatClampNeg (nI i + 1)))] rfl rfl (Nat.le_of_ble_eq_true rfl) (Nat.le_of_ble_eq_true rfl) ?_ (by omega)
  refine zV.post (z_V.deep (show 100 ≤ 100 by decide) (o_book (d := 36) h (by omega))) ?_
  rintro v M1 ⟨r, rfl, T⟩
  refine ⟨r, rfl, ?_⟩
  refine zu_aload_n dL_law_1496 rfl 3 rfl ?_
  refine zu_aloadT_n dL_law_1497 rfl 1 rfl ?_
  refine zu_iload dL_law_1498 0 rfl ?_
  refine zu_iconst (v := 1) dL_law_1500 (by decide) ?_
  refine zu_iadd dL_law_1501 ?_
  refine zu_sald dL_law_1502 h1 ?_
  refine zu_callI (c := 12) (b := 229) dL_law_1503 w_X12_book zz_53 rfl (by decide) (by decide) s_X12_book [.int (xs (Int32.toNatClampNeg (nI i + 1)))] rfl rfl (Nat.le_of_ble_eq_true rfl) (Nat.le_of_ble_eq_true rfl) ?_ (by omega)
  refine zV.post (z_V.deep (show 100 ≤ 100 by decide) T) ?_
  rintro v M2 ⟨r2, rfl, rfl, hj⟩
  refine ⟨_, rfl, ?_⟩
  exact zu_icmp_eq (tgt := 1649) dL_law_1506 (by decide) (fun _ => kk _ (J_up9 hj (by omega))) (fun q => absurd rfl q)
theorem u_33 (hJ : J (1000 * k) M) (hk : k < 512) (h1 : vp_in (nI i + 1) sn) (h2 : vp_in (nI i + 2) sn) (h3 : vp_in (nI i + 3) sn) (h4 : vp_in (nI i + 4) sn) (h5 : vp_in (nI i + 5) sn) (kk : ∀ M2, J (1000 * (k + 1)) M2 → zUL sn xs k 1649 (LU i) [] M2) : zUL sn xs k 1511 (LU i) [] M := by
  obtain ⟨N, F, us, h⟩ := hJ
  have h : JA (1000 * k) M N F us := h
  refine zu_aload_n dL_law_1511 rfl 2 rfl ?_
  refine zu_aloadT_n dL_law_1512 rfl 1 rfl ?_
  refine zu_iload dL_law_1513 0 rfl ?_
  refine zu_iconst (v := 1) dL_law_1515 (by decide) ?_
  refine zu_iadd dL_law_1516 ?_
  refine zu_sald dL_law_1517 h1 ?_
  refine zu_callI (c := 11) (b := 0) dL_law_1518 w_X11_told zz_54 rfl (by decide) (by decide) s_X11_told [.int (xs (Int32.toNatClampNeg (nI i + 1)))] rfl rfl (Nat.le_of_ble_eq_true rfl) (Nat.le_of_ble_eq_true rfl) ?_ (by omega)
  refine zV.post (z_V.deep (show 100 ≤ 100 by decide) (o_told (d := 99) h)) ?_
  rintro v M1 ⟨r, rfl, T⟩
  refine ⟨r, rfl, ?_⟩
  refine zu_aload_n dL_law_1521 rfl 3 rfl ?_
  refine zu_aloadT_n dL_law_1522 rfl 1 rfl ?_
  refine zu_iload dL_law_1523 0 rfl ?_
  refine zu_iconst (v := 1) dL_law_1525 (by decide) ?_
  refine zu_iadd dL_law_1526 ?_
  refine zu_sald dL_law_1527 h1 ?_
  refine zu_callI (c := 12) (b := 229) dL_law_1528 w_X12_told zz_55 rfl (by decide) (by decide) s_X12_told [.int (xs (Int32.toNatClampNeg (nI i + 1)))] rfl rfl (Nat.le_of_ble_eq_true rfl) (Nat.le_of_ble_eq_true rfl) ?_ (by omega)
  refine zV.post (z_V.deep (show 100 ≤ 100 by decide) T) ?_
  rintro v M2 ⟨r2, rfl, rfl, hj⟩
  refine ⟨_, rfl, ?_⟩
  exact zu_icmp_eq (tgt := 1649) dL_law_1531 (by decide) (fun _ => kk _ (J_up9 hj (by omega))) (fun q => absurd rfl q)
theorem u_34 (hJ : J (1000 * k) M) (hk : k < 512) (h1 : vp_in (nI i + 1) sn) (h2 : vp_in (nI i + 2) sn) (h3 : vp_in (nI i + 3) sn) (h4 : vp_in (nI i + 4) sn) (h5 : vp_in (nI i + 5) sn) (kk : ∀ M2, J (1000 * (k + 1)) M2 → zUL sn xs k 1649 (LU i) [] M2) : zUL sn xs k 1536 (LU i) [] M := by
  obtain ⟨N, F, us, h⟩ := hJ
  have h : JA (1000 * k) M N F us := h
  refine zu_aload_n dL_law_1536 rfl 2 rfl ?_
  refine zu_callI (c := 11) (b := 0) dL_law_1537 w_X11_sentence zz_56 rfl (by decide) (by decide) s_X11_sentence [] rfl rfl (Nat.le_of_ble_eq_true rfl) (Nat.le_of_ble_eq_true rfl) ?_ (by omega)
  refine zV.post (z_V.deep (show 100 ≤ 100 by decide) (o_sentence (d := 57) h)) ?_
  rintro v M1 ⟨r, rfl, T⟩
  refine ⟨r, rfl, ?_⟩
  refine zu_aload_n dL_law_1540 rfl 3 rfl ?_
  refine zu_callI (c := 12) (b := 229) dL_law_1541 w_X12_sentence zz_57 rfl (by decide) (by decide) s_X12_sentence [] rfl rfl (Nat.le_of_ble_eq_true rfl) (Nat.le_of_ble_eq_true rfl) ?_ (by omega)
  refine zV.post (z_V.deep (show 100 ≤ 100 by decide) T) ?_
  rintro v M2 ⟨r2, rfl, rfl, hj⟩
  refine ⟨_, rfl, ?_⟩
  exact zu_icmp_eq (tgt := 1649) dL_law_1544 (by decide) (fun _ => kk _ (J_up9 hj (by omega))) (fun q => absurd rfl q)
theorem u_35 (hJ : J (1000 * k) M) (hk : k < 512) (h1 : vp_in (nI i + 1) sn) (h2 : vp_in (nI i + 2) sn) (h3 : vp_in (nI i + 3) sn) (h4 : vp_in (nI i + 4) sn) (h5 : vp_in (nI i + 5) sn) (kk : ∀ M2, J (1000 * (k + 1)) M2 → zUL sn xs k 1649 (LU i) [] M2) : zUL sn xs k 1549 (LU i) [] M := by
  obtain ⟨N, F, us, h⟩ := hJ
  have h : JA (1000 * k) M N F us := h
  refine zu_aload_n dL_law_1549 rfl 2 rfl ?_
  refine zu_aloadT_n dL_law_1550 rfl 1 rfl ?_
  refine zu_iload dL_law_1551 0 rfl ?_
  refine zu_iconst (v := 1) dL_law_1553 (by decide) ?_
  refine zu_iadd dL_law_1554 ?_
  refine zu_sald dL_law_1555 h1 ?_
  refine zu_callI (c := 11) (b := 0) dL_law_1556 w_X11_said zz_58 rfl (by decide) (by decide) s_X11_said [.int (xs (Int32.toNatClampNeg (nI i + 1)))] rfl rfl (Nat.le_of_ble_eq_true rfl) (Nat.le_of_ble_eq_true rfl) ?_ (by omega)
  refine zV.post (z_V.deep (show 100 ≤ 100 by decide) (o_said (d := 20) h)) ?_
  rintro v M1 ⟨r, rfl, T⟩
  refine ⟨r, rfl, ?_⟩
  refine zu_aload_n dL_law_1559 rfl 3 rfl ?_
  refine zu_aloadT_n dL_law_1560 rfl 1 rfl ?_
  refine zu_iload dL_law_1561 0 rfl ?_
  refine zu_iconst (v := 1) dL_law_1563 (by decide) ?_
  refine zu_iadd dL_law_1564 ?_
  refine zu_sald dL_law_1565 h1 ?_
  refine zu_callI (c := 12) (b := 229) dL_law_1566 w_X12_said zz_59 rfl (by decide) (by decide) s_X12_said [.int (xs (Int32.toNatClampNeg (nI i + 1)))] rfl rfl (Nat.le_of_ble_eq_true rfl) (Nat.le_of_ble_eq_true rfl) ?_ (by omega)
  refine zV.post (z_V.deep (show 100 ≤ 100 by decide) T) ?_
  rintro v M2 ⟨r2, rfl, rfl, hj⟩
  refine ⟨_, rfl, ?_⟩
  exact zu_icmp_eq (tgt := 1649) dL_law_1569 (by decide) (fun _ => kk _ (J_up9 hj (by omega))) (fun q => absurd rfl q)
theorem u_36 (hJ : J (1000 * k) M) (hk : k < 512) (h1 : vp_in (nI i + 1) sn) (h2 : vp_in (nI i + 2) sn) (h3 : vp_in (nI i + 3) sn) (h4 : vp_in (nI i + 4) sn) (h5 : vp_in (nI i + 5) sn) (kk : ∀ M2, J (1000 * (k + 1)) M2 → zUL sn xs k 1649 (LU i) [] M2) : zUL sn xs k 1574 (LU i) [] M := by
  obtain ⟨N, F, us, h⟩ := hJ
  have h : JA (1000 * k) M N F us := h
  refine zu_aload_n dL_law_1574 rfl 2 rfl ?_
  refine zu_aloadT_n dL_law_1575 rfl 1 rfl ?_
  refine zu_iload dL_law_1576 0 rfl ?_
  refine zu_iconst (v := 1) dL_law_1578 (by decide) ?_
  refine zu_iadd dL_law_1579 ?_
  refine zu_sald dL_law_1580 h1 ?_
  refine zu_callI (c := 11) (b := 0) dL_law_1581 w_X11_image zz_60 rfl (by decide) (by decide) s_X11_image [.int (xs (Int32.toNatClampNeg (nI i + 1)))] rfl rfl (Nat.le_of_ble_eq_true rfl) (Nat.le_of_ble_eq_true rfl) ?_ (by omega)
  refine zV.post (z_V.deep (show 100 ≤ 100 by decide) (o_image (d := 97) h)) ?_
  rintro v M1 ⟨r, rfl, T⟩
  refine ⟨r, rfl, ?_⟩
  refine zu_aload_n dL_law_1584 rfl 3 rfl ?_
  refine zu_aloadT_n dL_law_1585 rfl 1 rfl ?_
  refine zu_iload dL_law_1586 0 rfl ?_
  refine zu_iconst (v := 1) dL_law_1588 (by decide) ?_
  refine zu_iadd dL_law_1589 ?_
  refine zu_sald dL_law_1590 h1 ?_
  refine zu_callI (c := 12) (b := 229) dL_law_1591 w_X12_image zz_61 rfl (by decide) (by decide) s_X12_image [.int (xs (Int32.toNatClampNeg (nI i + 1)))] rfl rfl (Nat.le_of_ble_eq_true rfl) (Nat.le_of_ble_eq_true rfl) ?_ (by omega)
  refine zV.post (z_V.deep (show 100 ≤ 100 by decide) T) ?_
  rintro v M2 ⟨r2, rfl, rfl, hj⟩
  refine ⟨_, rfl, ?_⟩
  exact zu_icmp_eq (tgt := 1649) dL_law_1594 (by decide) (fun _ => kk _ (J_up9 hj (by omega))) (fun q => absurd rfl q)
theorem u_37 (hJ : J (1000 * k) M) (hk : k < 512) (h1 : vp_in (nI i + 1) sn) (h2 : vp_in (nI i + 2) sn) (h3 : vp_in (nI i + 3) sn) (h4 : vp_in (nI i + 4) sn) (h5 : vp_in (nI i + 5) sn) (kk : ∀ M2, J (1000 * (k + 1)) M2 → zUL sn xs k 1649 (LU i) [] M2) : zUL sn xs k 1599 (LU i) [] M := by
  obtain ⟨N, F, us, h⟩ := hJ
  have h : JA (1000 * k) M N F us := h
  refine zu_aload_n dL_law_1599 rfl 2 rfl ?_
  refine zu_aloadT_n dL_law_1600 rfl 1 rfl ?_
  refine zu_iload dL_law_1601 0 rfl ?_
  refine zu_iconst (v := 1) dL_law_1603 (by decide) ?_
  refine zu_iadd dL_law_1604 ?_
  refine zu_sald dL_law_1605 h1 ?_
  refine zu_callI (c := 11) (b := 0) dL_law_1606 w_X11_restore zz_62 rfl (by decide) (by decide) s_X11_restore [.int (xs (Int32.toNatClampNeg (nI i + 1)))] rfl rfl (Nat.le_of_ble_eq_true rfl) (Nat.le_of_ble_eq_true rfl) ?_ (by omega)
  refine zV.post (z_V.deep (show 100 ≤ 100 by decide) (o_restore (d := 36) h)) ?_
  rintro v M1 ⟨r, rfl, T⟩
  refine ⟨r, rfl, ?_⟩
  refine zu_aload_n dL_law_1609 rfl 3 rfl ?_
  refine zu_aloadT_n dL_law_1610 rfl 1 rfl ?_
  refine zu_iload dL_law_1611 0 rfl ?_
  refine zu_iconst (v := 1) dL_law_1613 (by decide) ?_
  refine zu_iadd dL_law_1614 ?_
  refine zu_sald dL_law_1615 h1 ?_
  refine zu_callI (c := 12) (b := 229) dL_law_1616 w_X12_restore zz_63 rfl (by decide) (by decide) s_X12_restore [.int (xs (Int32.toNatClampNeg (nI i + 1)))] rfl rfl (Nat.le_of_ble_eq_true rfl) (Nat.le_of_ble_eq_true rfl) ?_ (by omega)
  refine zV.post (z_V.deep (show 100 ≤ 100 by decide) T) ?_
  rintro v M2 ⟨r2, rfl, rfl, hj⟩
  refine ⟨_, rfl, ?_⟩
  exact zu_icmp_eq (tgt := 1649) dL_law_1619 (by decide) (fun _ => kk _ (J_up9 hj (by omega))) (fun q => absurd rfl q)
theorem u_38 (hJ : J (1000 * k) M) (hk : k < 512) (h1 : vp_in (nI i + 1) sn) (h2 : vp_in (nI i + 2) sn) (h3 : vp_in (nI i + 3) sn) (h4 : vp_in (nI i + 4) sn) (h5 : vp_in (nI i + 5) sn) (kk : ∀ M2, J (1000 * (k + 1)) M2 → zUL sn xs k 1649 (LU i) [] M2) : zUL sn xs k 1624 (LU i) [] M := by
  obtain ⟨N, F, us, h⟩ := hJ
  have h : JA (1000 * k) M N F us := h
  refine zu_aload_n dL_law_1624 rfl 2 rfl ?_
  refine zu_aloadT_n dL_law_1625 rfl 1 rfl ?_
  refine zu_iload dL_law_1626 0 rfl ?_
  refine zu_iconst (v := 1) dL_law_1628 (by decide) ?_
  refine zu_iadd dL_law_1629 ?_
  refine zu_sald dL_law_1630 h1 ?_
  refine zu_callI (c := 11) (b := 0) dL_law_1631 w_X11_count zz_64 rfl (by decide) (by decide) s_X11_count [.int (xs (Int32.toNatClampNeg (nI i + 1)))] rfl rfl (Nat.le_of_ble_eq_true rfl) (Nat.le_of_ble_eq_true rfl) ?_ (by omega)
  refine zV.post (z_V.deep (show 100 ≤ 100 by decide) (o_count (d := 100) h)) ?_
  rintro v M1 ⟨r, rfl, T⟩
  refine ⟨r, rfl, ?_⟩
  refine zu_aload_n dL_law_1634 rfl 3 rfl ?_
  refine zu_aloadT_n dL_law_1635 rfl 1 rfl ?_
  refine zu_iload dL_law_1636 0 rfl ?_
  refine zu_iconst (v := 1) dL_law_1638 (by decide) ?_
  refine zu_iadd dL_law_1639 ?_
  refine zu_sald dL_law_1640 h1 ?_
  refine zu_callI (c := 12) (b := 229) dL_law_1641 w_X12_count zz_65 rfl (by decide) (by decide) s_X12_count [.int (xs (Int32.toNatClampNeg (nI i + 1)))] rfl rfl (Nat.le_of_ble_eq_true rfl) (Nat.le_of_ble_eq_true rfl) ?_ (by omega)
  refine zV.post (z_V.deep (show 100 ≤ 100 by decide) T) ?_
  rintro v M2 ⟨r2, rfl, rfl, hj⟩
  refine ⟨_, rfl, ?_⟩
  exact zu_icmp_eq (tgt := 1649) dL_law_1644 (by decide) (fun _ => kk _ (J_up9 hj (by omega))) (fun q => absurd rfl q)
end
