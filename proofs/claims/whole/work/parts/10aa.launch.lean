-- ===== the launch's own objects: the row WORDS, the texts =====
theorem z_inL5 {w : Cond} (i : Nat) (h : tables_1_5[i]? = some w) : w ∈ lw_tbl := by
  have h2 : w ∈ tables_1_5 := List.mem_of_getElem? h
  unfold lw_tbl tables_1
  simp only [List.mem_append]
  exact Or.inr (Or.inr (Or.inr (Or.inr (Or.inr (Or.inl h2)))))
theorem z_inL1 {w : Cond} (i : Nat) (h : tables_1_1[i]? = some w) : w ∈ lw_tbl := by
  have h2 : w ∈ tables_1_1 := List.mem_of_getElem? h
  unfold lw_tbl tables_1
  simp only [List.mem_append]
  exact Or.inr (Or.inl h2)
def z_bi : String := "Ljava/util/function/BiFunction;"
def z_sf : String := "SIOOBE_FORMATTER"
/-- what is so of them at any time -/
def z_Lau (sA : Nat → Nat) (A : Nat → Prop) (s : State) : Prop :=
  va_Z RX11 "WORDS" "[J" (.ref (sA 0)) A s s.heap ∧ va_T .long (sA 0) 24 (fun j => .long (z_wd.getD j 0)) A s s.heap ∧ vk_S 9 z_txN z_txB (fun i => sA (1 + i)) (fun i => sA (10 + i)) A s s.heap ∧ (∀ i, i < 9 → vk_R RX11 (z_txK.getD i 0) (z_txT.getD i "") (sA (1 + i)) s) ∧ va_Z RJ0 "COMPACT_STRINGS" "Z" (.int 1) A s s.heap ∧ va_Zq RJ3 z_sf z_bi A s s.heap
theorem z_lau {y : z_MD} {d : Nat} {p : Program} {l : Launch} {R : Room} {s : State} {m : MethodId} {args : Array Value} {meth : Method} {c : Code} {D : va_G} {sA : Nat → Nat} {cA : Nat → ClassId} {Hb : Heap} {N : Nat} {G : Nat → va_E} {H : Heap} {locs : List Loc} (C : z_Cx y d p l R s m args meth c D sA cA Hb) (hw : z_Wd D sA cA Hb N G H) (hS : va_S (z_A Hb.size) s.heap H locs) : z_Lau sA (z_A Hb.size) s := by
  have ho : ∀ q : Nat, q < Hb.size → s.heap[q]? = Hb[q]? := fun q hq => (hS.2.1 q (Nat.lt_of_lt_of_le hq C.2.2.2.2.2.2.2.2.1) (Nat.not_le.mpr hq)).symm.trans (hw.2.2 q hq)
  obtain ⟨hZ, U0, u1, u2, b, h1, h2, h3, h4, h5⟩ := C.2.2.2.2.2.2.2.1.2.2.2
  subst u1
  have k : ∀ a : Nat, a < U0.heap.size → ¬ z_A U0.heap.size a → s.heap[a]? = U0.heap[a]? := fun a ha _ => ho a ha
  have hA : ∀ a : Nat, a < U0.heap.size → ¬ z_A U0.heap.size a := fun a ha q => Nat.not_le.mpr ha q
  have hn := flat_of_before _ h2
  refine ⟨hZ.kept k, (h3.moved u2.alike).kept k, (h4.moved u2.alike).kept k, fun i hi => (h5 i hi).warm u2, ?_, ?_⟩
  · have z := va_Zof (A := z_A U0.heap.size) (h1 _ (z_inL5 (w := .laysStatic "java/lang/String" "COMPACT_STRINGS" "Z") 13 (by decide +kernel))) (h1 _ (z_inL1 (w := .initialized "java/lang/String") 21 (by decide +kernel))) (va_eqi (hn (.eq (.static "java/lang/String" "COMPACT_STRINGS" "Z") (.int 1)) (by decide +kernel))) hA
    exact (z.moved u2.alike).kept k
  · have z := va_Zqof (A := z_A U0.heap.size) (h1 _ (z_inL5 (w := .laysStatic "jdk/internal/util/Preconditions" "SIOOBE_FORMATTER" "Ljava/util/function/BiFunction;") 29 (by decide +kernel))) (h1 _ (z_inL1 (w := .initialized "jdk/internal/util/Preconditions") 23 (by decide +kernel))) (hn (.isRef (.static "jdk/internal/util/Preconditions" "SIOOBE_FORMATTER" "Ljava/util/function/BiFunction;")) (by decide +kernel)) hA
    exact (z.moved u2.alike).kept k
section
variable {y y2 : z_MD} {d mc ms cells slots pc : Nat} {L : List (Nat × Value)} {st : List Value} {N : Nat} {G : Nat → va_E} {K : z_K}
theorem zr_getsW (hd : decode y.2.1 pc = .ok (.getstatic 80, 3)) (hy : y.1.cls = RX6) (k : z_V y d mc ms cells slots (pc + 3) L (.retAddr 0 :: st) N G K) : z_V y d mc ms cells slots pc L st N G K := by
  intro p l e R s m args below meth c D sA cA Hb Q H locs ls C r hc hs hl hw hS
  exact va_getsN C.1 C.2.1 (z_lau C hw hS).1 hS C.2.2.2.2.2.1 (va_Nw.use rfl (hy ▸ C.2.2.2.2.2.2.2.1.2.2.1)) (fun _ h => h) hd (k p l e R s m args below meth c D sA cA Hb Q H locs ls C r hc hs hl hw hS)
theorem zr_lenW (hd : decode y.2.1 pc = .ok (.arraylength, 1)) (k : z_V y d mc ms cells slots (pc + 1) L (.int 24 :: st) N G K) : z_V y d mc ms cells slots pc L (.retAddr 0 :: st) N G K := by
  intro p l e R s m args below meth c D sA cA Hb Q H locs ls C r hc hs hl hw hS
  exact va_tlen C.1 C.2.1 (z_lau C hw hS).2.1 hS rfl hd (k p l e R s m args below meth c D sA cA Hb Q H locs ls C r hc hs hl hw hS)
theorem zr_lalW {j : Int32} {o : Nat} (hd : decode y.2.1 pc = .ok (.laload, 1)) (hj : vp_in j 24) (ho : j.toNatClampNeg = o) (k : z_V y d mc ms cells slots (pc + 1) L (.long (z_wd.getD o 0) :: st) N G K) : z_V y d mc ms cells slots pc L (.int j :: .retAddr 0 :: st) N G K := by
  intro p l e R s m args below meth c D sA cA Hb Q H locs ls C r hc hs hl hw hS
  exact va_tl C.1 C.2.1 (z_lau C hw hS).2.1 hS hj (by rw [ho]; rfl) hd (k p l e R s m args below meth c D sA cA Hb Q H locs ls C r hc hs hl hw hS)
theorem zr_ldcT {i : Nat} (hi : i < 9) (hy : y.1.cls = RX11) (hd : decode y.2.1 pc = .ok (.ldc_w (z_txK.getD i 0), 3)) (k : z_V y d mc ms cells slots (pc + 3) L (.retAddr (1 + i) :: st) N G K) : z_V y d mc ms cells slots pc L st N G K := by
  intro p l e R s m args below meth c D sA cA Hb Q H locs ls C r hc hs hl hw hS
  have hR := (z_lau C hw hS).2.2.2.1 i hi
  intro T hT X
  obtain ⟨t, a1, b1⟩ := k p l e R s m args below meth c D sA cA Hb Q H locs ls C r hc hs hl hw hS T hT X
  exact ⟨t, X.ldcStringW C.1 (own := RX11) (text := z_txT.getD i "") (index := z_txK.getD i 0) (a := sA (1 + i)) (hy ▸ C.2.2.2.2.2.1) hR.1 hR.2 (g := F0 m pc ls (st.map (z_v Hb.size sA))) rfl (by rw [C.2.1]; exact hd) t a1, b1⟩
theorem zr_aloadT_n {j : Fin 4} {i x : Nat} (hd : decode y.2.1 pc = .ok (.aload_n j, 1)) (hi : (j : Nat) = i) (n : Nat) (hk : L[n]? = some (i, .retAddr x)) (k : z_V y d mc ms cells slots (pc + 1) L (.retAddr x :: st) N G K) : z_V y d mc ms cells slots pc L st N G K := by
  intro p l e R s m args below meth c D sA cA Hb Q H locs ls C r hc hs hl hw hS
  exact lv_aload_n C.1 C.2.1 hd hi (z_at hl n hk) (k p l e R s m args below meth c D sA cA Hb Q H locs ls C r hc hs hl hw hS)
theorem zr_valT {i : Nat} (hi : i < 9) (hd : decode y.2.1 pc = .ok (.getfield 9, 3)) (hy : y.1.cls = RJ0) (k : z_V y d mc ms cells slots (pc + 3) L (.retAddr (10 + i) :: st) N G K) : z_V y d mc ms cells slots pc L (.retAddr (1 + i) :: st) N G K := by
  intro p l e R s m args below meth c D sA cA Hb Q H locs ls C r hc hs hl hw hS
  have w : Cond.fieldLink RJ0 9 RJ0 "value" "[B" ∈ z_good := z_int9 170 (by decide +kernel) (by decide +kernel)
  exact vk_getf C.1 C.2.1 ((z_lau C hw hS).2.2.1.1 i hi).2.2.1 hS (hy ▸ C.2.2.2.2.2.1) (C.2.2.2.2.2.2.1 _ w) (fun _ h => h) hd (k p l e R s m args below meth c D sA cA Hb Q H locs ls C r hc hs hl hw hS)
theorem zr_codT {i : Nat} (hi : i < 9) (hd : decode y.2.1 pc = .ok (.getfield 15, 3)) (hy : y.1.cls = RJ0) (k : z_V y d mc ms cells slots (pc + 3) L (.int 0 :: st) N G K) : z_V y d mc ms cells slots pc L (.retAddr (1 + i) :: st) N G K := by
  intro p l e R s m args below meth c D sA cA Hb Q H locs ls C r hc hs hl hw hS
  have w : Cond.fieldLink RJ0 15 RJ0 "coder" "B" ∈ z_good := z_int9 171 (by decide +kernel) (by decide +kernel)
  exact vk_getf C.1 C.2.1 ((z_lau C hw hS).2.2.1.1 i hi).2.1 hS (hy ▸ C.2.2.2.2.2.1) (C.2.2.2.2.2.2.1 _ w) (fun _ h => h) hd (k p l e R s m args below meth c D sA cA Hb Q H locs ls C r hc hs hl hw hS)
theorem zr_cmpT (hd : decode y.2.1 pc = .ok (.getstatic 38, 3)) (hy : y.1.cls = RJ0) (k : z_V y d mc ms cells slots (pc + 3) L (.int 1 :: st) N G K) : z_V y d mc ms cells slots pc L st N G K := by
  intro p l e R s m args below meth c D sA cA Hb Q H locs ls C r hc hs hl hw hS
  have w : Cond.fieldLink RJ0 38 RJ0 "COMPACT_STRINGS" "Z" ∈ z_good := z_int5 12 (by decide +kernel) (by decide +kernel)
  exact va_gets C.1 C.2.1 (z_lau C hw hS).2.2.2.2.1 hS (hy ▸ C.2.2.2.2.2.1) (C.2.2.2.2.2.2.1 _ w) (fun _ h => h) hd (k p l e R s m args below meth c D sA cA Hb Q H locs ls C r hc hs hl hw hS)
theorem zr_lenT {i : Nat} {v : Int32} (hi : i < 9) (hv : Int32.ofNat (z_txN.getD i 0) = v) (hd : decode y.2.1 pc = .ok (.arraylength, 1)) (k : z_V y d mc ms cells slots (pc + 1) L (.int v :: st) N G K) : z_V y d mc ms cells slots pc L (.retAddr (10 + i) :: st) N G K := by
  intro p l e R s m args below meth c D sA cA Hb Q H locs ls C r hc hs hl hw hS
  exact va_tlen C.1 C.2.1 ((z_lau C hw hS).2.2.1.1 i hi).2.2.2 hS hv hd (k p l e R s m args below meth c D sA cA Hb Q H locs ls C r hc hs hl hw hS)
theorem zr_balT {i o : Nat} {j : Int32} (hi : i < 9) (hd : decode y.2.1 pc = .ok (.baload, 1)) (hj : vp_in j (z_txN.getD i 0)) (ho : j.toNatClampNeg = o) (k : z_V y d mc ms cells slots (pc + 1) L (.int ((z_txB.getD i []).getD o 0) :: st) N G K) : z_V y d mc ms cells slots pc L (.int j :: .retAddr (10 + i) :: st) N G K := by
  intro p l e R s m args below meth c D sA cA Hb Q H locs ls C r hc hs hl hw hS
  exact va_tb C.1 C.2.1 ((z_lau C hw hS).2.2.1.1 i hi).2.2.2 hS hj (by rw [ho]; rfl) hd (k p l e R s m args below meth c D sA cA Hb Q H locs ls C r hc hs hl hw hS)
theorem zr_i2c {x : Int32} (hd : decode y.2.1 pc = .ok (.i2c, 1)) (k : z_V y d mc ms cells slots (pc + 1) L (.int (x.toUInt32 % 65536).toInt32 :: st) N G K) : z_V y d mc ms cells slots pc L (.int x :: st) N G K := by
  intro p l e R s m args below meth c D sA cA Hb Q H locs ls C r hc hs hl hw hS
  exact lv_i2c C.1 C.2.1 hd rfl (k p l e R s m args below meth c D sA cA Hb Q H locs ls C r hc hs hl hw hS)
theorem zr_callVT {As : List Value} {index n mc2 ms2 i : Nat} (hi : i < 9) (hd : decode y.2.1 pc = .ok (.invokevirtual index, 3)) (hy : z_mth y2 n) (hlk : Cond.methodLink y.1.cls index y2.1 ∈ z_good) (hcl : y2.1.cls = RJ0) (hsel : Cond.instanceMethod y2.1 ∈ z_good ∧ Cond.selects y2.1.cls y2.1 y2.1 ∈ z_good) (hA : As.length = n) (hsl : (lg_sl (.retAddr (1 + i) :: As)).length ≤ y2.2.2.1) (hst : (st.map fun v => v.category).sum ≤ 8) (hcc : cells + mc2 ≤ mc) (hss : slots + ms2 ≤ ms) (k : z_V y2 d mc2 ms2 0 0 0 (lv_args 0 (.retAddr (1 + i) :: As)) [] N G (fun v N' G' => z_V y (d + 1) mc ms (cells + mc2) (slots + ms2) (pc + 3) L (v.toList ++ st) N' G' K)) : z_V y (d + 1) mc ms cells slots pc L (As.reverse ++ .retAddr (1 + i) :: st) N G K := by
  intro p l e R s m args below meth c D sA cA Hb Q H locs ls C r hc hs hl hw hS
  have hM := z_Met (l := l) (D := D) (sA := sA) (cA := cA) (Hb := Hb) C.2.2.2.2.1.2 hy.2.2.1 hsl k
  refine z_run (va_runV (As := As.map (z_v Hb.size sA)) (rest := st.map (z_v Hb.size sA)) ⟨C.1, C.2.1, C.2.2.2.1, C.2.2.2.2.2.1, C.2.2.2.2.2.2.1⟩ hM ⟨z_callB C.2.2.2.2.2.2.1 hy hlk C.2.2.2.2.2.2.2.2.2.1 C.2.2.2.2.2.2.2.2.2.2.1, C.2.2.2.2.2.2.1 _ hsel.1, C.2.2.2.2.2.2.1 _ hsel.2⟩ ⟨z_blind, by rw [hcl]; exact vk_recv (adK := fun i => sA (1 + i)) (i := i) (z_lau C hw hS).2.2.1 hi hS, fun U hU hW => ⟨rfl, by rw [hU]; exact hw, C.2.2.2.2.2.2.2.1.warm hW, by rw [hU]; exact Nat.le_trans C.2.2.2.2.2.2.2.2.1 hS.1⟩⟩ rfl (by rw [List.length_map]; exact hA) hl.1 (by rw [List.map_append, List.map_reverse]; rfl) (z_stk hst) hd ⟨Nat.le_trans hcc hc, Nat.le_trans hss hs⟩) hS (fun v N' G' H1 locs1 hk ho hw hS => by
    have h := hk p l e R s m args below meth c D sA cA Hb Q H1 locs1 ls C r hc hs hl hw hS
    rw [List.map_append, show v.toList.map (z_v Hb.size sA) = v.toList by rw [← Option.toList_map, z_v_ok ho]] at h
    exact h)
end

-- ===== findWord; the texts' own methods =====
theorem wd_at : ∀ j, j < 24 → z_wd.getD j 0 = lN (pk7 (rw1 j)) := by decide +kernel
theorem c_findWord {d : Nat} {M : zMem} {Q : Int32 → zMem → Prop} {l : List Nat} (hl : wdOK l) (h : Q (match wix l with
    | some i => nI i
    | none => -1) M) : S_X6_findWord d (lN (pk7 l)) M (zI Q) := by
  have ne : ∀ j, j < 24 → (z_wd.getD j 0 = lN (pk7 l) ↔ rw1 j = l) := by
    intro j hj
    rw [wd_at j hj]
    have h1 := pk7_lt (rw1_ok j hj)
    have h2 := pk7_lt hl
    refine ⟨fun q => pk7_inj (rw1_ok j hj) hl ((pk_lEQ (by omega) (by omega)).mp q), fun q => by rw [q]⟩
  have key : ∀ c k, k + c = 24 → (∀ j, j < k → rw1 j ≠ l) → zV m_X6_findWord d 2 [(2, .int (nI k)), (0, .long (lN (pk7 l)))] [] M (zI Q) := by
    intro c
    induction c with
    | zero =>
      intro k hk hn
      have e : wix l = none := wix_none.mpr (fun i hi => hn i (by omega))
      rw [e] at h
      refine zr_iload_n dX6_findWord_2 rfl 0 rfl ?_
      refine zr_getsW dX6_findWord_3 rfl ?_
      refine zr_lenW dX6_findWord_6 ?_
      refine zr_icmp_ge (tgt := 28) dX6_findWord_7 (by decide) (fun _ => ?_) (fun q => absurd (by rw [show (24 : Int32) = nI 24 from rfl]; exact nI_le (by omega) (by omega)) q)
      refine zr_iconst (v := -1) dX6_findWord_28 (by decide) ?_
      exact zm_iret dX6_findWord_29 rfl (zii h)
    | succ c ih =>
      intro k hk hn
      refine zr_iload_n dX6_findWord_2 rfl 0 rfl ?_
      refine zr_getsW dX6_findWord_3 rfl ?_
      refine zr_lenW dX6_findWord_6 ?_
      refine zr_icmp_ge (tgt := 28) dX6_findWord_7 (by decide) (fun q => absurd q (by rw [show (24 : Int32) = nI 24 from rfl]; exact nI_ge (by omega) (by omega))) (fun _ => ?_)
      refine zr_getsW dX6_findWord_10 rfl ?_
      refine zr_iload_n dX6_findWord_13 rfl 0 rfl ?_
      refine zr_lalW (o := k) dX6_findWord_14 (nIin (by omega) (by omega)) (nI_clamp (by omega)) ?_
      refine zr_lload_n dX6_findWord_15 rfl 1 rfl ?_
      refine zr_lcmp dX6_findWord_16 ?_
      have hk24 : k < 24 := by omega
      have ec : lg_cmp (z_wd.getD k 0) (lN (pk7 l)) = 0 ↔ rw1 k = l := by rw [lg_cmp_eq]; exact ne k hk24
      refine zr_if_ne (tgt := 22) dX6_findWord_17 (by decide) (fun q => ?_) (fun q => ?_)
      · refine zr_iinc (n := 0) (v := nI k + 1) dX6_findWord_22 rfl rfl (by decide) (L2 := [(2, .int (nI k + 1)), (0, .long (lN (pk7 l)))]) rfl ?_
        rw [nI_1]
        refine zr_goto (tgt := 2) dX6_findWord_25 (by decide) ?_
        exact ih (k + 1) (by omega) (fun j hj => if e : j = k then e ▸ fun w => q (ec.mpr w) else hn j (by omega))
      · have e : wix l = some k := wix_some.mpr ⟨hk24, ec.mp q⟩
        rw [e] at h
        refine zr_iload_n dX6_findWord_20 rfl 0 rfl ?_
        exact zm_iret dX6_findWord_21 rfl (zii h)
  show zV m_X6_findWord d 0 [(0, .long (lN (pk7 l)))] [] M (zI Q)
  refine zr_iconst (v := 0) dX6_findWord_0 (by decide) ?_
  refine zr_istore_n dX6_findWord_1 rfl (by decide) (L2 := [(2, .int 0), (0, .long (lN (pk7 l)))]) rfl ?_
  exact key 24 0 (by omega) (fun j hj => absurd hj (Nat.not_lt_zero j))
def m_J0_length : z_MD := (yJ0_length_8abf5, cJ0_length_8abf5, 1, some .int)
def m_J0_charAt : z_MD := (yJ0_charAt_5068e, cJ0_charAt_5068e, 2, some .char)
def m_J0_coder : z_MD := (yJ0_coder_7d493, cJ0_coder_7d493, 1, some .byte)
def m_J0_isLatin1 : z_MD := (yJ0_isLatin1_aae02, cJ0_isLatin1_aae02, 1, some .boolean)
def m_J0_checkIndex : z_MD := (yJ0_checkIndex_df160, cJ0_checkIndex_df160, 2, none)
def m_J1_charAt : z_MD := (yJ1_charAt_3b067, cJ1_charAt_3b067, 2, some .char)
def m_J3_checkIndex : z_MD := (yJ3_checkIndex_8e157, cJ3_checkIndex_8e157, 3, some .int)
theorem i_J0 : Cond.initialized RJ0 ∈ z_good := z_int1 21 (by decide +kernel) (by decide +kernel)
theorem i_J1 : Cond.initialized RJ1 ∈ z_good := z_int1 22 (by decide +kernel) (by decide +kernel)
theorem i_J3 : Cond.initialized RJ3 ∈ z_good := z_int1 23 (by decide +kernel) (by decide +kernel)
theorem w_J0_length : z_mth m_J0_length 0 := ⟨z_int5 7 (by decide +kernel) (by decide +kernel), i_J0, by decide +kernel, ⟨by decide +kernel, by decide +kernel, by decide +kernel⟩, by decide +kernel⟩
theorem w_J0_charAt : z_mth m_J0_charAt 1 := ⟨z_int5 17 (by decide +kernel) (by decide +kernel), i_J0, by decide +kernel, ⟨by decide +kernel, by decide +kernel, by decide +kernel⟩, by decide +kernel⟩
theorem w_J0_coder : z_mth m_J0_coder 0 := ⟨z_int5 11 (by decide +kernel) (by decide +kernel), i_J0, by decide +kernel, ⟨by decide +kernel, by decide +kernel, by decide +kernel⟩, by decide +kernel⟩
theorem w_J0_isLatin1 : z_mth m_J0_isLatin1 0 := ⟨z_int5 21 (by decide +kernel) (by decide +kernel), i_J0, by decide +kernel, ⟨by decide +kernel, by decide +kernel, by decide +kernel⟩, by decide +kernel⟩
theorem w_J0_checkIndex : z_mth m_J0_checkIndex 2 := ⟨z_int5 27 (by decide +kernel) (by decide +kernel), i_J0, by decide +kernel, ⟨by decide +kernel, by decide +kernel, by decide +kernel⟩, by decide +kernel⟩
theorem w_J1_charAt : z_mth m_J1_charAt 2 := ⟨z_int5 24 (by decide +kernel) (by decide +kernel), i_J1, by decide +kernel, ⟨by decide +kernel, by decide +kernel, by decide +kernel⟩, by decide +kernel⟩
theorem w_J3_checkIndex : z_mth m_J3_checkIndex 3 := ⟨z_int5 32 (by decide +kernel) (by decide +kernel), i_J3, by decide +kernel, ⟨by decide +kernel, by decide +kernel, by decide +kernel⟩, by decide +kernel⟩
theorem s_J0_length : Cond.instanceMethod m_J0_length.1 ∈ z_good ∧ Cond.selects m_J0_length.1.cls m_J0_length.1 m_J0_length.1 ∈ z_good := ⟨z_int5 5 (by decide +kernel) (by decide +kernel), z_int5 6 (by decide +kernel) (by decide +kernel)⟩
theorem s_J0_coder : Cond.instanceMethod m_J0_coder.1 ∈ z_good ∧ Cond.selects m_J0_coder.1.cls m_J0_coder.1 m_J0_coder.1 ∈ z_good := ⟨z_int5 9 (by decide +kernel) (by decide +kernel), z_int5 10 (by decide +kernel) (by decide +kernel)⟩
theorem s_J0_charAt : Cond.instanceMethod m_J0_charAt.1 ∈ z_good ∧ Cond.selects m_J0_charAt.1.cls m_J0_charAt.1 m_J0_charAt.1 ∈ z_good := ⟨z_int5 15 (by decide +kernel) (by decide +kernel), z_int5 16 (by decide +kernel) (by decide +kernel)⟩
theorem s_J0_isLatin1 : Cond.instanceMethod m_J0_isLatin1.1 ∈ z_good ∧ Cond.selects m_J0_isLatin1.1.cls m_J0_isLatin1.1 m_J0_isLatin1.1 ∈ z_good := ⟨z_int5 19 (by decide +kernel) (by decide +kernel), z_int5 20 (by decide +kernel) (by decide +kernel)⟩
theorem s_J1_charAt : Cond.static m_J1_charAt.1 ∈ z_good := z_int5 23 (by decide +kernel) (by decide +kernel)
theorem s_J0_checkIndex : Cond.static m_J0_checkIndex.1 ∈ z_good := z_int5 26 (by decide +kernel) (by decide +kernel)
theorem s_J3_checkIndex : Cond.static m_J3_checkIndex.1 ∈ z_good := z_int5 31 (by decide +kernel) (by decide +kernel)
theorem l_J0_335 : Cond.methodLink m_J0_length.1.cls 335 m_J0_coder.1 ∈ z_good := z_int5 8 (by decide +kernel) (by decide +kernel)
theorem l_J0_492 : Cond.methodLink m_J0_charAt.1.cls 492 m_J0_isLatin1.1 ∈ z_good := z_int5 18 (by decide +kernel) (by decide +kernel)
theorem l_J0_495 : Cond.methodLink m_J0_charAt.1.cls 495 m_J1_charAt.1 ∈ z_good := z_int5 22 (by decide +kernel) (by decide +kernel)
theorem l_J1_9 : Cond.methodLink m_J1_charAt.1.cls 9 m_J0_checkIndex.1 ∈ z_good := z_int5 25 (by decide +kernel) (by decide +kernel)
theorem l_J0_1059 : Cond.methodLink m_J0_checkIndex.1.cls 1059 m_J3_checkIndex.1 ∈ z_good := z_int5 30 (by decide +kernel) (by decide +kernel)
section
variable {y y2 : z_MD} {d pc index n i : Nat} {L : List (Nat × Value)} {st : List Value} {M : zMem} {K : zK}
theorem zm_callVT_i {S0 : List Value} (hi : i < 9) (hd : decode y.2.1 pc = .ok (.invokevirtual index, 3)) (hy : z_mth y2 n) (hlk : Cond.methodLink y.1.cls index y2.1 ∈ z_good) (hcl : y2.1.cls = RJ0) (hsel : Cond.instanceMethod y2.1 ∈ z_good ∧ Cond.selects y2.1.cls y2.1 y2.1 ∈ z_good) (As : List Value) (hS0 : S0 = As.reverse ++ .retAddr (1 + i) :: st) (hA : As.length = n) (hsl : (lg_sl (.retAddr (1 + i) :: As)).length ≤ y2.2.2.1) (hst : (st.map fun v => v.category).sum ≤ 8) (k : zV y2 d 0 (lv_args 0 (.retAddr (1 + i) :: As)) [] M (zI (fun r M' => zV y (d + 1) (pc + 3) L (.int r :: st) M' K))) : zV y (d + 1) pc L S0 M K := by
  subst hS0
  refine zr_callVT hi hd hy hlk hcl hsel hA hsl hst (Nat.le_refl _) (Nat.le_refl _) (z_V.post k ?_)
  rintro v N' G' ⟨rfl, M', rfl, r, rfl, h⟩ _
  exact h
theorem vk_S_to {N : Nat} {len : List Nat} {byt : List (List Int32)} {a b a2 b2 : Nat → Nat} {A : Nat → Prop} {U : State} {H : Heap} (h : vk_S N len byt a b A U H) (h1 : ∀ i, i < N → a2 i = a i) (h2 : ∀ i, i < N → b2 i = b i) : vk_S N len byt a2 b2 A U H :=
  ⟨fun i hi => by rw [h1 i hi, h2 i hi]; exact h.1 i hi, fun i j hi hj e => h.2 i j hi hj (by rw [← h1 i hi, ← h1 j hj]; exact e)⟩
theorem z_Or_to {sA sB : Nat → Nat} {U : State} (h : z_Or sA U) (e : ∀ j, j < 19 → sB j = sA j) : z_Or sB U := by
  obtain ⟨b, h1, h2, h3, h4, h5⟩ := h
  exact ⟨b, h1, h2, by rw [e 0 (by omega)]; exact h3, vk_S_to h4 (fun i hi => e _ (by omega)) (fun i hi => e _ (by omega)), fun i hi => by rw [e _ (by omega)]; exact h5 i hi⟩
theorem z_e_to {B : Nat} {sA sB : Nat → Nat} {cA : Nat → ClassId} {M : zMem} {i : Nat} : z_e B sA cA (zE M i) = z_e B sB cA (zE M i) := by
  unfold zE
  split
  · rfl
  split
  · rfl
  split
  · rfl
  split
  · rfl
  split
  · rfl
  split
  · rfl
  split
  · rfl
  have e : (zf (zc i) i M).map (z_v B sA) = (zf (zc i) i M).map (z_v B sB) := by
    refine List.map_congr_left (fun v hv => ?_)
    unfold zf at hv
    obtain ⟨j, hj, rfl⟩ := List.mem_mapIdx.mp hv
    split
    · rfl
    split
    · rfl
    · rfl
  show (Sum.inr (_, (zf (zc i) i M).map (z_v B sA)) : va_E) = Sum.inr (_, (zf (zc i) i M).map (z_v B sB))
  rw [e]
theorem z_Wd_to {D : va_G} {sA sB : Nat → Nat} {cA : Nat → ClassId} {Hb : Heap} {M : zMem} {H : Heap} (h : z_Wd D sA cA Hb zN (zE M) H) : z_Wd D sB cA Hb zN (zE M) H := by
  have e : z_wl Hb.size sA cA zN (zE M) = z_wl Hb.size sB cA zN (zE M) := by
    unfold z_wl
    exact List.map_congr_left (fun i _ => by rw [z_e_to (sB := sB)])
  exact ⟨e ▸ h.1, h.2⟩
/-- a static row of the launch's that may be null: it is never looked at -/
theorem zm_getsQ (hd : decode y.2.1 pc = .ok (.getstatic 1053, 3)) (hy : y.1.cls = RJ0) (hL : ∀ q ∈ L, ∀ k, q.2 ≠ .retAddr k) (hst : ∀ v ∈ st, ∀ k, v ≠ .retAddr k) (k : ∀ v, v = .null ∨ v = .retAddr 99 → zV y d (pc + 3) L (v :: st) M K) : zV y d pc L st M K := by
  intro p l e R s m args below meth c D sA cA Hb Q H locs ls C r hc hs hl hw hS
  have w : Cond.fieldLink RJ0 1053 RJ3 z_sf z_bi ∈ z_good := z_int5 28 (by decide +kernel) (by decide +kernel)
  have hlk := C.2.2.2.2.2.2.1 _ w
  rcases (z_lau C hw hS).2.2.2.2.2 with hZ | ⟨t, hZ⟩
  · exact va_gets C.1 C.2.1 hZ hS (hy ▸ C.2.2.2.2.2.1) hlk (fun _ h => h) hd (k .null (Or.inl rfl) p l e R s m args below meth c D sA cA Hb Q H locs ls C r hc hs hl hw hS)
  · refine va_gets C.1 C.2.1 hZ hS (hy ▸ C.2.2.2.2.2.1) hlk (fun _ h => h) hd ?_
    let sB : Nat → Nat := fun j => if j = 99 then t else sA j
    have eB : ∀ j, j < 19 → sB j = sA j := fun j hj => if_neg (by omega)
    have ev : ∀ v : Value, (∀ k, v ≠ .retAddr k) → z_v Hb.size sB v = z_v Hb.size sA v := by
      intro v hv
      cases v with
      | retAddr k => exact absurd rfl (hv k)
      | _ => rfl
    have CB : z_Cx y d p l R s m args meth c D sB cA Hb := by
      refine ⟨C.1, C.2.1, C.2.2.1, C.2.2.2.1, C.2.2.2.2.1, C.2.2.2.2.2.1, C.2.2.2.2.2.2.1, ?_, C.2.2.2.2.2.2.2.2⟩
      obtain ⟨a1, a2, a3, a4, U0, u1, u2, u3⟩ := C.2.2.2.2.2.2.2.1
      exact ⟨a1, a2, a3, by rw [eB 0 (by omega)]; exact a4, U0, u1, u2, z_Or_to u3 eB⟩
    have hlB : lv_has ls y.2.2.1 (z_L Hb.size sB L) := by
      have : z_L Hb.size sB L = z_L Hb.size sA L := List.map_congr_left (fun q hq => by rw [ev q.2 (hL q hq)])
      rw [this]; exact hl
    have hs2 : st.map (z_v Hb.size sB) = st.map (z_v Hb.size sA) := List.map_congr_left (fun v hv => ev v (hst v hv))
    have h := k (.retAddr 99) (Or.inr rfl) p l e R s m args below meth c D sB cA Hb Q H locs ls CB ?_ hc hs hlB (z_Wd_to hw) hS
    · rw [List.map_cons, hs2] at h
      exact h
    · rintro v N' G' H' locs' pc' ls' ⟨rfl, M', rfl, k1⟩ k2 k3 k4 k5
      have e2 : v.toList.map (z_v Hb.size sB) = v.toList.map (z_v Hb.size sA) := by
        rw [← Option.toList_map, ← Option.toList_map, z_v_ok k2, z_v_ok k2]
      rw [e2]
      exact r v zN (zE M') H' locs' pc' ls' ⟨rfl, M', rfl, k1⟩ k2 k3 (z_Wd_to k4) k5
end
section
variable {d k n i : Nat} {M : zMem}
theorem c_J3_checkIndex {Q : Int32 → zMem → Prop} {v : Value} (hk : k < n) (hn : n < 2 ^ 31) (h : Q (nI k) M) : zV m_J3_checkIndex d 0 [(0, .int (nI k)), (1, .int (nI n)), (2, v)] [] M (zI Q) := by
  refine zr_iload_n dJ3_checkIndex_8e157_0 rfl 0 rfl ?_
  refine zr_if_lt (tgt := 9) dJ3_checkIndex_8e157_1 (by decide) (fun q => absurd q (nI_pos (by omega))) (fun _ => ?_)
  refine zr_iload_n dJ3_checkIndex_8e157_4 rfl 0 rfl ?_
  refine zr_iload_n dJ3_checkIndex_8e157_5 rfl 1 rfl ?_
  refine zr_icmp_lt (tgt := 16) dJ3_checkIndex_8e157_6 (by decide) (fun _ => ?_) (fun q => absurd (nI_lt hk hn) q)
  refine zr_iload_n dJ3_checkIndex_8e157_16 rfl 0 rfl ?_
  exact zm_iret dJ3_checkIndex_8e157_17 rfl (zii h)
theorem c_J0_checkIndex {Q : zMem → Prop} (hk : k < n) (hn : n < 2 ^ 31) (h : Q M) : zV m_J0_checkIndex (d + 1) 0 [(0, .int (nI k)), (1, .int (nI n))] [] M (zU Q) := by
  refine zr_iload_n dJ0_checkIndex_df160_0 rfl 0 rfl ?_
  refine zr_iload_n dJ0_checkIndex_df160_1 rfl 1 rfl ?_
  refine zm_getsQ dJ0_checkIndex_df160_2 rfl (fun q hq k e => ?_) (fun v hv k e => ?_) (fun v hv => ?_)
  · simp only [List.mem_cons, List.not_mem_nil, or_false] at hq
    rcases hq with rfl | rfl <;> cases e
  · simp only [List.mem_cons, List.not_mem_nil, or_false] at hv
    rcases hv with rfl | rfl <;> cases e
  · have g : zV m_J3_checkIndex d 0 [(0, .int (nI k)), (1, .int (nI n)), (2, v)] [] M (zI (fun r M' => zV m_J0_checkIndex (d + 1) 8 [(0, .int (nI k)), (1, .int (nI n))] [.int r] M' (zU Q))) :=
      c_J3_checkIndex hk hn (zr_pop dJ0_checkIndex_df160_8 rfl (zm_vret dJ0_checkIndex_df160_9 rfl (zuu h)))
    rcases hv with rfl | rfl
    · exact zm_callS_i dJ0_checkIndex_df160_5 w_J3_checkIndex l_J0_1059 s_J3_checkIndex [.int (nI k), .int (nI n), .null] rfl rfl (Nat.le_of_ble_eq_true rfl) (Nat.le_of_ble_eq_true rfl) g
    · exact zm_callS_i dJ0_checkIndex_df160_5 w_J3_checkIndex l_J0_1059 s_J3_checkIndex [.int (nI k), .int (nI n), .retAddr 99] rfl rfl (Nat.le_of_ble_eq_true rfl) (Nat.le_of_ble_eq_true rfl) g
theorem tx_len : ∀ i, i < 9 → z_txN.getD i 0 < 20 := by decide
theorem tx_chr : ∀ i, i < 9 → ∀ k, k < z_txN.getD i 0 → ((((z_txB.getD i []).getD k 0) &&& 255).toUInt32 % 65536).toInt32 = (z_txB.getD i []).getD k 0 ∧ narrow .char (.int ((z_txB.getD i []).getD k 0)) = .int ((z_txB.getD i []).getD k 0) := by decide +kernel
theorem c_J1_charAt {Q : Int32 → zMem → Prop} (hi : i < 9) (hk : k < z_txN.getD i 0) (h : Q ((z_txB.getD i []).getD k 0) M) : zV m_J1_charAt (d + 2) 0 [(0, .retAddr (10 + i)), (1, .int (nI k))] [] M (zI Q) := by
  have hl := tx_len i hi
  refine zr_iload_n dJ1_charAt_3b067_0 rfl 1 rfl ?_
  refine zr_aloadT_n dJ1_charAt_3b067_1 rfl 0 rfl ?_
  refine zr_lenT (v := nI (z_txN.getD i 0)) hi rfl dJ1_charAt_3b067_2 ?_
  refine zm_callS_v dJ1_charAt_3b067_3 w_J0_checkIndex l_J1_9 s_J0_checkIndex [.int (nI k), .int (nI (z_txN.getD i 0))] rfl rfl (Nat.le_of_ble_eq_true rfl) (Nat.le_of_ble_eq_true rfl) ?_
  refine c_J0_checkIndex hk (by omega) ?_
  refine zr_aloadT_n dJ1_charAt_3b067_6 rfl 0 rfl ?_
  refine zr_iload_n dJ1_charAt_3b067_7 rfl 1 rfl ?_
  refine zr_balT (o := k) hi dJ1_charAt_3b067_8 (nIin hk (by omega)) (nI_clamp (by omega)) ?_
  refine zr_sipush (v := 255) dJ1_charAt_3b067_9 (by decide) ?_
  refine zr_iand dJ1_charAt_3b067_12 ?_
  refine zr_i2c dJ1_charAt_3b067_13 ?_
  rw [(tx_chr i hi k hk).1]
  exact zr_ret (v := some (.int ((z_txB.getD i []).getD k 0))) ⟨rfl, M, rfl, zii h⟩ ⟨.char, rfl, (tx_chr i hi k hk).2⟩ dJ1_charAt_3b067_14
theorem c_J0_isLatin1 {Q : Int32 → zMem → Prop} (hi : i < 9) (h : Q 1 M) : zV m_J0_isLatin1 d 0 [(0, .retAddr (1 + i))] [] M (zI Q) := by
  refine zr_cmpT dJ0_isLatin1_aae02_0 rfl ?_
  refine zr_if_eq (tgt := 17) dJ0_isLatin1_aae02_3 (by decide) (fun q => absurd q (by decide)) (fun _ => ?_)
  refine zr_aloadT_n dJ0_isLatin1_aae02_6 rfl 0 rfl ?_
  refine zr_codT hi dJ0_isLatin1_aae02_7 rfl ?_
  refine zr_if_ne (tgt := 17) dJ0_isLatin1_aae02_10 (by decide) (fun q => absurd rfl q) (fun _ => ?_)
  refine zr_iconst (v := 1) dJ0_isLatin1_aae02_13 (by decide) ?_
  refine zr_goto (tgt := 18) dJ0_isLatin1_aae02_14 (by decide) ?_
  exact zm_zret dJ0_isLatin1_aae02_18 rfl (by decide) (zii h)
theorem c_J0_coder {Q : Int32 → zMem → Prop} (hi : i < 9) (h : Q 0 M) : zV m_J0_coder d 0 [(0, .retAddr (1 + i))] [] M (zI Q) := by
  refine zr_cmpT dJ0_coder_7d493_0 rfl ?_
  refine zr_if_eq (tgt := 13) dJ0_coder_7d493_3 (by decide) (fun q => absurd q (by decide)) (fun _ => ?_)
  refine zr_aloadT_n dJ0_coder_7d493_6 rfl 0 rfl ?_
  refine zr_codT hi dJ0_coder_7d493_7 rfl ?_
  refine zr_goto (tgt := 14) dJ0_coder_7d493_10 (by decide) ?_
  exact zr_ret (v := some (.int 0)) ⟨rfl, M, rfl, zii h⟩ ⟨.byte, rfl, by decide⟩ dJ0_coder_7d493_14
theorem c_J0_length {Q : Int32 → zMem → Prop} (hi : i < 9) (h : Q (nI (z_txN.getD i 0)) M) : zV m_J0_length (d + 1) 0 [(0, .retAddr (1 + i))] [] M (zI Q) := by
  refine zr_aloadT_n dJ0_length_8abf5_0 rfl 0 rfl ?_
  refine zr_valT hi dJ0_length_8abf5_1 rfl ?_
  refine zr_lenT (v := nI (z_txN.getD i 0)) hi rfl dJ0_length_8abf5_4 ?_
  refine zr_aloadT_n dJ0_length_8abf5_5 rfl 0 rfl ?_
  refine zm_callVT_i hi dJ0_length_8abf5_6 w_J0_coder l_J0_335 rfl s_J0_coder [] rfl rfl (Nat.le_of_ble_eq_true rfl) (Nat.le_of_ble_eq_true rfl) ?_
  refine c_J0_coder hi ?_
  refine zr_ishr dJ0_length_8abf5_9 ?_
  rw [sb_shr0]
  exact zm_iret dJ0_length_8abf5_10 rfl (zii h)
theorem c_J0_charAt {Q : Int32 → zMem → Prop} (hi : i < 9) (hk : k < z_txN.getD i 0) (h : Q ((z_txB.getD i []).getD k 0) M) : zV m_J0_charAt (d + 3) 0 [(0, .retAddr (1 + i)), (1, .int (nI k))] [] M (zI Q) := by
  refine zr_aloadT_n dJ0_charAt_5068e_0 rfl 0 rfl ?_
  refine zm_callVT_i hi dJ0_charAt_5068e_1 w_J0_isLatin1 l_J0_492 rfl s_J0_isLatin1 [] rfl rfl (Nat.le_of_ble_eq_true rfl) (Nat.le_of_ble_eq_true rfl) ?_
  refine c_J0_isLatin1 hi ?_
  refine zr_if_eq (tgt := 16) dJ0_charAt_5068e_4 (by decide) (fun q => absurd q (by decide)) (fun _ => ?_)
  refine zr_aloadT_n dJ0_charAt_5068e_7 rfl 0 rfl ?_
  refine zr_valT hi dJ0_charAt_5068e_8 rfl ?_
  refine zr_iload_n dJ0_charAt_5068e_11 rfl 1 rfl ?_
  refine zm_callS_i dJ0_charAt_5068e_12 w_J1_charAt l_J0_495 s_J1_charAt [.retAddr (10 + i), .int (nI k)] rfl rfl (Nat.le_of_ble_eq_true rfl) (Nat.le_of_ble_eq_true rfl) ?_
  refine c_J1_charAt hi hk ?_
  exact zr_ret (v := some (.int ((z_txB.getD i []).getD k 0))) ⟨rfl, M, rfl, zii h⟩ ⟨.char, rfl, (tx_chr i hi k hk).2⟩ dJ0_charAt_5068e_15
end
