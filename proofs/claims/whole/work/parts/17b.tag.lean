-- ===== tags =====
def nmT (n : Nat) : List Nat := if n < 10 then [48 + n] else [48 + n / 10, 48 + n % 10]
def txL (i : Nat) : List Nat := [[32, 104, 97, 115, 32], [32, 105, 110, 32], [32, 99, 117, 116, 32]].getD i []
theorem txL_at : ∀ i, i < 3 → z_txN.getD i 0 = (txL i).length ∧ ∀ k, k < (txL i).length → (z_txB.getD i []).getD k 0 = nI ((txL i).getD k 0) ∧ (txL i).getD k 0 < 256 := by decide
theorem nmT_len {n : Nat} : (nmT n).length ≤ 2 := by unfold nmT; split <;> simp
def TgC (M : zMem) (cs : List Nat) : Prop := cs.length ≤ 48 ∧ M.1 0 15 = nI cs.length ∧ ∀ i c, cs[i]? = some c → M.1 228 i &&& 255 = nI c
def TgS (M M2 : zMem) : Prop := Same (fun z => z = 0 ∨ z = 228) M M2 ∧ ∀ j, j ≠ 15 → M2.1 0 j = M.1 0 j
theorem TgS.refl (M : zMem) : TgS M M := ⟨Same.refl _ _, fun _ _ => rfl⟩
theorem TgS.trans {M M2 M3 : zMem} (h : TgS M M2) (h2 : TgS M2 M3) : TgS M M3 := ⟨h.1.trans h2.1, fun j a => (h2.2 j a).trans (h.2 j a)⟩
theorem by_8 : ∀ n, n < 256 → ((nI n).toInt8.toInt32).toInt8.toInt32 &&& 255 = nI n := by decide +kernel
theorem snoc_at {cs : List Nat} {c i : Nat} {x : Nat} (h : (cs ++ [c])[i]? = some x) : cs[i]? = some x ∨ (i = cs.length ∧ x = c) := by
  rw [List.getElem?_append] at h
  split at h
  · exact Or.inl h
  · rename_i q
    cases e : i - cs.length with
    | zero => rw [e] at h; cases h; exact Or.inr ⟨by omega, rfl⟩
    | succ j => rw [e] at h; cases h
section
variable {d B p q k : Nat} {M M2 : zMem} {N : zNm} {F : Nat → Int32} {us : List (Nat → Int32)} {x : Int32} {cs l : List Nat}
theorem c_addByte {Q : zMem → Prop} {c : Nat} (hc : c < 256) (hl : cs.length < 48) (hT : TgC M cs) (h : ∀ M2, TgC M2 (cs ++ [c]) → TgS M M2 → Q M2) : S_X11_addByte d (nI c) M (zU Q) := by
  obtain ⟨h1, h2, h3⟩ := hT
  refine t_X11_addByte ?_
  rw [h2, nI_clamp (by omega)]
  refine ⟨fun q => absurd q (by rw [show (48 : Int32) = nI 48 from rfl]; exact nI_ge hl (by omega)), fun _ => ⟨nIin hl (by omega), fun M1 e1 M3 e3 => zuu (h M3 ⟨?_, ?_, fun i x hi => ?_⟩ ⟨?_, fun j hj => ?_⟩)⟩⟩
  · rw [List.length_append, List.length_singleton]; omega
  · rw [e3, wI_1, if_pos ⟨rfl, rfl⟩, e1, wI_ne _ (by omega), h2, nI_1, List.length_append, List.length_singleton]
  · rw [e3, wI_ne _ (by omega), e1, wI_1]
    rcases snoc_at hi with g | ⟨g1, g2⟩
    · have := (List.getElem?_eq_some_iff.mp g).1
      rw [if_neg (by omega)]; exact h3 i x g
    · rw [if_pos ⟨rfl, g1⟩, g2]; exact by_8 c hc
  · rw [e3, e1]; exact ((Same.refl _ M).wI (Or.inr rfl)).wI (Or.inl rfl)
  · rw [e3, wI_1, if_neg (by omega), e1, wI_ne _ (by omega)]
theorem c_addName {Q : zMem → Prop} (hw : wdOK l) (hl : cs.length + 7 ≤ 48) (hT : TgC M cs) (h : ∀ M2, TgC M2 (cs ++ l) → TgS M M2 → Q M2) : S_X11_addName (d + 1) (lN (pk7 l)) M (zU Q) := by
  obtain ⟨w1, w2, w3⟩ := hw
  have key : ∀ c i (M1 : zMem), i + c = 7 → TgC M1 (cs ++ l.take i) → TgS M M1 → S_X11_addName_2 (d + 1) (lN (pk7 l)) (nI i) M1 (zU Q) := by
    intro c
    induction c with
    | zero =>
      intro i M1 hi h1 h2
      rw [List.take_of_length_le (by omega)] at h1
      have ei : i = 7 := by omega
      subst ei
      exact t_X11_addName_2 ⟨fun _ => zuu (h M1 h1 h2), fun q => absurd (by decide) q⟩
    | succ c ih =>
      intro i M1 hi h1 h2
      refine t_X11_addName_2 ⟨fun q => absurd q (by rw [show (7 : Int32) = nI 7 from rfl]; exact nI_ge (by omega) (by omega)), fun _ => c_X5_signOf ⟨w1, w2, w3⟩ (by omega) ?_⟩
      rw [nI_1]
      by_cases hil : i < l.length
      · have hg : l.getD i 0 = l[i] := by simp [hil]
        have hc := w3 _ (List.getElem_mem hil)
        refine ⟨fun q => absurd q (by rw [hg]; exact nI_ne0 (by omega) (by omega)), fun _ => c_addByte (by rw [hg]; omega) ?_ h1 (fun M2 a1 a2 => ih (i + 1) M2 (by omega) ?_ (h2.trans a2))⟩
        · rw [List.length_append, List.length_take]; omega
        · rw [List.append_assoc, hg] at a1
          rw [List.take_succ_eq_append_getElem hil]
          exact a1
      · have hg : l.getD i 0 = 0 := by simp [hil]
        rw [hg]
        refine ⟨fun _ => ih (i + 1) M1 (by omega) ?_ h2, fun q => absurd rfl q⟩
        rw [List.take_of_length_le (by omega)] at h1 ⊢
        exact h1
  refine t_X11_addName (key 7 0 M (by omega) ?_ (TgS.refl M))
  rw [List.take_zero, List.append_nil]
  exact hT
theorem dg10 {n : Nat} (h : n < 2 ^ 31) : (48 : Int32) + (nI n - nI n / 10 * 10) = nI (48 + n % 10) := by
  rw [show (10 : Int32) = nI 10 from rfl, pk_rem h (by omega) (by omega), show (48 : Int32) = nI 48 from rfl, nI_add]
theorem c_addNumber {Q : zMem → Prop} {n : Nat} (hn : n < 100) (hl : cs.length + 2 ≤ 48) (hT : TgC M cs) (h : ∀ M2, TgC M2 (cs ++ nmT n) → TgS M M2 → Q M2) : S_X11_addNumber (d + 1) (nI n) M (zU Q) := by
  unfold nmT at h
  have e1 := dg10 (n := n) (by omega)
  have e2 : nI n / 10 = nI (n / 10) := pk_div (a := n) (d := 10) (by omega) (by omega) (by omega)
  have e3 := dg10 (n := n / 10) (by omega)
  refine t_X11_addNumber ?_
  rw [e1, e2, e3]
  refine ⟨fun q => ?_, fun q => ?_⟩
  · have q2 : n < 10 := (nI_ltI (a := n) (b := 10) (by omega) (by omega)).mp q
    rw [if_pos q2] at h
    rw [Nat.mod_eq_of_lt q2]
    exact c_addByte (by omega) (by omega) hT (fun M2 a1 a2 => zuu (h M2 a1 a2))
  · have q2 : ¬ n < 10 := fun w => q ((nI_ltI (a := n) (b := 10) (by omega) (by omega)).mpr w)
    rw [if_neg q2] at h
    rw [Nat.mod_eq_of_lt (show n / 10 < 10 by omega)]
    refine c_addByte (by omega) (by omega) hT (fun M2 a1 a2 => c_addByte (by omega) (by rw [List.length_append, List.length_singleton]; omega) a1 (fun M3 b1 b2 => zuu (h M3 ?_ (a2.trans b2))))
    rw [List.append_assoc] at b1
    exact b1
theorem c_addText {Q : zMem → Prop} {i : Nat} (hi : i < 3) (hl : cs.length + 5 ≤ 48) (hT : TgC M cs) (h : ∀ M2, TgC M2 (cs ++ txL i) → TgS M M2 → Q M2) : zV m_X11_addText (d + 4) 0 [(0, .ref 0), (1, .retAddr (1 + i))] [] M (zU Q) := by
  obtain ⟨t1, t2⟩ := txL_at i hi
  have t5 : (txL i).length ≤ 5 := by
    rcases (show i = 0 ∨ i = 1 ∨ i = 2 by omega) with rfl | rfl | rfl <;> decide
  have key : ∀ c k (M1 : zMem), k + c = (txL i).length → TgC M1 (cs ++ (txL i).take k) → TgS M M1 → zV m_X11_addText (d + 4) 2 [(2, .int (nI k)), (0, .ref 0), (1, .retAddr (1 + i))] [] M1 (zU Q) := by
    intro c
    induction c with
    | zero =>
      intro k M1 hk h1 h2
      rw [List.take_of_length_le (by omega)] at h1
      refine zr_iload_n dX11_addText_2 rfl 0 rfl ?_
      refine zr_aloadT_n dX11_addText_3 rfl 2 rfl ?_
      refine zm_callVT_i (by omega) dX11_addText_4 w_J0_length l_X11_360 rfl s_J0_length [] rfl rfl (Nat.le_of_ble_eq_true rfl) (Nat.le_of_ble_eq_true rfl) ?_
      refine c_J0_length (d := d + 2) (by omega) ?_
      rw [t1]
      refine zr_icmp_ge (tgt := 25) dX11_addText_7 (by decide) (fun _ => ?_) (fun q => absurd (nI_le (by omega) (by omega)) q)
      exact zm_vret dX11_addText_25 rfl (zuu (h M1 h1 h2))
    | succ c ih =>
      intro k M1 hk h1 h2
      obtain ⟨c1, c2⟩ := t2 k (by omega)
      refine zr_iload_n dX11_addText_2 rfl 0 rfl ?_
      refine zr_aloadT_n dX11_addText_3 rfl 2 rfl ?_
      refine zm_callVT_i (by omega) dX11_addText_4 w_J0_length l_X11_360 rfl s_J0_length [] rfl rfl (Nat.le_of_ble_eq_true rfl) (Nat.le_of_ble_eq_true rfl) ?_
      refine c_J0_length (d := d + 2) (by omega) ?_
      rw [t1]
      refine zr_icmp_ge (tgt := 25) dX11_addText_7 (by decide) (fun q => absurd q (nI_ge (by omega) (by omega))) (fun _ => ?_)
      refine zr_aload_n dX11_addText_10 rfl 1 rfl ?_
      refine zr_aloadT_n dX11_addText_11 rfl 2 rfl ?_
      refine zr_iload_n dX11_addText_12 rfl 0 rfl ?_
      refine zm_callVT_i (by omega) dX11_addText_13 w_J0_charAt l_X11_365 rfl s_J0_charAt [.int (nI k)] rfl rfl (Nat.le_of_ble_eq_true rfl) (Nat.le_of_ble_eq_true rfl) ?_
      refine c_J0_charAt (d := d) (by omega) (by omega) ?_
      rw [c1]
      refine zm_callV_v (c := 11) (b := 0) dX11_addText_16 w_X11_addByte l_X11_357 rfl (by decide) (by decide) s_X11_addByte [.int (nI ((txL i).getD k 0))] rfl rfl (Nat.le_of_ble_eq_true rfl) (Nat.le_of_ble_eq_true rfl) ?_
      have hkl : k < (txL i).length := by omega
      have hg : (txL i).getD k 0 = (txL i)[k] := by simp [hkl]
      refine c_addByte c2 (by rw [List.length_append, List.length_take]; omega) h1 (fun M2 a1 a2 => ?_)
      refine zr_iinc (n := 0) (v := nI k + 1) dX11_addText_19 rfl rfl (by decide) (L2 := [(2, .int (nI k + 1)), (0, .ref 0), (1, .retAddr (1 + i))]) rfl ?_
      refine zr_goto (tgt := 2) dX11_addText_22 (by decide) ?_
      rw [nI_1]
      refine ih (k + 1) M2 (by omega) ?_ (h2.trans a2)
      rw [List.append_assoc, hg] at a1
      rw [List.take_succ_eq_append_getElem hkl]
      exact a1
  refine zr_iconst (v := 0) dX11_addText_0 (by decide) ?_
  refine zr_istore_n dX11_addText_1 rfl (by decide) (L2 := [(2, .int 0), (0, .ref 0), (1, .retAddr (1 + i))]) rfl ?_
  refine key (txL i).length 0 M (by omega) ?_ (TgS.refl M)
  rw [List.take_zero, List.append_nil]
  exact hT
/-- the first that p is cut from -/
def fcP (F : Nat → Int32) (p : Nat) : Option Nat := (List.range 4).find? (fun q => cutB F p q)
theorem c_X3_firstCut {Q : Int32 → zMem → Prop} {b : Nat} (hb : b ∈ iX3) (hp : p < 4) (hF : ∀ q, q < 4 → cutF (fC M b) p q = cutB F p q) (h : Q (upI (fcP F p)) M) : S_X3_firstCut (d + 1) b (nI p) M (zI Q) := by
  have key : ∀ c i, i + c = 4 → (∀ j, j < i → cutB F p j = false) → S_X3_firstCut_2 (d + 1) b (nI p) (nI i) M (zI Q) := by
    intro c
    induction c with
    | zero =>
      intro i hi hn
      have e := (find_step 0 i _ hn (show (List.range (i + 0)).find? (fun q => cutB F p q) = fcP F p by rw [hi]; rfl)).1 rfl
      rw [e] at h
      have ei : i = 4 := by omega
      subst ei
      exact t_X3_firstCut_2 hb ⟨fun _ => zii h, fun q => absurd (by decide) q⟩
    | succ c ih =>
      intro i hi hn
      refine t_X3_firstCut_2 hb ⟨fun q => absurd q (by rw [show (4 : Int32) = nI 4 from rfl]; exact nI_ge (by omega) (by omega)), fun _ => c_X3_areCut hb hp ?_⟩
      rw [hF i (by omega), nI_1]
      refine ⟨fun e => ih (i + 1) (by omega) (fun j hj => if w : j = i then w ▸ e else hn j (by omega)), fun e => zii ?_⟩
      have e2 := (find_step (c + 1) i _ hn (show (List.range (i + (c + 1))).find? (fun q => cutB F p q) = fcP F p by rw [hi]; rfl)).2 (by omega) e
      rw [e2] at h
      exact h
  exact t_X3_firstCut hb (key 4 0 (by omega) (fun j hj => absurd hj (Nat.not_lt_zero j)))
/-- a peer's tag, but for what it is cut from -/
def tgA (N : zNm) (F : Nat → Int32) (p : Nat) : List Nat := pAt N p ++ txL 0 ++ nmT (ksP (plOf N) F p).length ++ txL 1 ++ nmT (trP (plOf N) F p).length
def tgL (N : zNm) (F : Nat → Int32) (p : Nat) : List Nat := match fcP F p with
  | some q => tgA N F p ++ txL 2 ++ pAt N q
  | none => tgA N F p
theorem TgC.e (h : TgC M cs) (e : cs = l) : TgC M l := e ▸ h
theorem fcP_some (h : fcP F p = some q) : q < 4 ∧ cutB F p q = true := ⟨List.mem_range.mp (List.mem_of_find?_eq_some h), List.find?_some h⟩
theorem c_tag {Q : Int32 → zMem → Prop} (h : JA B M N F us) (hp : p < mP (plOf N)) (hQ : ∀ M2, TgC M2 (tgL N F p) → TgS M M2 → Q (nI (tgL N F p).length) M2) : zV m_X11_tag (d + 10) 0 [(0, .ref 0), (1, .int (nI p))] [] M (zI Q) := by
  have h4 := h.m4
  have hN := h.1
  have hks : (ksP (plOf N) F p).length ≤ 24 := Nat.le_trans (keysT_len (odP (plOf N)) F p (nP (plOf N))) h.pc.1.1
  have htr : (trP (plOf N) F p).length ≤ 24 := trP_len h.pc.1
  have pl : ∀ q, q < mP (plOf N) → wdOK (pAt N q) ∧ (pAt N q).length ≤ 7 ∧ M.2 5 q = lN (pk7 (pAt N q)) := fun q hq => by
    have w := hN.2.2.2.2.2.1 _ (List.mem_append_right _ (pAt_mem (k := q) hq))
    exact ⟨w, w.2.1, h.2.2.2.1.1.2.2.2.2.2.2 q hq⟩
  obtain ⟨t3, t12, -⟩ := PC_t63 h.pc (p := p) (by omega)
  have n1 := nmT_len (n := (ksP (plOf N) F p).length)
  have n2 := nmT_len (n := (trP (plOf N) F p).length)
  have p7 := (pl p hp).2.1
  have x0 : (txL 0).length = 5 := by decide
  have x1 : (txL 1).length = 4 := by decide
  have x2 : (txL 2).length = 5 := by decide
  have cl : (nI p).toNatClampNeg = p := nI_clamp (by omega)
  have vp : vp_in (nI p) 4 := nIin (by omega) (by omega)
  have p4 : p < 4 := by omega
  refine zr_aload_n dX11_tag_0 rfl 0 rfl ?_
  refine zr_iload_n dX11_tag_1 rfl 1 rfl ?_
  refine zm_callV_b (c := 11) (b := 0) dX11_tag_2 w_X11_isPeer l_X11_179 rfl (by decide) (by decide) s_X11_isPeer [.int (nI p)] rfl rfl (Nat.le_of_ble_eq_true rfl) (Nat.le_of_ble_eq_true rfl) ?_
  refine c_X11_isPeer h.c4 ?_
  rw [inN_nI hp (by omega)]
  refine zm_ifb_ne (tgt := 10) dX11_tag_5 (by decide) (fun _ => ?_) (fun q => by cases q)
  refine zr_aload_n dX11_tag_10 rfl 0 rfl ?_
  refine zr_iconst (v := 0) dX11_tag_11 (by decide) ?_
  refine zn_puti dX11_tag_12 f_X11_105 (by decide) (by decide) (by decide) (fun M1 e1 => ?_)
  have T1 : TgC M1 [] := ⟨by decide, by rw [e1, wI_1, if_pos ⟨rfl, rfl⟩]; rfl, fun i c hi => by cases hi⟩
  have S1 : TgS M M1 := ⟨e1 ▸ (Same.refl _ M).wI (Or.inl rfl), fun j hj => by rw [e1, wI_1, if_neg (by omega)]⟩
  refine zr_aload_n dX11_tag_15 rfl 0 rfl ?_
  refine zr_aload_n dX11_tag_16 rfl 0 rfl ?_
  refine zm_getr (a := 2) dX11_tag_17 f_X11_20 (by decide) (by decide) (by decide) (by decide) ?_
  refine zm_getr (a := 3) dX11_tag_20 f_X11_33 (by decide) (by decide) (by decide) (by decide) ?_
  refine zm_getr (a := 5) dX11_tag_23 f_X11_330 (by decide) (by decide) (by decide) (by decide) ?_
  refine zr_iload_n dX11_tag_26 rfl 1 rfl ?_
  refine zm_lald (n := 4) (o := p) dX11_tag_27 (by decide) (by decide) vp cl ?_
  rw [show M1.2 5 p = lN (pk7 (pAt N p)) by rw [S1.1.2 5 (by omega)]; exact (pl p hp).2.2]
  refine zm_callV_v (c := 11) (b := 0) dX11_tag_28 w_X11_addName l_X11_334 rfl (by decide) (by decide) s_X11_addName [.long (lN (pk7 (pAt N p)))] rfl rfl (Nat.le_of_ble_eq_true rfl) (Nat.le_of_ble_eq_true rfl) ?_
  refine c_addName (d := d + 8) (pl p hp).1 (by rw [List.length_nil]; omega) T1 (fun M2 T2 S2 => ?_)
  rw [List.nil_append] at T2
  refine zr_aload_n dX11_tag_31 rfl 0 rfl ?_
  refine zr_ldcT (i := 0) (by decide) rfl dX11_tag_32 ?_
  refine zm_callV_v (c := 11) (b := 0) dX11_tag_35 w_X11_addText l_X11_340 rfl (by decide) (by decide) s_X11_addText [.retAddr (1 + 0)] rfl rfl (Nat.le_of_ble_eq_true rfl) (Nat.le_of_ble_eq_true rfl) ?_
  refine c_addText (d := d + 5) (i := 0) (by omega) (by omega) T2 (fun M3 T3 S3 => ?_)
  have S13 := S1.trans (S2.trans S3)
  refine zr_aload_n dX11_tag_38 rfl 0 rfl ?_
  refine zr_aload_n dX11_tag_39 rfl 0 rfl ?_
  refine zm_getr (a := 63) dX11_tag_40 f_X11_44 (by decide) (by decide) (by decide) (by decide) ?_
  refine zm_getr (a := 64) dX11_tag_43 f_X11_182 (by decide) (by decide) (by decide) (by decide) ?_
  refine zr_iload_n dX11_tag_46 rfl 1 rfl ?_
  refine zm_aald (t := 4) (n := 4) (q := p) (o := 65 + 12 * p) dX11_tag_47 (by decide) (by decide) (by decide) (fun _ => rfl) (by decide) vp cl (e64 p4) ?_
  refine zm_geti dX11_tag_48 f_X11_186 (oX9 _ (e64q p4)) (by decide) (by decide) ?_
  rw [show M3.1 (65 + 12 * p) 3 = nI (ksP (plOf N) F p).length by rw [S13.1.1 _ (by omega)]; exact t3]
  refine zm_callV_v (c := 11) (b := 0) dX11_tag_51 w_X11_addNumber l_X11_343 rfl (by decide) (by decide) s_X11_addNumber [.int (nI (ksP (plOf N) F p).length)] rfl rfl (Nat.le_of_ble_eq_true rfl) (Nat.le_of_ble_eq_true rfl) ?_
  refine c_addNumber (d := d + 8) (by omega) (by rw [List.length_append]; omega) T3 (fun M4 T4 S4 => ?_)
  refine zr_aload_n dX11_tag_54 rfl 0 rfl ?_
  refine zr_ldcT (i := 1) (by decide) rfl dX11_tag_55 ?_
  refine zm_callV_v (c := 11) (b := 0) dX11_tag_58 w_X11_addText l_X11_340 rfl (by decide) (by decide) s_X11_addText [.retAddr (1 + 1)] rfl rfl (Nat.le_of_ble_eq_true rfl) (Nat.le_of_ble_eq_true rfl) ?_
  refine c_addText (d := d + 5) (i := 1) (by omega) (by rw [List.length_append, List.length_append]; omega) T4 (fun M5 T5 S5 => ?_)
  have S15 := S13.trans (S4.trans S5)
  refine zr_aload_n dX11_tag_61 rfl 0 rfl ?_
  refine zr_aload_n dX11_tag_62 rfl 0 rfl ?_
  refine zm_getr (a := 63) dX11_tag_63 f_X11_44 (by decide) (by decide) (by decide) (by decide) ?_
  refine zm_getr (a := 64) dX11_tag_66 f_X11_182 (by decide) (by decide) (by decide) (by decide) ?_
  refine zr_iload_n dX11_tag_69 rfl 1 rfl ?_
  refine zm_aald (t := 4) (n := 4) (q := p) (o := 65 + 12 * p) dX11_tag_70 (by decide) (by decide) (by decide) (fun _ => rfl) (by decide) vp cl (e64 p4) ?_
  refine zm_geti dX11_tag_71 f_X11_194 (oX9 _ (e64q p4)) (by decide) (by decide) ?_
  rw [show M5.1 (65 + 12 * p) 12 = nI (trP (plOf N) F p).length by rw [S15.1.1 _ (by omega)]; exact t12]
  refine zm_callV_v (c := 11) (b := 0) dX11_tag_74 w_X11_addNumber l_X11_343 rfl (by decide) (by decide) s_X11_addNumber [.int (nI (trP (plOf N) F p).length)] rfl rfl (Nat.le_of_ble_eq_true rfl) (Nat.le_of_ble_eq_true rfl) ?_
  refine c_addNumber (d := d + 8) (by omega) (by simp only [List.length_append]; omega) T5 (fun M6 T6 S6 => ?_)
  have T6 : TgC M6 (tgA N F p) := T6
  have S16 := S15.trans S6
  have lA : (tgA N F p).length ≤ 20 := by
    unfold tgA
    simp only [List.length_append]
    omega
  refine zr_aload_n dX11_tag_77 rfl 0 rfl ?_
  refine zm_getr (a := 2) dX11_tag_78 f_X11_20 (by decide) (by decide) (by decide) (by decide) ?_
  refine zm_getr (a := 10) dX11_tag_81 f_X11_37 (by decide) (by decide) (by decide) (by decide) ?_
  refine zr_iload_n dX11_tag_84 rfl 1 rfl ?_
  refine zm_callV_i (c := 3) (b := 10) dX11_tag_85 w_X3_firstCut l_X11_348 rfl (by decide) (by decide) s_X3_firstCut [.int (nI p)] rfl rfl (Nat.le_of_ble_eq_true rfl) (Nat.le_of_ble_eq_true rfl) ?_
  refine c_X3_firstCut (d := d + 8) (F := F) (b := 10) (by decide) p4 (fun q hq => ?_) ?_
  · have := PC_cut h.pc p4 hq
    rw [pT63.2.1] at this
    rw [fC_same (M := M) (M2 := M6) (fun z z1 z2 => S16.1.1 z (by omega))]
    exact this
  refine zr_istore_n dX11_tag_88 rfl (by decide) (L2 := [(2, .int (upI (fcP F p))), (0, .ref 0), (1, .int (nI p))]) rfl ?_
  refine zr_iload_n dX11_tag_89 rfl 0 rfl ?_
  refine zr_iconst (v := -1) dX11_tag_90 (by decide) ?_
  have fin : ∀ M7, TgC M7 (tgL N F p) → TgS M M7 → ∀ L, zV m_X11_tag (d + 10) 117 ((2, L) :: [(0, .ref 0), (1, .int (nI p))]) [] M7 (zI Q) := by
    intro M7 T7 S7 L
    refine zr_aload_n dX11_tag_117 rfl 1 rfl ?_
    refine zm_geti dX11_tag_118 f_X11_105 (by decide) (by decide) (by decide) ?_
    rw [T7.2.1]
    exact zm_iret dX11_tag_121 rfl (zii (hQ M7 T7 S7))
  cases hc : fcP F p with
  | none =>
    refine zr_icmp_eq (tgt := 117) dX11_tag_91 (by decide) (fun _ => ?_) (fun q => absurd rfl q)
    refine fin M6 (T6.e ?_) S16 _
    unfold tgL
    rw [hc]
  | some q =>
    obtain ⟨q4, qc⟩ := fcP_some hc
    have qm : q < mP (plOf N) := by
      apply Classical.byContradiction
      intro w
      have := h.2.1.2.2.2.2.1 p p4 q (by show (prN N).length ≤ q; exact Nat.not_lt.mp w)
      unfold cutB at qc
      rw [this] at qc
      cases qc
    refine zr_icmp_eq (tgt := 117) dX11_tag_91 (by decide) (fun w => absurd w (nI_m1 (by omega))) (fun _ => ?_)
    refine zr_aload_n dX11_tag_94 rfl 1 rfl ?_
    refine zr_ldcT (i := 2) (by decide) rfl dX11_tag_95 ?_
    refine zm_callV_v (c := 11) (b := 0) dX11_tag_98 w_X11_addText l_X11_340 rfl (by decide) (by decide) s_X11_addText [.retAddr (1 + 2)] rfl rfl (Nat.le_of_ble_eq_true rfl) (Nat.le_of_ble_eq_true rfl) ?_
    refine c_addText (d := d + 5) (i := 2) (by omega) (by omega) T6 (fun M7 T7 S7 => ?_)
    have S17 := S16.trans S7
    refine zr_aload_n dX11_tag_101 rfl 1 rfl ?_
    refine zr_aload_n dX11_tag_102 rfl 1 rfl ?_
    refine zm_getr (a := 2) dX11_tag_103 f_X11_20 (by decide) (by decide) (by decide) (by decide) ?_
    refine zm_getr (a := 3) dX11_tag_106 f_X11_33 (by decide) (by decide) (by decide) (by decide) ?_
    refine zm_getr (a := 5) dX11_tag_109 f_X11_330 (by decide) (by decide) (by decide) (by decide) ?_
    refine zr_iload_n dX11_tag_112 rfl 0 rfl ?_
    refine zm_lald (n := 4) (o := q) dX11_tag_113 (by decide) (by decide) (nIin q4 (by omega)) (nI_clamp (by omega)) ?_
    rw [show M7.2 5 q = lN (pk7 (pAt N q)) by rw [S17.1.2 5 (by omega)]; exact (pl q qm).2.2]
    refine zm_callV_v (c := 11) (b := 0) dX11_tag_114 w_X11_addName l_X11_334 rfl (by decide) (by decide) s_X11_addName [.long (lN (pk7 (pAt N q)))] rfl rfl (Nat.le_of_ble_eq_true rfl) (Nat.le_of_ble_eq_true rfl) ?_
    refine c_addName (d := d + 8) (pl q qm).1 (by rw [List.length_append]; omega) T7 (fun M8 T8 S8 => ?_)
    refine fin M8 (T8.e ?_) (S17.trans S8) _
    unfold tgL
    rw [hc]
end
