-- ===== the class reads a CLUSTER's text: keys, peers, entries, cuts =====
theorem wL_ne (M : zMem) {i j z : Nat} {x : Int64} (h : z ≠ i) : (wL M i j x).2 z = M.2 z := z_up_n _ _ h
section
variable {d n most B : Nat} {M : zMem} {tx : Nat → Nat} {s : zPs} {c : zCl}
theorem nmsC_k (hc : okCl B c) (hC : ClC M c) : nmsC M 19 (kyN c.2.1) := ⟨fun x hx => hc.1.2.2.2.2.2.1 x (List.mem_append_left _ hx), fun i hi => hC.1.2.2.2.2.2.1 i hi⟩
theorem nmsC_p (hc : okCl B c) (hC : ClC M c) : nmsC M 20 (prN c.2.1) := ⟨fun x hx => hc.1.2.2.2.2.2.1 x (List.mem_append_right _ hx), fun i hi => hC.1.2.2.2.2.2.2 i hi⟩
theorem e_isTold {Q : Bool → zMem → Prop} {l : List Nat} (hc : okCl B c) (hC : ClC M c) (hl : wdOK l) (h : Q (decide (¬ (ixN (kyN c.2.1) l = none ∧ ixN (prN c.2.1) l = none))) M) : S_X5_isTold (d + 1) 18 (lN (pk7 l)) M (zB Q) := by
  have h24 := hc.1.2.2.2.1
  have h4 := hc.1.2.2.2.2.1
  have g18 : 18 ∈ iX5 := by decide
  have q1 := qX5_5 18 g18
  have q2 := qX5_6 18 g18
  refine t_X5_isTold g18 ?_
  rw [hC.1.2.2.2.1]
  refine c_X5_indexOf q1.1 (by rw [q1.2]; exact h24) (by rw [q1.2]; decide) ?_
  rw [ixW_names (fun a b ha hb => pk7_inj ha hb) (fun a ha => pk7_60 ha) (nmsC_k hc hC).1 hl (nmsC_k hc hC).2]
  cases h1 : ixN (kyN c.2.1) l with
  | some i =>
    have := (ixN_lt h1).1
    rw [h1] at h
    exact ⟨fun _ => zbt (by simpa using h), fun q => absurd q (nI_m1 (by omega))⟩
  | none =>
    rw [h1] at h
    refine ⟨fun q => absurd rfl q, fun _ => ?_⟩
    rw [hC.1.2.2.2.2.1]
    refine c_X5_indexOf q2.1 (by rw [q2.2]; exact h4) (by rw [q2.2]; decide) ?_
    rw [ixW_names (fun a b ha hb => pk7_inj ha hb) (fun a ha => pk7_60 ha) (nmsC_p hc hC).1 hl (nmsC_p hc hC).2]
    cases h2 : ixN (prN c.2.1) l with
    | some i =>
      have := (ixN_lt h2).1
      rw [h2] at h
      exact ⟨fun q => absurd q (nI_m1 (by omega)), fun _ => zbt (by simpa using h)⟩
    | none =>
      rw [h2] at h
      exact ⟨fun _ => zbf (by simpa using h), fun q => absurd rfl q⟩
theorem e_isNewName {Q : Bool → zMem → Prop} (hc : okCl B c) (hC : ClC M c) (hT : TC M tx n most s) (hf : ∀ f, newP c s = .inl f → ∀ M2, ftC M2 f → FlC M M2 → Q false M2) (hs : ∀ l, newP c s = .inr l → wdOK l → M.2 220 7 = lN (pk7 l) → Q true M) : S_X1_isNewName (d + 2) M (zB Q) := by
  have h4 := (TkC_4 hT.2).2
  refine t_X1_isNewName ⟨fun e => ?_, fun e => e_X6_fail (k := 1) hT (fun M2 h1 h2 => zbr (hf _ ?_ M2 h1 h2))⟩
  · have e3 := h4.mp e
    obtain ⟨hw, h7, -, -⟩ := hT.2.2.2.2.2.2.1 e3.1
    have enm : nmS s = some s.1.2.2.1 := by unfold nmS; rw [if_pos e3]
    rw [h7]
    refine e_isTold hc hC hw ⟨fun q => zbt (hs _ ?_ hw h7), fun q => e_X6_fail (k := 3) hT (fun M2 h1 h2 => ⟨fun _ => zbf (hf _ ?_ M2 h1 h2), fun q => (by cases q)⟩)⟩
    · unfold newP; rw [enm]; simp only []; rw [if_pos (Classical.not_not.mp (of_decide_eq_false q))]
    · unfold newP; rw [enm]; simp only []; rw [if_neg (of_decide_eq_true q)]
  · unfold newP
    have : nmS s = none := by unfold nmS; rw [if_neg (fun q => e (h4.mpr q))]
    rw [this]
theorem getD_snoc {names : List (List Nat)} {l : List Nat} {i : Nat} : (names ++ [l]).getD i [] = if i = names.length then l else names.getD i [] := by
  rw [List.getD_eq_getElem?_getD, List.getD_eq_getElem?_getD]
  split
  · rename_i h
    rw [List.getElem?_append_right (by omega), h, Nat.sub_self]; rfl
  · rename_i h
    rcases Nat.lt_or_ge i names.length with q | q
    · rw [List.getElem?_append_left q]
    · rw [List.getElem?_append_right q, List.getElem?_eq_none (by rw [List.length_singleton]; omega), List.getElem?_eq_none q]
theorem p_readKey {Q : Bool → zMem → Prop} (hc : okCl B c) (hC : ClC M c) (hT : TC M tx n most s) (h : FPost tx n most Q M (keyP tx n most c s)) : S_X1_readKey (d + 3) M (zB Q) := by
  have h24 := hc.1.2.2.2.1
  have hl3 : M.1 18 3 = nI (kyN c.2.1).length := hC.1.2.2.2.1
  refine t_X1_readKey ?_
  rw [hl3, show (24 : Int32) = nI 24 from rfl, nI_ltI (by omega) (by omega)]
  refine ⟨fun e => ?_, fun e => e_X6_fail (k := 4) hT (fun M2 h1 h2 => zbr (h.fl ?_ (CrC.refl M) h1 h2))⟩
  · refine e_X6_next hT (fun M1 n1 hT1 => ?_)
    have hC1 := ClC_nx hC n1.1
    refine e_isNewName hc hC1 hT1 (fun f hf M2 h2 f2 => ⟨fun q => (by cases q), fun _ => zbf (h.fl ?_ n1.cr h2 f2)⟩) (fun l hl hw h7 => ⟨fun _ => ?_, fun q => (by cases q)⟩)
    · unfold keyP; rw [if_neg (by omega), hf]
    · have hl31 : M1.1 18 3 = nI (kyN c.2.1).length := hC1.1.2.2.2.1
      rw [hl31, nI_clamp (by omega), h7]
      refine ⟨nIin e (by omega), ?_⟩
      rintro M2 rfl M3 rfl
      have S3 : CrC M (wI (wL M1 19 (kyN c.2.1).length (lN (pk7 l))) 18 3 ((wL M1 19 (kyN c.2.1).length (lN (pk7 l))).1 18 3 + 1)) := n1.cr.trans ((CrC.s ((Same.refl _ M1).wL (by omega))).w (by omega))
      refine e_X6_next (s := nx tx n most s) (TC_o hT1 (wI_ne _ (by omega)) (wI_ne _ (by omega)) (by rw [wI_2]; exact wL_ne _ (by omega))) (fun M4 n4 hT4 => zbt ?_)
      have e2 : keyP tx n most c s = .inr ((c.1, (btN c.2.1, pgN c.2.1, ruN c.2.1, kyN c.2.1 ++ [l], prN c.2.1), c.2.2), nx tx n most (nx tx n most s)) := by
        unfold keyP; rw [if_neg (by omega), hl]
      obtain ⟨b1, b2, b3, b4, b5, b6, b7⟩ := hC1.1
      refine h.2 _ e2 _ hT4 (ClC_nx (M := wI (wL M1 19 (kyN c.2.1).length (lN (pk7 l))) 18 3 ((wL M1 19 (kyN c.2.1).length (lN (pk7 l))).1 18 3 + 1)) ⟨⟨?_, ?_, ?_, ?_, ?_, fun k hk => ?_, fun p hp => ?_⟩, ?_, ?_⟩ n4.1) (S3.trans n4.cr)
      · rw [wI_1, if_neg (by omega)]; exact b1
      · rw [wI_1, if_neg (by omega)]; exact b2
      · rw [wI_1, if_neg (by omega)]; exact b3
      · rw [wI_1, if_pos ⟨rfl, rfl⟩]
        show M1.1 18 3 + 1 = nI (kyN c.2.1 ++ [l]).length
        rw [hl31, nI_1, List.length_append]; rfl
      · rw [wI_1, if_neg (by omega)]; exact b5
      · have hk : k < (kyN c.2.1 ++ [l]).length := hk
        rw [List.length_append, List.length_singleton] at hk
        show (wL M1 19 (kyN c.2.1).length (lN (pk7 l))).2 19 k = lN (pk7 ((kyN c.2.1 ++ [l]).getD k []))
        rw [wL_2, getD_snoc]
        by_cases q : k = (kyN c.2.1).length
        · rw [if_pos ⟨rfl, q⟩, if_pos q]
        · rw [if_neg (fun w => q w.2), if_neg q]; exact b6 k (by omega)
      · show (wL M1 19 (kyN c.2.1).length (lN (pk7 l))).2 20 p = _
        rw [wL_2, if_neg (by omega)]; exact b7 p hp
      · refine Eq.trans (congrArg cl (fC_same (M := M1) (fun i i1 i2 => ?_))) hC1.2.1
        exact wI_ne _ (by omega)
      · rw [wI_1, if_neg (by omega)]; exact hC1.2.2
  · unfold keyP; rw [if_pos (by omega)]
theorem p_readPeer {Q : Bool → zMem → Prop} (hc : okCl B c) (hC : ClC M c) (hT : TC M tx n most s) (h : FPost tx n most Q M (perP tx n most c s)) : S_X1_readPeer (d + 3) M (zB Q) := by
  have h4 := hc.1.2.2.2.2.1
  have hl3 : M.1 18 4 = nI (prN c.2.1).length := hC.1.2.2.2.2.1
  refine t_X1_readPeer ?_
  rw [hl3, show (4 : Int32) = nI 4 from rfl, nI_ltI (by omega) (by omega)]
  refine ⟨fun e => ?_, fun e => e_X6_fail (k := 4) hT (fun M2 h1 h2 => zbr (h.fl ?_ (CrC.refl M) h1 h2))⟩
  · refine e_X6_next hT (fun M1 n1 hT1 => ?_)
    have hC1 := ClC_nx hC n1.1
    refine e_isNewName hc hC1 hT1 (fun f hf M2 h2 f2 => ⟨fun q => (by cases q), fun _ => zbf (h.fl ?_ n1.cr h2 f2)⟩) (fun l hl hw h7 => ⟨fun _ => ?_, fun q => (by cases q)⟩)
    · unfold perP; rw [if_neg (by omega), hf]
    · have hl31 : M1.1 18 4 = nI (prN c.2.1).length := hC1.1.2.2.2.2.1
      rw [hl31, nI_clamp (by omega), h7]
      refine ⟨nIin e (by omega), ?_⟩
      rintro M2 rfl M3 rfl
      have S3 : CrC M (wI (wL M1 20 (prN c.2.1).length (lN (pk7 l))) 18 4 ((wL M1 20 (prN c.2.1).length (lN (pk7 l))).1 18 4 + 1)) := n1.cr.trans ((CrC.s ((Same.refl _ M1).wL (by omega))).w (by omega))
      refine e_X6_next (s := nx tx n most s) (TC_o hT1 (wI_ne _ (by omega)) (wI_ne _ (by omega)) (by rw [wI_2]; exact wL_ne _ (by omega))) (fun M4 n4 hT4 => zbt ?_)
      have e2 : perP tx n most c s = .inr ((c.1, (btN c.2.1, pgN c.2.1, ruN c.2.1, kyN c.2.1, prN c.2.1 ++ [l]), c.2.2), nx tx n most (nx tx n most s)) := by
        unfold perP; rw [if_neg (by omega), hl]
      obtain ⟨b1, b2, b3, b4, b5, b6, b7⟩ := hC1.1
      refine h.2 _ e2 _ hT4 (ClC_nx (M := wI (wL M1 20 (prN c.2.1).length (lN (pk7 l))) 18 4 ((wL M1 20 (prN c.2.1).length (lN (pk7 l))).1 18 4 + 1)) ⟨⟨?_, ?_, ?_, ?_, ?_, fun k hk => ?_, fun p hp => ?_⟩, ?_, ?_⟩ n4.1) (S3.trans n4.cr)
      · rw [wI_1, if_neg (by omega)]; exact b1
      · rw [wI_1, if_neg (by omega)]; exact b2
      · rw [wI_1, if_neg (by omega)]; exact b3
      · rw [wI_1, if_neg (by omega)]; exact b4
      · rw [wI_1, if_pos ⟨rfl, rfl⟩]
        show M1.1 18 4 + 1 = nI (prN c.2.1 ++ [l]).length
        rw [hl31, nI_1, List.length_append]; rfl
      · show (wL M1 20 (prN c.2.1).length (lN (pk7 l))).2 19 k = _
        rw [wL_2, if_neg (by omega)]; exact b6 k hk
      · have hp : p < (prN c.2.1 ++ [l]).length := hp
        rw [List.length_append, List.length_singleton] at hp
        show (wL M1 20 (prN c.2.1).length (lN (pk7 l))).2 20 p = lN (pk7 ((prN c.2.1 ++ [l]).getD p []))
        rw [wL_2, getD_snoc]
        by_cases q : p = (prN c.2.1).length
        · rw [if_pos ⟨rfl, q⟩, if_pos q]
        · rw [if_neg (fun w => q w.2), if_neg q]; exact b7 p (by omega)
      · refine Eq.trans (congrArg cl (fC_same (M := M1) (fun i i1 i2 => ?_))) hC1.2.1
        exact wI_ne _ (by omega)
      · rw [wI_1, if_neg (by omega)]; exact hC1.2.2
  · unfold perP; rw [if_pos (by omega)]
theorem p_readHas {Q : Bool → zMem → Prop} (hc : okCl B c) (hC : ClC M c) (hT : TC M tx n most s) (h : FPost tx n most Q M (hasP tx n most c s)) : S_X1_readHas (d + 3) M (zB Q) := by
  have h24 := hc.1.2.2.2.1
  have h4 := hc.1.2.2.2.2.1
  have g18 : 18 ∈ iX5 := by decide
  have g25 : 25 ∈ iX3 := by decide
  refine t_X1_readHas (e_X6_next hT (fun M1 n1 hT1 => ?_))
  have hC1 := ClC_nx hC n1.1
  refine e_X6_seePeer g18 hC1.1.2.2.2.2.1 h4 (nmsC_p hc hC1) hT1 (fun f hf M2 h2 f2 => ⟨fun q => absurd rfl q, fun _ => zbf (h.fl ?_ n1.cr h2 f2)⟩) (fun p hp hp2 => ⟨fun _ => ?_, fun q => absurd q (nI_m1 (by omega))⟩)
  · unfold hasP; rw [hf]
  refine e_X6_next hT1 (fun M2 n2 hT2 => ?_)
  have hC2 := ClC_nx hC1 n2.1
  have S2 := n1.cr.trans n2.cr
  refine e_X6_seeKey g18 hC2.1.2.2.2.1 h24 (nmsC_k hc hC2) hT2 (fun f hf M3 h3 f3 => ⟨fun q => absurd rfl q, fun _ => zbf (h.fl ?_ S2 h3 f3)⟩) (fun k hk hk2 => ⟨fun _ => ?_, fun q => absurd q (nI_m1 (by omega))⟩)
  · unfold hasP; rw [hp]; simp only [hf]
  refine c_X3_has g25 (by omega) (by omega) ?_
  have e25 : hasF (fC M2 25) p k = hasF c.2.2 p k := by rw [← hC2.2.1, hasF_cl (by omega) (by omega)]
  rw [e25]
  refine ⟨fun e => ?_, fun e => e_X6_fail (k := 3) hT2 (fun M3 h3 f3 => zbr (h.fl ?_ S2 h3 f3))⟩
  rotate_left
  · unfold hasP; rw [hp]; simp only [hk]; rw [if_pos e]
  refine e_X6_next hT2 (fun M3 n3 hT3 => ?_)
  have hC3 := ClC_nx hC2 n3.1
  have S3 := S2.trans n3.cr
  refine e_X6_seeNumber (lo := 0) (hi := 999) (by omega) (by omega) hT3 (fun f hf M4 h4 f4 => ⟨fun q => absurd rfl q, fun _ => zbf (h.fl ?_ S3 h4 f4)⟩) (fun v hv hv2 => ⟨fun _ => ?_, fun q => absurd q (nI_m1 (by omega))⟩)
  · unfold hasP; rw [hp]; simp only [hk]; rw [if_neg (by rw [e]; decide), hf]
  refine e_X6_next hT3 (fun M4 n4 hT4 => ?_)
  have hC4 := ClC_nx hC3 n4.1
  have S4 := S3.trans n4.cr
  refine c_X3_write g25 (by omega) (by omega) (fun M5 e5 s5 => zbt ?_)
  have e2 : hasP tx n most c s = .inr ((c.1, c.2.1, writeF c.2.2 p k (nI v)), nx tx n most (nx tx n most (nx tx n most (nx tx n most s)))) := by
    unfold hasP; rw [hp]; simp only [hk]; rw [if_neg (by rw [e]; decide), hv]
  refine h.2 _ e2 _ (TC_o hT4 (s5.1 1 (by omega)) (s5.1 220 (by omega)) (s5.2 220 (by omega))) ⟨hdC_same hC4.1 (s5.1 18 (by omega)) (fun z hz => s5.2 z (by omega)), ?_, by rw [s5.1 221 (by omega)]; exact hC4.2.2⟩ (S4.trans (CrC.s (s5.mono (fun i hi => by omega))))
  rw [e5, writeF_cl (by omega) (by omega), hC4.2.1]
theorem p_readCut {Q : Bool → zMem → Prop} (hc : okCl B c) (hC : ClC M c) (hT : TC M tx n most s) (h : FPost tx n most Q M (cutP tx n most c s)) : S_X1_readCut (d + 3) M (zB Q) := by
  have h4 := hc.1.2.2.2.2.1
  have g18 : 18 ∈ iX5 := by decide
  have g25 : 25 ∈ iX3 := by decide
  refine t_X1_readCut (e_X6_next hT (fun M1 n1 hT1 => ?_))
  have hC1 := ClC_nx hC n1.1
  refine e_X6_seePeer g18 hC1.1.2.2.2.2.1 h4 (nmsC_p hc hC1) hT1 (fun f hf M2 h2 f2 => ⟨fun q => absurd rfl q, fun _ => zbf (h.fl ?_ n1.cr h2 f2)⟩) (fun p hp hp2 => ⟨fun _ => ?_, fun q => absurd q (nI_m1 (by omega))⟩)
  · unfold cutP; rw [hf]
  refine e_X6_next hT1 (fun M2 n2 hT2 => ?_)
  have hC2 := ClC_nx hC1 n2.1
  have S2 := n1.cr.trans n2.cr
  refine e_X6_seePeer g18 hC2.1.2.2.2.2.1 h4 (nmsC_p hc hC2) hT2 (fun f hf M3 h3 f3 => ⟨fun q => absurd rfl q, fun _ => zbf (h.fl ?_ S2 h3 f3)⟩) (fun q hq hq2 => ⟨fun _ => ?_, fun q => absurd q (nI_m1 (by omega))⟩)
  · unfold cutP; rw [hp]; simp only [hf]
  rw [nI_eq (by omega) (by omega)]
  refine ⟨fun e => e_X6_fail (k := 3) hT2 (fun M3 h3 f3 => zbr (h.fl ?_ S2 h3 f3)), fun e => c_X3_areCut g25 (by omega) ?_⟩
  · unfold cutP; rw [hp]; simp only [hq]; rw [if_pos (Or.inl e)]
  have e25 : cutF (fC M2 25) p q = cutB c.2.2 p q := by rw [← hC2.2.1, cutB_cl (by omega), cutF_B (by omega)]
  rw [e25]
  refine ⟨fun e3 => ?_, fun e3 => e_X6_fail (k := 3) hT2 (fun M3 h3 f3 => zbr (h.fl ?_ S2 h3 f3))⟩
  rotate_left
  · unfold cutP; rw [hp]; simp only [hq]; rw [if_pos (Or.inr e3)]
  refine c_X3_turnLink g25 (by omega) (by omega) (fun M3 e4 s4 => ?_)
  have hT3 : TC M3 tx n most (nx tx n most (nx tx n most s)) := TC_o hT2 (s4.1 1 (by omega)) (s4.1 220 (by omega)) (s4.2 220 (by omega))
  have hC3 : ClC M3 (c.1, c.2.1, turnF c.2.2 p q) := by
    refine ⟨hdC_same hC2.1 (s4.1 18 (by omega)) (fun z hz => s4.2 z (by omega)), ?_, by rw [s4.1 221 (by omega)]; exact hC2.2.2⟩
    rw [e4, turnF_cl (by omega) (by omega), hC2.2.1]
  refine e_X6_next hT3 (fun M4 n4 hT4 => zbt ?_)
  have e2 : cutP tx n most c s = .inr ((c.1, c.2.1, turnF c.2.2 p q), nx tx n most (nx tx n most (nx tx n most s))) := by
    unfold cutP; rw [hp]; simp only [hq]; rw [if_neg (by rw [e3]; simp; exact e)]
  exact h.2 _ e2 _ hT4 (ClC_nx hC3 n4.1) ((S2.trans (CrC.s (s4.mono (fun i hi => by omega)))).trans n4.cr)
end
