-- ===== the model reads a CLUSTER's text: keys, peers, entries, cuts =====
section
variable {d n most B : Nat} {M : zMem} {tx : Nat → Nat} {s : zPs} {c : zCl}
theorem nmsR_k (hc : okCl B c) (hC : ClR M c) : nmsR M 238 0 (kyN c.2.1) := ⟨fun x hx => hc.1.2.2.2.2.2.1 x (List.mem_append_left _ hx), fun i hi => by rw [Nat.zero_add]; exact hC.2.1.2.2.2.2.2.1 i hi⟩
theorem nmsR_p (hc : okCl B c) (hC : ClR M c) : nmsR M 238 24 (prN c.2.1) := ⟨fun x hx => hc.1.2.2.2.2.2.1 x (List.mem_append_right _ hx), fun i hi => hC.2.1.2.2.2.2.2.2 i hi⟩
theorem p2_readFirst {Q : Bool → zMem → Prop} {o m k : Nat} (ho : o < 2) (hk : M.1 232 o = nI k) (hk24 : k ≤ 24) (hm : m ≤ 24) (h2 : s.1.1 = 2) (hT : TR M tx n most s) (hf : k = m → ∀ M2, ftR M2 (4, plS s) → RoR M M2 → Q false M2) (hs : k ≠ m → ∀ M2, TR M2 tx n most (nx tx n most s) → NxR M M2 → Q true M2) : S_X12_readFirst (d + 2) (nI o) (nI m) M (zB Q) := by
  refine t_X12_readFirst ⟨nIin (by omega) (by omega), ?_⟩
  rw [nI_clamp (by omega), hk, nI_eq (by omega) (by omega)]
  exact ⟨fun q => e_X12_go hT (by omega) (fun M2 h1 h3 => zbt (hs q M2 h3 h1)), fun q => e_X12_bad (k := 4) hT (fun M2 h1 h3 => zbr (hf q M2 (by rw [if_neg (by omega)] at h1; exact h1) h3))⟩
theorem p2_readNew {Q : Bool → zMem → Prop} {o : Nat} (ho : o < 28) (hc : okCl B c) (hC : ClR M c) (hT : TR M tx n most s) (hf : ∀ f, newP c s = .inl f → ∀ M2, ftR M2 f → RoR M M2 → Q false M2)
    (hs : ∀ l, newP c s = .inr l → ∀ M2, TR M2 tx n most (nx tx n most s) → NxR (wL M 238 o (lN (b27 l))) M2 → Q true M2) : S_X12_readNew (d + 3) (nI o) M (zB Q) := by
  have h24 := hc.1.2.2.2.1
  have h4 := hc.1.2.2.2.2.1
  have hzl : zl 238 = 28 := by decide
  refine t_X12_readNew (e_X12_isName (d := d) hT ⟨fun e => ?_, fun e => e_X12_bad1 hT (fun M2 h1 h2 => zbr (hf _ ?_ M2 h1 h2))⟩)
  · obtain ⟨l, hl⟩ := Option.isSome_iff_exists.mp e
    obtain ⟨e2, hw, h12, -⟩ := nmS_some hT.2 hl
    rw [h12, hC.2.1.2.2.2.1]
    refine c_X12_findIn (o := 0) (by decide) (by rw [hzl]; omega) (by rw [hzl]; decide) ?_
    rw [ixW_R (nmsR_k hc hC) hw]
    have hbad : ¬ (ixN (kyN c.2.1) l = none ∧ ixN (prN c.2.1) l = none) → S_X12_bad (d + 2) 3 M (zB (fun r27 M28 => zB Q (some (.int (bi r27))) M28)) := fun q => e_X12_bad (k := 3) hT (fun M2 h1 h3 => zbr (hf _ (by unfold newP; rw [hl]; simp only []; rw [if_neg q]) M2 (by rw [if_neg (by omega)] at h1; exact h1) h3))
    cases h1 : ixN (kyN c.2.1) l with
    | some i =>
      have := (ixN_lt h1).1
      exact ⟨fun _ => hbad (fun q => by rw [h1] at q; cases q.1), fun q => absurd q (nI_m1 (by omega))⟩
    | none =>
      refine ⟨fun q => absurd rfl q, fun _ => ?_⟩
      rw [h12, hC.2.1.2.2.2.2.1]
      refine c_X12_findIn (o := 24) (by decide) (by rw [hzl]; omega) (by rw [hzl]; decide) ?_
      rw [ixW_R (nmsR_p hc hC) hw]
      cases h3 : ixN (prN c.2.1) l with
      | some i =>
        have := (ixN_lt h3).1
        exact ⟨fun q => absurd q (nI_m1 (by omega)), fun _ => hbad (fun q => by rw [h3] at q; cases q.2)⟩
      | none =>
        refine ⟨fun _ => ⟨nIin ho (by omega), ?_⟩, fun q => absurd rfl q⟩
        rw [nI_clamp (by omega), h12]
        rintro M1 rfl
        have eo : newP c s = .inr l := by unfold newP; rw [hl]; simp only []; rw [if_pos ⟨h1, h3⟩]
        exact e_X12_go (d := d + 1) (TR_o (M2 := wL M 238 o (lN (b27 l))) hT rfl rfl (wL_ne _ (by omega))) (by omega) (fun M2 g1 g2 => zbt (hs l eo M2 g2 g1))
  · unfold newP
    have : nmS s = none := by
      cases q : nmS s with
      | none => rfl
      | some l => rw [q] at e; cases e
    rw [this]
theorem fD_w {F : Nat → Int32} {o : Nat} {x : Int32} (ho : o < 5) (h : fD M F) : fD (wI M 232 o x) F := by
  obtain ⟨f1, f2, f3⟩ := h
  exact ⟨by rw [wI_1, if_neg (by omega)]; exact f1, fun p hp => by rw [wI_1, if_neg (by omega)]; exact f2 p hp, fun i hi => ⟨by rw [wI_1, if_neg (by omega)]; exact (f3 i hi).1, by rw [wI_1, if_neg (by omega)]; exact (f3 i hi).2⟩⟩
theorem p2_key {Q : Bool → zMem → Prop} (h2 : s.1.1 = 2) (hc : okCl B c) (hC : ClR M c) (hT : TR M tx n most s) (h : FPosR tx n most Q M (keyP tx n most c s)) : S_X12_readKey (d + 4) M (zB Q) := by
  have h24 := hc.1.2.2.2.1
  refine t_X12_readKey (p2_readFirst (d := d + 1) (o := 0) (m := 24) (by omega) hC.2.1.2.2.2.1 h24 (by omega) h2 hT (fun q M2 g1 g2 => ⟨fun _ => zbf (h.fl ?_ (RcS.refl M) g1 g2), fun w => (by cases w)⟩) (fun q M1 hT1 n1 => ⟨fun w => (by cases w), fun _ => ?_⟩))
  · unfold keyP; rw [if_pos (by omega)]
  have hC1 := ClR_ro hC n1.1
  rw [hC1.2.1.2.2.2.1]
  refine p2_readNew (d := d) (o := (kyN c.2.1).length) (by omega) hc hC1 hT1 (fun f hf M2 g1 g2 => ⟨fun w => (by cases w), fun _ => zbf (h.fl ?_ n1.ro.rc g1 g2)⟩) (fun l hl M2 hT2 n2 => ⟨fun _ => ?_, fun w => (by cases w)⟩)
  · unfold keyP; rw [if_neg (by omega), hf]
  rintro M3 rfl
  have e2 : keyP tx n most c s = .inr ((c.1, (btN c.2.1, pgN c.2.1, ruN c.2.1, kyN c.2.1 ++ [l], prN c.2.1), c.2.2), nx tx n most (nx tx n most s)) := by
    unfold keyP; rw [if_neg (by omega), hl]
  have r232 : M2.1 232 = M1.1 232 := n2.1.1 232 (by omega)
  have r238 : M2.2 238 = (wL M1 238 (kyN c.2.1).length (lN (b27 l))).2 238 := n2.1.2 238 (by omega)
  have r241 : M2.1 241 = M1.1 241 := n2.1.1 241 (by omega)
  obtain ⟨b1, b2, b3, b4, b5, b6, b7⟩ := hC1.2.1
  refine zbt (h.2 _ e2 _ (TR_o hT2 (wI_ne _ (by omega)) (wI_ne _ (by omega)) rfl) ⟨fun v hv => ?_, ⟨?_, ?_, ?_, ?_, ?_, fun k hk => ?_, fun p hp => ?_⟩, fD_w (by omega) ?_, hC1.2.2.2⟩ (((n1.ro.rc.trans ((RcS.refl M1).l)).trans n2.ro.rc).w (by omega)))
  · rw [wI_ne _ (by omega), r241]; exact hC1.1 v hv
  · rw [wI_1, if_neg (by omega), r232]; exact b1
  · rw [wI_1, if_neg (by omega), r232]; exact b2
  · rw [wI_1, if_neg (by omega), r232]; exact b3
  · rw [wI_1, if_pos ⟨rfl, rfl⟩, r232, b4, nI_1]
    show nI ((kyN c.2.1).length + 1) = nI (kyN c.2.1 ++ [l]).length
    rw [List.length_append]; rfl
  · rw [wI_1, if_neg (by omega), r232]; exact b5
  · have hk : k < (kyN c.2.1 ++ [l]).length := hk
    rw [List.length_append, List.length_singleton] at hk
    show M2.2 238 k = lN (b27 ((kyN c.2.1 ++ [l]).getD k []))
    rw [r238, wL_2, getD_snoc]
    by_cases q : k = (kyN c.2.1).length
    · rw [if_pos ⟨rfl, q⟩, if_pos q]
    · rw [if_neg (fun w => q w.2), if_neg q]; exact b6 k (by omega)
  · show M2.2 238 (24 + p) = _
    rw [r238, wL_2, if_neg (by omega)]; exact b7 p hp
  · have := hC1.2.2.1
    unfold fD at this ⊢
    rw [r232]; exact this
theorem p2_peer {Q : Bool → zMem → Prop} (h2 : s.1.1 = 2) (hc : okCl B c) (hC : ClR M c) (hT : TR M tx n most s) (h : FPosR tx n most Q M (perP tx n most c s)) : S_X12_readPeer (d + 4) M (zB Q) := by
  have h4 := hc.1.2.2.2.2.1
  have h24 := hc.1.2.2.2.1
  refine t_X12_readPeer (p2_readFirst (d := d + 1) (o := 1) (m := 4) (by omega) hC.2.1.2.2.2.2.1 (by omega) (by omega) h2 hT (fun q M2 g1 g2 => ⟨fun _ => zbf (h.fl ?_ (RcS.refl M) g1 g2), fun w => (by cases w)⟩) (fun q M1 hT1 n1 => ⟨fun w => (by cases w), fun _ => ?_⟩))
  · unfold perP; rw [if_pos (by omega)]
  have hC1 := ClR_ro hC n1.1
  rw [hC1.2.1.2.2.2.2.1, show (24 : Int32) = nI 24 from rfl, nI_add]
  refine p2_readNew (d := d) (o := 24 + (prN c.2.1).length) (by omega) hc hC1 hT1 (fun f hf M2 g1 g2 => ⟨fun w => (by cases w), fun _ => zbf (h.fl ?_ n1.ro.rc g1 g2)⟩) (fun l hl M2 hT2 n2 => ⟨fun _ => ?_, fun w => (by cases w)⟩)
  · unfold perP; rw [if_neg (by omega), hf]
  rintro M3 rfl
  have e2 : perP tx n most c s = .inr ((c.1, (btN c.2.1, pgN c.2.1, ruN c.2.1, kyN c.2.1, prN c.2.1 ++ [l]), c.2.2), nx tx n most (nx tx n most s)) := by
    unfold perP; rw [if_neg (by omega), hl]
  have r232 : M2.1 232 = M1.1 232 := n2.1.1 232 (by omega)
  have r238 : M2.2 238 = (wL M1 238 (24 + (prN c.2.1).length) (lN (b27 l))).2 238 := n2.1.2 238 (by omega)
  have r241 : M2.1 241 = M1.1 241 := n2.1.1 241 (by omega)
  obtain ⟨b1, b2, b3, b4, b5, b6, b7⟩ := hC1.2.1
  refine zbt (h.2 _ e2 _ (TR_o hT2 (wI_ne _ (by omega)) (wI_ne _ (by omega)) rfl) ⟨fun v hv => ?_, ⟨?_, ?_, ?_, ?_, ?_, fun k hk => ?_, fun p hp => ?_⟩, fD_w (by omega) ?_, hC1.2.2.2⟩ (((n1.ro.rc.trans ((RcS.refl M1).l)).trans n2.ro.rc).w (by omega)))
  · rw [wI_ne _ (by omega), r241]; exact hC1.1 v hv
  · rw [wI_1, if_neg (by omega), r232]; exact b1
  · rw [wI_1, if_neg (by omega), r232]; exact b2
  · rw [wI_1, if_neg (by omega), r232]; exact b3
  · rw [wI_1, if_neg (by omega), r232]; exact b4
  · rw [wI_1, if_pos ⟨rfl, rfl⟩, r232, b5, nI_1]
    show nI ((prN c.2.1).length + 1) = nI (prN c.2.1 ++ [l]).length
    rw [List.length_append]; rfl
  · have hk : k < (kyN c.2.1).length := hk
    show M2.2 238 k = _
    rw [r238, wL_2, if_neg (by omega)]; exact b6 k hk
  · have hp : p < (prN c.2.1 ++ [l]).length := hp
    rw [List.length_append, List.length_singleton] at hp
    show M2.2 238 (24 + p) = lN (b27 ((prN c.2.1 ++ [l]).getD p []))
    rw [r238, wL_2, getD_snoc]
    by_cases q : p = (prN c.2.1).length
    · rw [if_pos ⟨rfl, by omega⟩, if_pos q]
    · rw [if_neg (fun w => q (by omega)), if_neg q]; exact b7 p (by omega)
  · have := hC1.2.2.1
    unfold fD at this ⊢
    rw [r232]; exact this
theorem p2_has {Q : Bool → zMem → Prop} (h2 : s.1.1 = 2) (hc : okCl B c) (hC : ClR M c) (hT : TR M tx n most s) (h : FPosR tx n most Q M (hasP tx n most c s)) : S_X12_readHas (d + 5) M (zB Q) := by
  have h24 := hc.1.2.2.2.1
  have h4 := hc.1.2.2.2.2.1
  refine t_X12_readHas (e_X12_go (d := d + 3) hT (by omega) (fun M1 hn1 hT1 => ?_))
  have hC1 := ClR_ro hC hn1.1
  have S1 := hn1.ro.rc
  rw [hC1.2.1.2.2.2.2.1, show (24 : Int32) = nI 24 from rfl]
  refine e_X12_isHere (d := d + 1) (by omega) (nmsR_p hc hC1) hT1 (fun f hf M2 g1 g2 => ⟨fun w => (by cases w), fun _ => zbf (h.fl ?_ S1 g1 g2)⟩) (fun p hp hp2 hk2 M2 hT2 e13 r2 => ⟨fun _ => ?_, fun w => (by cases w)⟩)
  · unfold hasP; rw [hf]
  have hC2 := ClR_ro hC1 r2.1
  have S2 := S1.trans r2.rc
  rw [e13]
  refine e_X12_go (d := d + 3) hT2 (by omega) (fun M3 hn3 hT3 => ?_)
  have hC3 := ClR_ro hC2 hn3.1
  have S3 := S2.trans hn3.ro.rc
  rw [hC3.2.1.2.2.2.1]
  refine e_X12_isHere (d := d + 1) (o := 0) (by omega) (nmsR_k hc hC3) hT3 (fun f hf M4 g1 g2 => ⟨fun w => (by cases w), fun _ => zbf (h.fl ?_ S3 g1 g2)⟩) (fun k hk hk3 hk4 M4 hT4 e13b r4 => ⟨fun _ => ?_, fun w => (by cases w)⟩)
  · unfold hasP; rw [hp]; simp only [hf]
  have hC4 := ClR_ro hC3 r4.1
  have S4 := S3.trans r4.rc
  have eo : (106 : Int32) + (nI 24 * nI p + nI k) = nI (106 + (24 * p + k)) := by rw [pk_mul, nI_add, show (106 : Int32) = nI 106 from rfl, nI_add]
  have ev : (10 : Int32) + (nI 24 * nI p + nI k) = nI (10 + (24 * p + k)) := by rw [pk_mul, nI_add, show (10 : Int32) = nI 10 from rfl, nI_add]
  have hin : vp_in (nI (106 + (24 * p + k))) 202 := nIin (by omega) (by omega)
  rw [e13b, eo, ev, nI_clamp (by omega), (hC4.2.2.1.2.2 (24 * p + k) (by omega)).2]
  refine ⟨hin, fun e => ?_, fun e => e_X12_bad (k := 3) hT4 (fun M5 g1 g2 => zbr (h.fl ?_ S4 (by rw [if_neg (by omega)] at g1; exact g1) g2))⟩
  rotate_left
  · unfold hasP; rw [hp]; simp only [hk]; rw [if_pos (show hasF c.2.2 p k = true from decide_eq_true e)]
  have e0 : hasF c.2.2 p k = false := decide_eq_false (fun q => q e)
  refine e_X12_go (d := d + 3) hT4 (by omega) (fun M5 hn5 hT5 => ?_)
  have hC5 := ClR_ro hC4 hn5.1
  have S5 := S4.trans hn5.ro.rc
  refine e_X12_readNumber (d := d + 2) (lo := 0) (hi := 999) (by omega) (by omega) hT5 (fun f hf M6 g1 g2 => c_X12_noted (by omega) false (fun _ => ⟨fun w => (by cases w), fun _ => zbf (h.fl ?_ S5 g1 g2)⟩) (fun w => (by cases w))) (fun v hv hv2 M6 hT6 e13c r6 => c_X12_noted (by omega) true (fun w => (by cases w)) (fun _ => ⟨fun _ => ?_, fun w => (by cases w)⟩))
  · unfold hasP; rw [hp]; simp only [hk]; rw [if_neg (by rw [e0]; decide), hf]
  have hC6 := ClR_ro hC5 r6.1
  have S6 := S5.trans r6.rc
  rw [e13c]
  rintro M7 rfl
  refine ⟨hin, ?_⟩
  rintro M8 rfl
  have e2 : hasP tx n most c s = .inr ((c.1, c.2.1, writeF c.2.2 p k (nI v)), nx tx n most (nx tx n most (nx tx n most (nx tx n most s)))) := by
    unfold hasP; rw [hp]; simp only [hk]; rw [if_neg (by rw [e0]; decide), hv]
  obtain ⟨b1, b2, b3, b4, b5, b6, b7⟩ := hC6.2.1
  obtain ⟨f1, f2, f3⟩ := hC6.2.2.1
  have g5 : (wI (wI M6 232 (10 + (24 * p + k)) (nI v)) 232 5 ((wI M6 232 (10 + (24 * p + k)) (nI v)).1 232 5 + 1)).1 232 5 = c.2.2 2 + 1 := by rw [wI_1, if_pos ⟨rfl, rfl⟩, wI_1, if_neg (by omega), f1]
  rw [g5]
  generalize hN : wI (wI M6 232 (10 + (24 * p + k)) (nI v)) 232 5 ((wI M6 232 (10 + (24 * p + k)) (nI v)).1 232 5 + 1) = N7 at g5 ⊢
  have r7 : ∀ j, j ≠ 5 → j ≠ 10 + (24 * p + k) → N7.1 232 j = M6.1 232 j := fun j h5 h10 => by rw [← hN, wI_1, if_neg (by omega), wI_1, if_neg (by omega)]
  have g10 : N7.1 232 (10 + (24 * p + k)) = nI v := by rw [← hN, wI_1, if_neg (by omega), wI_1, if_pos ⟨rfl, rfl⟩]
  have o7 : ∀ z, z ≠ 232 → N7.1 z = M6.1 z := fun z hz => by rw [← hN, wI_ne _ hz, wI_ne _ hz]
  have l7 : N7.2 = M6.2 := by rw [← hN]; rfl
  have S7 : RcS M N7 := by rw [← hN]; exact (S6.w (by omega)).w (by omega)
  have r8 : ∀ j, j ≠ 5 → j ≠ 10 + (24 * p + k) → j ≠ 106 + (24 * p + k) → (wI N7 232 (106 + (24 * p + k)) (c.2.2 2 + 1)).1 232 j = M6.1 232 j := fun j h5 h10 h106 => by rw [wI_1, if_neg (by omega)]; exact r7 j h5 h10
  have wF : ∀ j, j ≠ 2 → j ≠ 11 + (24 * p + k) → j ≠ 107 + (24 * p + k) → writeF c.2.2 p k (nI v) j = c.2.2 j := fun j a b c => by unfold writeF; rw [upd_n _ _ c, upd_n _ _ b, upd_n _ _ a]
  refine zbt (h.2 _ e2 _ (TR_o hT6 (by rw [wI_ne _ (by omega), o7 _ (by omega)]) (by rw [wI_ne _ (by omega), o7 _ (by omega)]) (by rw [wI_2, l7])) ⟨fun w hw => by rw [wI_ne _ (by omega), o7 _ (by omega)]; exact hC6.1 w hw, ⟨?_, ?_, ?_, ?_, ?_, fun i hi => by rw [wI_2, l7]; exact b6 i hi, fun i hi => by rw [wI_2, l7]; exact b7 i hi⟩, ⟨?_, fun q hq => ?_, fun i hi => ⟨?_, ?_⟩⟩, fz_write hC6.2.2.2⟩ (S7.w (by omega)))
  · rw [r8 _ (by omega) (by omega) (by omega)]; exact b1
  · rw [r8 _ (by omega) (by omega) (by omega)]; exact b2
  · rw [r8 _ (by omega) (by omega) (by omega)]; exact b3
  · rw [r8 _ (by omega) (by omega) (by omega)]; exact b4
  · rw [r8 _ (by omega) (by omega) (by omega)]; exact b5
  · rw [wI_1, if_neg (by omega), g5]
    show _ = writeF c.2.2 p k (nI v) 2
    unfold writeF; rw [upd_n _ _ (by omega), upd_n _ _ (by omega), upd_s]
  · rw [r8 _ (by omega) (by omega) (by omega), f2 q hq]
    exact (wF _ (by omega) (by omega) (by omega)).symm
  · by_cases q : i = 24 * p + k
    · rw [q, wI_1, if_neg (by omega), g10]
      show _ = writeF c.2.2 p k (nI v) (11 + (24 * p + k))
      unfold writeF; rw [upd_n _ _ (by omega), upd_s]
    · rw [r8 _ (by omega) (by omega) (by omega), (f3 i hi).1]
      exact (wF _ (by omega) (by omega) (by omega)).symm
  · by_cases q : i = 24 * p + k
    · rw [q, wI_1, if_pos ⟨rfl, rfl⟩]
      show _ = writeF c.2.2 p k (nI v) (107 + (24 * p + k))
      unfold writeF; rw [upd_s]
    · rw [r8 _ (by omega) (by omega) (by omega), (f3 i hi).2]
      exact (wF _ (by omega) (by omega) (by omega)).symm
theorem or_xor {x : Int32} {q : Nat} (hq : q < 32) (h : bt x q = false) : x ||| ((1 : Int32) <<< (nI q &&& 31)) = x ^^^ ((1 : Int32) <<< (nI q &&& 31)) := by
  apply b_ext
  intro i hi
  rw [b_or, b_xor, bit_1 hq hi]
  by_cases e : i = q
  · rw [e, h]; simp
  · rw [decide_eq_false e, Bool.or_false]; simp
theorem p2_cut {Q : Bool → zMem → Prop} (h2 : s.1.1 = 2) (hc : okCl B c) (hC : ClR M c) (hT : TR M tx n most s) (h : FPosR tx n most Q M (cutP tx n most c s)) : S_X12_readCut (d + 5) M (zB Q) := by
  have h4 := hc.1.2.2.2.2.1
  refine t_X12_readCut (e_X12_go (d := d + 3) hT (by omega) (fun M1 hn1 hT1 => ?_))
  have hC1 := ClR_ro hC hn1.1
  have S1 := hn1.ro.rc
  rw [hC1.2.1.2.2.2.2.1, show (24 : Int32) = nI 24 from rfl]
  refine e_X12_isHere (d := d + 1) (by omega) (nmsR_p hc hC1) hT1 (fun f hf M2 g1 g2 => ⟨fun w => (by cases w), fun _ => zbf (h.fl ?_ S1 g1 g2)⟩) (fun p hp hp2 hk2 M2 hT2 e13 r2 => ⟨fun _ => ?_, fun w => (by cases w)⟩)
  · unfold cutP; rw [hf]
  have hC2 := ClR_ro hC1 r2.1
  have S2 := S1.trans r2.rc
  rw [e13]
  refine e_X12_go (d := d + 3) hT2 (by omega) (fun M3 hn3 hT3 => ?_)
  have hC3 := ClR_ro hC2 hn3.1
  have S3 := S2.trans hn3.ro.rc
  rw [hC3.2.1.2.2.2.2.1]
  refine e_X12_isHere (d := d + 1) (by omega) (nmsR_p hc hC3) hT3 (fun f hf M4 g1 g2 => ⟨fun w => (by cases w), fun _ => zbf (h.fl ?_ S3 g1 g2)⟩) (fun q hq hq2 hk4 M4 hT4 e13b r4 => ⟨fun _ => ?_, fun w => (by cases w)⟩)
  · unfold cutP; rw [hp]; simp only [hf]
  have hC4 := ClR_ro hC3 r4.1
  have S4 := S3.trans r4.rc
  have e6 : ∀ a : Nat, (6 : Int32) + nI a = nI (6 + a) := fun a => by rw [show (6 : Int32) = nI 6 from rfl, nI_add]
  have hin : ∀ a : Nat, a < 4 → vp_in (nI (6 + a)) 202 := fun a ha => nIin (by omega) (by omega)
  rw [e13b, nI_eq (by omega) (by omega), e6]
  have hbad : (p = q ∨ cutB c.2.2 p q = true) → S_X12_bad (d + 4) 3 M4 (zB (fun r32 M33 => zB Q (some (.int (bi r32))) M33)) := fun w => e_X12_bad (k := 3) hT4 (fun M5 g1 g2 => zbr (h.fl (by unfold cutP; rw [hp]; simp only [hq]; rw [if_pos w]) S4 (by rw [if_neg (by omega)] at g1; exact g1) g2))
  refine ⟨fun w => hbad (Or.inl w.symm), fun hne => ⟨hin p (by omega), ?_⟩⟩
  rw [nI_clamp (by omega), hC4.2.2.1.2.1 p (by omega)]
  refine c_X12_has (by omega) ⟨fun w => ?_, fun w => hbad (Or.inr w)⟩
  have hcut : cutB c.2.2 p q = false := w
  refine ⟨hin p (by omega), hin p (by omega), ?_⟩
  rw [hC4.2.2.1.2.1 p (by omega), e13b, or_xor (by omega) w]
  rintro M5 rfl
  have t13 : (wI M4 232 (6 + p) (c.2.2 (3 + p) ^^^ ((1 : Int32) <<< (nI q &&& 31)))).1 229 13 = nI q := by rw [wI_ne _ (by omega)]; exact e13b
  rw [t13, e6]
  refine ⟨hin q (by omega), hin q (by omega), ?_⟩
  rw [nI_clamp (by omega)]
  have hcut2 : bt (c.2.2 (3 + q)) p = false := by
    have := hc.2.2.2.2.2 p q (by omega) (by omega)
    rw [hcut] at this
    exact this.symm
  have g6 : (wI M4 232 (6 + p) (c.2.2 (3 + p) ^^^ ((1 : Int32) <<< (nI q &&& 31)))).1 232 (6 + q) = c.2.2 (3 + q) := by rw [wI_1, if_neg (by omega)]; exact hC4.2.2.1.2.1 q (by omega)
  rw [g6, or_xor (by omega) hcut2]
  rintro M6 rfl
  have e2 : cutP tx n most c s = .inr ((c.1, c.2.1, turnF c.2.2 p q), nx tx n most (nx tx n most (nx tx n most s))) := by
    unfold cutP; rw [hp]; simp only [hq]; rw [if_neg (by rw [hcut]; simp; exact fun w => hne w.symm)]
  obtain ⟨b1, b2, b3, b4, b5, b6, b7⟩ := hC4.2.1
  obtain ⟨f1, f2, f3⟩ := hC4.2.2.1
  have hC6 : ClR (wI (wI M4 232 (6 + p) (c.2.2 (3 + p) ^^^ ((1 : Int32) <<< (nI q &&& 31)))) 232 (6 + q) (c.2.2 (3 + q) ^^^ ((1 : Int32) <<< (nI p &&& 31)))) (c.1, c.2.1, turnF c.2.2 p q) := by
    have r8 : ∀ j, j ≠ 6 + p → j ≠ 6 + q → (wI (wI M4 232 (6 + p) (c.2.2 (3 + p) ^^^ ((1 : Int32) <<< (nI q &&& 31)))) 232 (6 + q) (c.2.2 (3 + q) ^^^ ((1 : Int32) <<< (nI p &&& 31)))).1 232 j = M4.1 232 j := fun j h5 h10 => by rw [wI_1, if_neg (by omega), wI_1, if_neg (by omega)]
    have wF : ∀ j, j ≠ 3 + p → j ≠ 3 + q → turnF c.2.2 p q j = c.2.2 j := fun j a b => by unfold turnF; rw [upd_n _ _ b, upd_n _ _ a]
    refine ⟨fun w hw => by rw [wI_ne _ (by omega), wI_ne _ (by omega)]; exact hC4.1 w hw, ⟨?_, ?_, ?_, ?_, ?_, b6, b7⟩, ⟨?_, fun a ha => ?_, fun i hi => ⟨?_, ?_⟩⟩, fz_turn (by omega) (by omega) hC4.2.2.2⟩
    · rw [r8 _ (by omega) (by omega)]; exact b1
    · rw [r8 _ (by omega) (by omega)]; exact b2
    · rw [r8 _ (by omega) (by omega)]; exact b3
    · rw [r8 _ (by omega) (by omega)]; exact b4
    · rw [r8 _ (by omega) (by omega)]; exact b5
    · rw [r8 _ (by omega) (by omega), f1]; exact (wF _ (by omega) (by omega)).symm
    · by_cases e : a = q
      · rw [e, wI_1, if_pos ⟨rfl, rfl⟩]
        show _ = turnF c.2.2 p q (3 + q)
        unfold turnF; rw [upd_s, upd_n _ _ (by omega)]
      · rw [wI_1, if_neg (by omega)]
        by_cases e2 : a = p
        · rw [e2, wI_1, if_pos ⟨rfl, rfl⟩]
          show _ = turnF c.2.2 p q (3 + p)
          unfold turnF; rw [upd_n _ _ (by omega), upd_s]
        · rw [wI_1, if_neg (by omega), f2 a ha]; exact (wF _ (by omega) (by omega)).symm
    · rw [r8 _ (by omega) (by omega), (f3 i hi).1]; exact (wF _ (by omega) (by omega)).symm
    · rw [r8 _ (by omega) (by omega), (f3 i hi).2]; exact (wF _ (by omega) (by omega)).symm
  refine e_X12_go (d := d + 3) (TR_o hT4 (by rw [wI_ne _ (by omega), wI_ne _ (by omega)]) (by rw [wI_ne _ (by omega), wI_ne _ (by omega)]) rfl) (by omega) (fun M7 hn7 hT7 => zbt ?_)
  exact h.2 _ e2 M7 hT7 (ClR_ro hC6 hn7.1) (((S4.w (by omega)).w (by omega)).trans hn7.ro.rc)
end
