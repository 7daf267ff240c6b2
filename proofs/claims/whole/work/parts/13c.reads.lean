-- ===== the calls that only read: what is so =====
theorem cntF_len (f : Nat → Bool) : ∀ (c i a : Nat), forS (fun k s => if f k then s + 1 else s) c i (nI a) = nI (a + ((List.range' i c).filter f).length)
  | 0, i, a => rfl
  | c + 1, i, a => by
    show forS (fun k s => if f k then s + 1 else s) c (i + 1) (if f i then nI a + 1 else nI a) = _
    rw [List.range'_succ, List.filter_cons]
    cases h : f i with
    | true => rw [if_pos rfl, if_pos rfl, nI_1, cntF_len f c (i + 1) (a + 1), List.length_cons]; congr 1; omega
    | false => rw [if_neg (by decide), if_neg (by decide), cntF_len f c (i + 1) a]
theorem cntF_range (f : Nat → Bool) (n : Nat) : cntF f n = nI ((List.range n).filter f).length := by
  unfold cntF
  rw [show (0 : Int32) = nI 0 from rfl, cntF_len f n 0 0, Nat.zero_add, List.range_eq_range']
theorem ids_t63 : ∀ p, p < 4 → 65 + 12 * p ∈ iX9 := by decide
theorem ids_t114 : ∀ p, p < 4 → 121 + 12 * p ∈ iX9 := by decide
theorem PC_t63 {M : zMem} {P : zPl} {F : Nat → Int32} {p : Nat} (hM : PC M 63 P F) (hp : p < 4) : M.1 (65 + 12 * p) 3 = nI (ksP P F p).length ∧ M.1 (65 + 12 * p) 12 = nI (trP P F p).length ∧ nodsC M (65 + 12 * p) 0 (trP P F p) := by
  have h := PC_tree hM hp
  rw [pT63.1] at h
  exact h
theorem PC_t114 {M : zMem} {P : zPl} {F : Nat → Int32} {p : Nat} (hM : PC M 114 P F) (hp : p < 4) : M.1 (121 + 12 * p) 3 = nI (ksP P F p).length ∧ M.1 (121 + 12 * p) 12 = nI (trP P F p).length ∧ nodsC M (121 + 12 * p) 0 (trP P F p) := by
  have h := PC_tree hM hp
  rw [pT63.2.2.1] at h
  exact h
section
variable {d B b p q k : Nat} {M M2 : zMem} {N : zNm} {F : Nat → Int32} {P : zPl} {us : List (Nat → Int32)} {Q : Int32 → zMem → Prop} {x y z : Int32}
theorem od_perm (hP : okP P) : ((List.range (nP P)).map (odP P)).Perm (List.range (nP P)) := by
  refine (List.perm_ext_iff_of_nodup ?_ List.nodup_range).mpr (fun a => ?_)
  · rw [List.nodup_iff_pairwise_ne, List.pairwise_map]
    refine List.Pairwise.imp_of_mem ?_ (List.nodup_iff_pairwise_ne.mp List.nodup_range)
    intro i j hi hj hne e
    exact hne (hP.2.2.2.2.2.1 i j (List.mem_range.mp hi) (List.mem_range.mp hj) e)
  · constructor
    · intro h
      obtain ⟨i, h1, h2⟩ := List.mem_map.mp h
      rw [← h2]
      exact List.mem_range.mpr (hP.2.2.2.2.1 i (List.mem_range.mp h1))
    · intro h
      obtain ⟨i, h1, h2⟩ := pigeon (nP P) (odP P) hP.2.2.2.2.1 hP.2.2.2.2.2.1 a (List.mem_range.mp h)
      exact List.mem_map.mpr ⟨i, List.mem_range.mpr h1, h2⟩
theorem ksP_cnt (hP : okP P) : nI (ksP P F p).length = cntF (hasF F p) (nP P) := by
  rw [cntF_range]
  congr 1
  unfold ksP keysT
  exact ((od_perm hP).filter _).length_eq
theorem likeF_congr {r r2 : Nat → Int32} {m : Nat} (hp : p < m) (h : ∀ q, q < m → r q = r2 q) : likeF r m p = likeF r2 m p := bitsF_congr (fun q hq => by rw [h q hq, h p hp])
theorem manyF_congr {r r2 : Nat → Int32} {m : Nat} (h : ∀ q, q < m → r q = r2 q) : manyF r m = manyF r2 m := cntF_congr (fun q hq => by rw [likeF_congr hq h])
theorem e_X4_sameRootBits (hb : b ∈ iX4) (hp : p < mP P) (hM : PC M b P F) (h : Q (likeF (rtP P F) (mP P) p) M) : S_X4_sameRootBits (d + 1) b (nI p) M (zI Q) := by
  have h4 := hM.1.2.1
  refine c_X4_sameRootBits hb (by omega) (PC_peers hM) ?_
  rw [likeF_congr hp (fun q hq => rtP_F hM.1 (by omega) hM.2.2.1 (plnC_kl hM.2.1))]
  exact h
theorem e_X4_rootKinds (hb : b ∈ iX4) (hM : PC M b P F) (h : Q (manyF (rtP P F) (mP P)) M) : S_X4_rootKinds (d + 2) b M (zI Q) := by
  have h4 := hM.1.2.1
  refine c_X4_rootKinds hb (PC_peers hM) ?_
  rw [manyF_congr (fun q hq => rtP_F hM.1 (by omega) hM.2.2.1 (plnC_kl hM.2.1))]
  exact h
theorem e_X12_rootsLike (hp : p < mP P) (hM : PR M P F) (h : ∀ M2, LayOnly M M2 → Q (likeF (rtP P F) (mP P) p) M2) : S_X12_rootsLike (d + 30) (nI p) M (zI Q) := by
  have h4 := hM.1.2.1
  refine c_X12_rootsLike (by omega) (plnR_plan hM.1 hM.2.1) hM.2.1.2.1 h4 (fun M2 l => ?_)
  rw [likeF_congr hp (fun q hq => rtP_F hM.1 (by omega) hM.2.2 (plnR_kl hM.2.1))]
  exact h M2 l
theorem e_X12_rootMany (hM : PR M P F) (h : ∀ M2, LayOnly M M2 → Q (manyF (rtP P F) (mP P)) M2) : S_X12_rootMany (d + 31) M (zI Q) := by
  have h4 := hM.1.2.1
  refine c_X12_rootMany (plnR_plan hM.1 hM.2.1) hM.2.1.2.1 h4 (fun M2 l => ?_)
  rw [manyF_congr (fun q hq => rtP_F hM.1 (by omega) hM.2.2 (plnR_kl hM.2.1))]
  exact h M2 l
theorem e_X12_layTree {tt : Nat} (htt : tt < 2) (hp : p < 4) (hM : PR M P F) (h : ∀ M2, M2.1 246 tt = nI (trP P F p).length → nodsR M2 (24 * tt) 0 (trP P F p) → layR tt M M2 → Q (rtP P F p) M2) : S_X12_layTree (d + 28) (nI tt) (nI p) M (zI Q) := by
  refine c_X12_layTree htt hp (plnR_plan hM.1 hM.2.1) (fun M2 t l => ?_)
  have e1 : rootT (M.1 243) (digF (M.1 242) (fR M) p) (keysT (odP P) (fR M) p (nP P)) = rtP P F p := rtP_F hM.1 hp hM.2.2 (plnR_kl hM.2.1)
  have e2 : treeT (M.1 243) (digF (M.1 242) (fR M) p) (keysT (odP P) (fR M) p (nP P)) = trP P F p := trP_F hM.1 hp hM.2.2 (plnR_kl hM.2.1)
  unfold treeR at t
  rw [e2] at t
  rw [e1]
  exact h M2 t.1 t.2 l
theorem e_X12_visitedOf (hp : p < 4) (hq : q < 4) (hM : PR M P F) (h : ∀ M2, M2.1 246 0 = nI (trP P F p).length → nodsR M2 0 0 (trP P F p) → LayOnly M M2 → Q (visT (trP P F p) (trP P F q)) M2) : S_X12_visitedOf (d + 29) (nI p) (nI q) M (zI Q) := by
  refine c_X12_visitedOf hp hq (plnR_plan hM.1 hM.2.1) (fun M2 t l => ?_)
  have e2 : treeT (M.1 243) (digF (M.1 242) (fR M) p) (keysT (odP P) (fR M) p (nP P)) = trP P F p := trP_F hM.1 hp hM.2.2 (plnR_kl hM.2.1)
  unfold treeR at t
  rw [e2] at t
  rw [trP_F hM.1 hp hM.2.2 (plnR_kl hM.2.1), trP_F hM.1 hq hM.2.2 (plnR_kl hM.2.1)]
  exact h M2 t.1 t.2 l
theorem e_X4_visitedBits (hb : b ∈ iX4) (hp : p < 4) (hq : q < 4) (hM : PC M b P F) (h : Q (visT (trP P F p) (trP P F q)) M) : S_X4_visitedBits (d + 2) b (nI p) (nI q) M (zI Q) := by
  obtain ⟨-, a1, a2⟩ := PC_tree hM hp
  obtain ⟨-, b1, b2⟩ := PC_tree hM hq
  exact c_X4_visitedBits hb hp hq (trP_len hM.1) (trP_len hM.1) (upsT_tree (trP_len hM.1)) a1 a2 b1 b2 h
theorem twoN_of {m : Nat} (h : twoN x y m = true) (h4 : m ≤ 4) : ∃ p q, p < m ∧ q < m ∧ p ≠ q ∧ x = nI p ∧ y = nI q := by
  simp only [twoN, Bool.and_eq_true, decide_eq_true_eq] at h
  obtain ⟨p, hp, e1⟩ := inN_of h.1 (by omega)
  obtain ⟨q, hq, e2⟩ := inN_of h.2.1 (by omega)
  exact ⟨p, q, hp, hq, fun e => h.2.2 (by rw [e1, e2, e]), e1, e2⟩
theorem JA.lay (h : JA B M N F us) (l : LayOnly M M2) : JA B M2 N F us := h.ro l.ro
-- visits
theorem o_visits (h : JA B M N F us) : S_X11_visits (d + 64) x y M (zI fun r M1 => S_X12_visits (d + 64) x y M1 (zI fun r2 M2 => eqJ B r r2 M2)) := by
  have h4 := h.m4
  refine t_X11_visits (c_X11_areTwo h.c4 ⟨fun e => zii ?_, fun e => ?_⟩)
  · exact t_X12_visits (fun M1 e1 => c_X12_areTwo (e1 ▸ h.w0.r1) h4 ⟨fun _ => zii ⟨rfl, e1 ▸ h.w0.j⟩, fun e2 => (by rw [e] at e2; cases e2)⟩)
  · obtain ⟨p, q, hp, hq, hne, rfl, rfl⟩ := twoN_of e h4
    refine e_X4_visitedBits (by decide) (by omega) (by omega) h.pc (c_bitCount (zii ?_))
    refine t_X12_visits (fun M1 e1 => c_X12_areTwo (e1 ▸ h.w0.r1) h4 ⟨fun e2 => (by rw [e] at e2; cases e2), fun _ => ?_⟩)
    have hw : JA B M1 N F us := e1 ▸ h.w0
    exact e_X12_visitedOf (by omega) (by omega) hw.pr (fun M2 _ _ l => c_X12_bits (zii ⟨rfl, (hw.lay l).j⟩))
-- differs
theorem m_differs (h : JA B M N F us) (hp : p < 4) (hq : q < 4) (hQ : Q (bitsF (fun k => !sameF F p q k) (nP (plOf N))) M) : S_X12_differs_21 (d + 64) (nI p) (nI q) 0 0 M (zI Q) := by
  have h24 := h.n24
  refine for_up (S := fun i s => S_X12_differs_21 (d + 64) (nI p) (nI q) s (nI i) M (zI Q)) (fin := fun s => Q s M) (n := nP (plOf N)) (fun s hs => ?_) (fun i s hi hs => ?_) (nP (plOf N)) 0 0 (by omega) hQ
  · exact t_X12_differs_21 ⟨fun _ => zii hs, fun e => absurd (leY h.r0 (by omega)) e⟩
  · refine t_X12_differs_21 ⟨fun e => absurd e (leN h.r0 hi (by omega)), fun _ => c_X12_areSame hp hq (by omega) ?_⟩
    rw [show sameF (fR M) p q i = sameF F p q i by rw [← h.pr.2.2, sameF_cl hp hq (by omega)], nI_1]
    refine ⟨fun e => ?_, fun e => ?_⟩
    · simp only [e] at hs; exact hs
    · simp only [e] at hs; exact hs
theorem o_differs (h : JA B M N F us) : S_X11_differs (d + 64) x y M (zI fun r M1 => S_X12_differs (d + 64) x y M1 (zI fun r2 M2 => eqJ B r r2 M2)) := by
  have h4 := h.m4
  have h24 := h.n24
  refine t_X11_differs (c_X11_areTwo h.c4 ⟨fun e => zii ?_, fun e => ?_⟩)
  · exact t_X12_differs (fun M1 e1 => c_X12_areTwo (e1 ▸ h.w0.r1) h4 ⟨fun e2 => (by rw [e] at e2; cases e2), fun _ => zii ⟨rfl, e1 ▸ h.w0.j⟩⟩)
  · obtain ⟨p, q, hp, hq, hne, rfl, rfl⟩ := twoN_of e h4
    refine c_X4_differBits (by decide) (by omega) (by omega) h.c3 h24 (zii ?_)
    refine t_X12_differs (fun M1 e1 => c_X12_areTwo (e1 ▸ h.w0.r1) h4 ⟨fun _ => ?_, fun e2 => (by rw [e] at e2; cases e2)⟩)
    have hw : JA B M1 N F us := e1 ▸ h.w0
    refine m_differs hw (by omega) (by omega) ⟨bitsF_congr (fun k hk => ?_), hw.j⟩
    rw [← h.pc.2.2.1, sameF_cl (by omega) (by omega) (by omega)]
-- key
def keyS (N : zNm) (F : Nat → Int32) (x2 : Int32) (k : Nat) : Int32 := if x2 = 0 then lvP (plOf N) k else if x2 = 1 then nI (plF (fN N) (kyN N).length k) else if x2 = 2 then bitsF (fun p => hasF F p k) (mP (plOf N)) else -1
theorem o_key (h : JA B M N F us) : S_X11_key (d + 64) x y M (zI fun r M1 => S_X12_key (d + 64) x y M1 (zI fun r2 M2 => eqJ B r r2 M2)) := by
  have h4 := h.m4
  have h24 := h.n24
  refine t_X11_key (c_X11_isKey h.c3 ⟨fun e => ?_, fun e => zii ?_⟩)
  rotate_left
  · exact t_X12_key (fun M1 e1 => c_X12_isKey (e1 ▸ h.w0.r0) h24 ⟨fun e2 => (by rw [e] at e2; cases e2), fun _ => zii ⟨rfl, e1 ▸ h.w0.j⟩⟩)
  obtain ⟨k, hk, rfl⟩ := inN_of e (by omega)
  have hkN : k < (kyN N).length := hk
  rw [nI_clamp (by omega)]
  have model : ∀ v, v = keyS N F y k → S_X12_key (d + 64) (nI k) y M (zI fun r2 M2 => eqJ B v r2 M2) := by
    intro v hv
    refine t_X12_key (fun M1 e1 => c_X12_isKey (e1 ▸ h.w0.r0) h24 ⟨fun _ => ?_, fun e2 => (by rw [e] at e2; cases e2)⟩)
    have hw : JA B M1 N F us := e1 ▸ h.w0
    rw [nI_clamp (by omega)]
    obtain ⟨-, n2, -, n4⟩ := hw.2.2.2.2.1.2 k hkN
    refine ⟨fun e2 => ⟨nIin (by omega) (by omega), zii ⟨?_, hw.j⟩⟩, fun e2 => ⟨nIin (by omega) (by omega), zii ⟨?_, hw.j⟩⟩, fun e2 => ?_, fun e0 e2 e3 => zii ⟨?_, hw.j⟩⟩
    · rw [hv, e2, n2]; rfl
    · rw [hv, e2, n4]; rfl
    · have hv2 : v = bitsF (fun p => hasF F p k) (mP (plOf N)) := by rw [hv, e2]; rfl
      refine for_up (S := fun i s => S_X12_key_63 (d + 64) (nI k) s (nI i) M1 (zI fun r2 M2 => eqJ B v r2 M2)) (fin := fun s => eqJ B v s M1) (n := mP (plOf N)) (fun s hs => ?_) (fun i s hi hs => ?_) (mP (plOf N)) 0 0 (by omega) ⟨hv2.symm, hw.j⟩
      · exact t_X12_key_63 ⟨fun _ => zii hs, fun e => absurd (leY hw.r1 (by omega)) e⟩
      · refine t_X12_key_63 ⟨fun e => absurd e (leN hw.r1 hi (by omega)), fun _ => c_X12_hasEntry (by omega) (by omega) ?_⟩
        rw [PR_has hw.pr (by omega) (by omega), nI_1]
        refine ⟨fun e => ?_, fun e => ?_⟩
        · simp only [e] at hs; exact hs
        · simp only [e] at hs; exact hs
    · rw [hv]; unfold keyS; rw [if_neg e0, if_neg e2, if_neg e3]
  obtain ⟨-, n2, -, n4⟩ := h.2.2.2.1.2 k hkN
  refine ⟨fun e2 => ⟨nIin (by omega) (by omega), zii (model _ ?_)⟩, fun e2 => ⟨nIin (by omega) (by omega), zii (model _ ?_)⟩, fun e2 => c_X4_holderBits (by decide) (by omega) h.c4 h4 (zii (model _ ?_)), fun e0 e2 e3 => zii (model _ ?_)⟩
  · rw [e2]; exact n2
  · rw [e2]; exact n4
  · rw [e2]; exact bitsF_congr (fun p hp => PC_has h.pc (by omega) (by omega))
  · unfold keyS; rw [if_neg e0, if_neg e2, if_neg e3]
-- path
theorem od_mem (hP : okP P) (hk : k < nP P) (hp : p < 4) (g : hasF F p k = true) : k ∈ ksP P F p := by
  unfold ksP keysT
  exact List.mem_filter.mpr ⟨(od_perm hP).mem_iff.mpr (List.mem_range.mpr hk), g⟩
theorem tree_at (hP : okP P) (hk : k < nP P) (hp : p < 4) (g : hasF F p k = true) : ∃ (j : Nat) (n : zNode), (trP P F p)[j]? = some n ∧ k ∈ n.2.1 :=
  tree_has (lv := lvP P) (dg := digF (kdP P) F p) (ks := ksP P F p) (fun k hk => (ksP_mem hP hk).2.1) (Nat.le_trans (keysT_len (odP P) F p (nP P)) hP.1) (od_mem hP hk hp g)
theorem m_path {j : Nat} {n : zNode} (h : JA B M N F us) (hp : p < mP (plOf N)) (hk : k < nP (plOf N)) (g : hasF F p k = true) (hj : (trP (plOf N) F p)[j]? = some n) (hkn : k ∈ n.2.1) : S_X12_path (d + 64) (nI p) (nI k) M (zI fun r2 M2 => eqJ B (nI (n.2.2.2.2.2 + 1)) r2 M2) := by
  have h4 := h.m4
  have h24 := h.n24
  refine t_X12_path (fun M1 e1 => c_X12_isPeer (e1 ▸ h.w0.r1) h4 ⟨fun e2 => (by rw [inN_nI hp (by omega)] at e2; cases e2), fun _ => c_X12_isKey (e1 ▸ h.w0.r0) h24 ⟨fun e2 => (by rw [inN_nI hk (by omega)] at e2; cases e2), fun _ => ?_⟩⟩)
  have hw : JA B M1 N F us := e1 ▸ h.w0
  refine c_X12_hasEntry (by omega) (by omega) ?_
  rw [PR_has hw.pr (by omega) (by omega)]
  refine ⟨fun _ => ?_, fun e2 => (by rw [g] at e2; cases e2)⟩
  refine e_X12_layTree (tt := 0) (by omega) (by omega) hw.pr (fun M2 a1 a2 a3 => ⟨nIin (by omega) (by omega), zii ⟨?_, (hw.lay a3.1).j⟩⟩)
  rw [nI_clamp (by omega)]
  have h9 := (a2 j n hj).1.2.2.2.2.2.2 k hkn
  rw [show 24 * 0 + k = k by omega] at h9
  exact h9
theorem m_path0 (h : JA B M N F us) (hp : p < mP (plOf N)) (hk : k < nP (plOf N)) (g : hasF F p k = false) : S_X12_path (d + 64) (nI p) (nI k) M (zI fun r2 M2 => eqJ B (-1) r2 M2) := by
  have h4 := h.m4
  have h24 := h.n24
  refine t_X12_path (fun M1 e1 => c_X12_isPeer (e1 ▸ h.w0.r1) h4 ⟨fun e2 => (by rw [inN_nI hp (by omega)] at e2; cases e2), fun _ => c_X12_isKey (e1 ▸ h.w0.r0) h24 ⟨fun e2 => (by rw [inN_nI hk (by omega)] at e2; cases e2), fun _ => ?_⟩⟩)
  have hw : JA B M1 N F us := e1 ▸ h.w0
  refine c_X12_hasEntry (by omega) (by omega) ?_
  rw [PR_has hw.pr (by omega) (by omega)]
  exact ⟨fun e2 => (by rw [g] at e2; cases e2), fun _ => zii ⟨rfl, hw.j⟩⟩
theorem o_path (h : JA B M N F us) : S_X11_path (d + 64) x y M (zI fun r M1 => S_X12_path (d + 64) x y M1 (zI fun r2 M2 => eqJ B r r2 M2)) := by
  have h4 := h.m4
  have h24 := h.n24
  refine t_X11_path (c_X11_isPeer h.c4 ⟨fun e => zii ?_, fun e => c_X11_isKey h.c3 ⟨fun f => zii ?_, fun f => ?_⟩⟩)
  · exact t_X12_path (fun M1 e1 => c_X12_isPeer (e1 ▸ h.w0.r1) h4 ⟨fun _ => zii ⟨rfl, e1 ▸ h.w0.j⟩, fun e2 => (by rw [e] at e2; cases e2)⟩)
  · exact t_X12_path (fun M1 e1 => c_X12_isPeer (e1 ▸ h.w0.r1) h4 ⟨fun e2 => (by rw [e] at e2; cases e2), fun _ => c_X12_isKey (e1 ▸ h.w0.r0) h24 ⟨fun _ => zii ⟨rfl, e1 ▸ h.w0.j⟩, fun e2 => (by rw [f] at e2; cases e2)⟩⟩)
  obtain ⟨p, hp, e1⟩ := inN_of e (by omega)
  obtain ⟨k, hk, e2⟩ := inN_of f (by omega)
  rw [e1, e2]
  have hh := PC_has h.pc (p := p) (k := k) (by omega) (by omega)
  rw [pT63.2.1] at hh
  refine c_X3_has (b := 10) (by decide) (by omega) (by omega) ?_
  rw [hh]
  refine ⟨fun g => ⟨nIin (by omega) (by omega), ?_⟩, fun g => zii (m_path0 h hp hk g)⟩
  rw [nI_clamp (by omega)]
  obtain ⟨j, n, hj, hkn⟩ := tree_at h.pc.1 hk (by omega) g
  exact c_X9_depthOf (lv := lvP (plOf N)) (dg := digF (kdP (plOf N)) F p) (ks := ksP (plOf N) F p) (n := n) (j := j) (ids_t63 p (by omega)) (trP_len (P := plOf N) (F := F) (p := p) h.pc.1) (PC_t63 h.pc (by omega)).2.2 (by omega) hj hkn (zii (m_path h hp hk g hj hkn))
end
