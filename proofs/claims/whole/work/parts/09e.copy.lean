-- ===== trees copied, grown anew, told =====
theorem treeC_copy {lv dg : Nat → Int32} {M M2 : zMem} {t0 t1 : Nat} {ks : List Nat} (h : treeC lv dg M t1 ks) (hk : ∀ k ∈ ks, k < 24 ∧ 0 ≤ lv k) (hl : ks.length ≤ 24) (h3 : M2.1 t0 3 = M.1 t1 3) (h12 : M2.1 t0 12 = M.1 t1 12) (hz : ∀ z, z = 1 ∨ (4 ≤ z ∧ z ≤ 11) → ∀ j, j < 24 → M2.1 (t0 + z) j = M.1 (t1 + z) j) : treeC lv dg M2 t0 ks := by
  obtain ⟨a1, a2, a3, a4⟩ := h
  have hn := treeT_len (lv := lv) (dg := dg) (fun k hk2 => (hk k hk2).2)
  have hm := treeT_keys (lv := lv) (dg := dg) (fun k hk2 => (hk k hk2).2)
  unfold treeT at hn hm
  refine ⟨h3.trans a1, fun i k hi => ?_, h12.trans a3, fun j n hj => ?_⟩
  · have := (List.getElem?_eq_some_iff.mp hi).1
    rw [hz 1 (by omega) i (by omega)]
    exact a2 i k hi
  · have hj0 := (List.getElem?_eq_some_iff.mp hj).1
    have hkn := hm n (List.mem_of_getElem? hj)
    obtain ⟨⟨w4, w5, w6, w7, w8, w9, w11⟩, w10⟩ := a4 j n hj
    exact ⟨⟨(hz 4 (by omega) _ (by omega)).trans w4, (hz 5 (by omega) _ (by omega)).trans w5, fun k e => (hz 6 (by omega) _ (by omega)).trans (w6 k e), fun k e => (hz 7 (by omega) _ (by omega)).trans (w7 k e), (hz 8 (by omega) _ (by omega)).trans w8, (hz 9 (by omega) _ (by omega)).trans w9, fun k e => (hz 11 (by omega) _ (hk k (hkn k e)).1).trans (w11 k e)⟩, (hz 10 (by omega) _ (by omega)).trans w10⟩
section
variable {d t0 t1 b b2 p k : Nat} {M : zMem} {P : zPl} {F : Nat → Int32}
theorem cI_ne (M : zMem) {a0 sp a dp n z : Nat} (h : z ≠ a) : (cI M a0 sp a dp n).1 z = M.1 z := z_up_n _ _ h
theorem wI_ne (M : zMem) {i j z : Nat} {x : Int32} (h : z ≠ i) : (wI M i j x).1 z = M.1 z := z_up_n _ _ h
theorem cI_in (M : zMem) {a0 a n j : Nat} (h : j < n) : (cI M a0 0 a 0 n).1 a j = M.1 a0 j := by rw [cI_1, if_pos ⟨rfl, by omega, by omega⟩, Nat.zero_add, Nat.sub_zero]
theorem c_X9_copyFrom {Q : zMem → Prop} (h0 : t0 ∈ iX9) (h1 : t1 ∈ iX9) (hf : t0 + 12 ≤ t1 ∨ t1 + 12 ≤ t0)
    (h : ∀ M2, M2.1 t0 3 = M.1 t1 3 → M2.1 t0 12 = M.1 t1 12 → (∀ z, z = 1 ∨ (4 ≤ z ∧ z ≤ 11) → ∀ j, j < 24 → M2.1 (t0 + z) j = M.1 (t1 + z) j) → Same (fun z => t0 ≤ z ∧ z ≤ t0 + 11) M M2 → Q M2) : S_X9_copyFrom (d + 1) t0 t1 M (zU Q) := by
  refine t_X9_copyFrom h0 h1 ?_
  intro M1 e1 M2 e2 M3 e3 M4 e4 M5 e5 M6 e6 M7 e7 M8 e8 M9 e9 M10 e10 M11 e11
  have S1 : Same (fun z => t0 ≤ z ∧ z ≤ t0 + 11) M M1 := by rw [e1]; exact (Same.refl _ _).wI (by omega)
  have S2 : Same (fun z => t0 ≤ z ∧ z ≤ t0 + 11) M M2 := by rw [e2]; exact (S1).wI (by omega)
  have S3 : Same (fun z => t0 ≤ z ∧ z ≤ t0 + 11) M M3 := by rw [e3]; exact (S2).cI (by omega)
  have S4 : Same (fun z => t0 ≤ z ∧ z ≤ t0 + 11) M M4 := by rw [e4]; exact (S3).cI (by omega)
  have S5 : Same (fun z => t0 ≤ z ∧ z ≤ t0 + 11) M M5 := by rw [e5]; exact (S4).cI (by omega)
  have S6 : Same (fun z => t0 ≤ z ∧ z ≤ t0 + 11) M M6 := by rw [e6]; exact (S5).cI (by omega)
  have S7 : Same (fun z => t0 ≤ z ∧ z ≤ t0 + 11) M M7 := by rw [e7]; exact (S6).cI (by omega)
  have S8 : Same (fun z => t0 ≤ z ∧ z ≤ t0 + 11) M M8 := by rw [e8]; exact (S7).cI (by omega)
  have S9 : Same (fun z => t0 ≤ z ∧ z ≤ t0 + 11) M M9 := by rw [e9]; exact (S8).cI (by omega)
  have S10 : Same (fun z => t0 ≤ z ∧ z ≤ t0 + 11) M M10 := by rw [e10]; exact (S9).cI (by omega)
  have S11 : Same (fun z => t0 ≤ z ∧ z ≤ t0 + 11) M M11 := by rw [e11]; exact (S10).cI (by omega)
  have c2 : M11.1 t0 = M2.1 t0 := by rw [e11, cI_ne _ (by omega), e10, cI_ne _ (by omega), e9, cI_ne _ (by omega), e8, cI_ne _ (by omega), e7, cI_ne _ (by omega), e6, cI_ne _ (by omega), e5, cI_ne _ (by omega), e4, cI_ne _ (by omega), e3, cI_ne _ (by omega)]
  refine zuu (h M11 ?_ ?_ (fun z hz j hj => ?_) S11)
  · rw [c2, e2, wI_1, if_neg (by omega), e1, wI_1, if_pos ⟨rfl, rfl⟩]
  · rw [c2, e2, wI_1, if_pos ⟨rfl, rfl⟩, S1.1 t1 (by omega)]
  · rcases (show z = 1 ∨ z = 4 ∨ z = 5 ∨ z = 6 ∨ z = 7 ∨ z = 8 ∨ z = 9 ∨ z = 10 ∨ z = 11 by omega) with rfl | rfl | rfl | rfl | rfl | rfl | rfl | rfl | rfl
    · rw [e11, cI_ne _ (by omega), e10, cI_ne _ (by omega), e9, cI_ne _ (by omega), e8, cI_ne _ (by omega), e7, cI_ne _ (by omega), e6, cI_ne _ (by omega), e5, cI_ne _ (by omega), e4, cI_ne _ (by omega), e3, cI_in _ hj, S2.1 (t1 + 1) (by omega)]
    · rw [e11, cI_ne _ (by omega), e10, cI_ne _ (by omega), e9, cI_ne _ (by omega), e8, cI_ne _ (by omega), e7, cI_ne _ (by omega), e6, cI_ne _ (by omega), e5, cI_ne _ (by omega), e4, cI_in _ hj, S3.1 (t1 + 4) (by omega)]
    · rw [e11, cI_ne _ (by omega), e10, cI_ne _ (by omega), e9, cI_ne _ (by omega), e8, cI_ne _ (by omega), e7, cI_ne _ (by omega), e6, cI_ne _ (by omega), e5, cI_in _ hj, S4.1 (t1 + 5) (by omega)]
    · rw [e11, cI_ne _ (by omega), e10, cI_ne _ (by omega), e9, cI_ne _ (by omega), e8, cI_ne _ (by omega), e7, cI_ne _ (by omega), e6, cI_in _ hj, S5.1 (t1 + 6) (by omega)]
    · rw [e11, cI_ne _ (by omega), e10, cI_ne _ (by omega), e9, cI_ne _ (by omega), e8, cI_ne _ (by omega), e7, cI_in _ hj, S6.1 (t1 + 7) (by omega)]
    · rw [e11, cI_ne _ (by omega), e10, cI_ne _ (by omega), e9, cI_ne _ (by omega), e8, cI_in _ hj, S7.1 (t1 + 8) (by omega)]
    · rw [e11, cI_ne _ (by omega), e10, cI_ne _ (by omega), e9, cI_in _ hj, S8.1 (t1 + 9) (by omega)]
    · rw [e11, cI_ne _ (by omega), e10, cI_in _ hj, S9.1 (t1 + 10) (by omega)]
    · rw [e11, cI_in _ hj, S10.1 (t1 + 11) (by omega)]
theorem ids_44 : ∀ b, b ∈ iX4 → ∀ b2, b2 ∈ iX4 → b ≠ b2 → (pF b + 5 ≤ pF b2 ∨ pF b2 + 5 ≤ pF b) ∧ (pT b + 50 ≤ pT b2 ∨ pT b2 + 50 ≤ pT b) ∧ (pF b + 5 ≤ pT b2 ∨ pT b2 + 50 ≤ pF b) ∧ (pF b2 + 5 ≤ pT b ∨ pT b + 50 ≤ pF b2) := by decide +kernel
theorem inB_far {z : Nat} (hb : b ∈ iX4) (hb2 : b2 ∈ iX4) (hne : b ≠ b2) (h : inB b z) : ¬ inB b2 z := by
  have := ids_44 b hb b2 hb2 hne
  unfold inB at h ⊢
  omega
theorem PC_other {M2 : zMem} (hb : b ∈ iX4) (hb2 : b2 ∈ iX4) (hne : b ≠ b2) (hM : PC M b P F) (hS : Same (inB b2) M M2) : PC M2 b P F := by
  have hid := ids_4 b2 hb2
  refine PC_same hM (fun z hz => hS.1 z ?_)
  rcases hz with hz | hz
  · unfold inB; omega
  · exact inB_far hb hb2 hne (inT_B hz)
theorem e_X4_copyFrom {Q : zMem → Prop} (hb : b ∈ iX4) (hb2 : b2 ∈ iX4) (hne : b ≠ b2) (hM : PC M b2 P F) (h : ∀ M2, PC M2 b P F → PC M2 b2 P F → Same (inB b) M M2 → Q M2) : S_X4_copyFrom (d + 2) b b2 M (zU Q) := by
  have hid := ids_44 b hb b2 hb2 hne
  have hi1 := ids_4 b hb
  have hi2 := ids_4 b2 hb2
  have h24 := hM.1.1
  refine t_X4_copyFrom hb hb2 (c_X3_copyFrom (qX4_1 _ hb) (qX4_1 _ hb2) (by omega) (fun M1 e1 s1 => ?_))
  have key : ∀ (c i : Nat) (M3 : zMem), i + c = 4 → Same (inB b) M M3 → cl (fC M3 (pF b)) = F → (∀ q, q < i → treeC (lvP P) (digF (kdP P) F q) M3 (pT b + 1 + 12 * q) (ksP P F q)) → S_X4_copyFrom_13 (d + 2) b b2 (nI i) M3 (zU Q) := by
    intro c
    induction c with
    | zero =>
      intro i M3 hi hS hF ht
      have e : i = 4 := by omega
      subst e
      refine t_X4_copyFrom_13 hb hb2 ⟨fun _ => zuu (h M3 ⟨hM.1, plnC_same hM.2.1 (fun z hz => hS.1 z (by unfold inB; omega)), hF, fun q hq => ht q hq⟩ (PC_other hb2 hb (Ne.symm hne) hM hS) hS), fun q => absurd (by decide) q⟩
    | succ c ih =>
      intro i M3 hi hS hF ht
      refine t_X4_copyFrom_13 hb hb2 ⟨fun q => absurd q (by rw [show (4 : Int32) = nI 4 from rfl]; exact nI_ge (by omega) (by omega)), fun _ => ⟨nIin (by omega) (by omega), nIin (by omega) (by omega), ?_⟩⟩
      rw [nI_clamp (by omega), nI_1]
      refine c_X9_copyFrom (eX9q _ (qX4_2 _ hb) (by omega)) (eX9q _ (qX4_2 _ hb2) (by omega)) (by omega) (fun M4 a1 a2 a3 aS => ?_)
      have hM3 := PC_other hb2 hb (Ne.symm hne) hM hS
      refine ih (i + 1) M4 (by omega) (hS.trans (aS.mono (fun z hz => Or.inr (by omega)))) ?_ (fun q hq => ?_)
      · rw [fC_same (fun z z1 z2 => aS.1 z (by omega))]; exact hF
      · by_cases e : q = i
        · rw [e]
          refine treeC_copy (hM3.2.2.2 i (by omega)) (fun k hk => ?_) ?_ a1 a2 a3
          · have := ksP_mem hM.1 hk
            exact ⟨by omega, this.2.1⟩
          · have := keysT_len (odP P) F i (nP P)
            unfold ksP
            omega
        · exact treeC_same (ht q (by omega)) (fun z z1 z2 => aS.1 z (by omega))
  refine key 4 0 M1 (by omega) (s1.mono (fun i hi => Or.inl hi)) ?_ (fun q hq => by omega)
  rw [e1, cl_copy]
  exact hM.2.2.1
theorem e_X4_growTrees {Q : zMem → Prop} (hb : b ∈ iX4) (hP : okP P) (hpl : plnC M P) (hF : cl (fC M (pF b)) = F) (h : ∀ M2, PC M2 b P F → Same (fun z => pT b < z ∧ z < pT b + 49) M M2 → Q M2) : S_X4_growTrees (d + 51) b M (zU Q) := by
  have hid := ids_4 b hb
  refine t_X4_growTrees hb ?_
  have key : ∀ (c i : Nat) (M3 : zMem), i + c = 4 → Same (fun z => pT b < z ∧ z < pT b + 49) M M3 → (∀ q, q < i → treeC (lvP P) (digF (kdP P) F q) M3 (pT b + 1 + 12 * q) (ksP P F q)) → S_X4_growTrees_2 (d + 51) b (nI i) M3 (zU Q) := by
    intro c
    induction c with
    | zero =>
      intro i M3 hi hS ht
      have e : i = 4 := by omega
      subst e
      refine t_X4_growTrees_2 hb ⟨fun _ => zuu (h M3 ⟨hP, plnC_same hpl (fun z hz => hS.1 z (by omega)), ?_, fun q hq => ht q hq⟩ hS), fun q => absurd (by decide) q⟩
      rw [fC_same (fun z z1 z2 => hS.1 z (by omega))]; exact hF
    | succ c ih =>
      intro i M3 hi hS ht
      refine t_X4_growTrees_2 hb ⟨fun q => absurd q (by rw [show (4 : Int32) = nI 4 from rfl]; exact nI_ge (by omega) (by omega)), fun _ => ⟨nIin (by omega) (by omega), ?_⟩⟩
      rw [nI_clamp (by omega), nI_1]
      have hpl3 : plnC M3 P := plnC_same hpl (fun z hz => hS.1 z (by omega))
      have hF3 : cl (fC M3 (pF b)) = F := by rw [fC_same (fun z z1 z2 => hS.1 z (by omega))]; exact hF
      refine c_X9_grow (eX9q _ (qX4_2 _ hb) (by omega)) (by decide) (qX4_1 _ hb) (by omega) (plnC_plan hP hpl3) (fun M4 h1 h2 => ih (i + 1) M4 (by omega) (hS.trans (h2.mono (fun z hz => by omega))) (fun q hq => ?_))
      by_cases e : q = i
      · rw [e]
        exact (treeC_F hP (by omega) hF3 (plnC_kl hpl3)).mp h1
      · exact treeC_same (ht q (by omega)) (fun z z1 z2 => h2.1 z (by omega))
  exact key 4 0 M (by omega) (Same.refl _ _) (fun q hq => by omega)
/-- what is known of a peer's tree -/
theorem trP_len (hP : okP P) : (trP P F p).length ≤ 24 := by
  have h1 := treeT_len (lv := lvP P) (dg := digF (kdP P) F p) (ks := ksP P F p) (fun k hk => (ksP_mem hP hk).2.1)
  have h2 := keysT_len (odP P) F p (nP P)
  have h3 := hP.1
  show (treeT (lvP P) (digF (kdP P) F p) (ksP P F p)).length ≤ 24
  unfold ksP at h1 ⊢
  omega
theorem PC_tree (hM : PC M b P F) (hp : p < 4) : M.1 (pT b + 1 + 12 * p) 3 = nI (ksP P F p).length ∧ M.1 (pT b + 1 + 12 * p) 12 = nI (trP P F p).length ∧ nodsC M (pT b + 1 + 12 * p) 0 (trP P F p) := ⟨(hM.2.2.2 p hp).1, (hM.2.2.2 p hp).2.2.1, (hM.2.2.2 p hp).2.2.2⟩
/-- nodes whose digest is not there -/
def missN (ns ot : List zNode) : Int32 := cntF (fun i => !hasDig ot (nodeT ns i).2.2.2.2.1) ns.length
theorem c_X9_countMissing {Q : Int32 → zMem → Prop} {ns ot : List zNode} (h0 : t0 ∈ iX9) (h1 : t1 ∈ iX9) (hl : ns.length ≤ 24) (hl2 : ot.length ≤ 24) (hn : M.1 t0 12 = nI ns.length) (hd : nodsC M t0 0 ns) (hn2 : M.1 t1 12 = nI ot.length) (hd2 : nodsC M t1 0 ot) (h : Q (missN ns ot) M) : S_X9_countMissing (d + 1) t0 t1 M (zI Q) := by
  refine t_X9_countMissing h0 h1 ?_
  refine for_up (S := fun i s => S_X9_countMissing_4 (d + 1) t0 t1 s (nI i) M (zI Q)) (fin := fun s => Q s M) (n := ns.length) (fun s hs => ?_) (fun i s hi hs => ?_) ns.length 0 0 (by omega) h
  · exact t_X9_countMissing_4 h0 h1 ⟨fun _ => zii hs, fun e => absurd (leY hn (by omega)) e⟩
  · have e10 := (hd i _ (nodeT_at hi)).2
    rw [Nat.zero_add] at e10
    refine t_X9_countMissing_4 h0 h1 ⟨fun e => absurd e (leN hn hi (by omega)), fun _ => ⟨nIin (by omega) (by omega), ?_⟩⟩
    rw [nI_clamp (by omega), e10, nI_1]
    refine c_X9_hasDigest h1 hl2 hn2 hd2 ⟨fun e => ?_, fun e => ?_⟩
    · simpa [e] using hs
    · simpa [e] using hs
theorem c_X12_fresh_150 {Q : Int32 → zMem → Prop} {ns ot : List zNode} (hl : ns.length ≤ 24) (hl2 : ot.length ≤ 24) (hn : M.1 246 0 = nI ns.length) (hd : nodsR M 0 0 ns) (hn2 : M.1 246 1 = nI ot.length) (hd2 : nodsR M 24 0 ot) (h : Q (missN ns ot) M) : S_X12_fresh_150 (d + 1) 0 0 M (zI Q) := by
  refine for_up (S := fun i s => S_X12_fresh_150 (d + 1) s (nI i) M (zI Q)) (fin := fun s => Q s M) (n := ns.length) (fun s hs => ?_) (fun i s hi hs => ?_) ns.length 0 0 (by omega) h
  · exact t_X12_fresh_150 ⟨fun _ => zii hs, fun e => absurd (leY hn (by omega)) e⟩
  · have e10 := (hd i _ (nodeT_at hi)).2
    rw [Nat.zero_add, Nat.zero_add] at e10
    refine t_X12_fresh_150 ⟨fun e => absurd e (leN hn hi (by omega)), fun _ => ⟨nIin (by omega) (by omega), ?_⟩⟩
    rw [nI_clamp (by omega), e10, nI_1]
    refine c_X12_isDigest (tt := 1) (by omega) hl2 hn2 hd2 ⟨fun e => ?_, fun e => ?_⟩
    · simpa [e] using hs
    · simpa [e] using hs
end
/-- of a tree: the place of a node is no less than how many are above it -/
theorem tree_path {lv dg : Nat → Int32} {ks : List Nat} : ∀ (j : Nat) (n : zNode), (treeT lv dg ks)[j]? = some n → n.2.2.2.2.2 ≤ j := by
  intro j
  induction j using Nat.strongRecOn with
  | ind j ih =>
    intro n hj
    rcases gT_chain lv dg 24 ks none 0 0 j n hj with ⟨-, q⟩ | ⟨u, n2, q1, q2, q3, q4⟩
    · omega
    · have := ih u q2 n2 q3
      omega
section
variable {d t k j : Nat} {M : zMem} {lv dg : Nat → Int32} {ks : List Nat}
theorem c_X9_depthOf_9 {Q : Int32 → zMem → Prop} (ht : t ∈ iX9) (hl : (treeT lv dg ks).length ≤ 24) (hd : nodsC M t 0 (treeT lv dg ks)) : ∀ (j c : Nat) (n : zNode), (treeT lv dg ks)[j]? = some n → c + n.2.2.2.2.2 < 24 → Q (nI (c + n.2.2.2.2.2 + 1)) M → S_X9_depthOf_9 d t (nI c) (nI j) M (zI Q) := by
  intro j
  induction j using Nat.strongRecOn with
  | ind j ih =>
    intro c n hj hc hq
    have hj0 := (List.getElem?_eq_some_iff.mp hj).1
    have e9 := (hd j n hj).1.2.2.2.2.2.1
    rw [Nat.zero_add] at e9
    have hm1 : ¬ nI j = -1 := by
      intro q
      have := congrArg Int32.toInt q
      rw [nI_toInt (by omega)] at this
      have h1 : (-1 : Int32).toInt = -1 := by decide
      omega
    refine t_X9_depthOf_9 ht ⟨fun q => absurd q hm1, fun _ => ⟨fun q => absurd q (by rw [show (24 : Int32) = nI 24 from rfl]; exact nI_ge (by omega) (by omega)), fun _ => ⟨nIin (by omega) (by omega), ?_⟩⟩⟩
    rw [nI_clamp (by omega), e9, nI_1]
    rcases gT_chain lv dg 24 ks none 0 0 j n hj with ⟨q1, q2⟩ | ⟨u, n2, q1, q2, q3, q4⟩
    · rw [q1]
      refine t_X9_depthOf_9 ht ⟨fun _ => zii ?_, fun q => absurd rfl q⟩
      rw [q2] at hq
      exact hq
    · rw [q1, Nat.zero_add]
      show S_X9_depthOf_9 d t (nI (c + 1)) (nI u) M (zI Q)
      refine ih u q2 (c + 1) n2 q3 (by omega) ?_
      rw [q4] at hq
      rw [show c + 1 + n2.2.2.2.2.2 + 1 = c + (n2.2.2.2.2.2 + 1) + 1 by omega]
      exact hq
/-- where a key is -/
theorem tree_has (h : ∀ k ∈ ks, 0 ≤ lv k) (hl : ks.length ≤ 24) (hk : k ∈ ks) : ∃ (j : Nat) (n : zNode), (treeT lv dg ks)[j]? = some n ∧ k ∈ n.2.1 := by
  obtain ⟨n, h1, h2⟩ := gT_cover lv dg 24 ks none 0 0 h hl k hk
  obtain ⟨j, hj⟩ := List.getElem?_of_mem h1
  exact ⟨j, n, hj, h2⟩
theorem c_X9_depthOf {Q : Int32 → zMem → Prop} {n : zNode} (ht : t ∈ iX9) (hl : (treeT lv dg ks).length ≤ 24) (hd : nodsC M t 0 (treeT lv dg ks)) (hk : k < 24) (hj : (treeT lv dg ks)[j]? = some n) (hkn : k ∈ n.2.1) (hq : Q (nI (n.2.2.2.2.2 + 1)) M) : S_X9_depthOf d t (nI k) M (zI Q) := by
  have hj0 := (List.getElem?_eq_some_iff.mp hj).1
  have hp := tree_path j n hj
  have e11 := (hd j n hj).1.2.2.2.2.2.2 k hkn
  rw [Nat.zero_add] at e11
  refine t_X9_depthOf ht ⟨nIin hk (by omega), ?_⟩
  rw [nI_clamp (by omega), e11]
  exact c_X9_depthOf_9 ht hl hd j 0 n hj (by omega) (by rw [Nat.zero_add]; exact hq)
end
