-- ===== the model reads a whole CLUSTER's text =====
section
variable {d n most B : Nat} {M : zMem} {tx : Nat → Nat} {s : zPs} {c : zCl}
theorem p2_readLine {Q : Bool → zMem → Prop} (hc : okCl B c) (hC : ClR M c) (hT : TR M tx n most s) (h : FPosR tx n most Q M (lneP tx n most c s)) : S_X12_readLine (d + 6) M (zB Q) := by
  have pi : piR 0 = 0 ∧ piR 1 = 1 ∧ piR 2 = 2 ∧ piR 6 = 6 ∧ piR 7 = 7 ∧ piR 8 = 8 ∧ piR 12 = 9 := by decide
  obtain ⟨p0, p1, p2, p6, p7, p8, p12⟩ := pi
  have ne : ∀ i j : Nat, i ≠ j → (some i : Option Nat) ≠ some j := fun i j h q => h (Option.some.inj q)
  refine t_X12_readLine (e_X12_isWord (d := d + 3) (k := 0) (by omega) hT ?_)
  rw [p0]
  refine ⟨fun q0 => e_X12_isWord (d := d + 3) (k := 1) (by omega) hT ?_, fun q0 => ?_⟩
  rotate_left
  · have w := of_decide_eq_true q0
    have eo : lneP tx n most c s = setP tx n most 0 c s := by unfold lneP; rw [if_pos w]
    rw [eo] at h
    exact p2_set (d := d + 1) (w := 0) (Or.inl rfl) (wd2 ⟨_, w⟩) hc hC hT h
  have q0 := of_decide_eq_false q0
  rw [p1]
  refine ⟨fun q1 => e_X12_isWord (d := d + 3) (k := 2) (by omega) hT ?_, fun q1 => ?_⟩
  rotate_left
  · have w := of_decide_eq_true q1
    have eo : lneP tx n most c s = setP tx n most 1 c s := by unfold lneP; rw [if_neg q0, if_pos w]
    rw [eo] at h
    exact p2_set (d := d + 1) (w := 1) (Or.inr rfl) (wd2 ⟨_, w⟩) hc hC hT h
  have q1 := of_decide_eq_false q1
  rw [p2]
  refine ⟨fun q2 => e_X12_isWord (d := d + 3) (k := 6) (by omega) hT ?_, fun q2 => ?_⟩
  rotate_left
  · have w := of_decide_eq_true q2
    have eo : lneP tx n most c s = rulP tx n most c s := by unfold lneP; rw [if_neg q0, if_neg q1, if_pos w]
    rw [eo] at h
    exact p2_rule (d := d + 1) (wd2 ⟨_, w⟩) hc hC hT ⟨fun f ho M2 a b => zbr (h.1 f ho M2 a b), fun r ho M2 a b e => zbr (h.2 r ho M2 a b e)⟩
  have q2 := of_decide_eq_false q2
  rw [p6]
  refine ⟨fun q6 => e_X12_isWord (d := d + 3) (k := 7) (by omega) hT ?_, fun q6 => ?_⟩
  rotate_left
  · have w := of_decide_eq_true q6
    have eo : lneP tx n most c s = keyP tx n most c s := by unfold lneP; rw [if_neg q0, if_neg q1, if_neg q2, if_pos w]
    rw [eo] at h
    exact p2_key (d := d + 1) (wd2 ⟨_, w⟩) hc hC hT ⟨fun f ho M2 a b => zbr (h.1 f ho M2 a b), fun r ho M2 a b e => zbr (h.2 r ho M2 a b e)⟩
  have q6 := of_decide_eq_false q6
  rw [p7]
  refine ⟨fun q7 => e_X12_isWord (d := d + 3) (k := 8) (by omega) hT ?_, fun q7 => ?_⟩
  rotate_left
  · have w := of_decide_eq_true q7
    have eo : lneP tx n most c s = perP tx n most c s := by unfold lneP; rw [if_neg q0, if_neg q1, if_neg q2, if_neg q6, if_pos w]
    rw [eo] at h
    exact p2_peer (d := d + 1) (wd2 ⟨_, w⟩) hc hC hT ⟨fun f ho M2 a b => zbr (h.1 f ho M2 a b), fun r ho M2 a b e => zbr (h.2 r ho M2 a b e)⟩
  have q7 := of_decide_eq_false q7
  rw [p8]
  refine ⟨fun q8 => e_X12_isWord (d := d + 3) (k := 12) (by omega) hT ?_, fun q8 => ?_⟩
  rotate_left
  · have w := of_decide_eq_true q8
    have eo : lneP tx n most c s = hasP tx n most c s := by unfold lneP; rw [if_neg q0, if_neg q1, if_neg q2, if_neg q6, if_neg q7, if_pos w]
    rw [eo] at h
    exact p2_has (d := d) (wd2 ⟨_, w⟩) hc hC hT ⟨fun f ho M2 a b => zbr (h.1 f ho M2 a b), fun r ho M2 a b e => zbr (h.2 r ho M2 a b e)⟩
  have q8 := of_decide_eq_false q8
  rw [p12]
  refine ⟨fun q9 => ?_, fun q9 => ?_⟩
  · have q9 := of_decide_eq_false q9
    have eo : lneP tx n most c s = .inl (1, plS s) := by unfold lneP; rw [if_neg q0, if_neg q1, if_neg q2, if_neg q6, if_neg q7, if_neg q8, if_neg q9]
    exact e_X12_bad1 hT (fun M2 g1 g2 => zbr (h.1 _ eo M2 g1 g2.rc))
  · have w := of_decide_eq_true q9
    have eo : lneP tx n most c s = cutP tx n most c s := by unfold lneP; rw [if_neg q0, if_neg q1, if_neg q2, if_neg q6, if_neg q7, if_neg q8, if_pos w]
    rw [eo] at h
    exact p2_cut (d := d) (wd2 ⟨_, w⟩) hc hC hT ⟨fun f ho M2 a b => zbr (h.1 f ho M2 a b), fun r ho M2 a b e => zbr (h.2 r ho M2 a b e)⟩
/-- what a reading of a CLUSTER changes in the model -/
def CmR (M M2 : zMem) : Prop := Same (fun z => z = 229 ∨ z = 231 ∨ z = 232 ∨ z = 237 ∨ z = 238 ∨ z = 241 ∨ (242 ≤ z ∧ z ≤ 245)) M M2 ∧ ∀ j, 13 < j → j ≠ 25 → j ≠ 27 → M2.1 229 j = M.1 229 j
theorem CmR.trans {M M2 M3 : zMem} (h : CmR M M2) (h2 : CmR M2 M3) : CmR M M3 := ⟨h.1.trans h2.1, fun j a b c => (h2.2 j a b c).trans (h.2 j a b c)⟩
theorem RcS.cm {M M2 : zMem} (h : RcS M M2) : CmR M M2 := ⟨h.1.mono (fun i hi => by omega), fun j a _ _ => h.2 j (by omega)⟩
theorem CmR.w {M M2 : zMem} (h : CmR M M2) {j : Nat} {x : Int32} (hj : j ≤ 13 ∨ j = 25 ∨ j = 27) : CmR M (wI M2 229 j x) := ⟨h.1.wI (by omega), fun i a b c => by rw [wI_1, if_neg (by omega)]; exact h.2 i a b c⟩
/-- behind a fault: the reading's own rows, and the line -/
def RfS (M M2 : zMem) : Prop := Same (fun z => z = 229 ∨ z = 232 ∨ z = 238 ∨ z = 241) M M2 ∧ ∀ j, j < 3 ∨ 13 < j → j ≠ 27 → M2.1 229 j = M.1 229 j
theorem p2_lines {Q : Int32 → zMem → Prop} (hf : ∀ f i, rdP tx n = .inl (f, i) → ∀ M2, ftR M2 f → M2.1 229 27 = nI i → RfS M M2 → Q ((-1) - nI f.2) M2)
    (hs : ∀ c i, rdP tx n = .inr (c, i) → okCl 940 c → i ≤ 940 → ∀ M2, ClR M2 c → RcS M M2 → M2.1 229 10 = 0 → S_X12_cluster_111 (d + 7) (nI i) 0 M2 (zI Q)) :
    ∀ (f i a0 : Nat) (c : zCl) (s : zPs) (N : zMem), i + f = 940 → okCl i c → s = nextT tx n 900 a0 → 2 * i ≤ a0 → a0 ≤ n → n ≤ 940 → rdP tx n = linsP tx n 900 (941 - i) i c s → RcS M N → TR N tx n 900 s → ClR N c → S_X12_cluster_70 (d + 7) (nI i) N (zI Q) := by
  intro f
  induction f with
  | zero => intro i a0 c s N hi hc hs0 ha hn h940; omega
  | succ f ih =>
    intro i a0 c s N hi hc hs0 ha hn h940 hrd hS hTN hCN
    have h7 := TkR_7 hTN 0 (by omega)
    rw [show 941 - i = (941 - (i + 1)) + 1 by omega] at hrd
    unfold linsP at hrd
    refine t_X12_cluster_70 ⟨fun q => ?_, fun q => ?_⟩
    · rw [if_pos (h7.mp q)] at hrd
      exact hs c i hrd ⟨hc.1, hc.2.1, bdG_mono hc.2.2 (by omega) (Nat.le_refl _)⟩ (by omega) N hCN hS hTN.1.2
    · have hk0 : ¬ s.1.1 = 0 := fun w => q (h7.mpr w)
      rw [if_neg hk0] at hrd
      have flt : ∀ (e : zFt) (M2 M3 : zMem), linP tx n 900 c s = .inl e → ftR M2 e → RcS N M2 → M3 = wI M2 229 27 (nI i) → Q ((-1) - (M3.1 229 11)) M3 := by
        rintro e M2 M3 he g1 g2 rfl
        have e11 : (wI M2 229 27 (nI i)).1 229 11 = nI e.2 := by rw [wI_1, if_neg (by omega)]; exact g1.2
        rw [e11]
        refine hf e i (by rw [hrd, he]) _ ⟨by rw [wI_1, if_neg (by omega)]; exact g1.1, e11⟩ (by rw [wI_1, if_pos ⟨rfl, rfl⟩]) ⟨(hS.trans g2).1.wI (by omega), fun j hj hj2 => by rw [wI_1, if_neg (by omega)]; exact (hS.trans g2).2 j hj⟩
      refine p2_readLine (d := d) hc hCN hTN ⟨fun e he M2 g1 g2 => ⟨fun _ M3 h3 => zii (flt e M2 M3 ?_ g1 g2 h3), fun w => (by cases w)⟩, fun r hr M2 hT2 hC2 g2 => ⟨fun w => (by cases w), fun _ => ?_⟩⟩
      · unfold linP; rw [he]
      · refine e_X12_readEnd (d := d + 4) hT2 (fun w M3 g3 g4 => ⟨fun w => (by cases w), fun _ M4 h4 => zii (flt (1, plS r.2) M3 M4 ?_ g3 (g2.trans g4.rc) h4)⟩) (fun w M3 hT3 g4 => ⟨fun _ => ?_, fun w => (by cases w)⟩)
        · unfold linP; rw [hr]; simp only []; rw [if_neg (by rw [w]; decide)]
        · rw [nI_1]
          have hlp : linP tx n 900 c s = .inr (r.1, nx tx n 900 r.2) := by
            unfold linP; rw [hr]; simp only []; rw [if_pos w]
          obtain ⟨o1, s1, o2, o3⟩ := linP_ok hc hlp
          have hk2 : 2 ≤ s.1.1 := by
            refine Nat.le_of_not_lt (fun v => ?_)
            rw [lneP_1 v] at hlp
            cases hlp
          have h0a : a0 < s.2 := by
            have := okS_next tx n 900 a0 (by rw [← hs0]; exact hk2)
            rw [← hs0] at this
            omega
          have h4 : r.2.1.1 = 4 := (of_decide_eq_true w).1
          obtain ⟨s2, e1, e2⟩ := lneP_nx hr
          have hgt := nx_gt (tx := tx) (n := n) (most := 900) (s := s2) (by rw [← e1, h4]; omega)
          rw [← e1] at hgt
          have hle : r.2.2 ≤ n := by
            obtain ⟨⟨⟨b, hRb, hb⟩, -⟩, -⟩ := hT2
            have := hb (by omega)
            rw [← this]
            exact hRb.2.2.2.2.2.2
          refine ih (i + 1) r.2.2 r.1 (nx tx n 900 r.2) M3 (by omega) o1 rfl (by omega) hle h940 ?_ (hS.trans (g2.trans g4.ro.rc)) hT3 (ClR_ro hC2 g4.1)
          rw [hrd, hlp]
/-- what is told lies in the row of what is so; the rest of it is new -/
theorem c_startSo {Q : zMem → Prop} {F : Nat → Int32} {N : zNm} (hN : okN N) (hd : hdR M N) (hF : cl F = F) (hz : fz F) (h5 : M.1 231 5 = F 2) (h6 : ∀ p, p < 4 → M.1 231 (6 + p) = F (3 + p)) (h10 : ∀ i, i < 96 → M.1 231 (10 + i) = F (11 + i) ∧ M.1 231 (106 + i) = F (107 + i))
    (h : ∀ M2, nmR M2 N → cl (fR M2) = F → (∀ j, 405 ≤ j → j < 647 → M2.1 231 j = 0) → Same (fun z => z = 231 ∨ (242 ≤ z ∧ z ≤ 245)) M M2 → Q M2) : S_X12_startSo (d + 4) M (zU Q) := by
  -- low numbers stay
  have third : ∀ (c i : Nat) (K : zMem), i + c = 96 → Same (fun z => z = 231) M K → (∀ j, j < 202 → K.1 231 j = M.1 231 j) → (∀ j, 405 ≤ j → j < 647 → K.1 231 j = 0) → (∀ j, j < 11 → K.1 231 (202 + j) = F j) → (∀ j, j < i → K.1 231 (213 + j) = F (11 + j) ∧ K.1 231 (309 + j) = F (107 + j)) → S_X12_startSo_72 (d + 4) (nI i) K (zU Q) := by
    intro c
    induction c with
    | zero =>
      intro i K hi hS g1 g2 g3 g4
      have e : i = 96 := by omega
      subst e
      refine t_X12_startSo_72 ⟨fun _ => c_X12_layKeys (d := d) hN (hdR_same hd (fun j hj => g1 j (by omega)) (hS.2 237 (by omega))) (fun M2 n2 s2 => zuu (h M2 n2 ?_ (fun j a b => by rw [s2.1 231 (by omega)]; exact g2 j a b) ((hS.mono (fun z hz => Or.inl hz)).trans (s2.mono (fun z hz => Or.inr hz))))), fun q => absurd (by decide) q⟩
      rw [fR_same (s2.1 231 (by omega)), ← hF]
      refine cl_eq (fun j hj => ?_)
      rcases (show j < 11 ∨ (11 ≤ j ∧ j < 107) ∨ (107 ≤ j ∧ j < 203) by omega) with e | e | e
      · exact g3 j e
      · have := (g4 (j - 11) (by omega)).1
        rw [show 213 + (j - 11) = 202 + j by omega, show 11 + (j - 11) = j by omega] at this
        exact this
      · have := (g4 (j - 107) (by omega)).2
        rw [show 309 + (j - 107) = 202 + j by omega, show 107 + (j - 107) = j by omega] at this
        exact this
    | succ c ih =>
      intro i K hi hS g1 g2 g3 g4
      refine t_X12_startSo_72 ⟨fun q => absurd q (by rw [show (96 : Int32) = nI 96 from rfl]; exact nI_ge (by omega) (by omega)), fun _ => ⟨rin (o := 10) rfl (by omega) (by omega), rin (o := 213) rfl (by omega) (by omega), ?_⟩⟩
      rw [rcl (x := 10) (o := 10) rfl (by omega), rcl (x := 213) (o := 213) rfl (by omega), g1 _ (by omega), (h10 i (by omega)).1]
      rintro K1 rfl
      refine ⟨rin (o := 106) rfl (by omega) (by omega), rin (o := 309) rfl (by omega) (by omega), ?_⟩
      have e106 : (wI K 231 (213 + i) (F (11 + i))).1 231 (106 + i) = F (107 + i) := by rw [wI_1, if_neg (by omega), g1 _ (by omega)]; exact (h10 i (by omega)).2
      rw [rcl (x := 106) (o := 106) rfl (by omega), rcl (x := 309) (o := 309) rfl (by omega), e106, nI_1]
      rintro K2 rfl
      refine ih (i + 1) _ (by omega) ((hS.wI rfl).wI rfl) (fun j hj => ?_) (fun j a b => ?_) (fun j hj => ?_) (fun j hj => ?_)
      · rw [wI_1, if_neg (by omega), wI_1, if_neg (by omega)]; exact g1 j hj
      · rw [wI_1, if_neg (by omega), wI_1, if_neg (by omega)]; exact g2 j a b
      · rw [wI_1, if_neg (by omega), wI_1, if_neg (by omega)]; exact g3 j hj
      · by_cases q : j = i
        · rw [q]
          exact ⟨by rw [wI_1, if_neg (by omega), wI_1, if_pos ⟨rfl, rfl⟩], by rw [wI_1, if_pos ⟨rfl, rfl⟩]⟩
        · exact ⟨by rw [wI_1, if_neg (by omega), wI_1, if_neg (by omega)]; exact (g4 j (by omega)).1, by rw [wI_1, if_neg (by omega), wI_1, if_neg (by omega)]; exact (g4 j (by omega)).2⟩
  have second : ∀ (c i : Nat) (K : zMem), i + c = 4 → Same (fun z => z = 231) M K → (∀ j, j < 202 → K.1 231 j = M.1 231 j) → (∀ j, 405 ≤ j → j < 647 → K.1 231 j = 0) → (∀ j, j < 11 → (3 ≤ j → j < 7 → j < 3 + i) → K.1 231 (202 + j) = F j) → S_X12_startSo_40 (d + 4) (nI i) K (zU Q) := by
    intro c
    induction c with
    | zero =>
      intro i K hi hS g1 g2 g3
      have e : i = 4 := by omega
      subst e
      exact t_X12_startSo_40 ⟨fun _ => third 96 0 K (by omega) hS g1 g2 (fun j hj => g3 j hj (fun _ _ => by omega)) (fun j hj => by omega), fun q => absurd (by decide) q⟩
    | succ c ih =>
      intro i K hi hS g1 g2 g3
      refine t_X12_startSo_40 ⟨fun q => absurd q (by rw [show (4 : Int32) = nI 4 from rfl]; exact nI_ge (by omega) (by omega)), fun _ => ⟨rin (o := 6) rfl (by omega) (by omega), cin (by omega), ?_⟩⟩
      rw [rcl (x := 6) (o := 6) rfl (by omega), ccl (by omega), g1 _ (by omega), h6 i (by omega), nI_1]
      rintro K1 rfl
      refine ih (i + 1) _ (by omega) (hS.wI rfl) (fun j hj => ?_) (fun j a b => ?_) (fun j hj hq => ?_)
      · rw [wI_1, if_neg (by omega)]; exact g1 j hj
      · rw [wI_1, if_neg (by omega)]; exact g2 j a b
      · by_cases q : j = 3 + i
        · rw [q, wI_1, if_pos ⟨rfl, by omega⟩]
        · rw [wI_1, if_neg (by omega)]; exact g3 j hj (fun a b => by have := hq a b; omega)
  refine t_X12_startSo ?_
  have first : ∀ (c i : Nat) (K : zMem), i + c = 647 → 202 ≤ i → Same (fun z => z = 231) M K → (∀ j, j < 202 → K.1 231 j = M.1 231 j) → (∀ j, 202 ≤ j → j < i → K.1 231 j = 0) → S_X12_startSo_4 (d + 4) (nI i) K (zU Q) := by
    intro c
    induction c with
    | zero =>
      intro i K hi h202 hS g1 g2
      have e : i = 647 := by omega
      subst e
      refine t_X12_startSo_4 ⟨fun _ => ?_, fun q => absurd (by decide) q⟩
      rintro K1 rfl
      refine second 4 0 _ (by omega) (hS.wI rfl) (fun j hj => ?_) (fun j a b => ?_) (fun j hj hq => ?_)
      · rw [wI_1, if_neg (by omega)]; exact g1 j hj
      · rw [wI_1, if_neg (by omega)]; exact g2 j (by omega) (by omega)
      · rcases (show j = 0 ∨ j = 1 ∨ j = 2 ∨ (3 ≤ j ∧ j < 7) ∨ (7 ≤ j ∧ j < 11) by omega) with e | e | e | e | e
        · rw [e, wI_1, if_neg (by omega), g2 _ (by omega) (by omega)]; exact hz.1.symm
        · rw [e, wI_1, if_neg (by omega), g2 _ (by omega) (by omega)]; exact hz.2.1.symm
        · rw [e, wI_1, if_pos ⟨rfl, rfl⟩, g1 5 (by omega)]; exact h5
        · have := hq e.1 e.2; omega
        · rw [wI_1, if_neg (by omega), g2 _ (by omega) (by omega)]
          have := hz.2.2 (j - 7) (by omega)
          rw [show 7 + (j - 7) = j by omega] at this
          exact this.symm
    | succ c ih =>
      intro i K hi h202 hS g1 g2
      refine t_X12_startSo_4 ⟨fun q => absurd q (by rw [show (647 : Int32) = nI 647 from rfl]; exact nI_ge (by omega) (by omega)), fun _ => ⟨nIin (by omega) (by omega), ?_⟩⟩
      rw [nI_clamp (by omega), nI_1]
      rintro K1 rfl
      refine ih (i + 1) _ (by omega) (by omega) (hS.wI rfl) (fun j hj => ?_) (fun j a b => ?_)
      · rw [wI_1, if_neg (by omega)]; exact g1 j hj
      · by_cases q : j = i
        · rw [q, wI_1, if_pos ⟨rfl, rfl⟩]
        · rw [wI_1, if_neg (by omega)]; exact g2 j a (by omega)
  exact first 445 202 M (by omega) (Nat.le_refl _) (Same.refl _ _) (fun j _ => rfl) (fun j a b => by omega)
theorem e_X12_begin {Q : zMem → Prop} (hm : most ≤ 940) (htx : txOK tx n) (ht : ∀ i, i < n → M.1 230 i = nI (tx i)) (hn : M.1 229 2 = nI n)
    (h : ∀ M2, TR M2 tx n most (nextT tx n most 0) → M2.1 229 10 = 0 → M2.1 229 2 = 0 → M2.1 229 0 = 0 → Same (fun z => z = 229) M M2 → (∀ j, 13 < j → M2.1 229 j = M.1 229 j) → Q M2) : S_X12_begin (d + 3) (nI most) M (zU Q) := by
  refine t_X12_begin ?_
  rintro M1 rfl
  refine t_X12_take ?_
  rintro M2 rfl
  refine zii ?_
  rintro M3 rfl M4 rfl M5 rfl M6 rfl
  have e2 : (wI M 229 0 0).1 229 2 = nI n := by rw [wI_1, if_neg (by omega)]; exact hn
  rw [e2]
  generalize hN : wI (wI (wI (wI (wI (wI M 229 0 0) 229 2 0) 229 3 (nI n)) 229 4 (nI most)) 229 10 0) 229 5 0 = N
  have gS : Same (fun z => z = 229) M N := by rw [← hN]; exact ((((((Same.refl (fun z => z = 229) M).wI rfl).wI rfl).wI rfl).wI rfl).wI rfl).wI rfl
  have gj : ∀ j, 13 < j → N.1 229 j = M.1 229 j := fun j hj => by
    rw [← hN, wI_1, if_neg (by omega), wI_1, if_neg (by omega), wI_1, if_neg (by omega), wI_1, if_neg (by omega), wI_1, if_neg (by omega), wI_1, if_neg (by omega)]
  have g0 : N.1 229 0 = 0 := by rw [← hN, wI_1, if_neg (by omega), wI_1, if_neg (by omega), wI_1, if_neg (by omega), wI_1, if_neg (by omega), wI_1, if_neg (by omega), wI_1, if_pos ⟨rfl, rfl⟩]
  have g2 : N.1 229 2 = 0 := by rw [← hN, wI_1, if_neg (by omega), wI_1, if_neg (by omega), wI_1, if_neg (by omega), wI_1, if_neg (by omega), wI_1, if_pos ⟨rfl, rfl⟩]
  have g3 : N.1 229 3 = nI n := by rw [← hN, wI_1, if_neg (by omega), wI_1, if_neg (by omega), wI_1, if_neg (by omega), wI_1, if_pos ⟨rfl, rfl⟩]
  have g4 : N.1 229 4 = nI most := by rw [← hN, wI_1, if_neg (by omega), wI_1, if_neg (by omega), wI_1, if_pos ⟨rfl, rfl⟩]
  have g10 : N.1 229 10 = 0 := by rw [← hN, wI_1, if_neg (by omega), wI_1, if_pos ⟨rfl, rfl⟩]
  have g5 : N.1 229 5 = nI 0 := by rw [← hN, wI_1, if_pos ⟨rfl, rfl⟩]; rfl
  have hR : RdR N tx n most 0 := ⟨htx, fun i hi => by rw [gS.1 230 (by omega)]; exact ht i hi, g3, g4, hm, g5, Nat.zero_le _⟩
  refine c_X12_go (d := d + 1) hR (fun M2 b h1 h2 h3 h4 => zuu (h M2 ⟨⟨⟨b, h2, h3⟩, (h1.2 10 (by omega)).trans g10⟩, h4⟩ ?_ ?_ ?_ (gS.trans h1.1) (fun j hj => (h1.2 j (by omega)).trans (gj j hj))))
  · rw [h1.2 10 (by omega)]; exact g10
  · rw [h1.2 2 (by omega)]; exact g2
  · rw [h1.2 0 (by omega)]; exact g0
/-- a whole reading, of a text on the model's tape -/
theorem m_cluster {Q : Int32 → zMem → Prop} (htx : txOK tx n) (ht : ∀ i, i < n → M.1 230 i = nI (tx i)) (hn : M.1 229 2 = nI n)
    (hf : ∀ f i, rdP tx n = .inl (f, i) → ∀ M2, ftR M2 f → M2.1 229 27 = nI i → M2.1 229 2 = 0 → Same (fun z => z = 229 ∨ z = 232 ∨ z = 238 ∨ z = 241) M M2 → (∀ j, 13 < j → j ≠ 27 → M2.1 229 j = M.1 229 j) → Q ((-1) - nI f.2) M2)
    (hs : ∀ c i, rdP tx n = .inr (c, i) → okCl 940 c → i ≤ 940 → ∀ M2, nmR M2 c.2.1 → cl (fR M2) = c.2.2 → (∀ j, 405 ≤ j → j < 647 → M2.1 231 j = 0) → M2.1 229 10 = 0 → M2.1 229 27 = -1 → M2.1 229 2 = 0 → M2.1 229 25 = 0 → CmR M M2 → Q (nI i) M2) : S_X12_cluster (d + 8) M (zI Q) := by
  have h940 := htx.1
  refine t_X12_cluster (e_X12_begin (d := d + 4) (most := 900) (by omega) htx ht hn (fun M1 hT1 b10 b2 b0 bS bj => ?_))
  -- what is asked of the memory ahead of the lines
  have lines : ∀ N : zMem, TR N tx n 900 (nextT tx n 900 0) → ClR N cl0 → N.1 229 10 = 0 → N.1 229 2 = 0 → N.1 229 27 = -1 → Same (fun z => z = 229 ∨ z = 232 ∨ z = 238 ∨ z = 241) M N → (∀ j, 13 < j → j ≠ 27 → N.1 229 j = M.1 229 j) → S_X12_cluster_70 (d + 8) 0 N (zI Q) := by
    intro N hTN hCN n10 n2 n27 nS nj
    refine p2_lines (d := d + 1) (M := N) (Q := Q) (fun f i hr M2 g1 g2 g3 => hf f i hr M2 g1 g2 (by rw [g3.2 2 (by omega) (by omega)]; exact n2) (nS.trans g3.1) (fun j a b => (g3.2 j (by omega) b).trans (nj j a b))) (fun c i hr hok hi M2 hC2 g2 g10 => ?_) 940 0 0 cl0 (nextT tx n 900 0) N (by omega) cl0_ok rfl (by omega) (Nat.zero_le _) h940 rfl (RcS.refl N) hTN hCN
    -- the copies
    have G : CmR M M2 := ⟨(nS.mono (fun z hz => by omega)).trans (g2.cm.1), fun j a b e => (g2.2 j (by omega)).trans (nj j a e)⟩
    have names : ∀ (e k : Nat) (K : zMem), k + e = 28 → CmR M2 K → K.1 229 = M2.1 229 → (∀ j, j < 202 → K.1 231 j = M2.1 232 j) → (∀ j, j < k → K.2 237 j = M2.2 238 j) → K.2 238 = M2.2 238 → S_X12_cluster_138 (d + 8) (nI i) (nI k) K (zI Q) := by
      intro e
      induction e with
      | zero =>
        intro k K hk hS k229 a1 a2 a3
        have e : k = 28 := by omega
        subst e
        obtain ⟨o1, o2, o3, o4⟩ := hC2
        have h24 := hok.1.2.2.2.1
        have h4 := hok.1.2.2.2.2.1
        have hdr : hdR K c.2.1 := by
          obtain ⟨b1, b2, b3, b4, b5, b6, b7⟩ := o2
          exact ⟨by rw [a1 2 (by omega)]; exact b1, by rw [a1 3 (by omega)]; exact b2, by rw [a1 4 (by omega)]; exact b3, by rw [a1 0 (by omega)]; exact b4, by rw [a1 1 (by omega)]; exact b5, fun j hj => by rw [a2 j (by omega)]; exact b6 j hj, fun j hj => by rw [a2 _ (by omega)]; exact b7 j hj⟩
        refine t_X12_cluster_138 ⟨fun _ => c_startSo (d := d + 3) hok.1 hdr hok.2.1 o4 (by rw [a1 5 (by omega)]; exact o3.1) (fun p hp => by rw [a1 _ (by omega)]; exact o3.2.1 p hp) (fun j hj => by rw [a1 _ (by omega), a1 _ (by omega)]; exact o3.2.2 j hj) (fun M3 n3 f3 z3 s3 => ?_), fun q => absurd (by decide) q⟩
        rintro M4 rfl
        refine zii (hs c i hr hok hi _ ?_ ?_ (fun j x y => by rw [wI_ne _ (by omega)]; exact z3 j x y) ?_ ?_ ?_ (by rw [wI_1, if_pos ⟨rfl, rfl⟩]) (((G.trans hS).trans ⟨s3.mono (fun z hz => by omega), fun j _ _ _ => by rw [s3.1 229 (by omega)]⟩).w (by omega)))
        · have := n3
          unfold nmR hdR at this ⊢
          rw [wI_ne _ (by omega), wI_ne _ (by omega), wI_ne _ (by omega), wI_ne _ (by omega), wI_ne _ (by omega), wI_2]
          exact this
        · rw [fR_same (wI_ne _ (by omega))]; exact f3
        · rw [wI_1, if_neg (by omega), s3.1 229 (by omega), k229]; exact g10
        · rw [wI_1, if_neg (by omega), s3.1 229 (by omega), k229, g2.2 27 (by omega)]; exact n27
        · rw [wI_1, if_neg (by omega), s3.1 229 (by omega), k229, g2.2 2 (by omega)]; exact n2
      | succ e ih =>
        intro k K hk hS k229 a1 a2 a3
        refine t_X12_cluster_138 ⟨fun q => absurd q (by rw [show (28 : Int32) = nI 28 from rfl]; exact nI_ge (by omega) (by omega)), fun _ => ⟨nIin (by omega) (by omega), nIin (by omega) (by omega), ?_⟩⟩
        rw [nI_clamp (by omega), nI_1, a3]
        rintro K1 rfl
        refine ih (k + 1) _ (by omega) ⟨hS.1.wL (by omega), hS.2⟩ k229 a1 (fun j hj => ?_) (by rw [wL_ne _ (by omega)]; exact a3)
        rw [wL_2]
        by_cases q : j = k
        · rw [if_pos ⟨rfl, q⟩, q]
        · rw [if_neg (fun w => q w.2)]; exact a2 j (by omega)
    have heads : ∀ (e k : Nat) (K : zMem), k + e = 202 → CmR M2 K → K.1 229 = M2.1 229 → (∀ j, j < k → K.1 231 j = M2.1 232 j) → K.1 232 = M2.1 232 → K.2 = M2.2 → S_X12_cluster_111 (d + 8) (nI i) (nI k) K (zI Q) := by
      intro e
      induction e with
      | zero =>
        intro k K hk hS k229 a1 a2 a3
        have e : k = 202 := by omega
        subst e
        exact t_X12_cluster_111 ⟨fun _ => names 28 0 K (by omega) hS k229 a1 (fun j hj => by omega) (by rw [a3]), fun q => absurd (by decide) q⟩
      | succ e ih =>
        intro k K hk hS k229 a1 a2 a3
        refine t_X12_cluster_111 ⟨fun q => absurd q (by rw [show (202 : Int32) = nI 202 from rfl]; exact nI_ge (by omega) (by omega)), fun _ => ⟨nIin (by omega) (by omega), nIin (by omega) (by omega), ?_⟩⟩
        rw [nI_clamp (by omega), nI_1, a2]
        rintro K1 rfl
        refine ih (k + 1) _ (by omega) ⟨hS.1.wI (by omega), fun j x y z => by rw [wI_ne _ (by omega)]; exact hS.2 j x y z⟩ (by rw [wI_ne _ (by omega)]; exact k229) (fun j hj => ?_) (by rw [wI_ne _ (by omega)]; exact a2) a3
        rw [wI_1]
        by_cases q : j = k
        · rw [if_pos ⟨rfl, q⟩, q]
        · rw [if_neg (fun w => q w.2)]; exact a1 j (by omega)
    exact heads 202 0 M2 (by omega) ⟨Same.refl _ _, fun _ _ _ _ => rfl⟩ rfl (fun j hj => by omega) rfl rfl
  -- once
  have once : ∀ (c i : Nat) (N : zMem), i + c = 3 → TR N tx n 900 (nextT tx n 900 0) → (∀ j, j < 202 → N.1 232 j = 0) → (∀ j, j < i → N.1 241 j = 0) → N.1 229 = M1.1 229 → Same (fun z => z = 229 ∨ z = 232 ∨ z = 238 ∨ z = 241) M N → S_X12_cluster_31 (d + 8) (nI i) N (zI Q) := by
    intro c
    induction c with
    | zero =>
      intro i N hi hTN a1 a2 a3 nS
      have e : i = 3 := by omega
      subst e
      refine t_X12_cluster_31 ⟨fun _ => ?_, fun q => absurd (by decide) q⟩
      rintro N1 rfl N2 rfl N3 rfl
      have z0 : ∀ j, j < 202 → j ≠ 2 → j ≠ 3 → (wI (wI (wI N 232 2 2) 232 3 4) 229 27 (-1)).1 232 j = 0 := fun j hj h2 h3 => by
        rw [wI_ne _ (by omega), wI_1, if_neg (by omega), wI_1, if_neg (by omega)]; exact a1 j hj
      refine lines _ ?_ ⟨fun v hv => ?_, ⟨?_, ?_, ?_, ?_, ?_, fun k hk => absurd hk (Nat.not_lt_zero k), fun k hk => absurd hk (Nat.not_lt_zero k)⟩, ⟨?_, fun p hp => ?_, fun k hk => ⟨?_, ?_⟩⟩, ⟨rfl, rfl, fun _ _ => rfl⟩⟩ ?_ ?_ ?_ (((nS.wI (by omega)).wI (by omega)).wI (by omega)) (fun j a b => ?_)
      · obtain ⟨⟨⟨b, ⟨c1, c2, c3, c4, c5, c6, c7⟩, hb⟩, h10⟩, hk⟩ := hTN
        refine ⟨⟨⟨b, ⟨c1, fun i hi => ?_, ?_, ?_, c5, ?_, c7⟩, hb⟩, by rw [wI_1, if_neg (by omega), wI_ne _ (by omega), wI_ne _ (by omega)]; exact h10⟩, ?_⟩
        · rw [wI_ne _ (by omega), wI_ne _ (by omega), wI_ne _ (by omega)]; exact c2 i hi
        · rw [wI_1, if_neg (by omega), wI_ne _ (by omega), wI_ne _ (by omega)]; exact c3
        · rw [wI_1, if_neg (by omega), wI_ne _ (by omega), wI_ne _ (by omega)]; exact c4
        · rw [wI_1, if_neg (by omega), wI_ne _ (by omega), wI_ne _ (by omega)]; exact c6
        · unfold TkR at hk ⊢
          rw [wI_2, wI_2, wI_2, wI_1, if_neg (by omega), wI_1, if_neg (by omega), wI_1, if_neg (by omega), wI_1, if_neg (by omega), wI_ne _ (by omega), wI_ne _ (by omega)]
          exact hk
      · rw [wI_ne _ (by omega), wI_ne _ (by omega), wI_ne _ (by omega), a2 v hv]
        have : oneP v cl0.1 = false := by
          rcases (show v = 0 ∨ v = 1 ∨ v = 2 by omega) with rfl | rfl | rfl <;> rfl
        rw [this]; rfl
      · rw [wI_ne _ (by omega), wI_1, if_neg (by omega), wI_1, if_pos ⟨rfl, rfl⟩]; rfl
      · rw [wI_ne _ (by omega), wI_1, if_pos ⟨rfl, rfl⟩]; rfl
      · rw [z0 4 (by omega) (by omega) (by omega)]; rfl
      · rw [z0 0 (by omega) (by omega) (by omega)]; rfl
      · rw [z0 1 (by omega) (by omega) (by omega)]; rfl
      · exact z0 5 (by omega) (by omega) (by omega)
      · exact z0 _ (by omega) (by omega) (by omega)
      · exact z0 _ (by omega) (by omega) (by omega)
      · exact z0 _ (by omega) (by omega) (by omega)
      · rw [wI_1, if_neg (by omega), wI_ne _ (by omega), wI_ne _ (by omega), a3]; exact b10
      · rw [wI_1, if_neg (by omega), wI_ne _ (by omega), wI_ne _ (by omega), a3]; exact b2
      · rw [wI_1, if_pos ⟨rfl, rfl⟩]
      · rw [wI_1, if_neg (by omega), wI_ne _ (by omega), wI_ne _ (by omega), a3]; exact bj j a
    | succ c ih =>
      intro i N hi hTN a1 a2 a3 nS
      refine t_X12_cluster_31 ⟨fun q => absurd q (by rw [show (3 : Int32) = nI 3 from rfl]; exact nI_ge (by omega) (by omega)), fun _ => ⟨nIin (by omega) (by omega), ?_⟩⟩
      rw [nI_clamp (by omega), nI_1]
      rintro N1 rfl
      refine ih (i + 1) _ (by omega) (TR_o hTN (wI_ne _ (by omega)) (wI_ne _ (by omega)) rfl) (fun j hj => by rw [wI_ne _ (by omega)]; exact a1 j hj) (fun j hj => ?_) (by rw [wI_ne _ (by omega)]; exact a3) (nS.wI (by omega))
      by_cases q : j = i
      · rw [q, wI_1, if_pos ⟨rfl, rfl⟩]
      · rw [wI_1, if_neg (by omega)]; exact a2 j (by omega)
  have rows : ∀ (c i : Nat) (N : zMem), i + c = 202 → TR N tx n 900 (nextT tx n 900 0) → (∀ j, j < i → N.1 232 j = 0) → N.1 229 = M1.1 229 → Same (fun z => z = 229 ∨ z = 232 ∨ z = 238 ∨ z = 241) M N → S_X12_cluster_9 (d + 8) (nI i) N (zI Q) := by
    intro c
    induction c with
    | zero =>
      intro i N hi hTN a1 a3 nS
      have e : i = 202 := by omega
      subst e
      exact t_X12_cluster_9 ⟨fun _ => once 3 0 N (by omega) hTN a1 (fun j hj => by omega) a3 nS, fun q => absurd (by decide) q⟩
    | succ c ih =>
      intro i N hi hTN a1 a3 nS
      refine t_X12_cluster_9 ⟨fun q => absurd q (by rw [show (202 : Int32) = nI 202 from rfl]; exact nI_ge (by omega) (by omega)), fun _ => ⟨nIin (by omega) (by omega), ?_⟩⟩
      rw [nI_clamp (by omega), nI_1]
      rintro N1 rfl
      refine ih (i + 1) _ (by omega) (TR_o hTN (wI_ne _ (by omega)) (wI_ne _ (by omega)) rfl) (fun j hj => ?_) (by rw [wI_ne _ (by omega)]; exact a3) (nS.wI (by omega))
      by_cases q : j = i
      · rw [q, wI_1, if_pos ⟨rfl, rfl⟩]
      · rw [wI_1, if_neg (by omega)]; exact a1 j (by omega)
  exact rows 202 0 M1 (by omega) hT1 (fun j hj => by omega) rfl (bS.mono (fun z hz => Or.inl hz))
end
