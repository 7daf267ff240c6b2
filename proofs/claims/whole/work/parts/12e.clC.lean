-- ===== the class reads a whole CLUSTER's text =====
def cl0 : zCl := ((false, false, false), (2, 4, 0, [], []), fun _ => 0)
theorem cl0_ok : okCl 0 cl0 := by
  refine ⟨⟨by decide, by decide, by decide, by decide, by decide, fun x hx => (by cases hx), by decide⟩, ?_, ⟨0, Nat.le_refl _, rfl⟩, fun i _ => ⟨(by decide : -1 ≤ (0 : Int32).toInt ∧ (0 : Int32).toInt ≤ 999), 0, Nat.le_refl _, rfl⟩, fun p _ q _ => b_0 q, fun p q _ _ => ?_⟩
  · funext j
    unfold cl
    split <;> rfl
  · show bt 0 q = bt 0 p
    rw [b_0, b_0]
section
variable {d n most B : Nat} {M : zMem} {tx : Nat → Nat} {s : zPs} {c : zCl}
theorem e_X6_isWhole {Q : Bool → zMem → Prop} (hT : TC M tx n most s) (hf : most < n → ∀ M2, ftC M2 (1, plS s) → FlC M M2 → Q false M2) (hs : n ≤ most → Q true M) : S_X6_isWhole (d + 1) M (zB Q) := by
  have h940 := hT.1.1.1
  have h9 := hT.1.2.2.2.2.1
  refine t_X6_isWhole ?_
  rw [hT.1.2.2.1, hT.1.2.2.2.1, nI_leI (by omega) (by omega)]
  exact ⟨fun e => zbt (hs e), fun e => e_X6_fail (k := 1) hT (fun M2 h1 h2 => ⟨fun _ => zbf (hf (by omega) M2 h1 h2), fun q => (by cases q)⟩)⟩
theorem c_X5_clear {Q : zMem → Prop} {g : Nat} (hg : g ∈ iX5) (h : ∀ M2, hdC M2 g (2, 4, 0, [], []) → Same (fun z => z = g) M M2 → Q M2) : S_X5_clear d g M (zU Q) := by
  refine t_X5_clear hg ?_
  rintro M1 rfl M2 rfl M3 rfl M4 rfl M5 rfl
  refine zuu (h _ ⟨?_, ?_, ?_, ?_, ?_, fun k hk => absurd hk (Nat.not_lt_zero k), fun k hk => absurd hk (Nat.not_lt_zero k)⟩ ((((((Same.refl (fun z => z = g) M).wI rfl).wI rfl).wI rfl).wI rfl).wI rfl))
  · rw [wI_1, if_neg (by omega), wI_1, if_neg (by omega), wI_1, if_neg (by omega), wI_1, if_neg (by omega), wI_1, if_pos ⟨rfl, rfl⟩]; rfl
  · rw [wI_1, if_neg (by omega), wI_1, if_neg (by omega), wI_1, if_neg (by omega), wI_1, if_pos ⟨rfl, rfl⟩]; rfl
  · rw [wI_1, if_neg (by omega), wI_1, if_neg (by omega), wI_1, if_pos ⟨rfl, rfl⟩]; rfl
  · rw [wI_1, if_neg (by omega), wI_1, if_pos ⟨rfl, rfl⟩]; rfl
  · rw [wI_1, if_pos ⟨rfl, rfl⟩]; rfl
theorem c_X3_clear {Q : zMem → Prop} {b : Nat} (hb : b ∈ iX3) (h : ∀ M2, cl (fC M2 b) = (fun _ => 0) → Same (fun i => b ≤ i ∧ i < b + 5) M M2 → Q M2) : S_X3_clear d b M (zU Q) := by
  refine t_X3_clear hb ?_
  -- cuts and what came, then the counts
  have second : ∀ (c p : Nat) (N : zMem), p + c = 4 → Same (fun i => b ≤ i ∧ i < b + 5) M N → (∀ i, i < 96 → N.1 (b + 1) i = 0 ∧ N.1 (b + 2) i = 0) → (∀ i, i < p → N.1 (b + 3) i = 0 ∧ N.1 (b + 4) i = 0) → S_X3_clear_33 d b (nI p) N (zU Q) := by
    intro c
    induction c with
    | zero =>
      intro p N hp hS a1 a2
      have e : p = 4 := by omega
      subst e
      refine t_X3_clear_33 hb ⟨fun _ => ?_, fun q => absurd (by decide) q⟩
      rintro M1 rfl M2 rfl M3 rfl
      refine zuu (h _ ?_ (((hS.wI (by omega)).wI (by omega)).wI (by omega)))
      funext j
      unfold cl
      split
      · rename_i hj
        have w0 : ∀ (N : zMem) (x : Int32), fC (wI N b 4 x) b = upd (fC N b) 0 x := fun N x => fC_wf (i := 0) (by omega)
        have w1 : ∀ (N : zMem) (x : Int32), fC (wI N b 5 x) b = upd (fC N b) 1 x := fun N x => fC_wf (i := 1) (by omega)
        have w2 : ∀ (N : zMem) (x : Int32), fC (wI N b 6 x) b = upd (fC N b) 2 x := fun N x => fC_wf (i := 2) (by omega)
        rw [w2, w1, w0]
        rcases (show j = 0 ∨ j = 1 ∨ j = 2 ∨ (3 ≤ j ∧ j < 7) ∨ (7 ≤ j ∧ j < 11) ∨ (11 ≤ j ∧ j < 107) ∨ (107 ≤ j ∧ j < 203) by omega) with e | e | e | e | e | e | e
        · rw [e, upd_n _ _ (by omega), upd_n _ _ (by omega), upd_s]
        · rw [e, upd_n _ _ (by omega), upd_s]
        · rw [e, upd_s]
        · rw [upd_n _ _ (by omega), upd_n _ _ (by omega), upd_n _ _ (by omega), show j = 3 + (j - 3) by omega, fC_c (by omega)]
          exact (a2 (j - 3) (by omega)).1
        · rw [upd_n _ _ (by omega), upd_n _ _ (by omega), upd_n _ _ (by omega), show j = 7 + (j - 7) by omega, fC_a (by omega)]
          exact (a2 (j - 7) (by omega)).2
        · rw [upd_n _ _ (by omega), upd_n _ _ (by omega), upd_n _ _ (by omega), show j = 11 + (j - 11) by omega, fC_v (by omega)]
          exact (a1 (j - 11) (by omega)).1
        · rw [upd_n _ _ (by omega), upd_n _ _ (by omega), upd_n _ _ (by omega), show j = 107 + (j - 107) by omega, fC_s]
          exact (a1 (j - 107) (by omega)).2
      · rfl
    | succ c ih =>
      intro p N hp hS a1 a2
      refine t_X3_clear_33 hb ⟨fun q => absurd q (by rw [show (4 : Int32) = nI 4 from rfl]; exact nI_ge (by omega) (by omega)), fun _ => ⟨nIin (by omega) (by omega), ?_⟩⟩
      rw [nI_clamp (by omega), nI_1]
      rintro M1 rfl
      refine ⟨nIin (by omega) (by omega), ?_⟩
      rintro M2 rfl
      refine ih (p + 1) _ (by omega) ((hS.wI (by omega)).wI (by omega)) (fun i hi => ?_) (fun i hi => ?_)
      · rw [wI_ne _ (by omega), wI_ne _ (by omega), wI_ne _ (by omega), wI_ne _ (by omega)]; exact a1 i hi
      · rw [wI_ne (z := b + 3) _ (by omega), wI_1, wI_1 _ (b + 4)]
        by_cases q : i = p
        · rw [if_pos ⟨rfl, q⟩, if_pos ⟨rfl, q⟩]; exact ⟨rfl, rfl⟩
        · rw [if_neg (fun w => q w.2), if_neg (fun w => q w.2), wI_ne _ (by omega)]; exact a2 i (by omega)
  have first : ∀ (c p : Nat) (N : zMem), p + c = 96 → Same (fun i => b ≤ i ∧ i < b + 5) M N → (∀ i, i < p → N.1 (b + 1) i = 0 ∧ N.1 (b + 2) i = 0) → S_X3_clear_2 d b (nI p) N (zU Q) := by
    intro c
    induction c with
    | zero =>
      intro p N hp hS a1
      have e : p = 96 := by omega
      subst e
      exact t_X3_clear_2 hb ⟨fun _ => second 4 0 N (by omega) hS a1 (fun i hi => by omega), fun q => absurd (by decide) q⟩
    | succ c ih =>
      intro p N hp hS a1
      refine t_X3_clear_2 hb ⟨fun q => absurd q (by rw [show (96 : Int32) = nI 96 from rfl]; exact nI_ge (by omega) (by omega)), fun _ => ⟨nIin (by omega) (by omega), ?_⟩⟩
      rw [nI_clamp (by omega), nI_1]
      rintro M1 rfl
      refine ⟨nIin (by omega) (by omega), ?_⟩
      rintro M2 rfl
      refine ih (p + 1) _ (by omega) ((hS.wI (by omega)).wI (by omega)) (fun i hi => ?_)
      rw [wI_ne (z := b + 2) _ (by omega)]
      by_cases q : i = p
      · exact ⟨by rw [wI_1, if_pos ⟨rfl, q⟩], by rw [wI_1, if_pos ⟨rfl, q⟩]⟩
      · exact ⟨by rw [wI_1, if_neg (fun w => q w.2), wI_ne _ (by omega)]; exact (a1 i (by omega)).1, by rw [wI_1, if_neg (fun w => q w.2)]; exact (a1 i (by omega)).2⟩
  exact first 96 0 M (by omega) (Same.refl _ _) (fun i hi => by omega)
/-- the answer of a reading of a CLUSTER's text -/
def rdP (tx : Nat → Nat) (n : Nat) : Sum (zFt × Nat) (zCl × Nat) := linsP tx n 900 941 0 cl0 (nextT tx n 900 0)
theorem TC_0 (hT : TC M tx n most s) : M.1 220 4 = 0 ↔ (s.1.1 = 0 ∨ (s.1.1 = 1 ∧ M.1 220 4 = 0)) := by
  obtain ⟨-, -, h4, k0, k1, k2, k3, k4⟩ := hT.2
  rcases (show s.1.1 = 0 ∨ s.1.1 = 1 ∨ s.1.1 = 2 ∨ s.1.1 = 3 ∨ s.1.1 = 4 by omega) with e | e | e | e | e
  · exact ⟨fun _ => Or.inl e, fun _ => (k0 e).1.1⟩
  · exact ⟨fun q => Or.inr ⟨e, q⟩, fun q => by rcases q with q | q; omega; exact q.2⟩
  · refine ⟨fun q => ?_, fun q => by rcases q with q | q; omega; omega⟩
    have h2 := (k2 e).2.2.2
    cases hw : wix s.1.2.2.1 with
    | some i => rw [hw] at h2; rw [h2.1] at q; exact absurd q (by decide)
    | none => rw [hw] at h2; rw [h2.1] at q; exact absurd q (by decide)
  · exact ⟨fun q => by rw [(k3 e).1] at q; exact absurd q (by decide), fun q => by rcases q with q | q; omega; omega⟩
  · exact ⟨fun q => by rw [(k4 e).1] at q; exact absurd q (by decide), fun q => by rcases q with q | q; omega; omega⟩
theorem lneP_1 {c : zCl} (h : s.1.1 < 2) : linP tx n most c s = .inl (1, plS s) := by
  have hw : wdS s = none := by unfold wdS; rw [if_neg (by omega)]
  have ne : ∀ i : Nat, (none : Option Nat) ≠ some i := fun i q => by cases q
  unfold linP lneP
  rw [hw, if_neg (ne _), if_neg (ne _), if_neg (ne _), if_neg (ne _), if_neg (ne _), if_neg (ne _), if_neg (ne _)]
theorem p_read {Q : Bool → zMem → Prop} (hT : TC M tx n 900 (nextT tx n 900 0)) (h10 : M.1 220 10 = 0) (h11 : M.1 220 11 = 0)
    (hf : ∀ f i, rdP tx n = .inl (f, i) → ∀ M2, ftC M2 f → M2.1 220 10 = nI i → CrS M M2 → Q false M2)
    (hs : ∀ c i, rdP tx n = .inr (c, i) → okCl 940 c → ∀ M2, nmC M2 18 c.2.1 → cl (fC M2 25) = c.2.2 → M2.1 220 10 = nI i → M2.1 220 11 = 0 → CrS M M2 → Q true M2) : S_X1_read (d + 7) M (zB Q) := by
  refine t_X1_read (c_X5_clear (by decide) (fun M1 h1 s1 => c_X3_clear (by decide) (fun M2 h2 s2 => ?_)))
  rintro M3 rfl
  have h940 := hT.1.1.1
  have S3 : CrS M (wI M2 221 3 0) := ((s1.mono (fun i hi => by omega)).trans (s2.mono (fun i hi => by omega))).wI (by omega)
  have e220 : (wI M2 221 3 0).1 220 = M.1 220 := by rw [wI_ne _ (by omega), s2.1 220 (by omega), s1.1 220 (by omega)]
  have hT3 : TC (wI M2 221 3 0) tx n 900 (nextT tx n 900 0) := TC_o hT (by rw [wI_ne _ (by omega), s2.1 1 (by omega), s1.1 1 (by omega)]) e220 (by rw [wI_2, s2.2 220 (by omega), s1.2 220 (by omega)])
  have hC3 : ClC (wI M2 221 3 0) cl0 := by
    refine ⟨hdC_same h1 ?_ (fun z hz => ?_), ?_, ?_⟩
    · rw [wI_ne _ (by omega), s2.1 18 (by omega)]
    · rw [wI_2, s2.2 z (by omega)]
    · rw [fC_same (M := M2) (fun i i1 i2 => wI_ne _ (by omega))]; exact h2
    · rw [wI_1, if_pos ⟨rfl, rfl⟩]; rfl
  -- what comes behind the lines
  have fin : ∀ (i : Nat) (c : zCl) (s : zPs) (N : zMem), okCl i c → i ≤ 940 → (s.1.1 = 0 ∨ (s.1.1 = 1 ∧ N.1 220 4 = 0)) → rdP tx n = linsP tx n 900 (941 - i) i c s → CrS M N → TC N tx n 900 s → ClC N c → N.1 220 10 = nI i → N.1 220 11 = 0 → S_X5_settle (d + 6) 18 N (zU (fun M23 => S_X6_isWhole (d + 6) M23 (zB (fun r24 M25 => zB Q (some (.int (bi r24))) M25)))) := by
    intro i c s N hc hi hk hrd hS hTN hCN k10 k11
    refine c_X5_settle (d := d + 4) (by decide) hc.1 hCN.1 (fun N2 hnm s5 => ?_)
    have hT2 : TC N2 tx n 900 s := TC_o hTN (s5.1 1 (by omega)) (s5.1 220 (by omega)) (s5.2 220 (by omega))
    have S2 : CrS M N2 := hS.trans (s5.mono (fun z hz => by omega))
    rw [show 941 - i = (940 - i) + 1 by omega] at hrd
    refine e_X6_isWhole hT2 (fun hlt N3 g1 g2 => zbr (hf (1, plS s) i ?_ N3 g1 ?_ (S2.trans (g2.1.mono (fun z hz => Or.inl hz))))) (fun hle => zbr (hs c i ?_ ⟨hc.1, hc.2.1, bdG_mono hc.2.2 hi (Nat.le_refl _)⟩ N2 hnm ?_ ?_ ?_ S2))
    · rw [hrd]
      have k1 : s.1.1 = 1 := by
        rcases hk with q | q
        · have := (hTN.2.2.2.2.1 q).1.2
          omega
        · exact q.1
      unfold linsP
      rw [if_neg (by omega), lneP_1 (by omega)]
    · rw [g2.2 10 (by omega) (by omega), s5.1 220 (by omega)]; exact k10
    · rw [hrd]
      have k0 : s.1.1 = 0 := by
        rcases hk with q | q
        · exact q
        · rcases (hTN.2.2.2.2.2.1 q.1).1 with w | w
          · omega
          · rw [w] at q; exact absurd q.2 (by decide)
      unfold linsP
      rw [if_pos k0]
    · rw [fC_same (fun z z1 z2 => s5.1 z (by omega))]; exact hCN.2.1
    · rw [s5.1 220 (by omega)]; exact k10
    · rw [s5.1 220 (by omega)]; exact k11
  have key : ∀ (f i a0 : Nat) (c : zCl) (s : zPs) (N : zMem), i + f = 940 → okCl i c → s = nextT tx n 900 a0 → 2 * i ≤ a0 → a0 ≤ n → rdP tx n = linsP tx n 900 (941 - i) i c s → CrS M N → TC N tx n 900 s → ClC N c → N.1 220 10 = nI i → N.1 220 11 = 0 → S_X1_read_21 (d + 7) (nI i) N (zB Q) := by
    intro f
    induction f with
    | zero =>
      intro i a0 c s N hi hc hs0 ha hn hrd hS hTN hCN k10 k11
      omega
    | succ f ih =>
      intro i a0 c s N hi hc hs0 ha hn hrd hS hTN hCN k10 k11
      refine t_X1_read_21 ⟨fun q => absurd q (by rw [show (940 : Int32) = nI 940 from rfl]; exact nI_ge (by omega) (by omega)), fun _ => ⟨fun q => fin i c s N hc (by omega) ((TC_0 hTN).mp q) hrd hS hTN hCN k10 k11, fun q => ?_⟩⟩
      have hk0 : ¬ s.1.1 = 0 := fun w => q ((TC_0 hTN).mpr (Or.inl w))
      rw [show 941 - i = (941 - (i + 1)) + 1 by omega] at hrd
      unfold linsP at hrd
      rw [if_neg hk0] at hrd
      refine p_readLine (d := d + 1) (k := i) hc hCN hTN k10 (fun e he M4 g1 g2 g3 => ⟨fun w => (by cases w), fun _ => zbf (hf e i ?_ M4 g1 g3 (hS.trans g2))⟩) (fun r hr M4 g1 g2 g3 g4 g5 => ⟨fun _ => ?_, fun w => (by cases w)⟩)
      · rw [hrd, he]
      · rw [nI_1]
        obtain ⟨o1, s1, o2, o3⟩ := linP_ok hc hr
        have hle := nx_ge (tx := tx) (n := n) (most := 900) s1
        have hsa := g1.1.2.2.2.2.2.2
        have hk2 : 2 ≤ s.1.1 := by
          refine Nat.le_of_not_lt (fun w => ?_)
          rw [lneP_1 w] at hr
          cases hr
        have h0a : a0 < s.2 := by
          have := okS_next tx n 900 a0 (by rw [← hs0]; exact hk2)
          rw [← hs0] at this
          omega
        refine ih (i + 1) s1.2 r.1 r.2 M4 (by omega) o1 o2 (by omega) ?_ ?_ (hS.trans g5) g1 g2 g3 (g4.trans k11)
        · rw [o2] at hsa
          omega
        · rw [hrd, hr]
  exact key 940 0 0 cl0 (nextT tx n 900 0) _ (by omega) cl0_ok rfl (by omega) (Nat.zero_le _) rfl S3 hT3 hC3 (by rw [e220]; exact h10) (by rw [e220]; exact h11)
end
