-- ===== the model's pieces of reading =====
def sp0 (x0 x1 : Int32) : Int64 := ((27 * ((Int32.toInt64 x0) - 96)) + (Int32.toInt64 x1)) - 96
def spN (w : Int64) (x : Int32) : Int64 := if x ≤ 0 then w else ((27 * w) + (Int32.toInt64 x)) - 96
/-- the model's words have another order -/
def piR (k : Nat) : Nat := if k = 9 then 10 else if k = 10 then 11 else if k = 11 then 12 else if k = 12 then 9 else k
theorem piR_lt : ∀ k, k < 24 → piR k < 24 := by decide
theorem piR_inj : ∀ k, k < 24 → ∀ j, j < 24 → piR k = piR j → k = j := by decide
theorem piR_sur : ∀ j, j < 24 → ∃ k, k < 24 ∧ piR k = j := by decide
section
variable {d n most : Nat} {M : zMem} {tx : Nat → Nat} {s : zPs}
theorem c_X12_spelt {Q : Int64 → zMem → Prop} {x0 x1 x2 x3 x4 x5 : Int32} (h : Q (spN (spN (spN (spN (sp0 x0 x1) x2) x3) x4) x5) M) : S_X12_spelt d x0 x1 x2 x3 x4 x5 M (zJ Q) := by
  have h78 : ∀ w, Q (spN w x5) M → S_X12_spelt_78 d x5 w M (zJ Q) := fun w hw => t_X12_spelt_78 ⟨fun e => ⟨_, rfl, by unfold spN at hw; rw [if_pos e] at hw; exact hw⟩, fun e => ⟨_, rfl, by unfold spN at hw; rw [if_neg e] at hw; exact hw⟩⟩
  have h57 : ∀ w, Q (spN (spN w x4) x5) M → S_X12_spelt_57 d x4 x5 w M (zJ Q) := fun w hw => t_X12_spelt_57 ⟨fun e => h78 _ (by rw [show spN w x4 = w from if_pos e] at hw; exact hw), fun e => h78 _ (by rw [show spN w x4 = ((27 * w) + (Int32.toInt64 x4)) - 96 from if_neg e] at hw; exact hw)⟩
  have h38 : ∀ w, Q (spN (spN (spN w x3) x4) x5) M → S_X12_spelt_38 d x3 x4 x5 w M (zJ Q) := fun w hw => t_X12_spelt_38 ⟨fun e => h57 _ (by rw [show spN w x3 = w from if_pos e] at hw; exact hw), fun e => h57 _ (by rw [show spN w x3 = ((27 * w) + (Int32.toInt64 x3)) - 96 from if_neg e] at hw; exact hw)⟩
  exact t_X12_spelt ⟨fun e => h38 _ (by rw [show spN (sp0 x0 x1) x2 = sp0 x0 x1 from if_pos e] at h; exact h), fun e => h38 _ (by rw [show spN (sp0 x0 x1) x2 = ((27 * sp0 x0 x1) + (Int32.toInt64 x2)) - 96 from if_neg e] at h; exact h)⟩
theorem sp_0 : spN (spN (spN (spN (sp0 98 105) 116) 115) 0) 0 = lN (b27 (rw1 (piR 0))) := by decide +kernel
theorem sp_1 : spN (spN (spN (spN (sp0 112 97) 103) 101) 0) 0 = lN (b27 (rw1 (piR 1))) := by decide +kernel
theorem sp_2 : spN (spN (spN (spN (sp0 114 117) 108) 101) 0) 0 = lN (b27 (rw1 (piR 2))) := by decide +kernel
theorem sp_3 : spN (spN (spN (spN (sp0 108 97) 116) 101) 0) 0 = lN (b27 (rw1 (piR 3))) := by decide +kernel
theorem sp_4 : spN (spN (spN (spN (sp0 109 111) 115) 116) 0) 0 = lN (b27 (rw1 (piR 4))) := by decide +kernel
theorem sp_5 : spN (spN (spN (spN (sp0 108 101) 97) 115) 116) 0 = lN (b27 (rw1 (piR 5))) := by decide +kernel
theorem sp_6 : spN (spN (spN (spN (sp0 107 101) 121) 0) 0) 0 = lN (b27 (rw1 (piR 6))) := by decide +kernel
theorem sp_7 : spN (spN (spN (spN (sp0 112 101) 101) 114) 0) 0 = lN (b27 (rw1 (piR 7))) := by decide +kernel
theorem sp_8 : spN (spN (spN (spN (sp0 104 97) 115) 0) 0) 0 = lN (b27 (rw1 (piR 8))) := by decide +kernel
theorem sp_9 : spN (spN (spN (spN (sp0 112 117) 116) 0) 0) 0 = lN (b27 (rw1 (piR 9))) := by decide +kernel
theorem sp_10 : spN (spN (spN (spN (sp0 100 114) 111) 112) 0) 0 = lN (b27 (rw1 (piR 10))) := by decide +kernel
theorem sp_11 : spN (spN (spN (spN (sp0 112 117) 108) 108) 0) 0 = lN (b27 (rw1 (piR 11))) := by decide +kernel
theorem sp_12 : spN (spN (spN (spN (sp0 99 117) 116) 0) 0) 0 = lN (b27 (rw1 (piR 12))) := by decide +kernel
theorem sp_13 : spN (spN (spN (spN (sp0 104 101) 97) 108) 0) 0 = lN (b27 (rw1 (piR 13))) := by decide +kernel
theorem sp_14 : spN (spN (spN (spN (sp0 111 114) 0) 0) 0) 0 = lN (b27 (rw1 (piR 14))) := by decide +kernel
theorem sp_15 : spN (spN (spN (spN (sp0 97 110) 100) 0) 0) 0 = lN (b27 (rw1 (piR 15))) := by decide +kernel
theorem sp_16 : spN (spN (spN (spN (sp0 110 111) 116) 0) 0) 0 = lN (b27 (rw1 (piR 16))) := by decide +kernel
theorem sp_17 : spN (spN (spN (spN (sp0 116 111) 114) 110) 0) 0 = lN (b27 (rw1 (piR 17))) := by decide +kernel
theorem sp_18 : spN (spN (spN (spN (sp0 104 101) 108) 100) 0) 0 = lN (b27 (rw1 (piR 18))) := by decide +kernel
theorem sp_19 : spN (spN (spN (spN (sp0 103 111) 110) 101) 0) 0 = lN (b27 (rw1 (piR 19))) := by decide +kernel
theorem sp_20 : spN (spN (spN (spN (sp0 108 101) 118) 101) 108) 0 = lN (b27 (rw1 (piR 20))) := by decide +kernel
theorem sp_21 : spN (spN (spN (spN (sp0 99 111) 112) 105) 101) 115 = lN (b27 (rw1 (piR 21))) := by decide +kernel
theorem sp_22 : spN (spN (spN (spN (sp0 115 116) 97) 109) 112) 0 = lN (b27 (rw1 (piR 22))) := by decide +kernel
theorem sp_23 : spN (spN (spN (spN (sp0 110 117) 109) 98) 101) 114 = lN (b27 (rw1 (piR 23))) := by decide +kernel
theorem c_X12_wordOf {Q : Int64 → zMem → Prop} {k : Nat} (hk : k < 24) (h : Q (lN (b27 (rw1 (piR k)))) M) : S_X12_wordOf (d + 1) (nI k) M (zJ Q) := by
  have ek : ∀ i : Nat, i < 24 → nI k = nI i → k = i := fun i hi e => (nI_eq (by omega) (by omega)).mp e
  refine t_X12_wordOf ⟨fun e => c_X12_spelt ⟨_, rfl, by have q := ek 0 (by omega) e; subst q; rw [sp_0]; exact h⟩, fun e => c_X12_spelt ⟨_, rfl, by have q := ek 1 (by omega) e; subst q; rw [sp_1]; exact h⟩, fun e => c_X12_spelt ⟨_, rfl, by have q := ek 2 (by omega) e; subst q; rw [sp_2]; exact h⟩, fun e => c_X12_spelt ⟨_, rfl, by have q := ek 3 (by omega) e; subst q; rw [sp_3]; exact h⟩, fun e => c_X12_spelt ⟨_, rfl, by have q := ek 4 (by omega) e; subst q; rw [sp_4]; exact h⟩, fun e => c_X12_spelt ⟨_, rfl, by have q := ek 5 (by omega) e; subst q; rw [sp_5]; exact h⟩, fun e => c_X12_spelt ⟨_, rfl, by have q := ek 6 (by omega) e; subst q; rw [sp_6]; exact h⟩, fun e => c_X12_spelt ⟨_, rfl, by have q := ek 7 (by omega) e; subst q; rw [sp_7]; exact h⟩, fun e => c_X12_spelt ⟨_, rfl, by have q := ek 8 (by omega) e; subst q; rw [sp_8]; exact h⟩, fun e => c_X12_spelt ⟨_, rfl, by have q := ek 9 (by omega) e; subst q; rw [sp_9]; exact h⟩, fun e => c_X12_spelt ⟨_, rfl, by have q := ek 10 (by omega) e; subst q; rw [sp_10]; exact h⟩, fun e => c_X12_spelt ⟨_, rfl, by have q := ek 11 (by omega) e; subst q; rw [sp_11]; exact h⟩, fun e => c_X12_spelt ⟨_, rfl, by have q := ek 12 (by omega) e; subst q; rw [sp_12]; exact h⟩, fun e => c_X12_spelt ⟨_, rfl, by have q := ek 13 (by omega) e; subst q; rw [sp_13]; exact h⟩, fun e => c_X12_spelt ⟨_, rfl, by have q := ek 14 (by omega) e; subst q; rw [sp_14]; exact h⟩, fun e => c_X12_spelt ⟨_, rfl, by have q := ek 15 (by omega) e; subst q; rw [sp_15]; exact h⟩, fun e => c_X12_spelt ⟨_, rfl, by have q := ek 16 (by omega) e; subst q; rw [sp_16]; exact h⟩, fun e => c_X12_spelt ⟨_, rfl, by have q := ek 17 (by omega) e; subst q; rw [sp_17]; exact h⟩, fun e => c_X12_spelt ⟨_, rfl, by have q := ek 18 (by omega) e; subst q; rw [sp_18]; exact h⟩, fun e => c_X12_spelt ⟨_, rfl, by have q := ek 19 (by omega) e; subst q; rw [sp_19]; exact h⟩, fun e => c_X12_spelt ⟨_, rfl, by have q := ek 20 (by omega) e; subst q; rw [sp_20]; exact h⟩, fun e => c_X12_spelt ⟨_, rfl, by have q := ek 21 (by omega) e; subst q; rw [sp_21]; exact h⟩, fun e => c_X12_spelt ⟨_, rfl, by have q := ek 22 (by omega) e; subst q; rw [sp_22]; exact h⟩, fun e0 e1 e2 e3 e4 e5 e6 e7 e8 e9 e10 e11 e12 e13 e14 e15 e16 e17 e18 e19 e20 e21 e22 => c_X12_spelt ⟨_, rfl, by
    have q : k = 23 := by
      refine Classical.byContradiction fun q => ?_
      have hne : ∀ i : Nat, k = i → nI k = nI i := fun i e => by rw [e]
      rcases (show k = 0 ∨ k = 1 ∨ k = 2 ∨ k = 3 ∨ k = 4 ∨ k = 5 ∨ k = 6 ∨ k = 7 ∨ k = 8 ∨ k = 9 ∨ k = 10 ∨ k = 11 ∨ k = 12 ∨ k = 13 ∨ k = 14 ∨ k = 15 ∨ k = 16 ∨ k = 17 ∨ k = 18 ∨ k = 19 ∨ k = 20 ∨ k = 21 ∨ k = 22 by omega) with w | w | w | w | w | w | w | w | w | w | w | w | w | w | w | w | w | w | w | w | w | w | w
      · exact e0 (hne 0 w)
      · exact e1 (hne 1 w)
      · exact e2 (hne 2 w)
      · exact e3 (hne 3 w)
      · exact e4 (hne 4 w)
      · exact e5 (hne 5 w)
      · exact e6 (hne 6 w)
      · exact e7 (hne 7 w)
      · exact e8 (hne 8 w)
      · exact e9 (hne 9 w)
      · exact e10 (hne 10 w)
      · exact e11 (hne 11 w)
      · exact e12 (hne 12 w)
      · exact e13 (hne 13 w)
      · exact e14 (hne 14 w)
      · exact e15 (hne 15 w)
      · exact e16 (hne 16 w)
      · exact e17 (hne 17 w)
      · exact e18 (hne 18 w)
      · exact e19 (hne 19 w)
      · exact e20 (hne 20 w)
      · exact e21 (hne 21 w)
      · exact e22 (hne 22 w)
    subst q
    rw [sp_23]
    exact h⟩⟩
/-- reading and no more: the reader's numbers alone -/
def RoR (M M2 : zMem) : Prop := Same (fun z => z = 229) M M2 ∧ ∀ j, j < 3 ∨ 13 < j → M2.1 229 j = M.1 229 j
theorem RoR.refl (M : zMem) : RoR M M := ⟨Same.refl _ _, fun _ _ => rfl⟩
theorem RoR.trans {M M2 M3 : zMem} (h : RoR M M2) (h2 : RoR M2 M3) : RoR M M3 := ⟨h.1.trans h2.1, fun j hj => (h2.2 j hj).trans (h.2 j hj)⟩
theorem NxR.ro {M M2 : zMem} (h : NxR M M2) : RoR M M2 := ⟨h.1, fun j hj => h.2 j (by omega)⟩
theorem RoR.w {M M2 : zMem} (h : RoR M M2) {j : Nat} {x : Int32} (h1 : 3 ≤ j) (h2 : j ≤ 13) : RoR M (wI M2 229 j x) := ⟨h.1.wI rfl, fun i hi => by rw [wI_1, if_neg (by omega)]; exact h.2 i hi⟩
/-- the model's fault is this one -/
def ftR (M2 : zMem) (f : zFt) : Prop := M2.1 229 10 = nI f.1 ∧ M2.1 229 11 = nI f.2
theorem TkR_7 (hT : TR M tx n most s) (k : Nat) (hk : k < 5) : M.1 229 7 = nI k ↔ s.1.1 = k := by
  have h4 := hT.2.2.2.1
  rw [hT.2.2.2.2.1, nI_eq (by omega) (by omega)]
theorem e_X12_bad {Q : Bool → zMem → Prop} {k : Nat} (hT : TR M tx n most s) (h : ∀ M2, ftR M2 (if s.1.1 = 1 then 1 else k, plS s) → RoR M M2 → Q false M2) : S_X12_bad d (nI k) M (zB Q) := by
  have h7 := TkR_7 hT 1 (by omega)
  refine t_X12_bad ⟨fun e => ?_, fun e => ?_⟩
  · have e1 : ¬ s.1.1 = 1 := fun q => e (h7.mpr q)
    rw [if_neg e1] at h
    rintro M1 rfl M2 rfl
    refine zbf (h _ ⟨?_, ?_⟩ (((RoR.refl M).w (by omega) (by omega)).w (by omega) (by omega)))
    · rw [wI_1, if_neg (by omega), wI_1, if_pos ⟨rfl, rfl⟩]
    · rw [wI_1, if_pos ⟨rfl, rfl⟩, wI_1, if_neg (by omega)]; exact hT.2.1
  · have e1 : s.1.1 = 1 := h7.mp e
    rw [if_pos e1] at h
    rintro M1 rfl M2 rfl
    refine zbf (h _ ⟨?_, ?_⟩ (((RoR.refl M).w (by omega) (by omega)).w (by omega) (by omega)))
    · rw [wI_1, if_neg (by omega), wI_1, if_pos ⟨rfl, rfl⟩]; rfl
    · rw [wI_1, if_pos ⟨rfl, rfl⟩, wI_1, if_neg (by omega)]; exact hT.2.1
theorem e_X12_bad1 {Q : Bool → zMem → Prop} (hT : TR M tx n most s) (h : ∀ M2, ftR M2 (1, plS s) → RoR M M2 → Q false M2) : S_X12_bad d 1 M (zB Q) := by
  refine e_X12_bad (k := 1) hT (fun M2 h1 h2 => h M2 ?_ h2)
  rw [ite_self] at h1
  exact h1
theorem b27_ne {a b : List Nat} (ha : wdOK a) (hb : wdOK b) : (lN (b27 a) = lN (b27 b)) ↔ a = b := by
  have h1 := b27_60 ha
  have h2 := b27_60 hb
  rw [pk_lEQ (by omega) (by omega)]
  exact ⟨fun q => b27_inj ha hb q, fun q => by rw [q]⟩
theorem e_X12_isWord {Q : Bool → zMem → Prop} {k : Nat} (hk : k < 24) (hT : TR M tx n most s) (h : Q (decide (wdS s = some (piR k))) M) : S_X12_isWord (d + 2) (nI k) M (zB Q) := by
  have h7 := TkR_7 hT 2 (by omega)
  refine t_X12_isWord ⟨fun e => zbf ?_, fun e => c_X12_wordOf hk ?_⟩
  · have e1 : ¬ s.1.1 = 2 := fun q => e (h7.mpr q)
    have : wdS s = none := by unfold wdS; rw [if_neg e1]
    rw [this] at h
    simpa using h
  · have e1 : s.1.1 = 2 := h7.mp e
    obtain ⟨hw, h12⟩ := hT.2.2.2.2.2.1 e1
    have hp := piR_lt k hk
    have e2 : wdS s = some (piR k) ↔ rw1 (piR k) = s.1.2.2.1 := by
      unfold wdS
      rw [if_pos e1, wix_some]
      exact ⟨fun q => q.2, fun q => ⟨hp, q⟩⟩
    rw [lg_cmp_eq, h12, b27_ne hw (rw1_ok _ hp)]
    refine ⟨fun q => zbf ?_, fun q => zbt ?_⟩
    · rw [decide_eq_false (fun w => q (e2.mp w).symm)] at h; exact h
    · rw [decide_eq_true (e2.mpr q.symm)] at h; exact h
theorem e_X12_isSign {Q : Bool → zMem → Prop} {c : Nat} (hc : c < 256) (hT : TR M tx n most s) (h : Q (sgS s c) M) : S_X12_isSign d (nI c) M (zB Q) := by
  have h7 := TkR_7 hT 4 (by omega)
  unfold sgS at h
  refine t_X12_isSign ⟨fun e => zbf ?_, fun e => ?_⟩
  · rw [decide_eq_false (fun q => e (h7.mpr q.1))] at h; exact h
  · have e1 := h7.mp e
    have hs := hT.2.2.2.2.2.2.2 e1
    have := isS_lt hs.2
    rw [hs.1, nI_eq (by omega) (by omega)]
    refine ⟨fun q => zbf ?_, fun q => zbt ?_⟩
    · rw [decide_eq_false (fun w => q w.2)] at h; exact h
    · rw [decide_eq_true ⟨e1, q⟩] at h; exact h
theorem nmS_some (hT : TkR M s.1) {l : List Nat} (h : nmS s = some l) : s.1.1 = 2 ∧ wdOK l ∧ M.2 229 12 = lN (b27 l) ∧ wix l = none := by
  unfold nmS at h
  split at h
  · rename_i q
    cases h
    obtain ⟨hw, h12⟩ := hT.2.2.2.2.1 q.1
    exact ⟨q.1, hw, h12, q.2⟩
  · cases h
theorem e_X12_isName {Q : Bool → zMem → Prop} (hT : TR M tx n most s) (h : Q (nmS s).isSome M) : S_X12_isName (d + 2) M (zB Q) := by
  have h7 := TkR_7 hT 2 (by omega)
  refine t_X12_isName ⟨fun e => ?_, fun e => zbf ?_⟩
  · have e1 : s.1.1 = 2 := h7.mp e
    obtain ⟨hw, h12⟩ := hT.2.2.2.2.2.1 e1
    have key : ∀ (c i : Nat), i + c = 24 → (∀ j, j < i → rw1 (piR j) ≠ s.1.2.2.1) → S_X12_isName_12 (d + 2) (nI i) M (zB Q) := by
      intro c
      induction c with
      | zero =>
        intro i hi hj
        have ei : i = 24 := by omega
        subst ei
        refine t_X12_isName_12 ⟨fun _ => zbt ?_, fun q => absurd (by decide) q⟩
        have : nmS s = some s.1.2.2.1 := by
          unfold nmS
          refine if_pos ⟨e1, wix_none.mpr (fun i hi e => ?_)⟩
          obtain ⟨k, k1, k2⟩ := piR_sur i hi
          exact hj k k1 (by rw [k2]; exact e)
        rw [this] at h
        exact h
      | succ c ih =>
        intro i hi hj
        have hp := piR_lt i (by omega)
        refine t_X12_isName_12 ⟨fun q => absurd q (by rw [show (23 : Int32) = nI 23 from rfl]; exact nI_nlt (by omega) (by omega)), fun _ => c_X12_wordOf (by omega) ?_⟩
        rw [lg_cmp_eq, h12, b27_ne hw (rw1_ok _ hp), nI_1]
        refine ⟨fun q => ih (i + 1) (by omega) (fun j hj2 => ?_), fun q => zbf ?_⟩
        · rcases Nat.lt_or_ge j i with w | w
          · exact hj j w
          · rw [show j = i by omega]; exact fun w2 => q w2.symm
        · have : nmS s = none := by
            unfold nmS
            refine if_neg (fun w => ?_)
            rw [wix_none] at w
            exact w.2 _ hp q.symm
          rw [this] at h
          exact h
    exact key 24 0 (by omega) (fun j hj => by omega)
  · have : nmS s = none := by unfold nmS; rw [if_neg (fun q => e (h7.mpr q.1))]
    rw [this] at h
    exact h
theorem e_X12_readEnd {Q : Bool → zMem → Prop} (hT : TR M tx n most s) (hf : sgS s 59 = false → ∀ M2, ftR M2 (1, plS s) → RoR M M2 → Q false M2) (hs : sgS s 59 = true → ∀ M2, TR M2 tx n most (nx tx n most s) → NxR M M2 → Q true M2) : S_X12_readEnd (d + 2) M (zB Q) := by
  refine t_X12_readEnd (e_X12_isSign (c := 59) (by omega) hT ⟨fun e => ?_, fun e => e_X12_bad1 hT (fun M2 h1 h2 => zbr (hf e M2 h1 h2))⟩)
  have e1 : s.1.1 = 4 := (of_decide_eq_true e).1
  exact e_X12_go hT (by omega) (fun M2 h1 h2 => zbt (hs e M2 h2 h1))
theorem TR_told {x : Int32} (hT : TR M tx n most s) : TR (wI M 229 13 x) tx n most s := by
  obtain ⟨⟨⟨b, hR, hb⟩, h10⟩, hk⟩ := hT
  refine ⟨⟨⟨b, ?_, hb⟩, by rw [wI_1, if_neg (by omega)]; exact h10⟩, ?_⟩
  · obtain ⟨a1, a2, a3, a4, a5, a6, a7⟩ := hR
    exact ⟨a1, fun i hi => by rw [wI_ne _ (by omega)]; exact a2 i hi, by rw [wI_1, if_neg (by omega)]; exact a3, by rw [wI_1, if_neg (by omega)]; exact a4, a5, by rw [wI_1, if_neg (by omega)]; exact a6, a7⟩
  · unfold TkR at hk ⊢
    rw [wI_2, wI_1, if_neg (by omega), wI_1, if_neg (by omega), wI_1, if_neg (by omega), wI_1, if_neg (by omega)]
    exact hk
theorem isIn_nat {x lo hi : Nat} (hx : x < 2 ^ 31) (h1 : lo < 2 ^ 31) (h2 : hi < 2 ^ 31) : (decide (¬ nI x < nI lo) && decide (¬ nI hi < nI x)) = decide (lo ≤ x ∧ x ≤ hi) := by
  rw [← Bool.decide_and]
  refine decide_eq_decide.mpr ?_
  rw [nI_ltI hx h1, nI_ltI h2 hx]
  omega
theorem e_X12_readNumber {Q : Bool → zMem → Prop} {lo hi : Nat} (hlo : lo < 1000) (hhi : hi < 1000) (hT : TR M tx n most s) (hf : ∀ f, numP lo hi s = .inl f → ∀ M2, ftR M2 f → RoR M M2 → Q false M2)
    (hs : ∀ v, numP lo hi s = .inr v → v < 1000 → ∀ M2, TR M2 tx n most (nx tx n most s) → M2.1 229 13 = nI v → RoR M M2 → Q true M2) : S_X12_readNumber (d + 2) (nI lo) (nI hi) M (zB Q) := by
  have h7 := TkR_7 hT 3 (by omega)
  refine t_X12_readNumber ⟨fun e => ?_, fun e => e_X12_bad1 hT (fun M2 h1 h2 => zbr (hf _ ?_ M2 h1 h2))⟩
  · have e1 := h7.mp e
    obtain ⟨h8, hv⟩ := hT.2.2.2.2.2.2.1 e1
    refine c_X12_isIn ?_
    rw [h8, isIn_nat (by omega) (by omega) (by omega)]
    refine ⟨fun q => ?_, fun q => e_X12_bad (k := 2) hT (fun M2 h1 h2 => zbr (hf _ ?_ M2 h1 h2))⟩
    · have q := of_decide_eq_true q
      rintro M1 rfl
      refine e_X12_go (TR_told hT) (by omega) (fun M2 h1 h2 => zbt (hs s.1.2.2.2 ?_ hv M2 h2 ?_ (((RoR.refl M).w (by omega) (by omega)).trans h1.ro)))
      · unfold numP; rw [if_pos e1, if_pos (by omega)]
      · rw [h1.2 13 (by omega), wI_1, if_pos ⟨rfl, rfl⟩]
    · rw [if_neg (show ¬ s.1.1 = 1 by omega)]
      have q2 := of_decide_eq_false q
      unfold numP; rw [if_pos e1, if_neg q2]
  · unfold numP; rw [if_neg (fun q => e (h7.mpr q))]
/-- names at hand in a row of the model -/
def nmsR (M : zMem) (b o : Nat) (names : List (List Nat)) : Prop := (∀ x ∈ names, wdOK x) ∧ ∀ i, i < names.length → M.2 b (o + i) = lN (b27 (names.getD i []))
theorem ixW_R {b o : Nat} {names : List (List Nat)} {l : List Nat} (hn : nmsR M b o names) (hl : wdOK l) : ixW (fun i => M.2 b (o + i)) names.length (lN (b27 l)) = ixN names l := ixW_names (fun a b ha hb => b27_inj ha hb) (fun a ha => b27_60 ha) hn.1 hl hn.2
theorem nI_m1 {i : Nat} (h : i < 2 ^ 31) : ¬ nI i = -1 := by
  intro q0
  have := congrArg Int32.toInt q0
  rw [nI_toInt h] at this
  have h1 : (-1 : Int32).toInt = -1 := by decide
  omega
theorem e_X12_isHere {Q : Bool → zMem → Prop} {o : Nat} {names : List (List Nat)} (ho : o + names.length ≤ 28) (hn : nmsR M 238 o names) (hT : TR M tx n most s) (hf : ∀ f, namP names s = .inl f → ∀ M2, ftR M2 f → RoR M M2 → Q false M2)
    (hs : ∀ v, namP names s = .inr v → v < names.length → 2 ≤ s.1.1 → ∀ M2, TR M2 tx n most s → M2.1 229 13 = nI v → RoR M M2 → Q true M2) : S_X12_isHere (d + 3) (nI o) (nI names.length) M (zB Q) := by
  refine t_X12_isHere (e_X12_isName (d := d) hT ⟨fun e => ?_, fun e => e_X12_bad1 hT (fun M2 h1 h2 => zbr (hf _ ?_ M2 h1 h2))⟩)
  · obtain ⟨l, hl⟩ := Option.isSome_iff_exists.mp e
    obtain ⟨e2, hw, h12, -⟩ := nmS_some hT.2 hl
    have hzl : zl 238 = 28 := by decide
    refine c_X12_findIn (by decide) (by rw [hzl]; exact ho) (by rw [hzl]; decide) ?_
    rw [h12, ixW_R hn hw]
    rintro M1 rfl
    rw [wI_1, if_pos ⟨rfl, rfl⟩]
    have hR1 : RoR M (wI M 229 13 (upI (ixN names l))) := (RoR.refl M).w (by omega) (by omega)
    cases hx : ixN names l with
    | none =>
      refine ⟨fun q => absurd rfl q, fun _ => e_X12_bad (k := 3) (TR_told hT) (fun M2 h1 h2 => ⟨fun _ => zbf (hf _ ?_ M2 h1 (by rw [hx] at hR1; exact hR1.trans h2)), fun q => by cases q⟩)⟩
      unfold namP; rw [hl]; simp only [hx]; rw [if_neg (show ¬ s.1.1 = 1 by omega)]
    | some i =>
      have hlt := (ixN_lt hx).1
      refine ⟨fun _ => zbt (hs i ?_ hlt (by omega) _ (TR_told hT) (by rw [wI_1, if_pos ⟨rfl, rfl⟩]; rfl) (by rw [hx] at hR1; exact hR1)), fun q => absurd q (nI_m1 (by omega))⟩
      unfold namP; rw [hl]; simp only [hx]
  · unfold namP
    have : nmS s = none := by
      cases q : nmS s with
      | none => rfl
      | some l => rw [q] at e; cases e
    rw [this]
theorem e_X12_readNamed {Q : Bool → zMem → Prop} {o : Nat} {names : List (List Nat)} (ho : o + names.length ≤ 28) (hn : nmsR M 237 o names) (hT : TR M tx n most s) (hf : ∀ f, namP names s = .inl f → ∀ M2, ftR M2 f → RoR M M2 → Q false M2)
    (hs : ∀ v, namP names s = .inr v → v < names.length → ∀ M2, TR M2 tx n most (nx tx n most s) → M2.1 229 13 = nI v → RoR M M2 → Q true M2) : S_X12_readNamed (d + 3) (nI o) (nI names.length) M (zB Q) := by
  refine t_X12_readNamed (e_X12_isName (d := d) hT ⟨fun e => ?_, fun e => e_X12_bad1 hT (fun M2 h1 h2 => zbr (hf _ ?_ M2 h1 h2))⟩)
  · obtain ⟨l, hl⟩ := Option.isSome_iff_exists.mp e
    obtain ⟨e2, hw, h12, -⟩ := nmS_some hT.2 hl
    have hzl : zl 237 = 28 := by decide
    refine c_X12_findIn (by decide) (by rw [hzl]; exact ho) (by rw [hzl]; decide) ?_
    rw [h12, ixW_R hn hw]
    rintro M1 rfl
    rw [wI_1, if_pos ⟨rfl, rfl⟩]
    have hR1 : RoR M (wI M 229 13 (upI (ixN names l))) := (RoR.refl M).w (by omega) (by omega)
    cases hx : ixN names l with
    | none =>
      refine ⟨fun q => absurd rfl q, fun _ => e_X12_bad (k := 3) (TR_told hT) (fun M2 h1 h2 => zbr (hf _ ?_ M2 h1 (by rw [hx] at hR1; exact hR1.trans h2)))⟩
      unfold namP; rw [hl]; simp only [hx]; rw [if_neg (show ¬ s.1.1 = 1 by omega)]
    | some i =>
      have hlt := (ixN_lt hx).1
      refine ⟨fun _ => e_X12_go (d := d + 1) (TR_told hT) (by omega) (fun M2 h1 h2 => zbt (hs i ?_ hlt M2 h2 ?_ (by rw [hx] at hR1; exact hR1.trans h1.ro))), fun q => absurd q (nI_m1 (by omega))⟩
      · unfold namP; rw [hl]; simp only [hx]
      · rw [h1.2 13 (by omega), wI_1, if_pos ⟨rfl, rfl⟩]; rfl
  · unfold namP
    have : nmS s = none := by
      cases q : nmS s with
      | none => rfl
      | some l => rw [q] at e; cases e
    rw [this]
end
