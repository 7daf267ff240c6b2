-- ===== deeds undone: the class's ring, the model's row =====
def UC (M : zMem) (us : List (Nat → Int32)) (top : Nat) : Prop := top < 9 ∧ M.1 170 1 = nI top ∧ M.1 170 2 = nI us.length ∧ us.length ≤ 8 ∧ ∀ i F, us[i]? = some F → cl (fC M (172 + 5 * ((top + 8 - i) % 9))) = F
def UN (M : zMem) (us : List (Nat → Int32)) (top : Nat) (F : Nat → Int32) : Prop := UC M us top ∧ cl (fC M (172 + 5 * top)) = F
def UR (M : zMem) (us : List (Nat → Int32)) : Prop := M.1 229 25 = nI us.length ∧ us.length ≤ 8 ∧ ∀ i F, us[i]? = some F → ∀ j, j < 203 → M.1 234 (203 * (us.length - 1 - i) + j) = F j
theorem UC_same {M M2 : zMem} {us : List (Nat → Int32)} {top : Nat} (h : UC M us top) (hs : ∀ z, 170 ≤ z → z < 217 → M2.1 z = M.1 z) : UC M2 us top := by
  obtain ⟨h1, h2, h3, h4, h5⟩ := h
  refine ⟨h1, by rw [hs 170 (by omega) (by omega)]; exact h2, by rw [hs 170 (by omega) (by omega)]; exact h3, h4, fun i F hi => ?_⟩
  rw [fC_same (fun z z1 z2 => hs z (by omega) (by omega))]
  exact h5 i F hi
theorem UR_same {M M2 : zMem} {us : List (Nat → Int32)} (h : UR M us) (h1 : M2.1 229 25 = M.1 229 25) (h2 : M2.1 234 = M.1 234) : UR M2 us := by
  unfold UR
  rw [h1, h2]
  exact h
theorem iX3_ring : ∀ t, t < 9 → 172 + 5 * t ∈ iX3 := by decide +kernel
theorem iX3_far : ∀ b, b ∈ iX3 → ∀ t, t < 9 → b < 172 ∨ 217 ≤ b → b + 5 ≤ 172 + 5 * t ∨ 172 + 5 * t + 5 ≤ b := by decide +kernel
section
variable {d b top : Nat} {M : zMem} {us : List (Nat → Int32)}
theorem e_X10_note {Q : zMem → Prop} (hb : b ∈ iX3) (hfar : b < 172 ∨ 217 ≤ b) (hU : UC M us top) (h : ∀ M2, UN M2 us top (cl (fC M b)) → Same (fun z => 172 ≤ z ∧ z < 217) M M2 → Q M2) : S_X10_note (d + 2) b M (zU Q) := by
  obtain ⟨h1, h2, h3, h4, h5⟩ := hU
  refine t_X10_note hb ?_
  rw [h2, nI_clamp (by omega)]
  refine ⟨nIin h1 (by omega), ?_⟩
  have hn := iX3_far b hb top h1 hfar
  refine c_X3_copyFrom (iX3_ring top h1) hb (by omega) (fun M2 e2 s2 => zuu (h M2 ⟨⟨h1, ?_, ?_, h4, fun i F hi => ?_⟩, ?_⟩ (s2.mono (fun i hi => by omega))))
  · rw [s2.1 170 (by omega)]; exact h2
  · rw [s2.1 170 (by omega)]; exact h3
  · have hi8 : i < us.length := (List.getElem?_eq_some_iff.mp hi).1
    rw [fC_same (fun z z1 z2 => s2.1 z (by omega))]
    exact h5 i F hi
  · rw [e2]
    exact cl_copy _ _
theorem e_X10_keepNoted {Q : zMem → Prop} {F : Nat → Int32} (hU : UN M us top F) (h : ∀ M2 top2, UC M2 ((F :: us).take 8) top2 → Same (fun z => z = 170) M M2 → Q M2) : S_X10_keepNoted (d + 1) M (zU Q) := by
  obtain ⟨⟨h1, h2, h3, h4, h5⟩, h6⟩ := hU
  refine t_X10_keepNoted ?_
  rintro M1 rfl M2 rfl
  have e1 : (M.1 170 1 + 1) - (M.1 170 1 + 1) / 9 * 9 = nI ((top + 1) % 9) := by rw [h2, nI_1, show (9 : Int32) = nI 9 from rfl, pk_rem (by omega) (by omega) (by omega)]
  have e2 : (if 8 < (M.1 170 2 + 1) then (8 : Int32) else (M.1 170 2 + 1)) = nI (min 8 (us.length + 1)) := by rw [h3, nI_1, show (8 : Int32) = nI 8 from rfl, minI (by omega) (by omega)]
  have e3 : (wI M 170 1 ((M.1 170 1 + 1) - (M.1 170 1 + 1) / 9 * 9)).1 170 2 = M.1 170 2 := by rw [wI_1, if_neg (by omega)]
  rw [e3, e1, e2]
  refine zuu (h _ ((top + 1) % 9) ⟨by omega, ?_, ?_, ?_, fun i G hi => ?_⟩ (((Same.refl (fun z => z = 170) M).wI rfl).wI rfl))
  · rw [wI_1, if_neg (by omega), wI_1, if_pos ⟨rfl, rfl⟩]
  · rw [wI_1, if_pos ⟨rfl, rfl⟩, List.length_take, List.length_cons]
  · rw [List.length_take]; omega
  · have hi8 : i < 8 ∧ (F :: us)[i]? = some G := by
      rw [List.getElem?_take] at hi
      split at hi
      · exact ⟨by assumption, hi⟩
      · cases hi
    rw [fC_same (M := M) (fun z z1 z2 => by
      show (z_up (z_up M.1 170 _) 170 _) z = M.1 z
      rw [z_up_n _ _ (by omega), z_up_n _ _ (by omega)])]
    cases i with
    | zero =>
      have : F = G := by simpa using hi8.2
      rw [show ((top + 1) % 9 + 8 - 0) % 9 = top by omega, ← this]
      exact h6
    | succ i =>
      have : us[i]? = some G := by simpa using hi8.2
      rw [show ((top + 1) % 9 + 8 - (i + 1)) % 9 = (top + 8 - i) % 9 by omega]
      exact h5 i G this
theorem c_X10_clear {Q : zMem → Prop} (hU : UC M us top) (h : ∀ M2, UC M2 [] top → Same (fun z => z = 170) M M2 → Q M2) : S_X10_clear d M (zU Q) := by
  refine t_X10_clear ?_
  rintro M1 rfl
  refine zuu (h _ ⟨hU.1, ?_, ?_, by simp, fun i F hi => by simp at hi⟩ ((Same.refl _ M).wI rfl))
  · rw [wI_1, if_neg (by omega)]; exact hU.2.1
  · rw [wI_1, if_pos ⟨rfl, rfl⟩]; rfl
theorem e_X10_takeBack {Q : zMem → Prop} {F : Nat → Int32} (hb : b ∈ iX3) (hfar : b < 172 ∨ 217 ≤ b) (hb170 : b + 5 ≤ 170 ∨ 170 < b) (hU : UC M (F :: us) top) (h : ∀ M2 top2, UC M2 us top2 → cl (fC M2 b) = F → Same (fun z => z = 170 ∨ (b ≤ z ∧ z < b + 5)) M M2 → Q M2) : S_X10_takeBack (d + 2) b M (zU Q) := by
  obtain ⟨h1, h2, h3, h4, h5⟩ := hU
  simp only [List.length_cons] at h3 h4
  refine t_X10_takeBack hb ?_
  rintro M1 rfl M2 rfl
  have e1 : (M.1 170 1 + 8) - (M.1 170 1 + 8) / 9 * 9 = nI ((top + 8) % 9) := by rw [h2, show (8 : Int32) = nI 8 from rfl, nI_add, show (9 : Int32) = nI 9 from rfl, pk_rem (by omega) (by omega) (by omega)]
  have e3 : (wI M 170 1 ((M.1 170 1 + 8) - (M.1 170 1 + 8) / 9 * 9)).1 170 2 = M.1 170 2 := by rw [wI_1, if_neg (by omega)]
  rw [e3, e1, h3, nI_pred]
  have e4 : (wI (wI M 170 1 (nI ((top + 8) % 9))) 170 2 (nI us.length)).1 170 1 = nI ((top + 8) % 9) := by rw [wI_1, if_neg (by omega), wI_1, if_pos ⟨rfl, rfl⟩]
  rw [e4, nI_clamp (by omega)]
  refine ⟨nIin (by omega) (by omega), ?_⟩
  have hn := iX3_far b hb ((top + 8) % 9) (by omega) hfar
  have hfc : ∀ c, 170 < c → fC (wI (wI M 170 1 (nI ((top + 8) % 9))) 170 2 (nI us.length)) c = fC M c := fun c hc => fC_same (fun z z1 z2 => by
    show (z_up (z_up M.1 170 _) 170 _) z = M.1 z
    rw [z_up_n _ _ (by omega), z_up_n _ _ (by omega)])
  have hfc2 : ∀ c, c + 5 ≤ 170 → fC (wI (wI M 170 1 (nI ((top + 8) % 9))) 170 2 (nI us.length)) c = fC M c := fun c hc => fC_same (fun z z1 z2 => by
    show (z_up (z_up M.1 170 _) 170 _) z = M.1 z
    rw [z_up_n _ _ (by omega), z_up_n _ _ (by omega)])
  refine c_X3_copyFrom hb (iX3_ring _ (by omega)) (by omega) (fun M2 e2 s2 => zuu (h M2 ((top + 8) % 9) ⟨by omega, ?_, ?_, by omega, fun i G hi => ?_⟩ ?_ ?_))
  · rw [s2.1 170 (by omega)]; exact e4
  · rw [s2.1 170 (by omega), wI_1, if_pos ⟨rfl, rfl⟩]
  · have hi8 : i < us.length := (List.getElem?_eq_some_iff.mp hi).1
    have hn2 := iX3_far b hb (((top + 8) % 9 + 8 - i) % 9) (by omega) hfar
    rw [fC_same (fun z z1 z2 => s2.1 z (by omega)), hfc _ (by omega)]
    have := h5 (i + 1) G (by simpa using hi)
    rw [show (top + 8 - (i + 1)) % 9 = ((top + 8) % 9 + 8 - i) % 9 by omega] at this
    exact this
  · rw [e2, cl_copy, hfc _ (by omega)]
    have := h5 0 F (by simp)
    exact this
  · exact (((Same.refl _ M).wI (Or.inl rfl)).wI (Or.inl rfl)).trans (s2.mono (fun i hi => Or.inr hi))
end
-- the model's
section
variable {d : Nat} {M : zMem}
theorem c_X12_save {Q : zMem → Prop} {b1 from_ : Nat} (h1 : zc b1 = 100 ∧ b1 < zN) (hne : b1 ≠ 231) (hl : from_ + 203 ≤ zl b1) (hz : zl b1 < 2 ^ 30)
    (h : ∀ M2, (∀ j, j < 203 → M2.1 b1 (from_ + j) = fR M j) → (∀ j, j < from_ ∨ from_ + 203 ≤ j → M2.1 b1 j = M.1 b1 j) → Same (fun z => z = b1) M M2 → Q M2) : S_X12_save d b1 (nI from_) M (zU Q) := by
  refine t_X12_save h1 ?_
  have key : ∀ (c i : Nat) (M3 : zMem), i + c = 203 → (∀ j, j < i → M3.1 b1 (from_ + j) = fR M j) → (∀ j, j < from_ ∨ from_ + i ≤ j → M3.1 b1 j = M.1 b1 j) → Same (fun z => z = b1) M M3 → S_X12_save_2 d b1 (nI from_) (nI i) M3 (zU Q) := by
    intro c
    induction c with
    | zero =>
      intro i M3 hi a1 a2 a3
      have e : i = 203 := by omega
      subst e
      exact t_X12_save_2 h1 ⟨fun _ => zuu (h M3 a1 a2 a3), fun q => absurd (by decide) q⟩
    | succ c ih =>
      intro i M3 hi a1 a2 a3
      refine t_X12_save_2 h1 ⟨fun q => absurd q (by rw [show (203 : Int32) = nI 203 from rfl]; exact nI_ge (by omega) (by omega)), fun _ => ⟨rin (o := 202) rfl (by omega) (by omega), ?_⟩⟩
      rw [nI_add]
      refine ⟨nIin (by omega) (by omega), ?_⟩
      rw [nI_clamp (by omega), rcl (x := 202) (o := 202) rfl (by omega), nI_1]
      rintro M4 rfl
      refine ih (i + 1) _ (by omega) (fun j hj => ?_) (fun j hj => ?_) (a3.wI rfl)
      · rw [wI_1]
        by_cases e : j = i
        · subst e
          rw [if_pos ⟨rfl, rfl⟩, a3.1 231 (fun q => hne q.symm)]; rfl
        · rw [if_neg (by omega)]
          exact a1 j (by omega)
      · rw [wI_1, if_neg (by omega)]
        exact a2 j (by omega)
  exact key 203 0 M (by omega) (fun j hj => by omega) (fun j _ => rfl) (Same.refl _ _)
theorem c_X12_comeBack {Q : zMem → Prop} {b1 from_ : Nat} (h1 : zc b1 = 100 ∧ b1 < zN) (hne : b1 ≠ 231) (hl : from_ + 203 ≤ zl b1) (hz : zl b1 < 2 ^ 30)
    (h : ∀ M2, (∀ j, j < 203 → fR M2 j = M.1 b1 (from_ + j)) → SoOnly M M2 → Q M2) : S_X12_comeBack d b1 (nI from_) M (zU Q) := by
  refine t_X12_comeBack h1 ?_
  have key : ∀ (c i : Nat) (M3 : zMem), i + c = 203 → (∀ j, j < i → fR M3 j = M.1 b1 (from_ + j)) → SoOnly M M3 → S_X12_comeBack_2 d b1 (nI from_) (nI i) M3 (zU Q) := by
    intro c
    induction c with
    | zero =>
      intro i M3 hi a1 a3
      have e : i = 203 := by omega
      subst e
      exact t_X12_comeBack_2 h1 ⟨fun _ => zuu (h M3 a1 a3), fun q => absurd (by decide) q⟩
    | succ c ih =>
      intro i M3 hi a1 a3
      refine t_X12_comeBack_2 h1 ⟨fun q => absurd q (by rw [show (203 : Int32) = nI 203 from rfl]; exact nI_ge (by omega) (by omega)), fun _ => ?_⟩
      rw [nI_add]
      refine ⟨nIin (by omega) (by omega), rin (o := 202) rfl (by omega) (by omega), ?_⟩
      rw [nI_clamp (by omega), rcl (x := 202) (o := 202) rfl (by omega), nI_1]
      rintro M4 rfl
      refine ih (i + 1) _ (by omega) (fun j hj => ?_) (a3.w (by omega) (by omega))
      rw [fR_w (i := i) rfl]
      by_cases e : j = i
      · subst e
        rw [upd_s, a3.1.1 b1 hne]
      · rw [upd_n _ _ e]
        exact a1 j (by omega)
  exact key 203 0 M (by omega) (fun j hj => by omega) (SoOnly.refl _)
/-- only the row of what was, and how many there are -/
def SnapOnly (M M2 : zMem) : Prop := Same (fun z => z = 229 ∨ z = 234) M M2 ∧ ∀ j, j ≠ 25 → M2.1 229 j = M.1 229 j
theorem e_X12_snap {Q : zMem → Prop} {us : List (Nat → Int32)} (hU : UR M us) (h : ∀ M2, UR M2 ((cl (fR M) :: us).take 8) → SnapOnly M M2 → Q M2) : S_X12_snap (d + 2) M (zU Q) := by
  obtain ⟨h1, h2, h3⟩ := hU
  have h50 : ∀ (M1 : zMem) (vs : List (Nat → Int32)), vs.length < 8 → M1.1 229 25 = nI vs.length → (∀ i F, vs[i]? = some F → ∀ j, j < 203 → M1.1 234 (203 * (vs.length - 1 - i) + j) = F j) → SnapOnly M M1 → (cl (fR M) :: vs) = (cl (fR M) :: us).take 8 → S_X12_snap_50 (d + 2) M1 (zU Q) := by
    intro M1 vs hv v1 v3 vS ev
    refine t_X12_snap_50 ?_
    rw [v1, show (203 : Int32) = nI 203 from rfl, pk_mul]
    refine c_X12_save (by decide) (by omega) (by show 203 * vs.length + 203 ≤ 1624; omega) (by decide) (fun M2 a1 a2 a3 => ?_)
    rintro M3 rfl
    rw [a3.1 229 (by omega), v1, nI_1]
    refine zuu (h _ ?_ ⟨(vS.1.trans (a3.mono (fun i hi => by omega))).wI (by omega), fun j hj => by rw [wI_1, if_neg (by omega), a3.1 229 (by omega)]; exact vS.2 j hj⟩)
    rw [← ev]
    refine ⟨by rw [wI_1, if_pos ⟨rfl, rfl⟩, List.length_cons], by rw [List.length_cons]; omega, fun i F hi j hj => ?_⟩
    rw [wI_1, if_neg (by omega)]
    cases i with
    | zero =>
      have : cl (fR M) = F := by simpa using hi
      rw [List.length_cons, show vs.length + 1 - 1 - 0 = vs.length by omega, a1 j hj, ← this, cl_at _ hj]
      exact congrFun (fR_same (vS.1.1 231 (by omega))) j
    | succ i =>
      have hi2 : vs[i]? = some F := by simpa using hi
      have hil : i < vs.length := (List.getElem?_eq_some_iff.mp hi2).1
      rw [List.length_cons, show vs.length + 1 - 1 - (i + 1) = vs.length - 1 - i by omega, a2 _ (by omega)]
      exact v3 i F hi2 j hj
  refine t_X12_snap ⟨fun e => ?_, fun e => ?_⟩
  · have hlt : us.length < 8 := by
      rcases Nat.lt_or_ge us.length 8 with q | q
      · exact q
      · exact absurd (by rw [h1, show us.length = 8 by omega]; rfl) e
    exact h50 M us hlt h1 h3 ⟨Same.refl _ _, fun _ _ => rfl⟩ (by rw [List.take_of_length_le (by rw [List.length_cons]; omega)])
  · have h8 : us.length = 8 := by
      rw [h1, show (8 : Int32) = nI 8 from rfl] at e
      exact (nI_eq (by omega) (by omega)).mp e
    have key : ∀ (c i : Nat) (M3 : zMem), i + c = 1421 → (∀ j, j < i → M3.1 234 j = M.1 234 (j + 203)) → (∀ j, i ≤ j → M3.1 234 j = M.1 234 j) → SnapOnly M M3 → (∀ j, M3.1 229 j = M.1 229 j) → S_X12_snap_11 (d + 2) (nI i) M3 (zU Q) := by
      intro c
      induction c with
      | zero =>
        intro i M3 hi a1 a2 aS a3
        have e : i = 1421 := by omega
        subst e
        refine t_X12_snap_11 ⟨fun _ => ?_, fun q => absurd (by decide) q⟩
        rintro M4 rfl
        have hd : us.length - 1 = 7 := by omega
        refine h50 _ (us.take 7) (by rw [List.length_take]; omega) ?_ (fun i F hi j hj => ?_) ⟨aS.1.wI (by omega), fun j hj => by rw [wI_1, if_neg (by omega)]; exact aS.2 j hj⟩ ?_
        · rw [wI_1, if_pos ⟨rfl, rfl⟩, a3, h1, h8, List.length_take, h8]; rfl
        · have hi7 : i < 7 ∧ us[i]? = some F := by
            rw [List.getElem?_take] at hi
            split at hi
            · exact ⟨by assumption, hi⟩
            · cases hi
          rw [wI_1, if_neg (by omega), List.length_take, h8, a1 _ (by omega)]
          have := h3 i F hi7.2 j hj
          rw [h8] at this
          rw [← this]
          have hi6 := hi7.1
          exact congrArg (M.1 234) (by have e7 : min 7 8 = 7 := rfl
                                       rw [e7]; omega)
        · rw [List.take_succ_cons]
      | succ c ih =>
        intro i M3 hi a1 a2 aS a3
        refine t_X12_snap_11 ⟨fun q => absurd q (by rw [show (1421 : Int32) = nI 1421 from rfl]; exact nI_ge (by omega) (by omega)), fun _ => ?_⟩
        rw [show (203 : Int32) = nI 203 from rfl, nI_add]
        refine ⟨nIin (by omega) (by omega), nIin (by omega) (by omega), ?_⟩
        rw [nI_clamp (by omega), nI_clamp (by omega), nI_1]
        rintro M4 rfl
        refine ih (i + 1) _ (by omega) (fun j hj => ?_) (fun j hj => ?_) ⟨aS.1.wI (by omega), fun j hj => by rw [wI_1, if_neg (by omega)]; exact aS.2 j hj⟩ (fun j => by rw [wI_1, if_neg (by omega)]; exact a3 j)
        · rw [wI_1]
          by_cases e : j = i
          · subst e
            rw [if_pos ⟨rfl, rfl⟩]
            exact a2 _ (by omega)
          · rw [if_neg (by omega)]
            exact a1 j (by omega)
        · rw [wI_1, if_neg (by omega)]
          exact a2 j (by omega)
    exact key 1421 0 M (by omega) (fun j hj => by omega) (fun j _ => rfl) ⟨Same.refl _ _, fun _ _ => rfl⟩ (fun _ => rfl)
end
