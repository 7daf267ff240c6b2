-- ===== a BOOK: what stays in the model, what was told =====
section
variable {d n most i k p B m : Nat} {M M2 M3 : zMem} {N : zNm} {P : zPl} {F G : Nat → Int32} {us : List (Nat → Int32)} {x y : Int32}
/-- what the end of a BOOK may change in the model -/
def BO (M M2 : zMem) : Prop := Same (fun z => z = 229 ∨ z = 231 ∨ z = 234 ∨ z = 235 ∨ (246 ≤ z ∧ z ≤ 254) ∨ z = 261) M M2 ∧ (∀ j, j ≠ 25 → j ≠ 54 → M2.1 229 j = M.1 229 j) ∧ ∀ j, j < 202 ∨ 405 ≤ j → M2.1 231 j = M.1 231 j
theorem BO.refl (M : zMem) : BO M M := ⟨Same.refl _ _, fun _ _ _ => rfl, fun _ _ => rfl⟩
theorem BO.trans (h : BO M M2) (h2 : BO M2 M3) : BO M M3 := ⟨h.1.trans h2.1, fun j a b => (h2.2.1 j a b).trans (h.2.1 j a b), fun j a => (h2.2.2 j a).trans (h.2.2 j a)⟩
theorem BO.so (h : SoOnly M M2) : BO M M2 := ⟨h.1.mono (fun z hz => by omega), fun j _ _ => by rw [h.1.1 229 (by omega)], h.2⟩
theorem BO.lay (h : LayOnly M M2) : BO M M2 := ⟨h.mono (fun z hz => by omega), fun j _ _ => by rw [h.1 229 (by omega)], fun j _ => by rw [h.1 231 (by omega)]⟩
theorem BO.snap (h : SnapOnly M M2) : BO M M2 := ⟨h.1.mono (fun z hz => by omega), fun j a _ => h.2 j a, fun j _ => by rw [h.1.1 231 (by omega)]⟩
theorem BO.w261 {j : Nat} {v : Int32} : BO M (wI M 261 j v) := ⟨(Same.refl _ M).wI (by omega), fun j _ _ => by rw [wI_ne _ (by omega)], fun j _ => by rw [wI_ne _ (by omega)]⟩
theorem BO.w54 {v : Int32} : BO M (wI M 229 54 v) := ⟨(Same.refl _ M).wI (by omega), fun j _ b => by rw [wI_1, if_neg (by omega)], fun j _ => by rw [wI_ne _ (by omega)]⟩
theorem PR_bo (h : PR M P F) (hb : BO M M2) (hf : cl (fR M2) = G) : PR M2 P G := ⟨h.1, plnR_same h.2.1 (fun j hj => hb.2.2 j (by omega)) (fun z hz => hb.1.1 z (by omega)), hf⟩
/-- told: why, right lines, given, roots -/
def tl4 (M : zMem) (y : Int32) (r : Nat) (G : Nat → Int32) (P : zPl) : Prop := M.1 261 0 = y ∧ M.1 261 1 = nI r ∧ M.1 261 2 = G 2 ∧ M.1 261 3 = manyF (rtP P G) (mP P) ∧ M.1 229 54 = 1
theorem tl4_same {r : Nat} (h : tl4 M y r G P) (h1 : M2.1 261 = M.1 261) (h2 : M2.1 229 54 = M.1 229 54) : tl4 M2 y r G P := by
  unfold tl4 at h ⊢
  rw [h1, h2]
  exact h
theorem m_stay {Q : zMem → Prop} {r : Nat} (hM : PR M P G) (hU : UR M us) (hs : ∀ j, j < 203 → M.1 236 j = F j) (hF : cl F = F) (ht : tl4 M y r G P) (hx : x = 0 ∨ x = 1)
    (h : ∀ M2, BO M M2 → PR M2 P (if x = 0 then F else G) → UR M2 (if x = 0 then us else (F :: us).take 8) → tl4 M2 y r G P → Q M2) : S_X12_stay (d + 4) x M (zU Q) := by
  refine t_X12_stay ?_
  have hG : cl G = G := by rw [← hM.2.2, cl_cl]
  refine c_X12_save (from_ := 0) (by decide) (by omega) (by decide) (by decide) (fun M1 a1 a2 a3 => ?_)
  have b1 : BO M M1 := ⟨a3.mono (fun z hz => by omega), fun j _ _ => by rw [a3.1 229 (by omega)], fun j _ => by rw [a3.1 231 (by omega)]⟩
  refine c_X12_comeBack (from_ := 0) (by decide) (by omega) (by decide) (by decide) (fun M2 f2 s2 => ?_)
  have b2 : BO M M2 := b1.trans (BO.so s2)
  have e2 : cl (fR M2) = F := by
    rw [← hF]
    refine cl_eq (fun j hj => ?_)
    rw [f2 j hj, Nat.zero_add, a3.1 236 (by omega)]
    exact hs j hj
  have u2 : UR M2 us := UR_same hU (by rw [s2.1.1 229 (by omega), a3.1 229 (by omega)]) (by rw [s2.1.1 234 (by omega), a3.1 234 (by omega)])
  have t2 : tl4 M2 y r G P := tl4_same ht (by rw [s2.1.1 261 (by omega), a3.1 261 (by omega)]) (by rw [s2.1.1 229 (by omega), a3.1 229 (by omega)])
  have e235 : ∀ j, j < 203 → M2.1 235 j = fR M j := fun j hj => by
    have := a1 j hj
    rw [Nat.zero_add] at this
    rw [s2.1.1 235 (by omega), this]
  rcases hx with hx | hx
  · refine ⟨fun q => absurd hx q, fun _ => zuu ?_⟩
    have := h M2 b2
    rw [if_pos hx, if_pos hx] at this
    exact this (PR_bo hM b2 e2) u2 t2
  · have hx0 : ¬ x = 0 := by rw [hx]; decide
    refine ⟨fun _ => e_X12_snap u2 (fun M3 u3 s3 => ?_), fun q => absurd q hx0⟩
    rw [e2] at u3
    refine c_X12_comeBack (from_ := 0) (by decide) (by omega) (by decide) (by decide) (fun M4 f4 s4 => zuu ?_)
    have b4 : BO M M4 := b2.trans ((BO.snap s3).trans (BO.so s4))
    have e4 : cl (fR M4) = G := by
      rw [← hM.2.2]
      refine cl_eq (fun j hj => ?_)
      rw [f4 j hj, Nat.zero_add, s3.1.1 235 (by omega)]
      exact e235 j hj
    have := h M4 b4
    rw [if_neg hx0, if_neg hx0] at this
    exact this (PR_bo hM b4 e4) (UR_same u3 (by rw [s4.1.1 229 (by omega)]) (s4.1.1 234 (by omega))) (tl4_same t2 (by rw [s4.1.1 261 (by omega), s3.1.1 261 (by omega)]) (by rw [s4.1.1 229 (by omega), s3.2 54 (by omega)]))
theorem m_121 {Q : Int32 → zMem → Prop} {r : Nat} (hM : PR M P G) (hU : UR M us) (hs : ∀ j, j < 203 → M.1 236 j = F j) (hF : cl F = F) (hr : r ≤ 40) (hx : x = 0 ∨ x = 1)
    (h : ∀ M2, BO M M2 → PR M2 P (if x = 1 ∧ 0 < r then G else F) → UR M2 (if x = 1 ∧ 0 < r then (F :: us).take 8 else us) → tl4 M2 y r G P → Q (if y = 0 then -1 else nI r) M2) : S_X12_book_121 (d + 34) x (nI r) y M (zI Q) := by
  refine t_X12_book_121 ?_
  intro M1 e1 M2 e2 M3 e3
  have b3 : BO M M3 := by rw [e3, e2, e1]; exact (BO.w261.trans BO.w261).trans BO.w261
  have p3 : PR M3 P G := PR_bo hM b3 (by rw [e3, e2, e1]; exact hM.2.2)
  refine e_X12_rootMany (d := d + 2) p3 (fun M4 l4 => ?_)
  intro M5 e5 M6 e6
  have b6 : BO M M6 := b3.trans ((BO.lay l4).trans (by rw [e6, e5]; exact BO.w261.trans BO.w54))
  have p6 : PR M6 P G := PR_bo hM b6 (by
    have : M6.1 231 = M.1 231 := by rw [e6, wI_ne _ (by omega), e5, wI_ne _ (by omega), l4.1 231 (by omega), e3, wI_ne _ (by omega), e2, wI_ne _ (by omega), e1, wI_ne _ (by omega)]
    rw [fR_same this]
    exact hM.2.2)
  have u6 : UR M6 us := UR_same hU (by rw [e6, wI_1, if_neg (by omega), e5, wI_ne _ (by omega), l4.1 229 (by omega), e3, wI_ne _ (by omega), e2, wI_ne _ (by omega), e1, wI_ne _ (by omega)]) (by rw [e6, wI_ne _ (by omega), e5, wI_ne _ (by omega), l4.1 234 (by omega), e3, wI_ne _ (by omega), e2, wI_ne _ (by omega), e1, wI_ne _ (by omega)])
  have s6 : ∀ j, j < 203 → M6.1 236 j = F j := fun j hj => by rw [b6.1.1 236 (by omega)]; exact hs j hj
  have g2 : M2.1 231 204 = G 2 := by rw [e2, wI_ne _ (by omega), e1, wI_ne _ (by omega)]; exact PR_f hM (j := 2) (by omega)
  have t6 : tl4 M6 y r G P := by
    have e4 : M4.1 261 = M3.1 261 := l4.1 261 (by omega)
    refine ⟨?_, ?_, ?_, ?_, by rw [e6, wI_1, if_pos ⟨rfl, rfl⟩]⟩
    · rw [e6, wI_ne _ (by omega), e5, wI_1, if_neg (by omega), e4, e3, wI_1, if_neg (by omega), e2, wI_1, if_neg (by omega), e1, wI_1, if_pos ⟨rfl, rfl⟩]
    · rw [e6, wI_ne _ (by omega), e5, wI_1, if_neg (by omega), e4, e3, wI_1, if_neg (by omega), e2, wI_1, if_pos ⟨rfl, rfl⟩]
    · rw [e6, wI_ne _ (by omega), e5, wI_1, if_neg (by omega), e4, e3, wI_1, if_pos ⟨rfl, rfl⟩]; exact g2
    · rw [e6, wI_ne _ (by omega), e5, wI_1, if_pos ⟨rfl, rfl⟩]
  have fin : ∀ M7, (BO M6 M7 → PR M7 P (if x = 1 ∧ 0 < r then G else F) → UR M7 (if x = 1 ∧ 0 < r then (F :: us).take 8 else us) → tl4 M7 y r G P → (¬ y = 0 → zI Q (some (.int (nI r))) M7) ∧ (y = 0 → zI Q (some (.int (-1))) M7)) := by
    intro M7 c1 c2 c3 c4
    have := h M7 (b6.trans c1) c2 c3 c4
    refine ⟨fun q => zii ?_, fun q => zii ?_⟩
    · rw [if_neg q] at this; exact this
    · rw [if_pos q] at this; exact this
  refine ⟨fun q => ?_, fun q => ⟨fun q2 => ?_, fun q2 => ?_⟩⟩
  · have c : ¬ (x = 1 ∧ 0 < r) := fun w => q w.1
    rw [if_neg c, if_neg c] at fin
    exact m_stay (d := d + 29) (x := 0) p6 u6 s6 hF t6 (Or.inl rfl) (fun M7 c1 c2 c3 c4 => fin M7 c1 c2 c3 c4)
  · rw [show (0 : Int32) = nI 0 from rfl, nI_leI (by omega) (by omega)] at q2
    have c : ¬ (x = 1 ∧ 0 < r) := fun w => by omega
    rw [if_neg c, if_neg c] at fin
    exact m_stay (d := d + 29) (x := 0) p6 u6 s6 hF t6 (Or.inl rfl) (fun M7 c1 c2 c3 c4 => fin M7 c1 c2 c3 c4)
  · rw [show (0 : Int32) = nI 0 from rfl, nI_leI (by omega) (by omega)] at q2
    have c : x = 1 ∧ 0 < r := ⟨q, by omega⟩
    rw [if_pos c, if_pos c] at fin
    refine m_stay (d := d + 29) (x := 1) p6 u6 s6 hF t6 (Or.inr rfl) (fun M7 c1 c2 c3 c4 => ?_)
    rw [if_neg (show ¬ ((1 : Int32) = 0) by decide)] at c2 c3
    exact fin M7 c1 c2 c3 c4
end
