-- ===== the model reads a BOOK: all lines =====
section
variable {d n most i k p B m : Nat} {M M2 M3 : zMem} {N : zNm} {tx : Nat → Nat} {s : zPs} {x y : Int32}
/-- what the reading of a BOOK may change in the model -/
def LO (M M2 : zMem) : Prop := Same (fun z => z = 229 ∨ z = 236 ∨ z = 260) M M2 ∧ ∀ j, j < 3 ∨ 13 < j → j ≠ 27 → j ≠ 53 → M2.1 229 j = M.1 229 j
theorem LO.refl (M : zMem) : LO M M := ⟨Same.refl _ _, fun _ _ _ _ => rfl⟩
theorem LO.trans (h : LO M M2) (h2 : LO M2 M3) : LO M M3 := ⟨h.1.trans h2.1, fun j a b c => (h2.2 j a b c).trans (h.2 j a b c)⟩
theorem RmS.lo (h : RmS i M M2) : LO M M2 := ⟨h.1.mono (fun z hz => by omega), fun j a _ _ => h.2.1 j a⟩
theorem LO.w {j : Nat} {v : Int32} (hj : j = 27 ∨ j = 53) : LO M (wI M 229 j v) := ⟨(Same.refl _ M).wI (by omega), fun k _ a b => by rw [wI_1, if_neg (by omega)]⟩
theorem TR_53 {v : Int32} {j : Nat} (hj : 13 < j) (h : TR M tx n most s) : TR (wI M 229 j v) tx n most s := by
  obtain ⟨⟨⟨b, ⟨c1, c2, c3, c4, c5, c6, c7⟩, hb⟩, h10⟩, hk⟩ := h
  refine ⟨⟨⟨b, ⟨c1, fun i hi => by rw [wI_ne _ (by omega)]; exact c2 i hi, by rw [wI_1, if_neg (by omega)]; exact c3, by rw [wI_1, if_neg (by omega)]; exact c4, c5, by rw [wI_1, if_neg (by omega)]; exact c6, c7⟩, hb⟩, by rw [wI_1, if_neg (by omega)]; exact h10⟩, ?_⟩
  unfold TkR at hk ⊢
  rw [wI_2, wI_1, if_neg (by omega), wI_1, if_neg (by omega), wI_1, if_neg (by omega), wI_1, if_neg (by omega)]
  exact hk
theorem m_lines {Q : Int32 → zMem → Prop} {M0 : zMem} (hN : okN N)
    (hf : ∀ f j, rdB N tx n = .inl (f, j) → ∀ M2, ftR M2 f → M2.1 229 27 = nI j → LO M0 M2 → Q ((-2) - nI f.2) M2)
    (hs : ∀ bs, rdB N tx n = .inr bs → ∀ M2, rwsR (N := N) M2 bs → (∀ j, j < 203 → M2.1 236 j = fR M2 j) → M2.1 229 10 = 0 → M2.1 229 27 = -1 → LO M0 M2 → S_X12_book_91 (d + 34) x 0 0 M2 (zI Q)) :
    ∀ (f i : Nat) (bs : List zBk) (s : zPs) (M : zMem), i + f = 40 → bs.length = i → rdB N tx n = blsP tx n 400 N (f + 1) i bs s → LO M0 M → hdR M N → TR M tx n 400 s → rwsR (N := N) M bs → M.1 229 27 = -1 → S_X12_book_35 (d + 34) x M (zI Q)
  | f, i, bs, s, M, hi, hl, hrd, hS, hd, hT, hr, h27 => by
    have k53 : M.1 229 53 = nI i := by rw [hr.1, hl]
    have h7 := TkR_7 hT 0 (by omega)
    unfold blsP at hrd
    refine t_X12_book_35 ⟨fun q => ?_, fun q => ?_⟩
    · have k0 : s.1.1 = 0 := h7.mp q
      rw [if_pos k0] at hrd
      refine c_X12_save (from_ := 0) (by decide) (by omega) (by decide) (by decide) (fun M2 a1 a2 a3 => hs bs hrd M2 ?_ (fun j hj => ?_) ?_ ?_ (hS.trans ⟨a3.mono (fun z hz => by omega), fun j _ _ _ => by rw [a3.1 229 (by omega)]⟩))
      · unfold rwsR rwR at hr ⊢
        rw [a3.1 229 (by omega), a3.1 260 (by omega)]
        exact hr
      · have := a1 j hj
        rw [Nat.zero_add] at this
        rw [this, fR_same (a3.1 231 (by omega))]
      · rw [a3.1 229 (by omega)]; exact hT.1.2
      · rw [a3.1 229 (by omega)]; exact h27
    · have k0 : ¬ s.1.1 = 0 := fun w => q (h7.mpr w)
      rw [if_neg k0] at hrd
      refine m_line (d := d + 27) (i := i) hN hd hT k53 (by omega) (fun e he M2 g1 g2 => ⟨fun w => (by cases w), fun _ M3 e3 => zii ?_⟩) (fun r hr2 M2 hT2 r2 g2 => ⟨fun _ M3 e3 => ?_, fun w => (by cases w)⟩)
      · have e11 : M3.1 229 11 = nI e.2 := by rw [e3, wI_1, if_neg (by omega)]; exact g1.2
        rw [e11]
        refine hf e i (by rw [hrd, he]) M3 ⟨by rw [e3, wI_1, if_neg (by omega)]; exact g1.1, e11⟩ ?_ (hS.trans (g2.lo.trans (e3 ▸ LO.w (Or.inl rfl))))
        rw [e3, wI_1, if_pos ⟨rfl, rfl⟩, g2.2.1 53 (by omega)]
        exact k53
      · rw [hr2] at hrd
        simp only [] at hrd
        have i40 := (blnP_ok hr2).2
        obtain ⟨f2, ef⟩ : ∃ f2, f = f2 + 1 := ⟨f - 1, by omega⟩
        rw [ef] at hrd
        have hlen : (bs ++ [r.1]).length = i + 1 := by rw [List.length_append, hl]; rfl
        have k53' : M2.1 229 53 = nI i := by rw [g2.2.1 53 (by omega)]; exact k53
        have l3 : LO M0 M3 := hS.trans (g2.lo.trans (e3 ▸ LO.w (Or.inr rfl)))
        have hd3 : hdR M3 N := by rw [e3]; exact hdR_same (hr_rm hd g2) (fun j _ => by rw [wI_ne _ (by omega)]) rfl
        refine m_lines hN hf hs f2 (i + 1) (bs ++ [r.1]) r.2 M3 (by omega) hlen hrd l3 hd3 (e3 ▸ TR_53 (by omega) hT2) ⟨?_, by omega, fun j b hj => ?_⟩ (by rw [e3, wI_1, if_neg (by omega), g2.2.1 27 (by omega)]; exact h27)
        · rw [e3, wI_1, if_pos ⟨rfl, rfl⟩, k53', nI_1, hlen]
        · have e260 : M3.1 260 = M2.1 260 := by rw [e3, wI_ne _ (by omega)]
          unfold rwR
          rw [e260]
          by_cases ej : j < i
          · rw [List.getElem?_append_left (by omega)] at hj
            obtain ⟨⟨q1, q2, q3, q4⟩, q5⟩ := hr.2.2 j b hj
            exact ⟨⟨(g2.2.2 _ (by omega)).trans q1, (g2.2.2 _ (by omega)).trans q2, (g2.2.2 _ (by omega)).trans q3, (g2.2.2 _ (by omega)).trans q4⟩, q5⟩
          · rw [List.getElem?_append_right (by omega)] at hj
            have e0 : j - bs.length = 0 := by
              have := (List.getElem?_eq_some_iff.mp hj).1
              simp at this
              omega
            rw [e0] at hj
            cases hj
            have ej2 : j = i := by omega
            rw [ej2]
            exact ⟨r2, (blnP_ok hr2).1⟩
  termination_by f => f
end
