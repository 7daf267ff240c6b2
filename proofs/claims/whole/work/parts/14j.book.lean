-- ===== book: the model =====
section
variable {d n most i k p B m : Nat} {M M2 M3 : zMem} {N : zNm} {P : zPl} {F G : Nat → Int32} {us : List (Nat → Int32)} {tx : Nat → Nat} {x y : Int32}
theorem jd_le : ∀ (bs : List zBk) (r : Nat) (F : Nat → Int32), (jdS P bs r F).2.1 ≤ r + bs.length
  | [], r, F => Nat.le_refl _
  | b :: bs, r, F => by
    rw [jdS_c, List.length_cons]
    split
    · have := jd_le bs (r + 1) (ddB P F b).2
      omega
    · show r ≤ _
      omega
theorem bdG_jd (hP : okP (plOf N)) : ∀ (bs : List zBk) (r B : Nat) (F : Nat → Int32), (∀ b ∈ bs, okB N b) → bdG B (prN N).length F → bdG (B + bs.length) (prN N).length (jdS (plOf N) bs r F).2.2
  | [], r, B, F, _, h => h
  | b :: bs, r, B, F, hb, h => by
    rw [jdS_c, List.length_cons]
    split
    · have := bdG_jd hP bs (r + 1) (B + 1) (ddB (plOf N) F b).2 (fun c hc => hb c (List.mem_cons_of_mem _ hc)) (bdG_dd hP (hb b (List.mem_cons_self ..)) h)
      rw [show B + (bs.length + 1) = B + 1 + bs.length by omega]
      exact this
    · exact bdG_mono h (by omega) (Nat.le_refl _)
/-- what a BOOK may change in the model -/
def XO (M M2 : zMem) : Prop := Same (fun z => z = 229 ∨ z = 231 ∨ z = 234 ∨ z = 235 ∨ z = 236 ∨ (246 ≤ z ∧ z ≤ 255) ∨ z = 258 ∨ z = 260 ∨ z = 261) M M2 ∧ (∀ j, 13 < j → j ≠ 25 → j ≠ 27 → j ≠ 43 → j ≠ 50 → j ≠ 53 → j ≠ 54 → M2.1 229 j = M.1 229 j) ∧ ∀ j, j < 202 ∨ 405 ≤ j → M2.1 231 j = M.1 231 j
theorem m_book {Q : Int32 → zMem → Prop} (hN : okN N) (hx : x = 0 ∨ x = 1) (htx : txOK tx n) (ht : ∀ i, i < n → M.1 230 i = nI (tx i)) (hn : M.1 229 2 = nI n) (hd : hdR M N) (hM : PR M (plOf N) F) (hF : cl F = F) (hU : UR M us) (hg : bdG B (prN N).length F) (hB : B + 1000 ≤ 1000000000)
    (hf : ∀ f j, rdB N tx n = .inl (f, j) → ∀ M2, ftR M2 f → M2.1 229 27 = nI j → M2.1 229 2 = 0 → M2.1 229 25 = M.1 229 25 → M2.1 229 54 = M.1 229 54 → Same (fun z => z = 229 ∨ z = 236 ∨ z = 260) M M2 → XO M M2 → Q ((-2) - nI f.2) M2)
    (hs : ∀ bs, rdB N tx n = .inr bs → ∀ M2, M2.1 229 10 = 0 → M2.1 229 27 = -1 → M2.1 229 2 = 0 → PR M2 (plOf N) (if x = 1 ∧ 0 < (jdS (plOf N) bs 0 F).2.1 then (jdS (plOf N) bs 0 F).2.2 else F) → UR M2 (if x = 1 ∧ 0 < (jdS (plOf N) bs 0 F).2.1 then (F :: us).take 8 else us) → tl4 M2 (jdS (plOf N) bs 0 F).1 (jdS (plOf N) bs 0 F).2.1 (jdS (plOf N) bs 0 F).2.2 (plOf N) → XO M M2 → Q (if (jdS (plOf N) bs 0 F).1 = 0 then -1 else nI (jdS (plOf N) bs 0 F).2.1) M2) : S_X12_book (d + 64) x M (zI Q) := by
  have gi : (decide (¬ x < 0) && decide (¬ (1 : Int32) < x)) = true := by rcases hx with e | e <;> rw [e] <;> decide
  refine t_X12_book (fun M1 e1 => c_X12_isIn ⟨fun _ => ?_, fun q => (by rw [gi] at q; cases q)⟩)
  refine e_X12_begin (d := d + 60) (most := 400) (tx := tx) (n := n) (by omega) htx (fun i hi => by rw [e1, wI_ne _ (by omega)]; exact ht i hi) (by rw [e1, wI_1, if_neg (by omega)]; exact hn) (fun M2 t2 b10 b2 b0 s2 j2 => ?_)
  intro M3 e3 M4 e4
  have s4 : Same (fun z => z = 229) M M4 := by rw [e4, e3]; exact (((e1 ▸ (Same.refl (fun z => z = 229) M).wI rfl).trans s2).wI rfl).wI rfl
  have j4 : ∀ j, 13 < j → j ≠ 27 → j ≠ 53 → M4.1 229 j = M.1 229 j := fun j a b c => by rw [e4, wI_1, if_neg (by omega), e3, wI_1, if_neg (by omega), j2 j a, e1, wI_1, if_neg (by omega)]
  have t4 : TR M4 tx n 400 (nextT tx n 400 0) := e4 ▸ TR_53 (by omega) (e3 ▸ TR_53 (by omega) t2)
  have d4 : hdR M4 N := hdR_same hd (fun j _ => by rw [s4.1 231 (by omega)]) (s4.2 237 (by omega))
  have k2 : M4.1 229 2 = 0 := by rw [e4, wI_1, if_neg (by omega), e3, wI_1, if_neg (by omega)]; exact b2
  have p4 : PR M4 (plOf N) F := ⟨hM.1, plnR_same hM.2.1 (fun j _ => by rw [s4.1 231 (by omega)]) (fun z hz => s4.1 z (by omega)), by rw [fR_same (s4.1 231 (by omega))]; exact hM.2.2⟩
  refine m_lines (d := d + 30) (M0 := M4) hN (fun f j hr M5 g1 g2 g3 => ?_) (fun bs hr M5 g1 g2 g3 g4 g5 => ?_) 40 0 [] (nextT tx n 400 0) M4 (by omega) rfl rfl (LO.refl M4) d4 t4 ⟨?_, Nat.zero_le _, fun i b hi => by cases hi⟩ ?_
  · have s5 : Same (fun z => z = 229 ∨ z = 236 ∨ z = 260) M M5 := (s4.mono (fun z hz => by omega)).trans g3.1
    exact hf f j hr M5 g1 g2 (by rw [g3.2 2 (by omega) (by omega) (by omega)]; exact k2) (by rw [g3.2 25 (by omega) (by omega) (by omega), j4 25 (by omega) (by omega) (by omega)]) (by rw [g3.2 54 (by omega) (by omega) (by omega), j4 54 (by omega) (by omega) (by omega)]) s5 ⟨s5.mono (fun z hz => by omega), fun j a b c _ _ e _ => by rw [g3.2 j (by omega) c e, j4 j a c e], fun j _ => by rw [s5.1 231 (by omega)]⟩
  · have r5 : M5.1 231 = M4.1 231 := g5.1.1 231 (by omega)
    have p5 : PR M5 (plOf N) F := ⟨p4.1, plnR_same p4.2.1 (fun j _ => by rw [r5]) (fun z hz => g5.1.1 z (by omega)), by rw [fR_same r5]; exact p4.2.2⟩
    have u5 : UR M5 us := UR_same hU (by rw [g5.2 25 (by omega) (by omega) (by omega), j4 25 (by omega) (by omega) (by omega)]) (by rw [g5.1.1 234 (by omega), s4.1 234 (by omega)])
    have l0 := jd_le (P := plOf N) bs 0 F
    have l40 := g1.2.1
    refine m_judge (F := F) (M0 := M5) (B := B) g1 hB (fun M6 p6 t6 => ?_) bs 0 F M5 (by omega) (fun j b hb => by rw [Nat.zero_add]; exact hb) rfl p5 hg (TO.refl M5)
    have u6 : UR M6 us := UR_same u5 (t6.2.1 25 (by omega) (by omega)) (t6.1.1 234 (by omega))
    have s6 : ∀ j, j < 203 → M6.1 236 j = F j := fun j hj => by
      rw [t6.1.1 236 (by omega), g2 j hj, ← p5.2.2, cl_at _ hj]
    refine m_121 (F := F) p6 u6 s6 hF (by omega) hx (fun M7 c1 c2 c3 c4 => ?_)
    refine hs bs hr M7 ?_ ?_ ?_ c2 c3 c4 ⟨?_, fun j a b c e f g h => ?_, fun j hj => ?_⟩
    · rw [c1.2.1 10 (by omega) (by omega), t6.2.1 10 (by omega) (by omega)]; exact g3
    · rw [c1.2.1 27 (by omega) (by omega), t6.2.1 27 (by omega) (by omega)]; exact g4
    · rw [c1.2.1 2 (by omega) (by omega), t6.2.1 2 (by omega) (by omega), g5.2 2 (by omega) (by omega) (by omega)]; exact k2
    · exact (s4.mono (fun z hz => by omega)).trans ((g5.1.mono (fun z hz => by omega)).trans ((t6.1.mono (fun z hz => by omega)).trans (c1.1.mono (fun z hz => by omega))))
    · rw [c1.2.1 j b h, t6.2.1 j e f, g5.2 j (by omega) c g, j4 j a c g]
    · rw [c1.2.2 j hj, t6.2.2 j hj, g5.1.1 231 (by omega), s4.1 231 (by omega)]
  · rw [e4, wI_1, if_neg (by omega), e3, wI_1, if_pos ⟨rfl, rfl⟩]; rfl
  · rw [e4, wI_1, if_pos ⟨rfl, rfl⟩]
end
