-- ===== scenes copied; image, restore =====
section
variable {d B b p q k m g g2 b0 b1 : Nat} {M M2 M3 : zMem} {N N2 : zNm} {F G : Nat → Int32} {us us2 : List (Nat → Int32)} {x y z v : Int32}
theorem wI_ne2 (M : zMem) {i j : Nat} {w : Int32} : (wI M i j w).2 = M.2 := rfl
theorem cL_ne2 (M : zMem) {a0 sp a dp n z : Nat} (h : z ≠ a) : (cL M a0 sp a dp n).2 z = M.2 z := z_up_n _ _ h
theorem cL_in (M : zMem) {a0 a n j : Nat} (h : j < n) : (cL M a0 0 a 0 n).2 a j = M.2 a0 j := by rw [cL_2, if_pos ⟨rfl, by omega, by omega⟩, Nat.zero_add, Nat.sub_zero]
theorem c_X5_copyFrom {Q : zMem → Prop} (h0 : g ∈ iX5) (h1 : g2 ∈ iX5) (hf : g + 7 ≤ g2 ∨ g2 + 7 ≤ g) (h : ∀ M2, (∀ N, okN N → nmC M g2 N → nmC M2 g N) → Same (fun z => g ≤ z ∧ z < g + 7) M M2 → Q M2) : S_X5_copyFrom (d + 1) g g2 M (zU Q) := by
  refine t_X5_copyFrom h0 h1 ?_
  intro M1 e1 M2 e2 M3 e3 M4 e4 M5 e5 M6 e6 M7 e7 M8 e8 M9 e9 Ma ea Mb eb
  have S1 : Same (fun z => z = g) M M1 := by rw [e1]; exact (Same.refl (fun z => z = g) M).wI rfl
  have S2 : Same (fun z => z = g) M M2 := by rw [e2]; exact S1.wI rfl
  have S3 : Same (fun z => z = g) M M3 := by rw [e3]; exact S2.wI rfl
  have S4 : Same (fun z => z = g) M M4 := by rw [e4]; exact S3.wI rfl
  have S5 : Same (fun z => z = g) M M5 := by rw [e5]; exact S4.wI rfl
  have S6 : Same (fun z => z = g ∨ z = g + 1) M M6 := by rw [e6]; exact (S5.mono (fun z hz => Or.inl hz)).cL (by omega)
  have S7 : Same (fun z => z = g ∨ z = g + 1 ∨ z = g + 2) M M7 := by rw [e7]; exact (S6.mono (fun z hz => by omega)).cL (by omega)
  have S8 : Same (fun z => z = g ∨ z = g + 1 ∨ z = g + 2 ∨ z = g + 3) M M8 := by rw [e8]; exact (S7.mono (fun z hz => by omega)).cI (by omega)
  have S9 : Same (fun z => z = g ∨ z = g + 1 ∨ z = g + 2 ∨ z = g + 3 ∨ z = g + 4) M M9 := by rw [e9]; exact (S8.mono (fun z hz => by omega)).cI (by omega)
  have Sa : Same (fun z => g ≤ z ∧ z < g + 6) M Ma := by rw [ea]; exact (S9.mono (fun z hz => by omega)).cI (by omega)
  have Sb : Same (fun z => g ≤ z ∧ z < g + 7) M Mb := by rw [eb]; exact (Sa.mono (fun z hz => by omega)).cI (by omega)
  refine zuu (h Mb (fun N hN hC => ?_) Sb)
  have h24 := hN.2.2.2.1
  have h4 := hN.2.2.2.2.1
  obtain ⟨⟨c0, c1, c2, c3, c4, c5, c6⟩, c7⟩ := hC
  have r0 : Mb.1 g = M5.1 g := by rw [eb, cI_ne _ (by omega), ea, cI_ne _ (by omega), e9, cI_ne _ (by omega), e8, cI_ne _ (by omega), e7, cL_1, e6, cL_1]
  have f1 : M1.1 g2 = M.1 g2 := by rw [e1, wI_ne _ (by omega)]
  have f2 : M2.1 g2 = M.1 g2 := by rw [e2, wI_ne _ (by omega), f1]
  have f3 : M3.1 g2 = M.1 g2 := by rw [e3, wI_ne _ (by omega), f2]
  have f4 : M4.1 g2 = M.1 g2 := by rw [e4, wI_ne _ (by omega), f3]
  refine ⟨⟨?_, ?_, ?_, ?_, ?_, fun k hk => ?_, fun k hk => ?_⟩, fun k hk => ⟨?_, ?_, ?_, ?_⟩⟩
  · rw [r0, e5, wI_1, if_neg (by omega), e4, wI_1, if_neg (by omega), e3, wI_1, if_neg (by omega), e2, wI_1, if_neg (by omega), e1, wI_1, if_pos ⟨rfl, rfl⟩]; exact c0
  · rw [r0, e5, wI_1, if_neg (by omega), e4, wI_1, if_neg (by omega), e3, wI_1, if_neg (by omega), e2, wI_1, if_pos ⟨rfl, rfl⟩, f1]; exact c1
  · rw [r0, e5, wI_1, if_neg (by omega), e4, wI_1, if_neg (by omega), e3, wI_1, if_pos ⟨rfl, rfl⟩, f2]; exact c2
  · rw [r0, e5, wI_1, if_neg (by omega), e4, wI_1, if_pos ⟨rfl, rfl⟩, f3]; exact c3
  · rw [r0, e5, wI_1, if_pos ⟨rfl, rfl⟩, f4]; exact c4
  · rw [eb, cI_2, ea, cI_2, e9, cI_2, e8, cI_2, e7, cL_ne2 _ (by omega), e6, cL_in _ (by omega), S5.2 _ (by omega)]; exact c5 k hk
  · rw [eb, cI_2, ea, cI_2, e9, cI_2, e8, cI_2, e7, cL_in _ (by omega), S6.2 _ (by omega)]; exact c6 k hk
  · rw [eb, cI_ne _ (by omega), ea, cI_ne _ (by omega), e9, cI_ne _ (by omega), e8, cI_in _ (by omega), S7.1 _ (by omega)]; exact (c7 k hk).1
  · rw [eb, cI_ne _ (by omega), ea, cI_ne _ (by omega), e9, cI_in _ (by omega), S8.1 _ (by omega)]; exact (c7 k hk).2.1
  · rw [eb, cI_ne _ (by omega), ea, cI_in _ (by omega), S9.1 _ (by omega)]; exact (c7 k hk).2.2.1
  · rw [eb, cI_in _ (by omega), Sa.1 _ (by omega)]; exact (c7 k hk).2.2.2
theorem c_X7_copyFrom {Q : zMem → Prop} (h0 : g ∈ iX7) (h1 : g2 ∈ iX7) (hf : g + 2 ≤ g2 ∨ g2 + 2 ≤ g) (h : ∀ M2, M2.1 g 1 = M.1 g2 1 → M2.1 g 2 = M.1 g2 2 → (∀ j, j < 60 → M2.1 (g + 1) j = M.1 (g2 + 1) j) → Same (fun z => g ≤ z ∧ z < g + 2) M M2 → Q M2) : S_X7_copyFrom (d + 1) g g2 M (zU Q) := by
  refine t_X7_copyFrom h0 h1 ?_
  intro M1 e1 M2 e2 M3 e3
  refine zuu (h M3 ?_ ?_ (fun j hj => ?_) (by rw [e3, e2, e1]; exact (((Same.refl _ _).cI (by omega)).wI (by omega)).wI (by omega)))
  · rw [e3, wI_1, if_neg (by omega), e2, wI_1, if_pos ⟨rfl, rfl⟩, e1, cI_ne _ (by omega)]
  · rw [e3, wI_1, if_pos ⟨rfl, rfl⟩, e2, wI_ne _ (by omega), e1, cI_ne _ (by omega)]
  · rw [e3, wI_ne _ (by omega), e2, wI_ne _ (by omega), e1, cI_in _ hj]
theorem iX8_far : ∀ b, b ∈ iX8 → (b + 1 ∈ iX5 ∧ b + 8 ∈ iX3 ∧ b + 13 ∈ iX7) ∧ ∀ b2, b2 ∈ iX8 → b ≠ b2 → b + 15 ≤ b2 ∨ b2 + 15 ≤ b := by decide
theorem c_X8_copyFrom {Q : zMem → Prop} (h0 : b0 ∈ iX8) (h1 : b1 ∈ iX8) (hne : b0 ≠ b1)
    (h : ∀ M2, (∀ N, okN N → nmC M (b1 + 1) N → nmC M2 (b0 + 1) N) → cl (fC M2 (b0 + 8)) = cl (fC M (b1 + 8)) → (∀ m R, sayOK m (M.1 (b1 + 14)) (M.1 (b1 + 13) 1) (M.1 (b1 + 13) 2) R → sayOK m (M2.1 (b0 + 14)) (M2.1 (b0 + 13) 1) (M2.1 (b0 + 13) 2) R) → Same (fun z => b0 < z ∧ z < b0 + 15) M M2 → Q M2) : S_X8_copyFrom (d + 2) b0 b1 M (zU Q) := by
  obtain ⟨⟨i5, i3, i7⟩, hfar⟩ := iX8_far b0 h0
  obtain ⟨⟨j5, j3, j7⟩, -⟩ := iX8_far b1 h1
  have hf := hfar b1 h1 hne
  refine t_X8_copyFrom h0 h1 (c_X5_copyFrom i5 j5 (by omega) (fun M1 n1 s1 => c_X3_copyFrom i3 j3 (by omega) (fun M2 f2 s2 => c_X7_copyFrom i7 j7 (by omega) (fun M3 a1 a2 a3 s3 => zuu (h M3 (fun N hN hC => ?_) ?_ (fun m R hS => ?_) ?_)))))
  · exact nmC_same (nmC_same (n1 N hN hC) (fun z hz => s2.1 z (by omega)) (fun z hz => s2.2 z (by omega))) (fun z hz => s3.1 z (by omega)) (fun z hz => s3.2 z (by omega))
  · rw [fC_same (M := M2) (M2 := M3) (b := b0 + 8) (fun z z1 z2 => s3.1 z (by omega)), f2, cl_copy, fC_same (M := M) (M2 := M1) (b := b1 + 8) (fun z z1 z2 => s1.1 z (by omega))]
  · have e13 : M2.1 (b1 + 13) = M.1 (b1 + 13) := by rw [s2.1 _ (by omega), s1.1 _ (by omega)]
    have e14 : M2.1 (b1 + 14) = M.1 (b1 + 14) := by rw [s2.1 _ (by omega), s1.1 _ (by omega)]
    rw [a1, a2, e13]
    rcases hS with ⟨t1, t2⟩ | ⟨t1, t2, cs, t, t3, t4, t5, t6, t7, t8⟩
    · exact Or.inl ⟨t1, t2⟩
    · refine Or.inr ⟨t1, t2, cs, t, t3, t4, t5, fun i c hi => ?_, t7, t8⟩
      have := (List.getElem?_eq_some_iff.mp hi).1
      rw [show b0 + 14 = b0 + 13 + 1 by omega, a3 i (by omega), show b1 + 13 + 1 = b1 + 14 by omega, e14]
      exact t6 i c hi
  · exact (s1.mono (fun z hz => by omega)).trans ((s2.mono (fun z hz => by omega)).trans (s3.mono (fun z hz => by omega)))
theorem img_in (h1 : ¬ x < 0) (h2 : x < 2) : ∃ k, k < 2 ∧ x = nI k := by
  have q : inN x 2 = true := by
    simp only [inN, Bool.and_eq_true, decide_eq_true_eq]
    exact ⟨h1, Int32.not_le.mpr h2⟩
  exact inN_of q (by omega)
theorem isIn01 {k : Nat} (h : k < 2) : (decide (¬ nI k < 0) && decide (¬ (1 : Int32) < nI k)) = true := by
  rcases (show k = 0 ∨ k = 1 by omega) with rfl | rfl <;> decide
theorem o_image (h : JA B M N F us) : S_X11_image (d + 3) x M (zI fun r M1 => S_X12_image (d + 3) x M1 (zI fun r2 M2 => eqJ B r r2 M2)) := by
  have no : (x < 0 ∨ ¬ x < 2) → S_X12_image (d + 3) x M (zI fun r2 M2 => eqJ B 0 r2 M2) := by
    intro w
    refine t_X12_image (fun M1 e1 => c_X12_isIn ⟨fun e => ?_, fun _ => zii ⟨rfl, e1 ▸ h.w0.j⟩⟩)
    exfalso
    rcases w with w | w
    · simp [w] at e
    · have : ¬ ¬ (1 : Int32) < x := by
        rw [Int32.lt_iff_toInt_lt] at w ⊢
        have a1 : (1 : Int32).toInt = 1 := by decide
        have a2 : (2 : Int32).toInt = 2 := by decide
        omega
      simp [Classical.not_not.mp this] at e
  refine t_X11_image ⟨fun e => zii (no (Or.inl e)), fun e => ⟨fun e2 => ?_, fun e2 => zii (no (Or.inr e2))⟩⟩
  obtain ⟨k, hk, ek⟩ := img_in e e2
  rw [ek, nI_clamp (by omega)]
  have hb8 : 33 + 15 * k ∈ iX8 := by rcases (show k = 0 ∨ k = 1 by omega) with rfl | rfl <;> decide
  refine ⟨nIin hk (by omega), c_X8_copyFrom hb8 (by decide) (by omega) (fun M1 n1 f1 y1 s1 => ⟨nIin hk (by omega), fun M2 e2 => zii ?_⟩)⟩
  have S2 : Same (fun z => 33 + 15 * k ≤ z ∧ z < 33 + 15 * k + 15) M M2 := by rw [e2]; exact (s1.mono (fun z hz => by omega)).wI (by omega)
  refine t_X12_image (fun M3 e3 => c_X12_isIn ⟨fun _ => ?_, fun q => (by rw [isIn01 hk] at q; cases q)⟩)
  have S3 : Same (fun z => (33 + 15 * k ≤ z ∧ z < 33 + 15 * k + 15) ∨ z = 229) M M3 := by rw [e3]; exact (S2.mono (fun z hz => Or.inl hz)).wI (by omega)
  have t9 : ∀ j, j ≠ 0 → M3.1 229 j = M.1 229 j := fun j hj => by rw [e3, wI_1, if_neg (by omega), S2.1 229 (by omega)]
  have ix : ∀ i, i < 647 → (647 * nI k + nI i).toNatClampNeg = 647 * k + i := fun i hi => by rw [show (647 : Int32) = nI 647 from rfl, pk_mul, nI_add, nI_clamp (by omega)]
  have vx : ∀ i, i < 647 → vp_in (647 * nI k + nI i) 1294 := fun i hi => by rw [show (647 : Int32) = nI 647 from rfl, pk_mul, nI_add]; exact nIin (by omega) (by omega)
  have ix2 : ∀ i, i < 28 → (28 * nI k + nI i).toNatClampNeg = 28 * k + i := fun i hi => by rw [show (28 : Int32) = nI 28 from rfl, pk_mul, nI_add, nI_clamp (by omega)]
  have vx2 : ∀ i, i < 28 → vp_in (28 * nI k + nI i) 56 := fun i hi => by rw [show (28 : Int32) = nI 28 from rfl, pk_mul, nI_add]; exact nIin (by omega) (by omega)
  -- the names
  have names : ∀ (c i : Nat) (M5 : zMem), i + c = 28 → Same (fun z => z = 233 ∨ z = 239) M3 M5 → True → (∀ j, j < 647 → M5.1 233 (647 * k + j) = M3.1 231 j) → (∀ j, (j < 647 * k ∨ 647 * k + 647 ≤ j) → M5.1 233 j = M3.1 233 j) → (∀ j, j < i → M5.2 239 (28 * k + j) = M3.2 237 j) → (∀ j, (j < 28 * k ∨ 28 * k + 28 ≤ j) → M5.2 239 j = M3.2 239 j) → S_X12_image_51 (d + 3) (nI k) (nI i) M5 (zI fun r2 M2 => eqJ B 1 r2 M2) := by
    intro c
    induction c with
    | zero =>
      intro i M5 hi s5 u5 a5 b5 c5 d5
      have ei : i = 28 := by omega
      subst ei
      refine t_X12_image_51 ⟨fun _ => ⟨nIin hk (by omega), fun M6 e6 => ?_⟩, fun w => absurd (by decide) w⟩
      rw [nI_clamp (by omega)] at e6
      have S6 : Same (fun z => (33 + 15 * k ≤ z ∧ z < 33 + 15 * k + 15) ∨ z = 229 ∨ z = 233 ∨ z = 239 ∨ z = 240) M M6 := by rw [e6]; exact ((S3.mono (fun z hz => by omega)).trans (s5.mono (fun z hz => by omega))).wI (by omega)
      have t : ∀ z, ¬ ((33 + 15 * k ≤ z ∧ z < 33 + 15 * k + 15) ∨ z = 229 ∨ z = 233 ∨ z = 239 ∨ z = 240) → M6.1 z = M.1 z := fun z hz => S6.1 z hz
      have t2 : ∀ z, ¬ ((33 + 15 * k ≤ z ∧ z < 33 + 15 * k + 15) ∨ z = 229 ∨ z = 233 ∨ z = 239 ∨ z = 240) → M6.2 z = M.2 z := fun z hz => S6.2 z hz
      have q9 : ∀ j, j ≠ 0 → M6.1 229 j = M.1 229 j := fun j hj => by rw [e6, wI_ne _ (by omega), s5.1 229 (by omega), t9 j hj]
      have r233 : ∀ j, j < 647 → M6.1 233 (647 * k + j) = M.1 231 j := fun j hj => by rw [e6, wI_ne _ (by omega), a5 j hj, S3.1 231 (by omega)]
      have r239 : ∀ j, j < 28 → M6.2 239 (28 * k + j) = M.2 237 j := fun j hj => by rw [e6, wI_ne2, c5 j hj, S3.2 237 (by omega)]
      have o233 : ∀ j, (j < 647 * k ∨ 647 * k + 647 ≤ j) → M6.1 233 j = M.1 233 j := fun j hj => by rw [e6, wI_ne _ (by omega), b5 j hj, S3.1 233 (by omega)]
      have o239 : ∀ j, (j < 28 * k ∨ 28 * k + 28 ≤ j) → M6.2 239 j = M.2 239 j := fun j hj => by rw [e6, wI_ne2, d5 j hj, S3.2 239 (by omega)]
      have k16 : ∀ z, 33 + 15 * k < z → z < 33 + 15 * k + 15 → M6.1 z = M1.1 z := fun z z1 z2 => by rw [e6, wI_ne _ (by omega), s5.1 z (by omega), e3, wI_ne _ (by omega), e2, wI_ne _ (by omega)]
      have k26 : ∀ z, 33 + 15 * k < z → z < 33 + 15 * k + 15 → M6.2 z = M1.2 z := fun z z1 z2 => by rw [e6, wI_ne2, s5.2 z (by omega), e3, wI_ne2, e2, wI_ne2]
      obtain ⟨h0, h1, h2, a1, a2, a3, a4, a6, a7, a8, a9, a10, a11⟩ := h
      refine zii ⟨rfl, N, F, us, h0, JC_same h1 (fun z hz => t z (by omega)) (fun j _ => by rw [t 231 (by omega)]) (fun z hz => t z (by omega)), JU_same h2 (fun z z1 z2 => t z (by omega)) (q9 25 (by omega)) (t 234 (by omega)), nmC_same a1 (fun z hz => t z (by omega)) (fun z hz => t2 z (by omega)), nmR_same a2 (fun j hj => by rw [t 231 (by omega)]) (t2 237 (by omega)) (fun z z1 z2 => t z (by omega)), sayJ_same a3 (t 15 (by omega)) (t 16 (by omega)) (fun j hj => by rw [t 231 (by omega)]), ?_, tapeJ_same a6 (by rw [t 0 (by omega)]) (t 1 (by omega)) (q9 2 (by omega)) (t 230 (by omega)), fltJ_same a7 (by rw [t 0 (by omega)]) (by rw [t 0 (by omega)]) (q9 10 (by omega)) (q9 27 (by omega)), ofrJ_same a8 (by rw [t 0 (by omega)]) (t 227 (by omega)) (q9 44 (by omega)) (t 256 (by omega)), tagJ_same a9 (by rw [t 0 (by omega)]) (t 228 (by omega)) (q9 46 (by omega)) (t 257 (by omega)), refJ_same a10 (by rw [t 217 (by omega)]) (t 219 (by omega)) (q9 49 (by omega)) (t 259 (by omega)), tldJ_same a11 (fun j _ => by rw [t 222 (by omega)]) (q9 54 (by omega)) (t 261 (by omega))⟩
      intro j hj
      by_cases ej : j = k
      · subst ej
        have e240 : M6.1 240 j = 1 := by rw [e6, wI_1, if_pos ⟨rfl, rfl⟩]
        have e33 : M6.1 (33 + 15 * j) 3 = 1 := by rw [e6, wI_ne _ (by omega), s5.1 _ (by omega), e3, wI_ne _ (by omega), e2, wI_1, if_pos ⟨rfl, rfl⟩]
        refine ⟨by rw [e240, e33], fun _ => ⟨N, F, h0, nmC_same (n1 N h0 a1) (fun z hz => k16 z (by omega) (by omega)) (fun z hz => k26 z (by omega) (by omega)), ?_⟩⟩
        obtain ⟨g0, g1, g2, g3, g4, g5, g6⟩ := a2.1
        have hF : cl F = F := by rw [← h1.1.2.2.1, cl_cl]
        have h24 := h0.2.2.2.1
        have h44 := h0.2.2.2.2.1
        refine ⟨(r233 2 (by omega)).trans g0, (r233 3 (by omega)).trans g1, (r233 4 (by omega)).trans g2, (r233 0 (by omega)).trans g3, (r233 1 (by omega)).trans g4, fun i hi => (r239 i (by omega)).trans (g5 i hi), fun i hi => (r239 (24 + i) (by omega)).trans (g6 i hi), hF, ?_, fun i hi => (r233 (202 + i) (by omega)).trans (PR_f h1.2.1 hi), h1.2.2, ?_⟩
        · rw [fC_same (M := M1) (M2 := M6) (b := 33 + 15 * j + 8) (fun z z1 z2 => k16 z (by omega) (by omega)), f1]
          have := h1.1.2.2.1
          rw [pT63.2.1] at this
          exact this
        · rw [k16 (33 + 15 * j + 14) (by omega) (by omega), k16 (33 + 15 * j + 13) (by omega) (by omega)]
          exact y1 _ _ (sayOK_congr a3 (fun i hi => r233 (405 + i) (by omega)))
      · obtain ⟨w1, w2⟩ := a4 j hj
        have e240 : M6.1 240 j = M.1 240 j := by rw [e6, wI_1, if_neg (by omega), s5.1 240 (by omega), S3.1 240 (by omega)]
        rw [e240, t (33 + 15 * j) (by omega)]
        exact ⟨w1, fun w => kepJ_same (w2 w) (fun z z1 z2 => t z (by omega)) (fun z z1 z2 => t2 z (by omega)) (fun i i1 i2 => o233 i (by omega)) (fun i i1 i2 => o239 i (by omega))⟩
    | succ c ih =>
      intro i M5 hi s5 u5 a5 b5 c5 d5
      refine t_X12_image_51 ⟨fun w => absurd w (by rw [show (28 : Int32) = nI 28 from rfl]; exact nI_ge (by omega) (by omega)), fun _ => ⟨nIin (by omega) (by omega), vx2 i (by omega), fun M6 e6 => ?_⟩⟩
      rw [ix2 i (by omega), nI_clamp (by omega)] at e6
      rw [nI_1]
      refine ih (i + 1) M6 (by omega) (by rw [e6]; exact s5.wL (by omega)) trivial (fun j hj => by rw [e6, wL_1]; exact a5 j hj) (fun j hj => by rw [e6, wL_1]; exact b5 j hj) (fun j hj => ?_) (fun j hj => ?_)
      · rw [e6, wL_2]
        by_cases ej : j = i
        · rw [if_pos ⟨rfl, by omega⟩, s5.2 237 (by omega), ej]
        · rw [if_neg (by omega)]; exact c5 j (by omega)
      · rw [e6, wL_2, if_neg (by omega)]; exact d5 j hj
  have rows : ∀ (c i : Nat) (M5 : zMem), i + c = 647 → Same (fun z => z = 233) M3 M5 → M5.2 233 = M3.2 233 → (∀ j, j < i → M5.1 233 (647 * k + j) = M3.1 231 j) → (∀ j, (j < 647 * k ∨ 647 * k + 647 ≤ j) → M5.1 233 j = M3.1 233 j) → S_X12_image_18 (d + 3) (nI k) (nI i) M5 (zI fun r2 M2 => eqJ B 1 r2 M2) := by
    intro c
    induction c with
    | zero =>
      intro i M5 hi s5 u5 a5 b5
      have ei : i = 647 := by omega
      subst ei
      exact t_X12_image_18 ⟨fun _ => names 28 0 M5 (by omega) (s5.mono (fun z hz => Or.inl hz)) trivial a5 b5 (fun j hj => absurd hj (Nat.not_lt_zero j)) (fun j _ => by rw [s5.2 239 (by omega)]), fun w => absurd (by decide) w⟩
    | succ c ih =>
      intro i M5 hi s5 u5 a5 b5
      refine t_X12_image_18 ⟨fun w => absurd w (by rw [show (647 : Int32) = nI 647 from rfl]; exact nI_ge (by omega) (by omega)), fun _ => ⟨nIin (by omega) (by omega), vx i (by omega), fun M6 e6 => ?_⟩⟩
      rw [ix i (by omega), nI_clamp (by omega)] at e6
      rw [nI_1]
      refine ih (i + 1) M6 (by omega) (by rw [e6]; exact s5.wI rfl) (by rw [e6]; exact u5) (fun j hj => ?_) (fun j hj => ?_)
      · rw [e6, wI_1]
        by_cases ej : j = i
        · rw [if_pos ⟨rfl, by omega⟩, s5.1 231 (by omega), ej]
        · rw [if_neg (by omega)]; exact a5 j (by omega)
      · rw [e6, wI_1, if_neg (by omega)]; exact b5 j hj
  exact rows 647 0 M3 (by omega) (Same.refl _ _) rfl (fun j hj => absurd hj (Nat.not_lt_zero j)) (fun j _ => rfl)
end
