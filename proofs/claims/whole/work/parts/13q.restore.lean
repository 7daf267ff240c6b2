-- ===== restore =====
section
variable {d B b p q k m : Nat} {M M2 M3 : zMem} {N N2 : zNm} {F G : Nat → Int32} {us us2 : List (Nat → Int32)} {x y z v : Int32}
/-- what a restoring or a reading of a CLUSTER leaves of JO -/
def NO (M M2 : zMem) : Prop := Same (fun z => (2 ≤ z ∧ z ≤ 31) ∨ (64 < z ∧ z < 113) ∨ z = 170 ∨ z = 229 ∨ z = 231 ∨ z = 237 ∨ (242 ≤ z ∧ z ≤ 245)) M M2 ∧ ∀ j, j ≠ 0 → j ≠ 25 → M2.1 229 j = M.1 229 j
theorem JO_new (h : JO B M N) (hs : NO M M2) (h1 : nmC M2 3 N2) (h2 : nmR M2 N2) (h3 : sayJ M2 (prN N2).length) : JO B M2 N2 := by
  obtain ⟨a1, a2, a3, a4, a5, a6, a7, a8, a9, a10⟩ := h
  have t : ∀ z, ¬ ((2 ≤ z ∧ z ≤ 31) ∨ (64 < z ∧ z < 113) ∨ z = 170 ∨ z = 229 ∨ z = 231 ∨ z = 237 ∨ (242 ≤ z ∧ z ≤ 245)) → M2.1 z = M.1 z := fun z hz => hs.1.1 z hz
  have t2 : ∀ z, ¬ ((2 ≤ z ∧ z ≤ 31) ∨ (64 < z ∧ z < 113) ∨ z = 170 ∨ z = 229 ∨ z = 231 ∨ z = 237 ∨ (242 ≤ z ∧ z ≤ 245)) → M2.2 z = M.2 z := fun z hz => hs.1.2 z hz
  have t9 := hs.2
  exact ⟨h1, h2, h3, imgJ_same a4 (fun z z1 z2 => t z (by omega)) (fun z z1 z2 => t2 z (by omega)) (t 233 (by omega)) (t2 239 (by omega)) (t 240 (by omega)), tapeJ_same a5 (by rw [t 0 (by omega)]) (t 1 (by omega)) (t9 2 (by omega) (by omega)) (t 230 (by omega)), fltJ_same a6 (by rw [t 0 (by omega)]) (by rw [t 0 (by omega)]) (t9 10 (by omega) (by omega)) (t9 27 (by omega) (by omega)), ofrJ_same a7 (by rw [t 0 (by omega)]) (t 227 (by omega)) (t9 44 (by omega) (by omega)) (t 256 (by omega)), tagJ_same a8 (by rw [t 0 (by omega)]) (t 228 (by omega)) (t9 46 (by omega) (by omega)) (t 257 (by omega)), refJ_same a9 (by rw [t 217 (by omega)]) (t 219 (by omega)) (t9 49 (by omega) (by omega)) (t 259 (by omega)), tldJ_same a10 (fun j _ => by rw [t 222 (by omega)]) (t9 54 (by omega) (by omega)) (t 261 (by omega))⟩
theorem plOf_m : mP (plOf N) = (prN N).length := rfl
theorem o_restore (h : JA B M N F us) : S_X11_restore (d + 64) x M (zI fun r M1 => S_X12_restore (d + 64) x M1 (zI fun r2 M2 => eqJ B r r2 M2)) := by
  have no : (x < 0 ∨ 2 ≤ x) → S_X12_restore (d + 64) x M (zI fun r2 M2 => eqJ B 0 r2 M2) := by
    intro w
    refine t_X12_restore (fun M1 e1 => c_X12_isIn ⟨fun _ => zii ⟨rfl, e1 ▸ h.w0.j⟩, fun e => ?_⟩)
    exfalso
    rcases w with w | w
    · simp [w] at e
    · have : ¬ ¬ (1 : Int32) < x := by
        rw [Int32.le_iff_toInt_le] at w
        rw [Int32.lt_iff_toInt_lt]
        have a1 : (1 : Int32).toInt = 1 := by decide
        have a2 : (2 : Int32).toInt = 2 := by decide
        omega
      simp [Classical.not_not.mp this] at e
  refine t_X11_restore ⟨fun e => zii (no (Or.inl e)), fun e => ⟨fun e2 => zii (no (Or.inr e2)), fun e2 => ?_⟩⟩
  obtain ⟨k, hk, ek⟩ := img_in e (Int32.not_le.mp e2)
  rw [ek, nI_clamp (by omega)]
  have hb8 : 33 + 15 * k ∈ iX8 := by rcases (show k = 0 ∨ k = 1 by omega) with rfl | rfl <;> decide
  obtain ⟨i1, i2⟩ := h.2.2.2.2.2.2.1 k hk
  refine ⟨nIin hk (by omega), fun w => ?_, fun w => zii ?_⟩
  rotate_left
  · refine t_X12_restore (fun M1 e1 => c_X12_isIn ⟨fun q => (by rw [isIn01 hk] at q; cases q), fun _ => ⟨nIin hk (by omega), fun q => absurd ?_ q, fun _ => zii ⟨rfl, e1 ▸ h.w0.j⟩⟩⟩)
    rw [nI_clamp (by omega), e1, wI_ne _ (by omega), i1]
    exact w
  obtain ⟨N2, G, c1, c2, c3, c4, c5, c6, c7, c8, c9, c10, c11, c12, c13, c14⟩ := i2 w
  have P2 : okP (plOf N2) := okP_of c1
  refine ⟨nIin hk (by omega), c_X8_copyFrom (by decide) hb8 (by omega) (fun M1 n1 f1 y1 s1 => ?_)⟩
  have n31 : nmC M1 3 N2 := n1 N2 c1 c2
  have f10 : cl (fC M1 (pF 63)) = G := by rw [pT63.2.1]; exact f1.trans c11
  refine e_X4_growTrees (by decide) P2 (nmC_pln n31) f10 (fun M2 p2 s2 => ?_)
  rw [pT63.1] at s2
  obtain ⟨top, ht⟩ := h.2.2.1.1
  have u2 : UC M2 us top := UC_same ht (fun z z1 z2 => by rw [s2.1 z (by omega), s1.1 z (by omega)])
  refine c_X10_clear u2 (fun M3 u3 s3 => zii ?_)
  have S3 : Same (fun z => (2 < z ∧ z < 17) ∨ (64 < z ∧ z < 113) ∨ z = 170) M M3 := (s1.mono (fun z hz => by omega)).trans ((s2.mono (fun z hz => by omega)).trans (s3.mono (fun z hz => by omega)))
  refine t_X12_restore (fun M4 e4 => c_X12_isIn ⟨fun q => (by rw [isIn01 hk] at q; cases q), fun _ => ⟨nIin hk (by omega), fun _ => ?_, fun q => absurd ?_ w⟩⟩)
  rotate_left
  · rw [nI_clamp (by omega), e4, wI_ne _ (by omega), S3.1 240 (by omega), i1] at q
    exact q
  have ix : ∀ i, i < 647 → (647 * nI k + nI i).toNatClampNeg = 647 * k + i := fun i hi => by rw [show (647 : Int32) = nI 647 from rfl, pk_mul, nI_add, nI_clamp (by omega)]
  have vx : ∀ i, i < 647 → vp_in (647 * nI k + nI i) 1294 := fun i hi => by rw [show (647 : Int32) = nI 647 from rfl, pk_mul, nI_add]; exact nIin (by omega) (by omega)
  have ix2 : ∀ i, i < 28 → (28 * nI k + nI i).toNatClampNeg = 28 * k + i := fun i hi => by rw [show (28 : Int32) = nI 28 from rfl, pk_mul, nI_add, nI_clamp (by omega)]
  have vx2 : ∀ i, i < 28 → vp_in (28 * nI k + nI i) 56 := fun i hi => by rw [show (28 : Int32) = nI 28 from rfl, pk_mul, nI_add]; exact nIin (by omega) (by omega)
  have e233 : M4.1 233 = M.1 233 := by rw [e4, wI_ne _ (by omega), S3.1 233 (by omega)]
  have e239 : M4.2 239 = M.2 239 := by rw [e4, wI_ne2, S3.2 239 (by omega)]
  have names : ∀ (c i : Nat) (M5 : zMem), i + c = 28 → Same (fun z => z = 231 ∨ z = 237) M4 M5 → (∀ j, j < 647 → M5.1 231 j = M.1 233 (647 * k + j)) → (∀ j, j < i → M5.2 237 j = M.2 239 (28 * k + j)) → S_X12_restore_60 (d + 64) (nI k) (nI i) M5 (zI fun r2 M2 => eqJ B 1 r2 M2) := by
    intro c
    induction c with
    | zero =>
      intro i M5 hi s5 a5 b5
      have ei : i = 28 := by omega
      subst ei
      have h24 := c1.2.2.2.1
      have h44 := c1.2.2.2.2.1
      have hd : hdR M5 N2 := by
        refine ⟨?_, ?_, ?_, ?_, ?_, fun j hj => ?_, fun j hj => ?_⟩
        · rw [a5 2 (by omega)]; exact c3
        · rw [a5 3 (by omega)]; exact c4
        · rw [a5 4 (by omega)]; exact c5
        · rw [a5 0 (by omega)]; exact c6
        · rw [a5 1 (by omega)]; exact c7
        · rw [b5 j (by omega)]; exact c8 j hj
        · rw [b5 (24 + j) (by omega)]; exact c9 j hj
      refine t_X12_restore_60 ⟨fun _ => c_X12_layKeys c1 hd (fun M6 n6 s6 => ?_), fun w => absurd (by decide) w⟩
      intro M7 e7
      have S7 : Same (fun z => (2 < z ∧ z < 17) ∨ (64 < z ∧ z < 113) ∨ z = 170 ∨ z = 229 ∨ z = 231 ∨ z = 237 ∨ (242 ≤ z ∧ z ≤ 245)) M M7 := by
        rw [e7]
        refine Same.wI ?_ (by omega)
        refine (S3.mono (fun z hz => by omega)).trans (Same.trans (M2 := M4) ?_ ((s5.mono (fun z hz => by omega)).trans (s6.mono (fun z hz => by omega))))
        rw [e4]
        exact (Same.refl _ _).wI (by omega)
      have t7 : ∀ z, z < 229 → M7.1 z = M3.1 z := fun z hz => by rw [e7, wI_ne _ (by omega), s6.1 z (by omega), s5.1 z (by omega), e4, wI_ne _ (by omega)]
      have t72 : ∀ z, z < 229 → M7.2 z = M3.2 z := fun z hz => by rw [e7, wI_ne2, s6.2 z (by omega), s5.2 z (by omega), e4, wI_ne2]
      have q9 : ∀ j, j ≠ 0 → j ≠ 25 → M7.1 229 j = M.1 229 j := fun j j1 j2 => by rw [e7, wI_1, if_neg (by omega), s6.1 229 (by omega), s5.1 229 (by omega), e4, wI_1, if_neg (by omega), S3.1 229 (by omega)]
      have nr : nmR M7 N2 := nmR_same n6 (fun j _ => by rw [e7, wI_ne _ (by omega)]) (by rw [e7, wI_ne2]) (fun z z1 z2 => by rw [e7, wI_ne _ (by omega)])
      have e231 : M7.1 231 = M5.1 231 := by rw [e7, wI_ne _ (by omega), s6.1 231 (by omega)]
      have n3 : nmC M3 3 N2 := nmC_same (nmC_same n31 (fun z hz => s2.1 z (by omega)) (fun z hz => s2.2 z (by omega))) (fun z hz => s3.1 z (by omega)) (fun z hz => s3.2 z (by omega))
      have n7 : nmC M7 3 N2 := nmC_same n3 (fun z hz => t7 z (by omega)) (fun z hz => t72 z (by omega))
      have f7 : cl (fR M7) = G := by
        rw [← c10]
        refine cl_eq (fun j hj => ?_)
        unfold fR
        rw [e231, a5 _ (by omega)]
        exact c12 j hj
      have k16 : ∀ z, z = 15 ∨ z = 16 → M7.1 z = M1.1 z := fun z hz => by rw [t7 z (by omega), s3.1 z (by omega), s2.1 z (by omega)]
      refine zii ⟨rfl, N2, G, [], c1, ⟨?_, ⟨P2, nmR_pln nr, f7⟩, c13⟩, ⟨⟨top, UC_same u3 (fun z z1 z2 => t7 z (by omega))⟩, ⟨by rw [e7, wI_1, if_pos ⟨rfl, rfl⟩]; rfl, Nat.zero_le _, fun i F hi => by cases hi⟩, fun G hG => by cases hG⟩, JO_new h.2.2.2 ⟨S7.mono (fun z hz => by omega), q9⟩ n7 nr ?_⟩
      · exact PC_same p2 (fun z hz => by
          have hz2 : z < 170 := by
            rcases hz with hz | hz
            · omega
            · have := inT63 hz; omega
          rw [t7 z (by omega), s3.1 z (by omega)])
      · unfold sayJ
        rw [k16 16 (by omega), k16 15 (by omega)]
        exact y1 _ _ (sayOK_congr c14 (fun j hj => by show M7.1 231 (405 + j) = _; rw [e231, a5 _ (by omega)]))
    | succ c ih =>
      intro i M5 hi s5 a5 b5
      refine t_X12_restore_60 ⟨fun w => absurd w (by rw [show (28 : Int32) = nI 28 from rfl]; exact nI_ge (by omega) (by omega)), fun _ => ⟨vx2 i (by omega), nIin (by omega) (by omega), fun M6 e6 => ?_⟩⟩
      rw [ix2 i (by omega), nI_clamp (by omega)] at e6
      rw [nI_1]
      refine ih (i + 1) M6 (by omega) (by rw [e6]; exact s5.wL (by omega)) (fun j hj => by rw [e6, wL_1]; exact a5 j hj) (fun j hj => ?_)
      rw [e6, wL_2]
      by_cases ej : j = i
      · rw [if_pos ⟨rfl, ej⟩, s5.2 239 (by omega), e239, ej]
      · rw [if_neg (by omega)]; exact b5 j (by omega)
  have rows : ∀ (c i : Nat) (M5 : zMem), i + c = 647 → Same (fun z => z = 231) M4 M5 → (∀ j, j < i → M5.1 231 j = M.1 233 (647 * k + j)) → S_X12_restore_27 (d + 64) (nI k) (nI i) M5 (zI fun r2 M2 => eqJ B 1 r2 M2) := by
    intro c
    induction c with
    | zero =>
      intro i M5 hi s5 a5
      have ei : i = 647 := by omega
      subst ei
      exact t_X12_restore_27 ⟨fun _ => names 28 0 M5 (by omega) (s5.mono (fun z hz => Or.inl hz)) a5 (fun j hj => absurd hj (Nat.not_lt_zero j)), fun w => absurd (by decide) w⟩
    | succ c ih =>
      intro i M5 hi s5 a5
      refine t_X12_restore_27 ⟨fun w => absurd w (by rw [show (647 : Int32) = nI 647 from rfl]; exact nI_ge (by omega) (by omega)), fun _ => ⟨vx i (by omega), nIin (by omega) (by omega), fun M6 e6 => ?_⟩⟩
      rw [ix i (by omega), nI_clamp (by omega)] at e6
      rw [nI_1]
      refine ih (i + 1) M6 (by omega) (by rw [e6]; exact s5.wI rfl) (fun j hj => ?_)
      rw [e6, wI_1]
      by_cases ej : j = i
      · rw [if_pos ⟨rfl, ej⟩, s5.1 233 (by omega), e233, ej]
      · rw [if_neg (by omega)]; exact a5 j (by omega)
  exact rows 647 0 M4 (by omega) (Same.refl _ _) (fun j hj => absurd hj (Nat.not_lt_zero j))
end
