-- ===== cluster, both sides =====
section
variable {d B : Nat} {M M2 M3 : zMem} {N N2 : zNm} {F G : Nat → Int32} {us us2 : List (Nat → Int32)} {x y z v : Int32} {tx : Nat → Nat}
theorem o_cluster (h : JA B M N F us) : S_X11_cluster (d + 64) M (zI fun r M1 => S_X12_cluster (d + 64) M1 (zI fun r2 M2 => eqJ (B + 1000) r r2 M2)) := by
  obtain ⟨tx, n, t0, t1, t2, t3, t4⟩ := h.2.2.2.2.2.2.2.1
  refine t_X11_cluster ?_
  rw [t1]
  refine c_X6_open (most := 900) t0 (by omega) t3 (fun M1 tc1 k10 k11 s1 => ?_)
  refine p_read tc1 k10 k11 (fun f i hr M2 g1 g2 g3 => ?_) (fun c i hr hc M2 g1 g2 g3 g4 g5 => ?_)
  · -- a fault
    have hk := linsP_k _ _ _ _ (show linsP tx n 900 941 0 cl0 (nextT tx n 900 0) = .inl (f, i) from hr)
    rw [g2]
    refine c_closeText (a := f.1) hk.2 g1.1 (fun M3 a1 a2 a3 a4 s3 => ?_)
    refine ⟨fun q => (by cases q), fun _ => zii ?_⟩
    rw [if_neg (by have := hk.1; omega)] at a3
    have e12 : M3.1 220 12 = nI f.2 := by rw [s3.1 220 (by omega)]; exact g1.2
    rw [e12]
    have S3 : Same (fun z => z = 0 ∨ z = 220 ∨ z = 221 ∨ (18 ≤ z ∧ z ≤ 29)) M M3 := (s1.mono (fun z hz => by omega)).trans ((g3.mono (fun z hz => by omega)).trans (s3.mono (fun z hz => by omega)))
    have e0 : ∀ j, j ≠ 1 → j ≠ 16 → j ≠ 17 → M3.1 0 j = M.1 0 j := fun j j1 j2 j3 => by rw [a4 j j1 j2 j3, g3.1 0 (by omega), s1.1 0 (by omega)]
    refine m_cluster (d := d + 56) (tx := tx) (n := n) t0 (fun j hj => by rw [S3.1 230 (by omega)]; exact t4 j hj) (by rw [S3.1 229 (by omega)]; exact t2) (fun f2 i2 hr2 M4 w1 w2 w3 w4 w5 => ?_) (fun c2 i2 hr2 => absurd (hr.symm.trans hr2) (fun q => by cases q))
    have ef : f2 = f ∧ i2 = i := by
      have := hr2.symm.trans hr
      cases this
      exact ⟨rfl, rfl⟩
    obtain ⟨ef1, ef2⟩ := ef
    subst ef1
    subst ef2
    have S4 : Same (fun z => z = 0 ∨ z = 220 ∨ z = 221 ∨ (18 ≤ z ∧ z ≤ 29) ∨ z = 229 ∨ z = 232 ∨ z = 238 ∨ z = 241) M M4 := (S3.mono (fun z hz => by omega)).trans (w4.mono (fun z hz => by omega))
    have e04 : M4.1 0 = M3.1 0 := w4.1 0 (by omega)
    have q9 : ∀ j, 13 < j → j ≠ 27 → M4.1 229 j = M.1 229 j := fun j j1 j2 => by rw [w5 j j1 j2, S3.1 229 (by omega)]
    refine ⟨rfl, N, F, us, h.1, JC_mono (JC_same h.2.1 (fun z hz => S4.1 z (by omega)) (fun j _ => by rw [S4.1 231 (by omega)]) (fun z hz => S4.1 z (by omega))) (by omega), JU_mono (JU_same h.2.2.1 (fun z z1 z2 => S4.1 z (by omega)) (q9 25 (by omega) (by omega)) (S4.1 234 (by omega))) (by omega), JO_mono (JO_clu h.2.2.2 ⟨S4.mono (fun z hz => by omega), fun j j1 j2 j3 => by rw [e04]; exact e0 j j1 j2 j3, fun j j1 j2 j3 => q9 j j1 j3⟩ (nmC_same h.2.2.2.1 (fun z hz => S4.1 z (by omega)) (fun z hz => S4.2 z (by omega))) (nmR_same h.2.2.2.2.1 (fun j _ => by rw [S4.1 231 (by omega)]) (S4.2 237 (by omega)) (fun z z1 z2 => S4.1 z (by omega))) (sayJ_same h.2.2.2.2.2.1 (S4.1 15 (by omega)) (S4.1 16 (by omega)) (fun j _ => by rw [S4.1 231 (by omega)])) (tape0 (by rw [e04]; exact a1) w3) ⟨?_, ?_⟩) (by omega)⟩
    · rw [e04, a2]; exact w1.1.symm
    · rw [e04, a3]; exact w2.symm
  · -- a CLUSTER
    obtain ⟨hN, hcl, hb⟩ := hc
    have P2 : okP (plOf c.2.1) := okP_of hN
    rw [g3]
    refine c_closeText (a := 0) (by omega) g4 (fun M3 a1 a2 a3 a4 s3 => ?_)
    rw [if_pos rfl] at a3
    refine ⟨fun _ => ?_, fun q => (by cases q)⟩
    refine t_X7_clear (by decide) (fun M4 e4 M5 e5 => zuu ?_)
    have S5 : Same (fun z => z = 30) M3 M5 := by rw [e5, e4]; exact ((Same.refl (fun z => z = 30) M3).wI rfl).wI rfl
    have n18 : nmC M5 18 c.2.1 := nmC_same (nmC_same g1 (fun z hz => s3.1 z (by omega)) (fun z hz => s3.2 z (by omega))) (fun z hz => S5.1 z (by omega)) (fun z hz => S5.2 z (by omega))
    have f25 : cl (fC M5 25) = c.2.2 := by rw [fC_same (M := M3) (M2 := M5) (b := 25) (fun z z1 z2 => S5.1 z (by omega)), fC_same (M := M2) (M2 := M3) (b := 25) (fun z z1 z2 => s3.1 z (by omega))]; exact g2
    have o30 : M5.1 30 2 = 0 := by rw [e5, wI_1, if_pos ⟨rfl, rfl⟩]
    refine c_X8_copyFrom (b0 := 2) (b1 := 17) (by decide) (by decide) (by omega) (fun M6 n6 f6 y6 s6 => ?_)
    have n63 : nmC M6 3 c.2.1 := n6 c.2.1 hN n18
    have f10 : cl (fC M6 (pF 63)) = c.2.2 := by rw [pT63.2.1]; exact f6.trans f25
    refine e_X4_growTrees (by decide) P2 (nmC_pln n63) f10 (fun M7 p7 s7 => ?_)
    rw [pT63.1] at s7
    obtain ⟨top, ht⟩ := h.2.2.1.1
    have S3 : Same (fun z => z = 0 ∨ z = 220 ∨ z = 221 ∨ (18 ≤ z ∧ z ≤ 29)) M M3 := (s1.mono (fun z hz => by omega)).trans ((g5.mono (fun z hz => by omega)).trans (s3.mono (fun z hz => by omega)))
    have S6 : Same (fun z => z = 0 ∨ z = 220 ∨ z = 221 ∨ (2 < z ∧ z ≤ 30)) M M6 := (S3.mono (fun z hz => by omega)).trans ((S5.mono (fun z hz => by omega)).trans (s6.mono (fun z hz => by omega)))
    have u7 : UC M7 us top := UC_same ht (fun z z1 z2 => by rw [s7.1 z (by omega), S6.1 z (by omega)])
    refine c_X10_clear u7 (fun M8 u8 s8 => zii ?_)
    have S8 : Same (fun z => z = 0 ∨ z = 220 ∨ z = 221 ∨ (2 < z ∧ z ≤ 30) ∨ (64 < z ∧ z < 113) ∨ z = 170) M M8 := (S6.mono (fun z hz => by omega)).trans ((s7.mono (fun z hz => by omega)).trans (s8.mono (fun z hz => by omega)))
    have v8 : ∀ z, z = 0 ∨ z = 220 → M8.1 z = M3.1 z := fun z hz => by rw [s8.1 z (by omega), s7.1 z (by omega), s6.1 z (by omega), S5.1 z (by omega)]
    have e10 : M8.1 220 10 = nI i := by rw [v8 220 (by omega), s3.1 220 (by omega)]; exact g3
    rw [e10]
    refine m_cluster (d := d + 56) (tx := tx) (n := n) t0 (fun j hj => by rw [S8.1 230 (by omega)]; exact t4 j hj) (by rw [S8.1 229 (by omega)]; exact t2) (fun f2 i2 hr2 => absurd (hr.symm.trans hr2) (fun q => by cases q)) (fun c2 i2 hr2 hc2 hi2 M9 w1 w2 w3 w4 w5 w6 w7 w8 => ?_)
    have ef : c2 = c ∧ i2 = i := by
      have := hr2.symm.trans hr
      cases this
      exact ⟨rfl, rfl⟩
    obtain ⟨ef1, ef2⟩ := ef
    subst ef1
    subst ef2
    have S9 : Same (fun z => z = 0 ∨ z = 220 ∨ z = 221 ∨ (2 < z ∧ z ≤ 30) ∨ (64 < z ∧ z < 113) ∨ z = 170 ∨ z = 229 ∨ z = 231 ∨ z = 232 ∨ z = 237 ∨ z = 238 ∨ z = 241 ∨ (242 ≤ z ∧ z ≤ 245)) M M9 := (S8.mono (fun z hz => by omega)).trans (w8.1.mono (fun z hz => by omega))
    have l9 : ∀ z, z < 229 → M9.1 z = M8.1 z := fun z hz => w8.1.1 z (by omega)
    have l92 : ∀ z, z < 229 → M9.2 z = M8.2 z := fun z hz => w8.1.2 z (by omega)
    have e09 : M9.1 0 = M3.1 0 := by rw [l9 0 (by omega), v8 0 (by omega)]
    have n8 : nmC M8 3 c2.2.1 := nmC_same (nmC_same n63 (fun z hz => s7.1 z (by omega)) (fun z hz => s7.2 z (by omega))) (fun z hz => s8.1 z (by omega)) (fun z hz => s8.2 z (by omega))
    have k16 : ∀ z, z = 15 ∨ z = 16 → M9.1 z = M6.1 z := fun z hz => by rw [l9 z (by omega), s8.1 z (by omega), s7.1 z (by omega)]
    refine ⟨rfl, c2.2.1, c2.2.2, [], hN, ⟨?_, ⟨P2, nmR_pln w1, w2⟩, bdG_mono hb (by omega) (Nat.le_refl _)⟩, ⟨⟨top, UC_same u8 (fun z z1 z2 => l9 z (by omega))⟩, ⟨w7, Nat.zero_le _, fun i F hi => by cases hi⟩, fun G hG => by cases hG⟩, JO_mono (JO_clu h.2.2.2 ⟨S9.mono (fun z hz => by omega), fun j j1 j2 j3 => ?_, fun j j1 j2 j3 => ?_⟩ (nmC_same n8 (fun z hz => l9 z (by omega)) (fun z hz => l92 z (by omega))) w1 ?_ (tape0 (by rw [e09]; exact a1) w6) ⟨?_, ?_⟩) (by omega)⟩
    · exact PC_same p7 (fun z hz => by
        have hz2 : z < 170 := by
          rcases hz with hz | hz
          · omega
          · have := inT63 hz; omega
        rw [l9 z (by omega), s8.1 z (by omega)])
    · rw [e09, a4 j j1 j2 j3, g5.1 0 (by omega), s1.1 0 (by omega)]
    · rw [w8.2 j j1 j2 j3, S8.1 229 (by omega)]
    · unfold sayJ
      rw [k16 16 (by omega), k16 15 (by omega)]
      refine sayOK_congr (R := fun _ => 0) (y6 _ _ (Or.inl ⟨o30, rfl⟩)) (fun j hj => ?_)
      exact w3 (405 + j) (by omega) (by omega)
    · rw [e09, a2]; exact w4.symm
    · rw [e09, a3]; exact w5.symm
end
