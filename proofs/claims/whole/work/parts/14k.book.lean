-- ===== book, both sides =====
section
variable {d n most i k p B : Nat} {M M2 M3 : zMem} {N : zNm} {P : zPl} {F G : Nat → Int32} {us us2 : List (Nat → Int32)} {tx : Nat → Nat} {x y : Int32}
/-- what a BOOK may change -/
def WO (M M2 : zMem) : Prop := Same (fun z => z = 0 ∨ (10 ≤ z ∧ z ≤ 14) ∨ (64 < z ∧ z ≤ 216) ∨ z = 220 ∨ (222 ≤ z ∧ z ≤ 226) ∨ z = 229 ∨ z = 231 ∨ (234 ≤ z ∧ z ≤ 236) ∨ (246 ≤ z ∧ z ≤ 255) ∨ z = 258 ∨ z = 260 ∨ z = 261) M M2 ∧ (∀ j, j ≠ 1 → j ≠ 16 → j ≠ 17 → M2.1 0 j = M.1 0 j) ∧ (∀ j, 13 < j → j ≠ 25 → j ≠ 27 → j ≠ 43 → j ≠ 50 → j ≠ 53 → j ≠ 54 → M2.1 229 j = M.1 229 j) ∧ ∀ j, j < 202 ∨ 405 ≤ j → M2.1 231 j = M.1 231 j
theorem JO_bk (h : JO B M N) (hs : WO M M2) (h4 : tapeJ M2) (h5 : fltJ M2) (h6 : tldJ M2) : JO B M2 N := by
  obtain ⟨a1, a2, a3, a4, a5, a6, a7, a8, a9, a10⟩ := h
  obtain ⟨s1, t0, t9, t3⟩ := hs
  have t : ∀ z, ¬ (z = 0 ∨ (10 ≤ z ∧ z ≤ 14) ∨ (64 < z ∧ z ≤ 216) ∨ z = 220 ∨ (222 ≤ z ∧ z ≤ 226) ∨ z = 229 ∨ z = 231 ∨ (234 ≤ z ∧ z ≤ 236) ∨ (246 ≤ z ∧ z ≤ 255) ∨ z = 258 ∨ z = 260 ∨ z = 261) → M2.1 z = M.1 z := fun z hz => s1.1 z hz
  have t2 : ∀ z, ¬ (z = 0 ∨ (10 ≤ z ∧ z ≤ 14) ∨ (64 < z ∧ z ≤ 216) ∨ z = 220 ∨ (222 ≤ z ∧ z ≤ 226) ∨ z = 229 ∨ z = 231 ∨ (234 ≤ z ∧ z ≤ 236) ∨ (246 ≤ z ∧ z ≤ 255) ∨ z = 258 ∨ z = 260 ∨ z = 261) → M2.2 z = M.2 z := fun z hz => s1.2 z hz
  exact ⟨nmC_same a1 (fun z hz => t z (by omega)) (fun z hz => t2 z (by omega)), nmR_same a2 (fun j hj => t3 j (by omega)) (t2 237 (by omega)) (fun z z1 z2 => t z (by omega)), sayJ_same a3 (t 15 (by omega)) (t 16 (by omega)) (fun j hj => t3 j (by omega)), imgJ_same a4 (fun z z1 z2 => t z (by omega)) (fun z z1 z2 => t2 z (by omega)) (t 233 (by omega)) (t2 239 (by omega)) (t 240 (by omega)), h4, h5, ofrJ_same a7 (t0 13 (by omega) (by omega) (by omega)) (t 227 (by omega)) (t9 44 (by omega) (by omega) (by omega) (by omega) (by omega) (by omega) (by omega)) (t 256 (by omega)), tagJ_same a8 (t0 15 (by omega) (by omega) (by omega)) (t 228 (by omega)) (t9 46 (by omega) (by omega) (by omega) (by omega) (by omega) (by omega) (by omega)) (t 257 (by omega)), refJ_same a9 (by rw [t 217 (by omega)]) (t 219 (by omega)) (t9 49 (by omega) (by omega) (by omega) (by omega) (by omega) (by omega) (by omega)) (t 259 (by omega)), h6⟩
theorem c114 {z : Nat} (h : inB 114 z ∨ z = 222) : (115 ≤ z ∧ z ≤ 169) ∨ z = 222 := by
  rcases h with h | h
  · have := inB114 h; omega
  · omega
theorem o_book (h : JA B M N F us) (hB : B + 1000 ≤ 1000000000) : S_X11_book (d + 64) x M (zI fun r M1 => S_X12_book (d + 64) x M1 (zI fun r2 M2 => eqJ (B + 1000) r r2 M2)) := by
  obtain ⟨tx, n, t0, t1, t2, t3, t4⟩ := h.2.2.2.2.2.2.2.1
  have no : (decide (¬ x < 0) && decide (¬ (1 : Int32) < x)) = false → S_X12_book (d + 64) x M (zI fun r2 M2 => eqJ (B + 1000) (-1000) r2 M2) := by
    intro g
    exact t_X12_book (fun M1 e1 => c_X12_isIn ⟨fun q => (by rw [g] at q; cases q), fun _ => zii ⟨rfl, J_mono (e1 ▸ h.w0.j) (by omega)⟩⟩)
  have hF : cl F = F := by rw [← h.pc.2.2.1, cl_cl]
  refine t_X11_book ⟨fun e => zii (no (by simp [e])), fun e => ⟨fun e2 => ?_, fun e2 => zii (no (by simp [Int32.not_le.mp e2]))⟩⟩
  have hx : x = 0 ∨ x = 1 := by
    obtain ⟨k, hk, ek⟩ := img_in e (by
      rw [Int32.le_iff_toInt_le] at e2
      rw [Int32.lt_iff_toInt_lt]
      have a1 : (1 : Int32).toInt = 1 := by decide
      have a2 : (2 : Int32).toInt = 2 := by decide
      omega)
    rcases (show k = 0 ∨ k = 1 by omega) with w | w
    · left; rw [ek, w]; rfl
    · right; rw [ek, w]; rfl
  rw [t1]
  refine c_X6_open (most := 400) t0 (by omega) t3 (fun M1 tc1 k10 k11 s1 => ?_)
  have hd1 : hdC M1 3 N := hdC_same h.2.2.2.1.1 (s1.1 3 (by omega)) (fun z hz => s1.2 z (by omega))
  refine b_read (d := d + 55) h.1 hd1 tc1 k10 k11 (fun f j hr M2 g1 g2 g3 => ?_) (fun bs hr M2 g1 g2 g3 g4 => ?_)
  · -- a fault
    have hk := blsP_k _ _ _ _ (show blsP tx n 400 N 41 0 [] (nextT tx n 400 0) = .inl (f, j) from hr)
    rw [g2]
    refine c_closeText (a := f.1) hk.2 g1.1 (fun M3 a1 a2 a3 a4 s3 => ?_)
    refine ⟨fun q => (by cases q), fun _ => zii ?_⟩
    rw [if_neg (by have := hk.1; omega)] at a3
    have e12 : M3.1 220 12 = nI f.2 := by rw [s3.1 220 (by omega)]; exact g1.2
    rw [e12]
    have S3 : Same (fun z => z = 0 ∨ z = 220 ∨ (222 ≤ z ∧ z ≤ 226)) M M3 := (s1.mono (fun z hz => by omega)).trans ((g3.1.mono (fun z hz => by omega)).trans (s3.mono (fun z hz => by omega)))
    have e0 : ∀ j, j ≠ 1 → j ≠ 16 → j ≠ 17 → M3.1 0 j = M.1 0 j := fun j j1 j2 j3 => by rw [a4 j j1 j2 j3, g3.1.1 0 (by omega), s1.1 0 (by omega)]
    have e222 : ∀ j, 7 ≤ j → M3.1 222 j = M.1 222 j := fun j hj => by rw [s3.1 222 (by omega), g3.2 j (by omega), s1.1 222 (by omega)]
    have hd3 : hdR M3 N := hdR_same h.2.2.2.2.1.1 (fun j _ => by rw [S3.1 231 (by omega)]) (S3.2 237 (by omega))
    have p3 : PR M3 (plOf N) F := ⟨h.pr.1, plnR_same h.pr.2.1 (fun j _ => by rw [S3.1 231 (by omega)]) (fun z hz => S3.1 z (by omega)), by rw [fR_same (S3.1 231 (by omega))]; exact h.pr.2.2⟩
    have u3 : UR M3 us := UR_same h.2.2.1.2.1 (by rw [S3.1 229 (by omega)]) (S3.1 234 (by omega))
    refine m_book (B := B) (F := F) (us := us) h.1 hx t0 (fun i hi => by rw [S3.1 230 (by omega)]; exact t4 i hi) (by rw [S3.1 229 (by omega)]; exact t2) hd3 p3 hF u3 h.2.1.2.2 hB (fun f2 j2 hr2 M4 w1 w2 w3 w4 w5 w6 w7 => ?_) (fun bs hr2 => absurd (hr.symm.trans hr2) (fun q => by cases q))
    have ef : f2 = f ∧ j2 = j := by
      have := hr2.symm.trans hr
      cases this
      exact ⟨rfl, rfl⟩
    obtain ⟨ef1, ef2⟩ := ef
    subst ef1
    subst ef2
    have S4 : Same (fun z => z = 0 ∨ z = 220 ∨ (222 ≤ z ∧ z ≤ 226) ∨ z = 229 ∨ z = 236 ∨ z = 260) M M4 := (S3.mono (fun z hz => by omega)).trans (w6.mono (fun z hz => by omega))
    have e04 : M4.1 0 = M3.1 0 := w6.1 0 (by omega)
    refine ⟨rfl, N, F, us, h.1, JC_mono (JC_same h.2.1 (fun z hz => S4.1 z (by omega)) (fun j _ => by rw [S4.1 231 (by omega)]) (fun z hz => S4.1 z (by omega))) (by omega), JU_mono (JU_same h.2.2.1 (fun z z1 z2 => S4.1 z (by omega)) (by rw [w4, S3.1 229 (by omega)]) (S4.1 234 (by omega))) (by omega), JO_mono (JO_bk h.2.2.2 ⟨S4.mono (fun z hz => by omega), fun j j1 j2 j3 => by rw [e04]; exact e0 j j1 j2 j3, fun j a b c e f g i => by rw [w7.2.1 j a b c e f g i, S3.1 229 (by omega)], fun j _ => by rw [S4.1 231 (by omega)]⟩ (tape0 (by rw [e04]; exact a1) w3) ⟨?_, ?_⟩ (tldJ_same h.2.2.2.2.2.2.2.2.2.2.2.2 (fun j hj => by rw [w6.1 222 (by omega)]; exact e222 j hj) (by rw [w5, S3.1 229 (by omega)]) (S4.1 261 (by omega)))) (by omega)⟩
    · rw [e04, a2]; exact w1.1.symm
    · rw [e04, a3]; exact w2.symm
  · -- lines
    rw [g2]
    refine c_closeText (a := 0) (by omega) g3 (fun M3 a1 a2 a3 a4 s3 => ?_)
    rw [if_pos rfl] at a3
    refine ⟨fun _ => ?_, fun q => (by cases q)⟩
    have S3 : Same (fun z => z = 0 ∨ z = 220 ∨ (222 ≤ z ∧ z ≤ 226)) M M3 := (s1.mono (fun z hz => by omega)).trans ((g4.1.mono (fun z hz => by omega)).trans (s3.mono (fun z hz => by omega)))
    have e0 : ∀ j, j ≠ 1 → j ≠ 16 → j ≠ 17 → M3.1 0 j = M.1 0 j := fun j j1 j2 j3 => by rw [a4 j j1 j2 j3, g4.1.1 0 (by omega), s1.1 0 (by omega)]
    have pc3 : PC M3 63 (plOf N) F := PC_same h.pc (fun z hz => S3.1 z (by rcases hz with hz | hz; omega; have := inT63 hz; omega))
    refine e_X4_copyFrom (b := 114) (b2 := 63) (by decide) (by decide) (by decide) pc3 (fun M4 p4 q4 s4 => ?_)
    have S4 : Same (fun z => z = 0 ∨ z = 220 ∨ (222 ≤ z ∧ z ≤ 226) ∨ (115 ≤ z ∧ z ≤ 169)) M M4 := (S3.mono (fun z hz => by omega)).trans (s4.mono (fun z hz => by have := inB114 hz; omega))
    refine t_X0_judge (by decide) (fun M5 e5 M6 e6 => ?_)
    have p6 : PC M6 114 (plOf N) F := e6 ▸ PC_222 (e5 ▸ PC_222 p4)
    have n114 : ∀ z, 220 ≤ z → M4.1 z = M3.1 z := fun z hz => s4.1 z (fun q => by have := inB114 q; omega)
    have rw6 : rwsC (N := N) M6 bs := by
      obtain ⟨r1, r2, r3⟩ := g1
      refine ⟨by rw [e6, wI_1, if_neg (by omega), e5, wI_1, if_neg (by omega), n114 222 (by omega), s3.1 222 (by omega)]; exact r1, r2, fun i b hi => ⟨?_, (r3 i b hi).2⟩⟩
      have := (r3 i b hi).1
      unfold rwC at this ⊢
      rw [e6, wI_ne _ (by omega), wI_ne _ (by omega), wI_ne _ (by omega), wI_ne _ (by omega), e5, wI_ne _ (by omega), wI_ne _ (by omega), wI_ne _ (by omega), wI_ne _ (by omega), n114 223 (by omega), n114 224 (by omega), n114 225 (by omega), n114 226 (by omega), s3.1 223 (by omega), s3.1 224 (by omega), s3.1 225 (by omega), s3.1 226 (by omega)]
      exact this
    have l40 := rw6.2.1
    have lr := jd_le (P := plOf N) bs 0 F
    have S6 : Same (fun z => z = 0 ∨ z = 220 ∨ (222 ≤ z ∧ z ≤ 226) ∨ (115 ≤ z ∧ z ≤ 169)) M M6 := by rw [e6, e5]; exact (S4.wI (by omega)).wI (by omega)
    have z6 : M6.1 0 = M3.1 0 := by rw [e6, wI_ne _ (by omega), e5, wI_ne _ (by omega), s4.1 0 (fun q => by have := inB114 q; omega)]
    -- what the model answers
    have fin : ∀ Mc : zMem, Same (fun z => z = 0 ∨ (10 ≤ z ∧ z ≤ 14) ∨ (64 < z ∧ z ≤ 216) ∨ z = 220 ∨ (222 ≤ z ∧ z ≤ 226)) M Mc → Mc.1 0 = M3.1 0 → Mc.1 222 7 = 1 → Mc.1 222 8 = (jdS (plOf N) bs 0 F).1 → Mc.1 222 9 = nI (jdS (plOf N) bs 0 F).2.1 → Mc.1 222 10 = (jdS (plOf N) bs 0 F).2.2 2 → Mc.1 222 11 = manyF (rtP (plOf N) (jdS (plOf N) bs 0 F).2.2) (mP (plOf N)) →
        PC Mc 63 (plOf N) (if x = 1 ∧ 0 < (jdS (plOf N) bs 0 F).2.1 then (jdS (plOf N) bs 0 F).2.2 else F) → (∃ top, UC Mc (if x = 1 ∧ 0 < (jdS (plOf N) bs 0 F).2.1 then (F :: us).take 8 else us) top) → S_X12_book (d + 64) x Mc (zI fun r2 M2 => eqJ (B + 1000) (if (jdS (plOf N) bs 0 F).1 = 0 then -1 else nI (jdS (plOf N) bs 0 F).2.1) r2 M2) := by
      intro Mc Sc zc k7 k8 k9 kA kB pc uc
      have hdc : hdR Mc N := hdR_same h.2.2.2.2.1.1 (fun j _ => by rw [Sc.1 231 (by omega)]) (Sc.2 237 (by omega))
      have prc : PR Mc (plOf N) F := ⟨h.pr.1, plnR_same h.pr.2.1 (fun j _ => by rw [Sc.1 231 (by omega)]) (fun z hz => Sc.1 z (by omega)), by rw [fR_same (Sc.1 231 (by omega))]; exact h.pr.2.2⟩
      have urc : UR Mc us := UR_same h.2.2.1.2.1 (by rw [Sc.1 229 (by omega)]) (Sc.1 234 (by omega))
      refine m_book (B := B) (F := F) (us := us) h.1 hx t0 (fun i hi => by rw [Sc.1 230 (by omega)]; exact t4 i hi) (by rw [Sc.1 229 (by omega)]; exact t2) hdc prc hF urc h.2.1.2.2 hB (fun f2 j2 hr2 => absurd (hr.symm.trans hr2) (fun q => by cases q)) (fun b2 hr2 M9 w1 w2 w3 w4 w5 w6 w7 => ?_)
      have eb : b2 = bs := by
        have := hr2.symm.trans hr
        cases this
        rfl
      subst eb
      have l9 : ∀ z, z < 229 → M9.1 z = Mc.1 z := fun z hz => w7.1.1 z (by omega)
      have e09 : M9.1 0 = M3.1 0 := by rw [l9 0 (by omega), zc]
      have SF : Same (fun z => z = 0 ∨ (10 ≤ z ∧ z ≤ 14) ∨ (64 < z ∧ z ≤ 216) ∨ z = 220 ∨ (222 ≤ z ∧ z ≤ 226) ∨ z = 229 ∨ z = 231 ∨ (234 ≤ z ∧ z ≤ 236) ∨ (246 ≤ z ∧ z ≤ 255) ∨ z = 258 ∨ z = 260 ∨ z = 261) M M9 := (Sc.mono (fun z hz => by omega)).trans (w7.1.mono (fun z hz => by omega))
      have us0 := usD_ok h (B2 := B + 1000) (by omega) 0
      have us1 := usD_ok h (B2 := B + 1000) (by omega) 1
      refine ⟨rfl, N, _, _, h.1, ⟨PC_same pc (fun z hz => l9 z (by rcases hz with hz | hz; omega; have := inT63 hz; omega)), w4, ?_⟩, ⟨?_, w5, ?_⟩, JO_mono (JO_bk h.2.2.2 ⟨SF, fun j j1 j2 j3 => by rw [e09]; exact e0 j j1 j2 j3, fun j a b c e f g i => by rw [w7.2.1 j a b c e f g i, Sc.1 229 (by omega)], fun j hj => by rw [w7.2.2 j hj, Sc.1 231 (by omega)]⟩ (tape0 (by rw [e09]; exact a1) w3) ⟨?_, ?_⟩ ⟨?_, ?_, ?_, ?_, ?_⟩) (by omega)⟩
      · split
        · exact bdG_mono (bdG_jd h.pc.1 b2 0 B F (fun b hb => by obtain ⟨i, hi⟩ := List.getElem?_of_mem hb; exact (rw6.2.2 i b hi).2) h.2.1.2.2) (by omega) (Nat.le_refl _)
        · exact bdG_mono h.2.1.2.2 (by omega) (Nat.le_refl _)
      · obtain ⟨top, ut⟩ := uc
        exact ⟨top, UC_same ut (fun z z1 z2 => l9 z (by omega))⟩
      · split
        · exact us0
        · exact us1
      · rw [e09, a2]; exact w1.symm
      · rw [e09, a3]; exact w2.symm
      · rw [l9 222 (by omega), k7, w6.2.2.2.2]
      · rw [l9 222 (by omega), k8, w6.1]
      · rw [l9 222 (by omega), k9, w6.2.1]
      · rw [l9 222 (by omega), kA, w6.2.2.1]
      · rw [l9 222 (by omega), kB, w6.2.2.2.1]
    refine j_judge (d := d + 8) (F := F) (M0 := M6) (all := bs) rw6 (fun M7 p7 k7 k8 k9 kA kB jS => ?_) bs 0 F M6 (by omega) (fun j b hb => by rw [Nat.zero_add]; exact hb) rfl p6 (by rw [e6, wI_1, if_neg (by omega), e5, wI_1, if_pos ⟨rfl, rfl⟩]) (by rw [e6, wI_1, if_pos ⟨rfl, rfl⟩]; rfl) ⟨Same.refl _ _, rfl⟩
    have S7 : Same (fun z => z = 0 ∨ z = 220 ∨ (222 ≤ z ∧ z ≤ 226) ∨ (115 ≤ z ∧ z ≤ 169)) M M7 := S6.trans (jS.1.mono (fun z hz => by have := c114 hz; omega))
    have z7 : M7.1 0 = M3.1 0 := by rw [jS.1.1 0 (fun q => by have := c114 q; omega), z6]
    have q7 : PC M7 63 (plOf N) F := PC_same h.pc (fun z hz => S7.1 z (by rcases hz with hz | hz; omega; have := inT63 hz; omega))
    obtain ⟨top, ht⟩ := h.2.2.1.1
    have u7 : UC M7 us top := UC_same ht (fun z z1 z2 => S7.1 z (by omega))
    have nokeep : ¬ (x = 1 ∧ 0 < (jdS (plOf N) bs 0 F).2.1) → S_X12_book (d + 64) x M7 (zI fun r2 M2 => eqJ (B + 1000) (if (jdS (plOf N) bs 0 F).1 = 0 then -1 else nI (jdS (plOf N) bs 0 F).2.1) r2 M2) := by
      intro c
      rw [if_neg c, if_neg c] at fin
      exact fin M7 (S7.mono (fun z hz => by omega)) z7 k7 k8 k9 kA kB q7 ⟨top, u7⟩
    refine ⟨fun q => zii (nokeep (fun w => q w.1)), fun q => ?_⟩
    rw [k9, show (0 : Int32) = nI 0 from rfl, nI_leI (by omega) (by omega)]
    refine ⟨fun q2 => zii (nokeep (fun w => by omega)), fun q2 => ?_⟩
    have c : x = 1 ∧ 0 < (jdS (plOf N) bs 0 F).2.1 := ⟨q, by omega⟩
    rw [if_pos c, if_pos c] at fin
    refine e_X10_note (by decide) (by omega) u7 (fun M8 n8 s8 => ?_)
    have hF7 : cl (fC M7 10) = F := by have := q7.2.2.1; rw [pT63.2.1] at this; exact this
    rw [hF7] at n8
    refine e_X10_keepNoted n8 (fun M9 top2 u9 s9 => ?_)
    have p9 : PC M9 114 (plOf N) (jdS (plOf N) bs 0 F).2.2 := PC_same p7 (fun z hz => by
      have hz2 : z < 170 := by
        rcases hz with hz | hz
        · omega
        · have := inB114 (inT_B hz); omega
      rw [s9.1 z (by omega), s8.1 z (by omega)])
    refine e_X4_copyFrom (b := 63) (b2 := 114) (by decide) (by decide) (by decide) p9 (fun Ma pa qa sa => zii ?_)
    have t8 : ∀ z, z = 0 ∨ z = 222 → Ma.1 z = M7.1 z := fun z hz => by rw [sa.1 z (fun q => by have := inB63 q; omega), s9.1 z (by omega), s8.1 z (by omega)]
    refine fin Ma ((S7.mono (fun z hz => by omega)).trans ((s8.mono (fun z hz => by omega)).trans ((s9.mono (fun z hz => by omega)).trans (sa.mono (fun z hz => by have := inB63 hz; omega))))) ?_ ?_ ?_ ?_ ?_ ?_ pa ⟨top2, UC_same u9 (fun z z1 z2 => sa.1 z (fun q => by have := inB63 q; omega))⟩
    · rw [t8 0 (by omega), z7]
    · rw [t8 222 (by omega)]; exact k7
    · rw [t8 222 (by omega)]; exact k8
    · rw [t8 222 (by omega)]; exact k9
    · rw [t8 222 (by omega)]; exact kA
    · rw [t8 222 (by omega)]; exact kB
end
