-- ===== sentence, both sides =====
section
variable {d n k B : Nat} {M M2 M3 : zMem} {N : zNm} {F : Nat → Int32} {us : List (Nat → Int32)} {tx : Nat → Nat}
def SnR (M M2 : zMem) : Prop := Same (fun z => z = 229 ∨ z = 231 ∨ z = 262) M M2 ∧ (∀ j, 13 < j → j ≠ 27 → j ≠ 56 → j ≠ 57 → j ≠ 58 → j ≠ 59 → M2.1 229 j = M.1 229 j) ∧ ∀ j, j < 405 → M2.1 231 j = M.1 231 j
/-- the model keeps its nodes -/
theorem m_keep {Q : Int32 → zMem → Prop} {T : Nat → Int32} (hM : M.1 262 = T) (h : ∀ M2, (∀ j, j < 240 → M2.1 231 (407 + j) = T j) → (∀ j, j < 407 → M2.1 231 j = M.1 231 j) → Same (fun z => z = 231) M M2 → Q (M.1 229 57) M2) :
    ∀ c k (M1 : zMem), k + c = 240 → (∀ j, j < k → M1.1 231 (407 + j) = T j) → (∀ j, j < 407 → M1.1 231 j = M.1 231 j) → Same (fun z => z = 231) M M1 → S_X12_sentence_89 (d + 1) (nI k) M1 (zI Q) := by
  intro c
  induction c with
  | zero =>
    intro k M1 hk h1 h2 hS
    have ek : k = 240 := by omega
    subst ek
    refine t_X12_sentence_89 ⟨fun _ => zii ?_, fun q => absurd (by decide) q⟩
    rw [hS.1 229 (by omega)]
    exact h M1 h1 h2 hS
  | succ c ih =>
    intro k M1 hk h1 h2 hS
    refine t_X12_sentence_89 ⟨fun q => absurd q (by rw [show (240 : Int32) = nI 240 from rfl]; exact nI_ge (by omega) (by omega)), fun _ => ⟨nIin (by omega) (by omega), ?_⟩⟩
    rw [show (407 : Int32) = nI 407 from rfl, nI_add, nI_clamp (by omega), nI_clamp (by omega), nI_1]
    refine ⟨nIin (by omega) (by omega), fun M2 e2 => ih (k + 1) M2 (by omega) (fun j hj => ?_) (fun j hj => ?_) (e2 ▸ hS.wI rfl)⟩
    · rw [e2, wI_1]
      by_cases e : j = k
      · rw [if_pos ⟨rfl, by omega⟩, hS.1 262 (by omega), hM, e]
      · rw [if_neg (by omega)]; exact h1 j (by omega)
    · rw [e2, wI_1, if_neg (by omega)]; exact h2 j hj
theorem m_sentence {Q : Int32 → zMem → Prop} (hN : okN N) (t0 : txOK tx n) (ht : ∀ i, i < n → M.1 230 i = nI (tx i)) (hn : M.1 229 2 = nI n) (hd : hdR M N)
    (hf : ∀ f, rdS N tx n = .inl f → ∀ M2, M2.1 229 10 = nI f.1 → M2.1 229 27 = 0 → M2.1 229 2 = 0 → M2.1 231 = M.1 231 → SnR M M2 → Q (-1 - nI f.2) M2)
    (hs : ∀ r, rdS N tx n = .inr r → ∀ M2, M2.1 229 10 = 0 → M2.1 229 27 = -1 → M2.1 229 2 = 0 → M2.1 231 405 = 1 → M2.1 231 406 = nI (r.1.length - 1) → ndT (prN N).length (fun j => M2.1 231 (407 + j)) r.1.length 0 r.1 → SnR M M2 → Q (nI r.2) M2) : S_X12_sentence (d + 43) M (zI Q) := by
  refine t_X12_sentence (e_X12_begin (d := d + 39) (most := 200) (by omega) t0 ht hn (fun M1 hT1 k10 k2 k0 S1 l1 M2 e2 M3 e3 M4 e4 M5 e5 => ?_))
  have hT5 : TR M5 tx n 200 (nextT tx n 200 0) := TR_j (TR_j (TR_j (TR_j hT1 (by omega) e2) (by omega) e3) (by omega) e4) (by omega) e5
  have z5 : M5.1 229 56 = nI 0 := by rw [e5, wI_1, if_neg (by omega), e4, wI_1, if_neg (by omega), e3, wI_1, if_pos ⟨rfl, rfl⟩]; rfl
  have o5 : M5.1 229 57 = nI 0 := by rw [e5, wI_1, if_neg (by omega), e4, wI_1, if_pos ⟨rfl, rfl⟩]; rfl
  have v5 : M5.1 229 58 = nI (8 - 8) := by rw [e5, wI_1, if_pos ⟨rfl, rfl⟩]; rfl
  have f5 : M5.1 229 27 = 0 := by rw [e5, wI_1, if_neg (by omega), e4, wI_1, if_neg (by omega), e3, wI_1, if_neg (by omega), e2, wI_1, if_pos ⟨rfl, rfl⟩]
  have c5 : M5.1 229 2 = 0 := by rw [e5, wI_1, if_neg (by omega), e4, wI_1, if_neg (by omega), e3, wI_1, if_neg (by omega), e2, wI_1, if_neg (by omega)]; exact k2
  have S5 : SnR M M5 := by
    refine ⟨?_, fun j a b c e f g => ?_, fun j _ => ?_⟩
    · rw [e5, e4, e3, e2]
      exact ((((S1.mono (fun z hz => Or.inl hz)).wI (Or.inl rfl)).wI (Or.inl rfl)).wI (Or.inl rfl)).wI (Or.inl rfl)
    · rw [e5, wI_1, if_neg (by omega), e4, wI_1, if_neg (by omega), e3, wI_1, if_neg (by omega), e2, wI_1, if_neg (by omega)]; exact l1 j a
    · rw [e5, wI_ne _ (by omega), e4, wI_ne _ (by omega), e3, wI_ne _ (by omega), e2, wI_ne _ (by omega), S1.1 231 (by omega)]
  have hd5 : hdR M5 N := hdR_same hd (fun j _ => S5.2.2 j (by omega)) (S5.1.2 237 (by omega))
  have n231 : M5.1 231 = M.1 231 := by rw [e5, wI_ne _ (by omega), e4, wI_ne _ (by omega), e3, wI_ne _ (by omega), e2, wI_ne _ (by omega), S1.1 231 (by omega)]
  have up : ∀ M6, SyR M5 M6 → SnR M M6 ∧ M6.1 229 27 = 0 ∧ M6.1 229 2 = 0 ∧ M6.1 231 = M.1 231 := fun M6 g => ⟨⟨S5.1.trans (g.1.mono (fun z hz => by omega)), fun j a b c e f h => by rw [g.2 j (Or.inr a) c e f h]; exact S5.2.1 j a b c e f h, fun j hj => by rw [g.1.1 231 (by omega)]; exact S5.2.2 j hj⟩, by rw [g.2 27 (by omega) (by omega) (by omega) (by omega) (by omega)]; exact f5, by rw [g.2 2 (by omega) (by omega) (by omega) (by omega) (by omega)]; exact c5, by rw [g.1.1 231 (by omega)]; exact n231⟩
  unfold rdS at hf hs
  refine r_or (d := d + 38) (schP_g (sonP_g 8) (Or.inr rfl)) (r_and (d := d + 37) (sonP_g 8) (r_one hN 8 d (by omega))) _ M5 (nextT tx n 200 0) 0 0 hT5 hd5 z5 o5 v5 (by omega) (by omega) ⟨fun f hf2 M6 g1 g2 => ?_, fun r hr M6 hT6 hz6 ho6 hv6 ht6 hc6 hj6 S6 => ?_⟩
  · obtain ⟨u1, u2, u3, u4⟩ := up M6 g2
    rw [hf2] at hf
    refine ⟨fun q => (by cases q), fun _ => zii ?_⟩
    rw [g1.2]
    exact hf f rfl M6 g1.1 u2 u3 u4 u1
  obtain ⟨u1, u2, u3, -⟩ := up M6 S6
  rw [hr] at hf hs
  simp only [] at hf hs
  rw [Nat.zero_add] at ht6
  refine ⟨fun _ => ?_, fun q => by cases q⟩
  rw [show (0 : Int32) = nI 0 from rfl, TkR_7 hT6 0 (by omega)]
  refine ⟨fun q M7 e7 M8 e8 M9 e9 => ?_, fun q => e_X12_bad1 hT6 (fun M7 g1 g2 => zii ?_)⟩
  · rw [if_pos q] at hs
    have e231 : ∀ j, j ≠ 405 → j ≠ 406 → M9.1 231 j = M6.1 231 j := fun j a b => by rw [e9, wI_1, if_neg (by omega), e8, wI_1, if_neg (by omega), e7, wI_ne _ (by omega)]
    have e229 : ∀ j, j ≠ 27 → M9.1 229 j = M6.1 229 j := fun j a => by rw [e9, wI_ne _ (by omega), e8, wI_ne _ (by omega), e7, wI_1, if_neg (by omega)]
    have S9 : Same (fun z => z = 229 ∨ z = 231 ∨ z = 262) M M9 := by rw [e9, e8, e7]; exact ((u1.1.wI (Or.inl rfl)).wI (Or.inr (Or.inl rfl))).wI (Or.inr (Or.inl rfl))
    have t9 : M9.1 262 = M6.1 262 := by rw [e9, wI_ne _ (by omega), e8, wI_ne _ (by omega), e7, wI_ne _ (by omega)]
    refine m_keep (d := d + 42) (M := M9) (T := M6.1 262) t9 (fun Ma a1 a2 a3 => ?_) 240 0 M9 (by omega) (fun j hj => absurd hj (Nat.not_lt_zero j)) (fun j _ => rfl) (Same.refl _ _)
    have x229 : Ma.1 229 = M9.1 229 := a3.1 229 (by omega)
    rw [e229 57 (by omega), ho6]
    have l60 := ((schP_g (tx := tx) (n := n) (most := 200) (schP_g (tx := tx) (n := n) (most := 200) (sonP_g (tx := tx) (n := n) (most := 200) (N := N) 8) (Or.inr rfl)) (Or.inl rfl) 0 (nextT tx n 200 0) (by omega)).2 r hr)
    refine hs _ rfl Ma ?_ ?_ ?_ ?_ ?_ ?_ ⟨S9.trans (a3.mono (fun z hz => Or.inr (Or.inl hz))), fun j a b c e f g => ?_, fun j hj => ?_⟩
    · rw [x229, e229 10 (by omega)]; exact hT6.1.2
    · rw [x229, e9, wI_ne _ (by omega), e8, wI_ne _ (by omega), e7, wI_1, if_pos ⟨rfl, rfl⟩]
    · rw [x229, e229 2 (by omega)]; exact u3
    · rw [a2 405 (by omega), e9, wI_1, if_neg (by omega), e8, wI_1, if_pos ⟨rfl, rfl⟩]
    · rw [a2 406 (by omega), e9, wI_1, if_pos ⟨rfl, rfl⟩, e8, wI_ne _ (by omega), e7, wI_1, if_neg (by omega)]; exact ht6
    · exact ndT_agree (T := M6.1 262) (fun j j1 j2 => a1 j (by have : j < 4 * (0 + r.1.length) := j2; omega)) hc6
    · rw [x229, e229 j b]; exact u1.2.1 j a b c e f g
    · rw [a2 j (by omega), e231 j (by omega) (by omega)]; exact u1.2.2 j hj
  · rw [if_neg q] at hf
    have u := up M7 (S6.trans (SyR.ro g2))
    rw [g1.2]
    exact hf _ rfl M7 g1.1 u.2.1 u.2.2.1 u.2.2.2 u.1
/-- what a SENTENCE may change -/
def ZO (M M2 : zMem) : Prop := Same (fun z => z = 0 ∨ z = 15 ∨ z = 16 ∨ z = 30 ∨ z = 31 ∨ z = 220 ∨ z = 229 ∨ z = 231 ∨ z = 262) M M2 ∧ (∀ j, j ≠ 1 → j ≠ 16 → j ≠ 17 → M2.1 0 j = M.1 0 j) ∧ (∀ j, 13 < j → j ≠ 27 → j ≠ 56 → j ≠ 57 → j ≠ 58 → j ≠ 59 → M2.1 229 j = M.1 229 j) ∧ ∀ j, j < 405 → M2.1 231 j = M.1 231 j
theorem JO_sn (h : JO B M N) (hs : ZO M M2) (h3 : sayJ M2 (prN N).length) (h4 : tapeJ M2) (h5 : fltJ M2) : JO B M2 N := by
  obtain ⟨a1, a2, a3, a4, a5, a6, a7, a8, a9, a10⟩ := h
  obtain ⟨s1, t0, t9, t3⟩ := hs
  have t : ∀ z, ¬ (z = 0 ∨ z = 15 ∨ z = 16 ∨ z = 30 ∨ z = 31 ∨ z = 220 ∨ z = 229 ∨ z = 231 ∨ z = 262) → M2.1 z = M.1 z := fun z hz => s1.1 z hz
  have t2 : ∀ z, ¬ (z = 0 ∨ z = 15 ∨ z = 16 ∨ z = 30 ∨ z = 31 ∨ z = 220 ∨ z = 229 ∨ z = 231 ∨ z = 262) → M2.2 z = M.2 z := fun z hz => s1.2 z hz
  exact ⟨nmC_same a1 (fun z hz => t z (by omega)) (fun z hz => t2 z (by omega)), nmR_same a2 (fun j hj => t3 j (by omega)) (t2 237 (by omega)) (fun z z1 z2 => t z (by omega)), h3, imgJ_same a4 (fun z z1 z2 => t z (by omega)) (fun z z1 z2 => t2 z (by omega)) (t 233 (by omega)) (t2 239 (by omega)) (t 240 (by omega)), h4, h5, ofrJ_same a7 (t0 13 (by omega) (by omega) (by omega)) (t 227 (by omega)) (t9 44 (by omega) (by omega) (by omega) (by omega) (by omega) (by omega)) (t 256 (by omega)), tagJ_same a8 (t0 15 (by omega) (by omega) (by omega)) (t 228 (by omega)) (t9 46 (by omega) (by omega) (by omega) (by omega) (by omega) (by omega)) (t 257 (by omega)), refJ_same a9 (by rw [t 217 (by omega)]) (t 219 (by omega)) (t9 49 (by omega) (by omega) (by omega) (by omega) (by omega) (by omega)) (t 259 (by omega)), tldJ_same a10 (fun j _ => by rw [t 222 (by omega)]) (t9 54 (by omega) (by omega) (by omega) (by omega) (by omega) (by omega)) (t 261 (by omega))⟩
theorem o_sentence (h : JA B M N F us) : S_X11_sentence (d + 43) M (zI fun r M1 => S_X12_sentence (d + 43) M1 (zI fun r2 M2 => eqJ B r r2 M2)) := by
  obtain ⟨tx, n, t0, t1, t2, t3, t4⟩ := h.2.2.2.2.2.2.2.1
  refine t_X11_sentence ?_
  rw [t1]
  refine c_X6_open (d := d + 39) (most := 200) t0 (by omega) t3 (fun M1 tc1 k10 k11 s1 => ?_)
  have hd1 : hdC M1 3 N := hdC_same h.2.2.2.1.1 (s1.1 3 (by omega)) (fun z hz => s1.2 z (by omega))
  refine s_read (d := d + 7) h.1 hd1 tc1 k11 (fun f hr M2 g1 g2 => ?_) (fun r hr M2 g1 g2 g3 g4 g5 => ?_)
  · -- a fault
    have hk := rdS_g.1 f hr
    refine c_closeText (a := f.1) hk.2 g1.1 (fun M3 a1 a2 a3 a4 s3 => ?_)
    refine ⟨fun q => (by cases q), fun _ => zii ?_⟩
    rw [if_neg (by have := hk.1; omega)] at a3
    have e12 : M3.1 220 12 = nI f.2 := by rw [s3.1 220 (by omega)]; exact g1.2
    rw [e12]
    have S3 : Same (fun z => z = 0 ∨ z = 220 ∨ z = 30 ∨ z = 31) M M3 := (s1.mono (fun z hz => by omega)).trans ((g2.mono (fun z hz => by omega)).trans (s3.mono (fun z hz => by omega)))
    have e0 : ∀ j, j ≠ 1 → j ≠ 16 → j ≠ 17 → M3.1 0 j = M.1 0 j := fun j j1 j2 j3 => by rw [a4 j j1 j2 j3, g2.1 0 (by omega), s1.1 0 (by omega)]
    refine m_sentence (d := d) (tx := tx) (n := n) h.1 t0 (fun i hi => by rw [S3.1 230 (by omega)]; exact t4 i hi) (by rw [S3.1 229 (by omega)]; exact t2) (hdR_same h.2.2.2.2.1.1 (fun j _ => by rw [S3.1 231 (by omega)]) (S3.2 237 (by omega))) (fun f2 hr2 M4 w1 w2 w3 w5 w4 => ?_) (fun r2 hr2 => absurd (hr.symm.trans hr2) (fun q => by cases q))
    have ef : f2 = f := by
      have := hr2.symm.trans hr
      cases this
      rfl
    subst ef
    have S4 : Same (fun z => z = 0 ∨ z = 15 ∨ z = 16 ∨ z = 30 ∨ z = 31 ∨ z = 220 ∨ z = 229 ∨ z = 231 ∨ z = 262) M M4 := (S3.mono (fun z hz => by omega)).trans (w4.1.mono (fun z hz => by omega))
    have e04 : M4.1 0 = M3.1 0 := w4.1.1 0 (by omega)
    have q9 : ∀ j, 13 < j → j ≠ 27 → j ≠ 56 → j ≠ 57 → j ≠ 58 → j ≠ 59 → M4.1 229 j = M.1 229 j := fun j a b c e f g => by rw [w4.2.1 j a b c e f g, S3.1 229 (by omega)]
    have q1 : ∀ j, j < 405 → M4.1 231 j = M.1 231 j := fun j hj => by rw [w4.2.2 j hj, S3.1 231 (by omega)]
    refine ⟨rfl, N, F, us, h.1, JC_same h.2.1 (fun z hz => S4.1 z (by omega)) (fun j hj => q1 j (by omega)) (fun z hz => S4.1 z (by omega)), JU_same h.2.2.1 (fun z z1 z2 => S4.1 z (by omega)) (q9 25 (by omega) (by omega) (by omega) (by omega) (by omega) (by omega)) (S4.1 234 (by omega)), JO_sn h.2.2.2 ⟨S4, fun j j1 j2 j3 => by rw [e04]; exact e0 j j1 j2 j3, q9, q1⟩ (sayJ_same h.2.2.2.2.2.1 (by rw [w4.1.1 15 (by omega), S3.1 15 (by omega)]) (by rw [w4.1.1 16 (by omega), S3.1 16 (by omega)]) (fun j _ => by rw [w5, S3.1 231 (by omega)])) (tape0 (by rw [e04]; exact a1) w3) ⟨?_, ?_⟩⟩
    · rw [e04, a2]; exact w1.symm
    · rw [e04, a3]; exact w2.symm
  · -- a SENTENCE
    obtain ⟨r0, r20, l0, l60, v20⟩ := rdS_g.2 r hr
    refine c_closeText (a := 0) (by omega) g4 (fun M3 a1 a2 a3 a4 s3 => ?_)
    rw [if_pos rfl] at a3
    refine ⟨fun _ => ?_, fun q => (by cases q)⟩
    refine t_X7_copyFrom (by decide) (by decide) (fun M4 e4 M5 e5 M6 e6 => zuu (zii ?_))
    have S3 : Same (fun z => z = 0 ∨ z = 220 ∨ z = 30 ∨ z = 31) M M3 := (s1.mono (fun z hz => by omega)).trans ((g5.mono (fun z hz => by omega)).trans (s3.mono (fun z hz => by omega)))
    have e0 : ∀ j, j ≠ 1 → j ≠ 16 → j ≠ 17 → M3.1 0 j = M.1 0 j := fun j j1 j2 j3 => by rw [a4 j j1 j2 j3, g5.1 0 (by omega), s1.1 0 (by omega)]
    have z3 : M3.1 30 = M2.1 30 := s3.1 30 (by omega)
    have k1 : M6.1 15 1 = nI r.1.length := by rw [e6, wI_1, if_neg (by omega), e5, wI_1, if_pos ⟨rfl, rfl⟩, e4, cI_1, if_neg (by omega), z3]; exact g1
    have k2 : M6.1 15 2 = nI r.2 := by rw [e6, wI_1, if_pos ⟨rfl, rfl⟩, e5, wI_1, if_neg (by omega), e4, cI_1, if_neg (by omega), z3]; exact g2
    have k16 : ∀ j, j < 60 → M6.1 16 j = M2.1 31 j := fun j hj => by rw [e6, wI_ne _ (by omega), e5, wI_ne _ (by omega), e4, cI_1, if_pos ⟨rfl, by omega, by omega⟩, s3.1 31 (by omega), show 0 + (j - 0) = j by omega]
    have S6 : Same (fun z => z = 0 ∨ z = 15 ∨ z = 16 ∨ z = 30 ∨ z = 31 ∨ z = 220) M M6 := by
      rw [e6, e5, e4]
      exact (((S3.mono (fun z hz => by omega)).cI (by omega)).wI (by omega)).wI (by omega)
    have y0 : M6.1 0 = M3.1 0 := by rw [e6, wI_ne _ (by omega), e5, wI_ne _ (by omega), e4]; exact (((Same.refl (fun z => z = 16) M3).cI rfl).1 0 (by omega))
    rw [k2]
    refine m_sentence (d := d) (tx := tx) (n := n) h.1 t0 (fun i hi => by rw [S6.1 230 (by omega)]; exact t4 i hi) (by rw [S6.1 229 (by omega)]; exact t2) (hdR_same h.2.2.2.2.1.1 (fun j _ => by rw [S6.1 231 (by omega)]) (S6.2 237 (by omega))) (fun f2 hr2 => absurd (hr.symm.trans hr2) (fun q => by cases q)) (fun r2 hr2 M7 w1 w2 w3 w5 w6 w7 w4 => ?_)
    have er : r2 = r := by
      have := hr2.symm.trans hr
      cases this
      rfl
    subst er
    have S7 : Same (fun z => z = 0 ∨ z = 15 ∨ z = 16 ∨ z = 30 ∨ z = 31 ∨ z = 220 ∨ z = 229 ∨ z = 231 ∨ z = 262) M M7 := (S6.mono (fun z hz => by omega)).trans (w4.1.mono (fun z hz => by omega))
    have e07 : M7.1 0 = M3.1 0 := by rw [w4.1.1 0 (by omega), y0]
    have q9 : ∀ j, 13 < j → j ≠ 27 → j ≠ 56 → j ≠ 57 → j ≠ 58 → j ≠ 59 → M7.1 229 j = M.1 229 j := fun j a b c e f g => by rw [w4.2.1 j a b c e f g, S6.1 229 (by omega)]
    have q1 : ∀ j, j < 405 → M7.1 231 j = M.1 231 j := fun j hj => by rw [w4.2.2 j hj, S6.1 231 (by omega)]
    have x15 : M7.1 15 = M6.1 15 := w4.1.1 15 (by omega)
    have x16 : M7.1 16 = M6.1 16 := w4.1.1 16 (by omega)
    refine ⟨rfl, N, F, us, h.1, JC_same h.2.1 (fun z hz => S7.1 z (by omega)) (fun j hj => q1 j (by omega)) (fun z hz => S7.1 z (by omega)), JU_same h.2.2.1 (fun z z1 z2 => S7.1 z (by omega)) (q9 25 (by omega) (by omega) (by omega) (by omega) (by omega) (by omega)) (S7.1 234 (by omega)), JO_sn h.2.2.2 ⟨S7, fun j j1 j2 j3 => by rw [e07]; exact e0 j j1 j2 j3, q9, q1⟩ ?_ (tape0 (by rw [e07]; exact a1) w3) ⟨?_, ?_⟩⟩
    · unfold sayJ
      refine Or.inr ⟨?_, w5, r2.1, r2.1.length - 1, ?_, by omega, v20, fun i c hc => ?_, w6, ?_⟩
      · rw [x15, k2]; exact nI_ne0 r0 (by omega)
      · rw [x15, k1]
      · have hi := (List.getElem?_eq_some_iff.mp hc).1
        rw [x16, k16 i (by omega)]
        have := g3 i c hc
        rw [Nat.zero_add] at this
        exact this
      · have g : ndT (prN N).length (fun j => M7.1 231 (405 + (2 + j))) r2.1.length 0 r2.1 := ndT_agree (fun j _ _ => by show M7.1 231 (405 + (2 + j)) = M7.1 231 (407 + j); rw [show 405 + (2 + j) = 407 + j by omega]) w7
        have := ndT_rel (f := 60) (lo := 0) (by omega) (ndT_mono g (by omega))
        rw [Nat.zero_add] at this
        exact this
    · rw [e07, a2]; exact w1.symm
    · rw [e07, a3]; exact w2.symm
end
