-- ===== the invariant piece by piece; undo, offers, now, fresh =====
theorem relS_same {m : Nat} {T T2 : Nat → Int32} (h : ∀ j, j < 240 → T2 j = T j) : ∀ {f : Nat} {cs : List Int32} {k : Nat}, relS m f cs T k → relS m f cs T2 k
  | 0, _, _, h0 => h0
  | f + 1, cs, k, ⟨hk, h0⟩ => by
    refine ⟨hk, ?_⟩
    rcases h0 with ⟨a1, a2⟩ | ⟨w, p, a1, a2, a3, a4, a5⟩ | ⟨w, r, b, a1, a2, a3, a4, a5, a6, a7, a8, a9⟩ | ⟨cs1, x, a1, a2, a3, a4⟩ | ⟨cs1, cs2, x, y, a1, a2, a3, a4, a5, a6⟩ | ⟨cs1, cs2, x, y, a1, a2, a3, a4, a5, a6⟩
    · exact Or.inl ⟨a1, (h _ (by omega)).trans a2⟩
    · exact Or.inr (Or.inl ⟨w, p, a1, a2, a3, (h _ (by omega)).trans a4, (h _ (by omega)).trans a5⟩)
    · exact Or.inr (Or.inr (Or.inl ⟨w, r, b, a1, a2, a3, a4, a5, a6, (h _ (by omega)).trans a7, (h _ (by omega)).trans a8, (h _ (by omega)).trans a9⟩))
    · exact Or.inr (Or.inr (Or.inr (Or.inl ⟨cs1, x, a1, (h _ (by omega)).trans a2, (h _ (by omega)).trans a3, relS_same h a4⟩)))
    · exact Or.inr (Or.inr (Or.inr (Or.inr (Or.inl ⟨cs1, cs2, x, y, a1, (h _ (by omega)).trans a2, (h _ (by omega)).trans a3, (h _ (by omega)).trans a4, relS_same h a5, relS_same h a6⟩))))
    · exact Or.inr (Or.inr (Or.inr (Or.inr (Or.inr ⟨cs1, cs2, x, y, a1, (h _ (by omega)).trans a2, (h _ (by omega)).trans a3, (h _ (by omega)).trans a4, relS_same h a5, relS_same h a6⟩))))
theorem sayOK_congr {m : Nat} {codes : Nat → Int32} {size ones : Int32} {R R2 : Nat → Int32} (c14 : sayOK m codes size ones R) (h : ∀ j, j < 242 → R2 j = R j) : sayOK m codes size ones R2 := by
  rcases c14 with ⟨s1, s2⟩ | ⟨s1, s2, cs, t, s3, s4, s5, s6, s7, s8⟩
  · exact Or.inl ⟨s1, (h 0 (by omega)).trans s2⟩
  · exact Or.inr ⟨s1, (h 0 (by omega)).trans s2, cs, t, s3, s4, s5, s6, (h 1 (by omega)).trans s7, relS_same (fun j hj => h (2 + j) (by omega)) s8⟩
section
variable {d B b p q k m : Nat} {M M2 M3 : zMem} {N : zNm} {F G : Nat → Int32} {us us2 : List (Nat → Int32)} {Q : Int32 → zMem → Prop} {x y z v : Int32}
theorem sayJ_same (h : sayJ M m) (h1 : M2.1 15 = M.1 15) (h2 : M2.1 16 = M.1 16) (h3 : ∀ j, 405 ≤ j → M2.1 231 j = M.1 231 j) : sayJ M2 m := by
  have e : (fun j => M2.1 231 (405 + j)) = (fun j => M.1 231 (405 + j)) := funext fun j => h3 _ (by omega)
  unfold sayJ at h ⊢
  rw [h1, h2, e]
  exact h
theorem kepJ_same {o o2 : Nat} (h : kepJ B M b o o2) (h1 : ∀ z, b ≤ z → z ≤ b + 14 → M2.1 z = M.1 z) (h2 : ∀ z, b ≤ z → z ≤ b + 14 → M2.2 z = M.2 z) (h3 : ∀ j, o ≤ j → j < o + 647 → M2.1 233 j = M.1 233 j) (h4 : ∀ j, o2 ≤ j → j < o2 + 28 → M2.2 239 j = M.2 239 j) : kepJ B M2 b o o2 := by
  obtain ⟨N2, G, c1, c2, c3, c4, c5, c6, c7, c8, c9, c10, c11, c12, c13, c14⟩ := h
  have hk := c1.2.2.2.1
  have hp := c1.2.2.2.2.1
  refine ⟨N2, G, c1, nmC_same c2 (fun z hz => h1 z (by omega) (by omega)) (fun z hz => h2 z (by omega) (by omega)), ?_⟩
  rw [h3 _ (by omega) (by omega), h3 _ (by omega) (by omega), h3 _ (by omega) (by omega), h3 _ (by omega) (by omega), h3 _ (by omega) (by omega), fC_same (fun z z1 z2 => h1 z (by omega) (by omega)), h1 (b + 14) (by omega) (by omega), h1 (b + 13) (by omega) (by omega)]
  refine ⟨c3, c4, c5, c6, c7, fun k hk2 => by rw [h4 _ (by omega) (by omega)]; exact c8 k hk2, fun p hp2 => by rw [h4 _ (by omega) (by omega)]; exact c9 p hp2, c10, c11, fun j hj => by rw [h3 _ (by omega) (by omega)]; exact c12 j hj, c13, ?_⟩
  exact sayOK_congr c14 (fun j hj => h3 _ (by omega) (by omega))
theorem imgJ_same (h : imgJ B M) (h1 : ∀ z, 33 ≤ z → z ≤ 62 → M2.1 z = M.1 z) (h2 : ∀ z, 33 ≤ z → z ≤ 62 → M2.2 z = M.2 z) (h3 : M2.1 233 = M.1 233) (h4 : M2.2 239 = M.2 239) (h5 : M2.1 240 = M.1 240) : imgJ B M2 := by
  intro k hk
  have hk2 : 33 + 15 * k = 33 ∨ 33 + 15 * k = 48 := by omega
  obtain ⟨b1, b2⟩ := h k hk
  rw [h5, h1 (33 + 15 * k) (by omega) (by omega)]
  exact ⟨b1, fun q => kepJ_same (b2 q) (fun z z1 z2 => h1 z (by omega) (by omega)) (fun z z1 z2 => h2 z (by omega) (by omega)) (fun j _ _ => by rw [h3]) (fun j _ _ => by rw [h4])⟩
theorem tapeJ_same (h : tapeJ M) (h1 : M2.1 0 1 = M.1 0 1) (h2 : M2.1 1 = M.1 1) (h3 : M2.1 229 2 = M.1 229 2) (h4 : M2.1 230 = M.1 230) : tapeJ M2 := by
  unfold tapeJ at h ⊢
  rw [h1, h2, h3, h4]
  exact h
theorem fltJ_same (h : fltJ M) (h1 : M2.1 0 16 = M.1 0 16) (h2 : M2.1 0 17 = M.1 0 17) (h3 : M2.1 229 10 = M.1 229 10) (h4 : M2.1 229 27 = M.1 229 27) : fltJ M2 := by
  unfold fltJ at h ⊢
  rw [h1, h2, h3, h4]
  exact h
theorem ofrJ_same (h : ofrJ M) (h1 : M2.1 0 13 = M.1 0 13) (h2 : M2.1 227 = M.1 227) (h3 : M2.1 229 44 = M.1 229 44) (h4 : M2.1 256 = M.1 256) : ofrJ M2 := by
  unfold ofrJ at h ⊢
  rw [h1, h2, h3, h4]
  exact h
theorem tagJ_same (h : tagJ M) (h1 : M2.1 0 15 = M.1 0 15) (h2 : M2.1 228 = M.1 228) (h3 : M2.1 229 46 = M.1 229 46) (h4 : M2.1 257 = M.1 257) : tagJ M2 := by
  unfold tagJ at h ⊢
  rw [h1, h2, h3, h4]
  exact h
theorem refJ_same (h : refJ M) (h1 : M2.1 217 3 = M.1 217 3) (h2 : M2.1 219 = M.1 219) (h3 : M2.1 229 49 = M.1 229 49) (h4 : M2.1 259 = M.1 259) : refJ M2 := by
  unfold refJ at h ⊢
  rw [h1, h2, h3, h4]
  exact h
theorem tldJ_same (h : tldJ M) (h1 : ∀ j, 7 ≤ j → M2.1 222 j = M.1 222 j) (h2 : M2.1 229 54 = M.1 229 54) (h3 : M2.1 261 = M.1 261) : tldJ M2 := by
  unfold tldJ at h ⊢
  rw [h1 7 (by omega), h1 8 (by omega), h1 9 (by omega), h1 10 (by omega), h1 11 (by omega), h2, h3]
  exact h
-- undo
theorem u_muls (k : Nat) : (203 : Int32) * nI k = nI (203 * k) := by rw [show (203 : Int32) = nI 203 from rfl, pk_mul]
theorem o_undo (h : JA B M N F us) : S_X11_undo (d + 64) M (zI fun r M1 => S_X12_undo (d + 64) M1 (zI fun r2 M2 => eqJ (B + 1000) r r2 M2)) := by
  obtain ⟨top, ht⟩ := h.2.2.1.1
  have hR := h.2.2.1.2.1
  have hB := h.2.2.1.2.2
  cases us with
  | nil =>
    have h0 : M.1 170 2 = 0 := ht.2.2.1
    have h1 : M.1 229 25 = 0 := hR.1
    refine t_X11_undo ⟨fun q => absurd h0 q, fun _ => zii (t_X12_undo (fun M1 e1 => ⟨fun q => absurd ?_ q, fun _ => zii ⟨rfl, J_mono (e1 ▸ h.w0.j) (by omega)⟩⟩))⟩
    rw [e1, wI_1, if_neg (by omega)]
    exact h1
  | cons G us =>
    have hl : (G :: us).length = us.length + 1 := rfl
    have h0 : M.1 170 2 = nI (us.length + 1) := ht.2.2.1
    have h8 : us.length + 1 ≤ 8 := hR.2.1
    refine t_X11_undo ⟨fun _ => e_X10_takeBack (by decide) (by omega) (by omega) ht (fun M1 top2 u1 f1 s1 => ?_), fun q => absurd (h0 ▸ q) (nI_ne0 (by omega) (by omega))⟩
    have e10 : cl (fC M1 (pF 63)) = G := by rw [pT63.2.1]; exact f1
    refine e_X4_growTrees (by decide) h.pc.1 (plnC_same h.pc.2.1 (fun z hz => s1.1 z (by omega))) e10 (fun M2 p2 s2 => zii ?_)
    rw [pT63.1] at s2
    have c2 : CO M M2 := ⟨(s1.mono (fun z hz => by omega)).trans (s2.mono (fun z hz => by omega)), by rw [s2.1 217 (by omega), s1.1 217 (by omega)]⟩
    have u2 : UC M2 us top2 := UC_same u1 (fun z z1 z2 => s2.1 z (by omega))
    rw [u2.2.2.1]
    have w2 : UR M2 (G :: us) := UR_co hR c2
    refine t_X12_undo (fun M3 e3 => ?_)
    have h25 : M3.1 229 25 = nI (us.length + 1) := by rw [e3, wI_1, if_neg (by omega)]; exact w2.1
    refine ⟨fun _ => ?_, fun q => absurd (h25 ▸ q) (nI_ne0 (by omega) (by omega))⟩
    intro M4 e4
    have h4 : M4.1 229 25 = nI us.length := by rw [e4, wI_1, if_pos ⟨rfl, rfl⟩, h25, show (1 : Int32) = nI 1 from rfl, pk_sub (by omega)]; rfl
    rw [h4, u_muls]
    refine c_X12_comeBack (by decide) (by omega) (by show 203 * us.length + 203 ≤ 1624; omega) (by decide) (fun M5 a1 a2 => ?_)
    have h5 : M5.1 229 25 = nI us.length := by rw [a2.1.1 229 (by omega)]; exact h4
    have m4 : MO M2 M4 := by rw [e4, e3]; exact ⟨((Same.refl _ _).wI (by omega)).wI (by omega), fun j a b c e => by rw [wI_1, if_neg (by omega), wI_1, if_neg (by omega)], fun j _ => by rw [wI_ne _ (by omega), wI_ne _ (by omega)]⟩
    have m5 : MO M2 M5 := m4.trans ⟨a2.1.mono (fun z hz => by omega), fun j _ _ _ _ => by rw [a2.1.1 229 (by omega)], a2.2⟩
    have hG : cl G = G := (hB G (List.mem_cons_self ..)).1
    have f5 : cl (fR M5) = G := by
      rw [← hG]
      refine cl_eq (fun j hj => ?_)
      have e234 : M4.1 234 = M2.1 234 := by rw [e4, wI_ne _ (by omega), e3, wI_ne _ (by omega)]
      rw [a1 j hj, e234]
      have := w2.2.2 0 G rfl j hj
      rw [hl, show us.length + 1 - 1 - 0 = us.length by omega] at this
      exact this
    have r5 : PR M5 (plOf N) G := ⟨h.pr.1, plnR_same (PR_co h.pr c2).2.1 (fun j hj => m5.2.2 j (by omega)) (fun z hz => m5.1.1 z (by omega)), f5⟩
    have w5 : UR M5 us := by
      refine ⟨h5, by omega, fun i F hi j hj => ?_⟩
      have e234 : M5.1 234 = M2.1 234 := by rw [a2.1.1 234 (by omega), e4, wI_ne _ (by omega), e3, wI_ne _ (by omega)]
      have := w2.2.2 (i + 1) F hi j hj
      rw [hl, show us.length + 1 - 1 - (i + 1) = us.length - 1 - i by omega] at this
      rw [e234]
      exact this
    rw [h5]
    exact zii ⟨rfl, (h.deed c2 m5 p2 r5 ⟨top2, u2⟩ w5 (B2 := B + 1000) (by omega) (bdG_mono (hB G (List.mem_cons_self ..)).2 (by omega) (Nat.le_refl _)) (fun H hH => ⟨(hB H (List.mem_cons_of_mem _ hH)).1, bdG_mono (hB H (List.mem_cons_of_mem _ hH)).2 (by omega) (Nat.le_refl _)⟩)).j⟩
-- offers
theorem o_offers (h : JA B M N F us) (hb : B ≤ 1000000000) : S_X11_offers (d + 64) x y M (zI fun r M1 => S_X12_offers (d + 64) x y M1 (zI fun r2 M2 => eqJ B r r2 M2)) := by
  have h4 := h.m4
  refine t_X11_offers (c_X11_areTwo h.c4 ⟨fun e => ?_, fun e => zii ?_⟩)
  rotate_left
  · exact t_X12_offers (fun M1 e1 => c_X12_areTwo (e1 ▸ h.w0.r1) h4 ⟨fun e2 => (by rw [e] at e2; cases e2), fun _ => zii ⟨rfl, e1 ▸ h.w0.j⟩⟩)
  obtain ⟨p, q, hp, hq, hne, e1, e2⟩ := twoN_of e h4
  rw [e1, e2] at e ⊢
  have hl := offP_len (F := F) (p := p) (q := q) h.pc.1
  refine e_X4_findOffers (by decide) (by omega) (by omega) h.pc (fun M1 s1 a1 => ?_)
  rw [pT63.1] at s1 a1
  intro M2 e2
  have h13 : M2.1 0 13 = nI (offP (plOf N) F p q).length := by rw [e2, wI_1, if_pos ⟨rfl, rfl⟩]
  rw [h13, nI_clamp (by omega)]
  refine ⟨⟨by decide, by decide, nI_pos (by omega), by show 0 + _ ≤ 24; omega, by show 0 + _ ≤ 24; omega⟩, fun M3 e3 => ?_⟩
  have h313 : M3.1 0 13 = nI (offP (plOf N) F p q).length := by rw [e3, cI_ne _ (by omega)]; exact h13
  rw [h313]
  have s3 : Same (fun z => z = 0 ∨ z = 113 ∨ z = 227) M M3 := by
    rw [e3, e2]
    exact (((s1.mono (fun z hz => by omega)).wI (by omega)).cI (by omega))
  have h0 : ∀ j, j ≠ 13 → M3.1 0 j = M.1 0 j := fun j hj => by rw [e3, cI_ne _ (by omega), e2, wI_1, if_neg (by omega), s1.1 0 (by omega)]
  have h227 : ∀ i k, (offP (plOf N) F p q)[i]? = some k → M3.1 227 i = nI k := fun i k hi => by
    have := (List.getElem?_eq_some_iff.mp hi).1
    rw [e3, cI_in _ this, e2, wI_ne _ (by omega)]
    exact a1 i k hi
  have r3 : PR M3 (plOf N) F := ⟨h.pr.1, plnR_same h.pr.2.1 (fun j _ => by rw [s3.1 231 (by omega)]) (fun z hz => s3.1 z (by omega)), by rw [fR_same (s3.1 231 (by omega))]; exact h.pr.2.2⟩
  refine zii (t_X12_offers (fun M4 e4 => c_X12_areTwo (m := mP (plOf N)) (by rw [e4, wI_ne _ (by omega)]; exact r3.2.1.2.1) h4 ⟨fun _ => ?_, fun e2 => (by rw [e] at e2; cases e2)⟩))
  have r4 : PR M4 (plOf N) F := by rw [e4]; exact ⟨r3.1, plnR_same r3.2.1 (fun j _ => by rw [wI_ne _ (by omega)]) (fun z hz => wI_ne _ (by omega)), by rw [fR_same (wI_ne _ (by omega))]; exact r3.2.2⟩
  refine e_X12_layOffers (by omega) (by omega) r4 (h.bd hb) (fun M5 o5 h543 f5 => ?_)
  intro M6 e6
  have h644 : M6.1 229 44 = nI (offP (plOf N) F p q).length := by rw [e6, wI_1, if_pos ⟨rfl, rfl⟩]; exact h543
  have m6 : MO M3 M6 ∨ True := Or.inr trivial
  have s6 : Same (fun z => z = 229 ∨ (246 ≤ z ∧ z ≤ 255)) M3 M6 := by rw [e6]; exact ((e4 ▸ (Same.refl _ _).wI (by omega)).trans o5.1).wI (by omega)
  have h629 : ∀ j, j ≠ 0 → j ≠ 43 → j ≠ 44 → M6.1 229 j = M3.1 229 j := fun j a b c => by rw [e6, wI_1, if_neg (by omega), o5.2 j b, e4, wI_1, if_neg (by omega)]
  have h655 : ∀ i k, (offP (plOf N) F p q)[i]? = some k → M6.1 255 i = nI k := fun i k hi => by rw [e6, wI_ne _ (by omega)]; exact f5 i k hi
  have loop : ∀ (c i : Nat) (M7 : zMem), i + c = (offP (plOf N) F p q).length → Same (fun z => z = 256) M6 M7 → (∀ j k, j < i → (offP (plOf N) F p q)[j]? = some k → M7.1 256 j = nI k) → S_X12_offers_32 (d + 64) (nI i) M7 (zI fun r2 M2 => eqJ B (nI (offP (plOf N) F p q).length) r2 M2) := by
    intro c
    induction c with
    | zero =>
      intro i M7 hi s7 a7
      have h744 : M7.1 229 44 = nI (offP (plOf N) F p q).length := by rw [s7.1 229 (by omega)]; exact h644
      have ei : i = (offP (plOf N) F p q).length := by omega
      rw [ei]
      refine t_X12_offers_32 ⟨fun _ => ?_, fun q => absurd (leY h744 (by omega)) q⟩
      rw [h744]
      refine zii ⟨rfl, N, F, us, h.1, ?_, ?_, ?_⟩
      · have t : ∀ z, z ≠ 0 → z ≠ 113 → z ≠ 227 → z ≠ 229 → z ≠ 256 → ¬ (246 ≤ z ∧ z ≤ 255) → M7.1 z = M.1 z := fun z a b c e f g => by rw [s7.1 z f, s6.1 z (by omega), s3.1 z (by omega)]
        exact JC_same h.2.1 (fun z hz => t z (by omega) (by omega) (by omega) (by omega) (by omega) (by omega)) (fun j _ => by rw [t 231 (by omega) (by omega) (by omega) (by omega) (by omega) (by omega)]) (fun z hz => t z (by omega) (by omega) (by omega) (by omega) (by omega) (by omega))
      · have t : ∀ z, z ≠ 0 → z ≠ 113 → z ≠ 227 → z ≠ 229 → z ≠ 256 → ¬ (246 ≤ z ∧ z ≤ 255) → M7.1 z = M.1 z := fun z a b c e f g => by rw [s7.1 z f, s6.1 z (by omega), s3.1 z (by omega)]
        exact JU_same h.2.2.1 (fun z z1 z2 => t z (by omega) (by omega) (by omega) (by omega) (by omega) (by omega)) (by rw [s7.1 229 (by omega), h629 25 (by omega) (by omega) (by omega), s3.1 229 (by omega)]) (t 234 (by omega) (by omega) (by omega) (by omega) (by omega) (by omega))
      · have t : ∀ z, z ≠ 0 → z ≠ 113 → z ≠ 227 → z ≠ 229 → z ≠ 256 → ¬ (246 ≤ z ∧ z ≤ 255) → M7.1 z = M.1 z := fun z a b c e f g => by rw [s7.1 z f, s6.1 z (by omega), s3.1 z (by omega)]
        have t2 : ∀ z, z ≠ 0 → z ≠ 113 → z ≠ 227 → z ≠ 229 → z ≠ 256 → ¬ (246 ≤ z ∧ z ≤ 255) → M7.2 z = M.2 z := fun z a b c e f g => by rw [s7.2 z f, s6.2 z (by omega), s3.2 z (by omega)]
        have t0 : ∀ j, j ≠ 13 → M7.1 0 j = M.1 0 j := fun j hj => by rw [s7.1 0 (by omega), s6.1 0 (by omega), h0 j hj]
        have t9 : ∀ j, j ≠ 0 → j ≠ 43 → j ≠ 44 → M7.1 229 j = M.1 229 j := fun j a b c => by rw [s7.1 229 (by omega), h629 j a b c, s3.1 229 (by omega)]
        obtain ⟨a1, a2, a3, a4, a5, a6, a8, a9, a10, a11⟩ := h.2.2.2
        refine ⟨nmC_same a1 (fun z hz => t z (by omega) (by omega) (by omega) (by omega) (by omega) (by omega)) (fun z hz => t2 z (by omega) (by omega) (by omega) (by omega) (by omega) (by omega)), nmR_same a2 (fun j _ => by rw [t 231 (by omega) (by omega) (by omega) (by omega) (by omega) (by omega)]) (t2 237 (by omega) (by omega) (by omega) (by omega) (by omega) (by omega)) (fun z z1 z2 => t z (by omega) (by omega) (by omega) (by omega) (by omega) (by omega)), sayJ_same a3 (t 15 (by omega) (by omega) (by omega) (by omega) (by omega) (by omega)) (t 16 (by omega) (by omega) (by omega) (by omega) (by omega) (by omega)) (fun j _ => by rw [t 231 (by omega) (by omega) (by omega) (by omega) (by omega) (by omega)]), imgJ_same a4 (fun z z1 z2 => t z (by omega) (by omega) (by omega) (by omega) (by omega) (by omega)) (fun z z1 z2 => t2 z (by omega) (by omega) (by omega) (by omega) (by omega) (by omega)) (t 233 (by omega) (by omega) (by omega) (by omega) (by omega) (by omega)) (t2 239 (by omega) (by omega) (by omega) (by omega) (by omega) (by omega)) (t 240 (by omega) (by omega) (by omega) (by omega) (by omega) (by omega)), tapeJ_same a5 (t0 1 (by omega)) (t 1 (by omega) (by omega) (by omega) (by omega) (by omega) (by omega)) (t9 2 (by omega) (by omega) (by omega)) (t 230 (by omega) (by omega) (by omega) (by omega) (by omega) (by omega)), fltJ_same a6 (t0 16 (by omega)) (t0 17 (by omega)) (t9 10 (by omega) (by omega) (by omega)) (t9 27 (by omega) (by omega) (by omega)), ⟨(offP (plOf N) F p q).length, hl, ?_, h744, fun i hi => ?_⟩, tagJ_same a9 (t0 15 (by omega)) (t 228 (by omega) (by omega) (by omega) (by omega) (by omega) (by omega)) (t9 46 (by omega) (by omega) (by omega)) (t 257 (by omega) (by omega) (by omega) (by omega) (by omega) (by omega)), refJ_same a10 (by rw [t 217 (by omega) (by omega) (by omega) (by omega) (by omega) (by omega)]) (t 219 (by omega) (by omega) (by omega) (by omega) (by omega) (by omega)) (t9 49 (by omega) (by omega) (by omega)) (t 259 (by omega) (by omega) (by omega) (by omega) (by omega) (by omega)), tldJ_same a11 (fun j _ => by rw [t 222 (by omega) (by omega) (by omega) (by omega) (by omega) (by omega)]) (t9 54 (by omega) (by omega) (by omega)) (t 261 (by omega) (by omega) (by omega) (by omega) (by omega) (by omega))⟩
        · rw [s7.1 0 (by omega), s6.1 0 (by omega)]; exact h313
        · have hi2 : (offP (plOf N) F p q)[i]? = some ((offP (plOf N) F p q)[i]) := List.getElem?_eq_getElem hi
          rw [a7 i _ (by omega) hi2, s7.1 227 (by omega), s6.1 227 (by omega), h227 i _ hi2]
    | succ c ih =>
      intro i M7 hi s7 a7
      have h744 : M7.1 229 44 = nI (offP (plOf N) F p q).length := by rw [s7.1 229 (by omega)]; exact h644
      refine t_X12_offers_32 ⟨fun q => absurd q (leN h744 (by omega) (by omega)), fun _ => ⟨nIin (by omega) (by omega), nIin (by omega) (by omega), fun M8 e8 => ?_⟩⟩
      rw [nI_1]
      rw [nI_clamp (by omega)] at e8
      refine ih (i + 1) M8 (by omega) (e8 ▸ s7.wI rfl) (fun j k hj hk => ?_)
      rw [e8, wI_1]
      by_cases ej : j = i
      · rw [if_pos ⟨rfl, ej⟩, s7.1 255 (by omega), ← ej]; exact h655 j k hk
      · rw [if_neg (by omega)]; exact a7 j k (by omega) hk
  exact loop (offP (plOf N) F p q).length 0 M6 (by omega) (Same.refl _ _) (fun j k hj => absurd hj (Nat.not_lt_zero j))
end
