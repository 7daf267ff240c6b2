-- ===== draws: the model =====
section
variable {d B b p q k m : Nat} {M M2 M3 : zMem} {N : zNm} {F G : Nat → Int32} {P : zPl} {us us2 : List (Nat → Int32)} {x y z v : Int32} {R : Nat → Int32}
def RD (M : zMem) (P : zPl) (x : Int32) (F R : Nat → Int32) : Prop := PR M P F ∧ M.1 229 50 = x ∧ ∀ j, j < 4 → M.1 258 j = R j
def RDs (M : zMem) (P : zPl) (s : zDr) : Prop := RD M P s.1 s.2.1 s.2.2
theorem PR_w {i j : Nat} {w : Int32} (h : PR M P F) (hi : i ≠ 231 ∧ i ≠ 242 ∧ i ≠ 243 ∧ i ≠ 244) : PR (wI M i j w) P F := ⟨h.1, plnR_same h.2.1 (fun j _ => by rw [wI_ne _ (by omega)]) (fun z hz => wI_ne _ (by omega)), by rw [fR_same (wI_ne _ (by omega))]; exact h.2.2⟩
theorem c_X12_draw {Q : Int32 → zMem → Prop} {n : Nat} (hM : RD M P x F R) (h0 : 0 < n) (hn : n < 2 ^ 20) (h : ∀ M2, RD M2 P (nxS x) F R → TO M M2 → Q (nI (dvN x n)) M2) : S_X12_draw d (nI n) M (zI Q) := by
  refine t_X12_draw (fun M1 e1 => ⟨nI_ne0 h0 (by omega), zii ?_⟩)
  have e0 : M1.1 229 50 = nxS x := by rw [e1, wI_1, if_pos ⟨rfl, rfl⟩, hM.2.1, nxS_is]
  rw [e0, dv_eq h0 hn]
  refine h M1 ⟨e1 ▸ PR_w hM.1 (by omega), e0, fun j hj => by rw [e1, wI_ne _ (by omega)]; exact hM.2.2 j hj⟩ ⟨by rw [e1]; exact (Same.refl _ _).wI (by omega), fun j _ a => by rw [e1, wI_1, if_neg (by omega)], fun j _ => by rw [e1, wI_ne _ (by omega)]⟩
theorem RD_off (hM : RD M P x F R) (h : OffOnly M M2) : RD M2 P x F R := ⟨PR_off hM.1 h, by rw [h.2 50 (by omega)]; exact hM.2.1, fun j hj => by rw [h.1.1 258 (by omega)]; exact hM.2.2 j hj⟩
theorem RD_live (hM : RD M P x F R) (hp : PR M2 P G) (h : LiveOnly M M2) : RD M2 P x G R := ⟨hp, by rw [h.2.1 50 (by omega)]; exact hM.2.1, fun j hj => by rw [h.1.1 258 (by omega)]; exact hM.2.2 j hj⟩
theorem c_X12_doIf {Q : zMem → Prop} {o a c e : Int32} {D : Int32 × (Nat → Int32)} (hM : RD M P x F R) (h4 : ∃ t, t < 4 ∧ D.1 = nI t) (hD : ¬ D.1 = 0 → D.2 = F)
    (hw : ∀ (M1 : zMem) (Q : Int32 → zMem → Prop), PR M1 P F → (∀ M2, OffOnly M1 M2 → Q D.1 M2) → S_X12_why (d + 57) o a c e M1 (zI Q))
    (hl : ∀ (M1 : zMem) (Q : zMem → Prop), D.1 = 0 → PR M1 P F → (∀ M2, PR M2 P D.2 → LiveOnly M1 M2 → Q M2) → S_X12_live (d + 57) o a c e M1 (zU Q))
    (h : ∀ M2, RD M2 P x D.2 (cntR R D.1) → TO M M2 → Q M2) : S_X12_doIf (d + 58) o a c e M (zU Q) := by
  obtain ⟨t, ht, et⟩ := h4
  refine t_X12_doIf (hw M _ hM.1 (fun M1 o1 => ?_))
  have h1 := RD_off hM o1
  refine ⟨fun w => ?_, fun w => ?_⟩
  · rw [hD w] at h
    rw [et] at w h ⊢
    have t0 : t ≠ 0 := fun q => w (by rw [q]; rfl)
    refine ⟨nIin ht (by omega), nIin ht (by omega), fun M3 e3 => zuu (h M3 ⟨e3 ▸ PR_w h1.1 (by omega), by rw [e3, wI_ne _ (by omega)]; exact h1.2.1, fun j hj => ?_⟩ (o1.to.trans ?_))⟩
    · rw [cntR_t _ (by omega) ht hj, e3, nI_clamp (by omega), wI_1]
      by_cases ej : j = t
      · rw [if_pos ⟨rfl, ej⟩, if_pos ej, ← ej, h1.2.2 j hj]
      · rw [if_neg (fun w => ej w.2), if_neg ej]
        exact h1.2.2 j hj
    · rw [e3]; exact ⟨(Same.refl _ _).wI (by omega), fun j _ _ => by rw [wI_ne _ (by omega)], fun j _ => by rw [wI_ne _ (by omega)]⟩
  · refine hl M1 _ w h1.1 (fun M2 p2 l2 => zuu (h M2 ⟨p2, (RD_live h1 p2 l2).2.1, fun j hj => ?_⟩ (o1.to.trans l2.to)))
    rw [w, show (0 : Int32) = nI 0 from rfl, cntR_0 _ hj]
    exact (RD_live h1 p2 l2).2.2 j hj
theorem c_X12_drawsRound {Q : zMem → Prop} {s : zDr} (hm : 0 < mP P) (hn : 0 < nP P) (hM : RDs M P s) (hg : bdF s.2.1) (h : ∀ M2, RDs M2 P (rndS P s) → TO M M2 → Q M2) : S_X12_drawsRound (d + 59) M (zU Q) := by
  obtain ⟨x, F, R⟩ := s
  have hM : RD M P x F R := hM
  have hg : bdF F := hg
  rw [rndS_is] at h
  have hP := hM.1.1
  have h4 := hP.2.1
  have h24 := hP.1
  have a0 := dvN_lt (x := x) (n := 8) (by omega)
  have a1 := dvN_lt (x := nxS x) hm
  have a2 := dvN_lt (x := nxS (nxS x)) hm
  have a3 := dvN_lt (x := nxS (nxS x)) hn
  have a4 := dvN_lt (x := nxS (nxS (nxS x))) (n := 10) (by omega)
  refine t_X12_drawsRound (c_X12_draw (n := 8) hM (by omega) (by omega) (fun M1 c1 o1 => ?_))
  rw [c1.1.2.1.2.1]
  refine c_X12_draw c1 hm (by omega) (fun M2 c2 o2 => ⟨fun w => ⟨fun w2 => ?_, fun w2 => ?_⟩, fun w => ?_⟩)
  · have w3 : 2 < dvN x 8 := by
      rw [show (2 : Int32) = nI 2 from rfl, nI_leI (by omega) (by omega)] at w
      rcases Nat.lt_or_ge 2 (dvN x 8) with q | q
      · exact q
      · exact absurd (by rw [show dvN x 8 = 2 by omega]; rfl) w2
    rw [if_pos w3] at h
    rw [c2.1.2.1.2.1]
    refine c_X12_draw c2 hm (by omega) (fun M3 c3 o3 => ⟨fun w4 => ⟨fun w5 => ?_, fun w5 => ?_⟩, fun w4 => zuu ?_⟩)
    · have e2 : ¬ dvN (nxS x) (mP P) = dvN (nxS (nxS x)) (mP P) := fun e => w4 (by rw [e])
      have e3 : dvN x 8 = 7 := by
        rw [show (7 : Int32) = nI 7 from rfl, nI_leI (by omega) (by omega)] at w5
        omega
      rw [if_neg e2, if_pos e3] at h
      exact e_X12_turn (x := 3) (by decide) (by omega) (by omega) c3.1 (fun M4 p4 l4 => zuu (h M4 (RD_live c3 p4 l4) (o1.trans (o2.trans (o3.trans l4.to)))))
    · have e2 : ¬ dvN (nxS x) (mP P) = dvN (nxS (nxS x)) (mP P) := fun e => w4 (by rw [e])
      have e3 : ¬ dvN x 8 = 7 := fun e => w5 (by rw [e]; decide)
      rw [if_neg e2, if_neg e3] at h
      exact c_X12_doIf (D := pullD P F (dvN (nxS x) (mP P)) (dvN (nxS (nxS x)) (mP P))) c3 pullD_4 pullD_F (fun M1 Q a c => e_X12_why2 (by omega) (by omega) a hg c) (fun M1 Q a c e => e_X12_live2 (by omega) (by omega) c hg a e) (fun M5 c5 o5 => zuu (h M5 c5 (o1.trans (o2.trans (o3.trans o5)))))
    · have e2 : dvN (nxS x) (mP P) = dvN (nxS (nxS x)) (mP P) := (nI_inj (by omega) (by omega) w4).symm
      rw [if_pos e2] at h
      exact h M3 c3 (o1.trans (o2.trans o3))
  · have e2 : dvN x 8 = 2 := nI_inj (by omega) (by omega) w2
    rw [if_neg (by omega), if_pos e2] at h
    rw [c2.1.2.1.1]
    refine c_X12_draw c2 hn (by omega) (fun M3 c3 o3 => ?_)
    exact c_X12_doIf (D := dropD F (dvN (nxS x) (mP P)) (dvN (nxS (nxS x)) (nP P))) c3 dropD_4 dropD_F (fun M1 Q a c => e_X12_why1 (by omega) (by omega) a (c M1 (OffOnly.refl M1))) (fun M1 Q a c e => e_X12_live1 (by omega) (by omega) c a e) (fun M5 c5 o5 => zuu (h M5 c5 (o1.trans (o2.trans (o3.trans o5)))))
  · have w3 : dvN x 8 < 2 := by
      rw [show (2 : Int32) = nI 2 from rfl, nI_leI (by omega) (by omega)] at w
      omega
    rw [if_neg (by omega), if_neg (by omega)] at h
    rw [c2.1.2.1.1]
    refine c_X12_draw c2 hn (by omega) (fun M3 c3 o3 => ?_)
    refine c_X12_draw (n := 10) c3 (by omega) (by omega) (fun M4 c4 o4 => ?_)
    exact c_X12_doIf (D := putD F (dvN (nxS x) (mP P)) (dvN (nxS (nxS x)) (nP P)) (nI (dvN (nxS (nxS (nxS x))) 10))) c4 putD_4 putD_F (fun M1 Q a c => e_X12_why0 (by omega) (by omega) a (c M1 (OffOnly.refl M1))) (fun M1 Q a c e => e_X12_live0 (by omega) (by omega) c a e) (fun M5 c5 o5 => zuu (h M5 c5 (o1.trans (o2.trans (o3.trans (o4.trans o5))))))
theorem c_X12_rounds {Q : zMem → Prop} {n : Nat} (hm : 0 < mP P) (hn : 0 < nP P) (hnn : n < 2 ^ 30) {M0 : zMem} : ∀ (c i : Nat) (s : zDr) (M : zMem) (B : Nat), i + c = n → RDs M P s → TO M0 M → bdG B (mP P) s.2.1 → B + c ≤ 1000000000 → (∀ M2, RDs M2 P (rnsS P c s) → TO M0 M2 → Q M2) → S_X12_drawRounds_27 (d + 60) (nI n) (nI i) M (zU Q)
  | 0, i, s, M, B, hi, hM, ho, _, _, h => by
    have e : i = n := by omega
    subst e
    exact t_X12_drawRounds_27 ⟨fun _ => zuu (h M hM ho), fun w => absurd (Int32.le_refl _) w⟩
  | c + 1, i, s, M, B, hi, hM, ho, hg, hB, h => by
    refine t_X12_drawRounds_27 ⟨fun w => absurd w (nI_ge (by omega) (by omega)), fun _ => c_X12_drawsRound hm hn hM (bdG_bdF hg (by omega)) (fun M2 c2 o2 => ?_)⟩
    rw [nI_1]
    exact c_X12_rounds hm hn hnn c (i + 1) _ M2 (B + 1) (by omega) c2 (ho.trans o2) (bdG_round hM.1.1 hm hn hg) (by omega) h
theorem c_X12_drawRounds {Q : zMem → Prop} {n : Nat} (hm : 0 < mP P) (hn : 0 < nP P) (hnn : n < 2 ^ 30) (hM : PR M P F) (hg : bdG B (mP P) F) (hB : B + n ≤ 1000000000) (h : ∀ M2, RDs M2 P (rnsS P n (x, F, fun _ => 0)) → TO M M2 → Q M2) : S_X12_drawRounds (d + 60) (nI n) x M (zU Q) := by
  refine t_X12_drawRounds (fun M1 e1 => ?_)
  have t1 : TO M M1 := by rw [e1]; exact ⟨(Same.refl _ _).wI (by omega), fun j _ a => by rw [wI_1, if_neg (by omega)], fun j _ => by rw [wI_ne _ (by omega)]⟩
  have p1 : PR M1 P F := e1 ▸ PR_w hM (by omega)
  have key : ∀ (c i : Nat) (M2 : zMem), i + c = 4 → Same (fun z => z = 258) M1 M2 → PR M2 P F → (∀ j, j < i → M2.1 258 j = 0) → S_X12_drawRounds_7 (d + 60) (nI n) (nI i) M2 (zU Q) := by
    intro c
    induction c with
    | zero =>
      intro i M2 hi s2 p2 a2
      have e : i = 4 := by omega
      subst e
      have t2 : TO M1 M2 := ⟨s2.mono (fun z hz => by omega), fun j _ _ => by rw [s2.1 229 (by omega)], fun j _ => by rw [s2.1 231 (by omega)]⟩
      refine t_X12_drawRounds_7 ⟨fun _ => c_X12_rounds hm hn hnn n 0 (x, F, fun _ => 0) M2 B (by omega) ⟨p2, ?_, fun j hj => a2 j hj⟩ (t1.trans t2) hg hB h, fun w => absurd (by decide) w⟩
      rw [s2.1 229 (by omega), e1, wI_1, if_pos ⟨rfl, rfl⟩]
    | succ c ih =>
      intro i M2 hi s2 p2 a2
      refine t_X12_drawRounds_7 ⟨fun w => absurd w (by rw [show (4 : Int32) = nI 4 from rfl]; exact nI_ge (by omega) (by omega)), fun _ => ⟨nIin (by omega) (by omega), fun M3 e3 => ?_⟩⟩
      rw [nI_clamp (by omega)] at e3
      rw [nI_1]
      refine ih (i + 1) M3 (by omega) (e3 ▸ s2.wI rfl) (e3 ▸ PR_w p2 (by omega)) (fun j hj => ?_)
      rw [e3, wI_1]
      by_cases ej : j = i
      · rw [if_pos ⟨rfl, ej⟩]
      · rw [if_neg (by omega)]; exact a2 j (by omega)
  exact key 4 0 M1 (by omega) (Same.refl _ _) p1 (fun j hj => absurd hj (Nat.not_lt_zero j))
end
