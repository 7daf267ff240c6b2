-- ===== odds, drawn =====
section
variable {d B B2 b p q k m : Nat} {M M2 M3 : zMem} {N : zNm} {F G : Nat → Int32} {P : zPl} {us us2 : List (Nat → Int32)} {x y z v : Int32} {R : Nat → Int32}
theorem manyF_pos {r : Nat → Int32} (hm : 0 < m) (h4 : m ≤ 4) : ∃ c, 1 ≤ c ∧ c ≤ 4 ∧ manyF r m = nI c := by
  refine ⟨_, ?_, ?_, cntF_range _ m⟩
  · refine List.length_pos_of_mem (a := 0) (List.mem_filter.mpr ⟨List.mem_range.mpr hm, ?_⟩)
    rw [decide_eq_true_eq, show ((1 : Int32) <<< (nI 0 &&& 31)) - 1 = 0 by decide]
    exact Int32.and_zero
  · have := List.length_filter_le (fun p => decide ((likeF r m p) &&& (((1 : Int32) <<< (nI p &&& 31)) - 1) = 0)) (List.range m)
    rw [List.length_range] at this
    omega
theorem many_1 {r : Nat → Int32} (hm : 0 < m) (h4 : m ≤ 4) : (1 < manyF r m) ↔ ¬ manyF r m = 1 := by
  obtain ⟨c, c1, c2, e⟩ := manyF_pos (r := r) hm h4
  rw [e]
  rcases (show c = 1 ∨ c = 2 ∨ c = 3 ∨ c = 4 by omega) with rfl | rfl | rfl | rfl <;> decide
theorem many_c (r : Int32) (m : Nat) : manyF (fun _ => r) m = manyF (fun _ => 0) m := by
  have : ∀ p, likeF (fun _ => r) m p = likeF (fun _ => 0) m p := fun p => bitsF_congr (fun q _ => by rw [decide_eq_true (rfl : r = r), decide_eq_true (rfl : (0 : Int32) = 0)])
  exact cntF_congr (fun p _ => by rw [this p])
theorem many_bare (hb : mP P = 0 ∨ nP P = 0) (h4 : mP P ≤ 4) : ¬ 1 < manyF (rtP P F) (mP P) := by
  have e : mP P = 0 ∨ manyF (rtP P F) (mP P) = manyF (fun _ => 0) (mP P) := by
    rcases hb with e | e
    · exact Or.inl e
    · right
      rw [← many_c (rtP P F 0)]
      refine manyF_congr (fun q _ => ?_)
      have k0 : ∀ q, keysT (odP P) F q 0 = [] := fun q => rfl
      have r0 : ∀ (lv dg : Nat → Int32), rootT lv dg [] = 0 := fun _ _ => rfl
      unfold rtP rtF
      rw [e, k0, k0, r0, r0]
  rcases e with e | e
  · have z0 : ∀ r : Nat → Int32, manyF r 0 = 0 := fun _ => rfl
    rw [e, z0]; decide
  · rw [e]
    rcases (show mP P = 0 ∨ mP P = 1 ∨ mP P = 2 ∨ mP P = 3 ∨ mP P = 4 by omega) with w | w | w | w | w <;> rw [w] <;> decide
noncomputable def oddS (P : zPl) (F : Nat → Int32) (x : Int32) : Nat → Nat → Nat → Nat
  | 0, _, a => a
  | c + 1, i, a => oddS P F x c (i + 1) (if manyF (rtP P (rnsS P 20 (x + nI i, F, fun _ => 0)).2.1) (mP P) = 1 then a + 1 else a)
theorem c_X5_hasBoth {Q : Bool → zMem → Prop} (hP : okP P) (h : plnC M P) (hQ : Q (decide (0 < nP P ∧ 0 < mP P)) M) : S_X5_hasBoth d 3 M (zB Q) := by
  have h24 := hP.1
  have h4 := hP.2.1
  have e0 : ∀ j, j ≤ 24 → ((nI j ≤ 0) ↔ j = 0) := fun j hj => by
    rw [show (0 : Int32) = nI 0 from rfl, nI_leI (by omega) (by omega)]; omega
  refine t_X5_hasBoth (by decide) ⟨fun w => zbf ?_, fun w => ⟨fun w2 => zbf ?_, fun w2 => zbt ?_⟩⟩
  · rw [h.1, e0 _ h24] at w
    rw [decide_eq_false (by omega)] at hQ
    exact hQ
  · rw [h.2.1, e0 _ (by omega)] at w2
    rw [decide_eq_false (by omega)] at hQ
    exact hQ
  · rw [h.1, e0 _ h24] at w
    rw [h.2.1, e0 _ (by omega)] at w2
    rw [decide_eq_true (by omega)] at hQ
    exact hQ
theorem c_X12_isBare {Q : Bool → zMem → Prop} (hP : okP P) (h : plnR M P) (hQ : Q (!decide (0 < nP P ∧ 0 < mP P)) M) : S_X12_isBare d M (zB Q) := by
  have h24 := hP.1
  have h4 := hP.2.1
  refine t_X12_isBare ⟨fun w => zbt ?_, fun w => ⟨fun w2 => zbf ?_, fun w2 => zbt ?_⟩⟩
  · have : mP P = 0 := nI_inj (by omega) (by omega) (h.2.1 ▸ w)
    rw [decide_eq_false (by omega)] at hQ
    exact hQ
  · have a1 : mP P ≠ 0 := fun e => w (by rw [h.2.1, e]; rfl)
    have a2 : nP P ≠ 0 := fun e => w2 (by rw [h.1, e]; rfl)
    rw [decide_eq_true (by omega)] at hQ
    exact hQ
  · have : nP P = 0 := nI_inj (by omega) (by omega) (h.1 ▸ w2)
    rw [decide_eq_false (by omega)] at hQ
    exact hQ
theorem RO.draws (h : CDo 114 M M2) : RO M M2 := ⟨h.1.mono (fun z hz => by rcases hz with hz | hz | hz; have := inB114 hz; omega; omega; omega), h.2 3 (by omega), fun j _ => by rw [h.1.1 222 (fun q => by rcases q with q | q | q; have := inB114 q; omega; omega; omega)], fun j _ => by rw [h.1.1 229 (fun q => by rcases q with q | q | q; have := inB114 q; omega; omega; omega)], fun j _ => by rw [h.1.1 231 (fun q => by rcases q with q | q | q; have := inB114 q; omega; omega; omega)]⟩
theorem c_odds {Q : Int32 → zMem → Prop} {n : Nat} (hn20 : n ≤ 20) (hm : 0 < mP (plOf N)) (hn : 0 < nP (plOf N)) : ∀ (c i a : Nat) (M : zMem), i + c = n → a ≤ i → JA B M N F us → (∀ M2, JA B M2 N F us → Q (nI (oddS (plOf N) F x c i a)) M2) → S_X11_odds_33 (d + 64) (nI n) x (nI a) (nI i) M (zI Q)
  | 0, i, a, M, hi, ha, hJ, h => by
    have e : i = n := by omega
    subst e
    exact t_X11_odds_33 ⟨fun _ => zii (h M hJ), fun w => absurd (Int32.le_refl _) w⟩
  | c + 1, i, a, M, hi, ha, hJ, h => by
    have ih : ∀ M3 a2, a2 ≤ i + 1 → a2 = (if manyF (rtP (plOf N) (rnsS (plOf N) 20 (x + nI i, F, fun _ => 0)).2.1) (mP (plOf N)) = 1 then a + 1 else a) → JA B M3 N F us → S_X11_odds_33 (d + 64) (nI n) x (nI a2) (nI (i + 1)) M3 (zI Q) := by
      intro M3 a2 h2 e2 h3
      refine c_odds hn20 hm hn c (i + 1) a2 M3 (by omega) h2 h3 (fun M4 h4 => ?_)
      rw [e2]
      exact h M4 h4
    refine t_X11_odds_33 ⟨fun w => absurd w (nI_ge (by omega) (by omega)), fun _ => ?_⟩
    refine e_X4_copyFrom (b := 114) (b2 := 63) (by decide) (by decide) (by decide) hJ.pc (fun M1 p1 q1 s1 => ?_)
    have j1 : JA B M1 N F us := hJ.ro (RO.trial s1)
    refine c_X2_begin (b := 114) (by decide) p1 (fun M2 c2 o2 => ?_)
    refine t_X2_runRounds (by decide) (c_X2_runRounds (d := d + 8) (b := 114) (n := 20) (by decide) hm hn (by omega) 20 0 _ M2 (by omega) c2 o2 (fun M3 c3 o3 => ?_))
    have j3 : JA B M3 N F us := j1.ro (RO.draws o3)
    refine e_X4_rootKinds (b := 114) (by decide) c3.1 ⟨fun w => ?_, fun w => ?_⟩
    · rw [nI_1]
      exact ih M3 a (by omega) (by rw [if_neg w]) j3
    · rw [nI_1, nI_1]
      exact ih M3 (a + 1) (by omega) (by rw [if_pos w]) j3
theorem m_odds {Q : Int32 → zMem → Prop} {n : Nat} (hn20 : n ≤ 20) (hm : 0 < mP (plOf N)) (hn : 0 < nP (plOf N)) (hB : B + 1000 ≤ 1000000000) : ∀ (c i a : Nat) (M : zMem), i + c = n → a ≤ i → JA B M N F us → (∀ j, j < 203 → M.1 236 j = fR M j) → (∀ M2, JA B M2 N F us → Q (nI (oddS (plOf N) F x c i a)) M2) → S_X12_odds_31 (d + 64) (nI n) x (nI a) (nI i) M (zI Q)
  | 0, i, a, M, hi, ha, hJ, _, h => by
    have e : i = n := by omega
    subst e
    exact t_X12_odds_31 ⟨fun _ => zii (h M hJ), fun w => absurd (Int32.le_refl _) w⟩
  | c + 1, i, a, M, hi, ha, hJ, hsv, h => by
    have h4 := hJ.m4
    have ih : ∀ M3 a2, a2 ≤ i + 1 → a2 = (if manyF (rtP (plOf N) (rnsS (plOf N) 20 (x + nI i, F, fun _ => 0)).2.1) (mP (plOf N)) = 1 then a + 1 else a) → JA B M3 N F us → (∀ j, j < 203 → M3.1 236 j = fR M3 j) → S_X12_odds_31 (d + 64) (nI n) x (nI a2) (nI (i + 1)) M3 (zI Q) := by
      intro M3 a2 h2 e2 h3 h5
      refine m_odds hn20 hm hn hB c (i + 1) a2 M3 (by omega) h2 h3 h5 (fun M4 h4 => ?_)
      rw [e2]
      exact h M4 h4
    refine t_X12_odds_31 ⟨fun w => absurd w (nI_ge (by omega) (by omega)), fun _ => c_X12_isBare hJ.pr.1 hJ.pr.2.1 ?_⟩
    rw [decide_eq_true (show 0 < nP (plOf N) ∧ 0 < mP (plOf N) by omega)]
    refine ⟨fun w => (by cases w), fun _ => c_X12_drawRounds (d := d + 3) (n := 20) hm hn (by omega) hJ.pr hJ.2.1.2.2 (by omega) (fun M1 c1 t1 => ?_)⟩
    refine t_X12_odds_54 (e_X12_rootMany (d := d + 32) c1.1 (fun M2 l2 => ⟨fun w => ?_, fun w => ?_⟩))
    · refine m_back hJ (Same.refl _ M) hsv (t1.trans l2.to) (fun M3 j3 e3 t3 r3 => ?_)
      rw [nI_1]
      refine ih M3 a (by omega) (by rw [if_neg ((many_1 hm h4).mp w)]) j3 (fun j hj => ?_)
      rw [e3, hsv j hj]
      unfold fR
      rw [r3]
    · refine m_back hJ (Same.refl _ M) hsv (t1.trans l2.to) (fun M3 j3 e3 t3 r3 => ?_)
      rw [nI_1, nI_1]
      refine ih M3 (a + 1) (by omega) (by rw [if_pos (Classical.byContradiction (fun q => w ((many_1 hm h4).mpr q)))]) j3 (fun j hj => ?_)
      rw [e3, hsv j hj]
      unfold fR
      rw [r3]
theorem m_odds0 {Q : Int32 → zMem → Prop} {n : Nat} (hn20 : n ≤ 20) (hb : mP (plOf N) = 0 ∨ nP (plOf N) = 0) : ∀ (c i : Nat) (M : zMem), i + c = n → JA B M N F us → (∀ j, j < 203 → M.1 236 j = fR M j) → (∀ M2, JA B M2 N F us → Q (nI n) M2) → S_X12_odds_31 (d + 64) (nI n) x (nI i) (nI i) M (zI Q)
  | 0, i, M, hi, hJ, _, h => by
    have e : i = n := by omega
    subst e
    exact t_X12_odds_31 ⟨fun _ => zii (h M hJ), fun w => absurd (Int32.le_refl _) w⟩
  | c + 1, i, M, hi, hJ, hsv, h => by
    refine t_X12_odds_31 ⟨fun w => absurd w (nI_ge (by omega) (by omega)), fun _ => c_X12_isBare hJ.pr.1 hJ.pr.2.1 ?_⟩
    rw [decide_eq_false (show ¬ (0 < nP (plOf N) ∧ 0 < mP (plOf N)) by omega)]
    refine ⟨fun _ => ?_, fun w => (by cases w)⟩
    refine t_X12_odds_54 (e_X12_rootMany (d := d + 32) hJ.pr (fun M2 l2 => ⟨fun w => absurd w (many_bare hb hJ.m4), fun w => ?_⟩))
    refine m_back hJ (Same.refl _ M) hsv l2.to (fun M3 j3 e3 t3 r3 => ?_)
    rw [nI_1]
    refine m_odds0 hn20 hb c (i + 1) M3 (by omega) j3 (fun j hj => ?_) h
    rw [e3, hsv j hj]
    unfold fR
    rw [r3]
theorem lim_in {n : Nat} (hn : n < 2 ^ 20) (h1 : ¬ x < 1) (h2 : x ≤ nI n) : ∃ k, 1 ≤ k ∧ k ≤ n ∧ x = nI k := by
  have q : inN x (n + 1) = true := by
    simp only [inN, Bool.and_eq_true, decide_eq_true_eq]
    rw [Int32.lt_iff_toInt_lt] at h1
    rw [Int32.le_iff_toInt_le, nI_toInt (by omega)] at h2
    rw [Int32.lt_iff_toInt_lt, Int32.le_iff_toInt_le, nI_toInt (by omega)]
    have a1 : (1 : Int32).toInt = 1 := by decide
    have a3 : (0 : Int32).toInt = 0 := by decide
    omega
  obtain ⟨k, hk, e⟩ := inN_of q (by omega)
  refine ⟨k, ?_, by omega, e⟩
  rcases Nat.eq_zero_or_pos k with w | w
  · rw [e, w] at h1; exact absurd (by decide) h1
  · exact w
theorem save_236 {Q : zMem → Prop} (h : JA B M N F us) (hQ : ∀ M2, JA B M2 N F us → (∀ j, j < 203 → M2.1 236 j = fR M2 j) → Q M2) : S_X12_save d 236 0 M (zU Q) := by
  refine c_X12_save (from_ := 0) (by decide) (by omega) (by decide) (by decide) (fun M3 a1 a2 a3 => hQ M3 (h.ro ⟨a3.mono (fun z hz => by omega), by rw [a3.1 217 (by omega)], fun j _ => by rw [a3.1 222 (by omega)], fun j _ => by rw [a3.1 229 (by omega)], fun j _ => by rw [a3.1 231 (by omega)]⟩) (fun j hj => ?_))
  have := a1 j hj
  rw [Nat.zero_add] at this
  rw [this, fR_same (a3.1 231 (by omega))]
theorem o_odds (h : JA B M N F us) (hB : B + 1000 ≤ 1000000000) : S_X11_odds (d + 64) y x M (zI fun r M1 => S_X12_odds (d + 64) y x M1 (zI fun r2 M2 => eqJ B r r2 M2)) := by
  refine t_X11_odds ⟨fun g => zii ?_, fun g => ⟨fun g2 => ?_, fun g2 => zii ?_⟩⟩
  · exact t_X12_odds (fun M1 e1 => c_X12_isIn ⟨fun e => (by simp [g] at e), fun _ => zii ⟨rfl, e1 ▸ h.w0.j⟩⟩)
  · obtain ⟨n, n1, n2, e⟩ := lim_in (n := 20) (by omega) g g2
    rw [e]
    have gi : (decide (¬ nI n < 1) && decide (¬ (20 : Int32) < nI n)) = true := by
      rw [e] at g g2
      simp [g, Int32.not_lt.mpr g2]
    refine c_X5_hasBoth h.pc.1 h.pc.2.1 ⟨fun w => ?_, fun w => zii ?_⟩
    · have w := of_decide_eq_true w
      refine c_odds (x := x) (us := us) n2 w.2 w.1 n 0 0 M (by omega) (by omega) h (fun M1 j1 => ?_)
      refine t_X12_odds (fun M2 e2 => c_X12_isIn ⟨fun _ => ?_, fun q => (by rw [gi] at q; cases q)⟩)
      have j2 : JA B M2 N F us := e2 ▸ j1.w0
      exact save_236 j2 (fun M3 j3 s3 => m_odds (x := x) n2 w.2 w.1 hB n 0 0 M3 (by omega) (by omega) j3 s3 (fun M4 j4 => ⟨rfl, j4.j⟩))
    · have w := of_decide_eq_false w
      refine t_X12_odds (fun M2 e2 => c_X12_isIn ⟨fun _ => ?_, fun q => (by rw [gi] at q; cases q)⟩)
      have j2 : JA B M2 N F us := e2 ▸ h.w0
      exact save_236 j2 (fun M3 j3 s3 => m_odds0 (x := x) n2 (by omega) n 0 M3 (by omega) j3 s3 (fun M4 j4 => ⟨rfl, j4.j⟩))
  · exact t_X12_odds (fun M1 e1 => c_X12_isIn ⟨fun e => (by simp [Int32.not_le.mp g2] at e), fun _ => zii ⟨rfl, e1 ▸ h.w0.j⟩⟩)
end
