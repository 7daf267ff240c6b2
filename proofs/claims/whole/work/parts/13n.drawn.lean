-- ===== drawn, end, feed =====
section
variable {d B B2 b p q k m : Nat} {M M2 M3 : zMem} {N : zNm} {F G : Nat → Int32} {P : zPl} {us us2 : List (Nat → Int32)} {x y z v : Int32} {R : Nat → Int32}
/-- what draws may change -/
def DO (M M2 : zMem) : Prop := Same (fun z => (10 ≤ z ∧ z ≤ 14) ∨ (63 ≤ z ∧ z ≤ 113) ∨ (170 ≤ z ∧ z ≤ 219) ∨ z = 229 ∨ z = 231 ∨ z = 234 ∨ (246 ≤ z ∧ z ≤ 255) ∨ z = 258 ∨ z = 259) M M2 ∧ (∀ j, j ≠ 0 → j ≠ 25 → j ≠ 43 → j ≠ 49 → j ≠ 50 → M2.1 229 j = M.1 229 j) ∧ ∀ j, j < 202 ∨ 405 ≤ j → M2.1 231 j = M.1 231 j
theorem DO.trans (h : DO M M2) (h2 : DO M2 M3) : DO M M3 := ⟨h.1.trans h2.1, fun j a b c e f => (h2.2.1 j a b c e f).trans (h.2.1 j a b c e f), fun j a => (h2.2.2 j a).trans (h.2.2 j a)⟩
theorem JO_draws (h : JO B M N) (hs : DO M M2) (hr : refJ M2) : JO B M2 N := by
  obtain ⟨a1, a2, a3, a4, a5, a6, a7, a8, a9, a10⟩ := h
  have t : ∀ z, ¬ ((10 ≤ z ∧ z ≤ 14) ∨ (63 ≤ z ∧ z ≤ 113) ∨ (170 ≤ z ∧ z ≤ 219) ∨ z = 229 ∨ z = 231 ∨ z = 234 ∨ (246 ≤ z ∧ z ≤ 255) ∨ z = 258 ∨ z = 259) → M2.1 z = M.1 z := fun z hz => hs.1.1 z hz
  have t2 : ∀ z, ¬ ((10 ≤ z ∧ z ≤ 14) ∨ (63 ≤ z ∧ z ≤ 113) ∨ (170 ≤ z ∧ z ≤ 219) ∨ z = 229 ∨ z = 231 ∨ z = 234 ∨ (246 ≤ z ∧ z ≤ 255) ∨ z = 258 ∨ z = 259) → M2.2 z = M.2 z := fun z hz => hs.1.2 z hz
  have t9 := hs.2.1
  refine ⟨nmC_same a1 (fun z hz => t z (by omega)) (fun z hz => t2 z (by omega)), nmR_same a2 (fun j hj => hs.2.2 j (by omega)) (t2 237 (by omega)) (fun z z1 z2 => t z (by omega)), sayJ_same a3 (t 15 (by omega)) (t 16 (by omega)) (fun j hj => hs.2.2 j (by omega)), imgJ_same a4 (fun z z1 z2 => t z (by omega)) (fun z z1 z2 => t2 z (by omega)) (t 233 (by omega)) (t2 239 (by omega)) (t 240 (by omega)), tapeJ_same a5 (by rw [t 0 (by omega)]) (t 1 (by omega)) (t9 2 (by omega) (by omega) (by omega) (by omega) (by omega)) (t 230 (by omega)), fltJ_same a6 (by rw [t 0 (by omega)]) (by rw [t 0 (by omega)]) (t9 10 (by omega) (by omega) (by omega) (by omega) (by omega)) (t9 27 (by omega) (by omega) (by omega) (by omega) (by omega)), ofrJ_same a7 (by rw [t 0 (by omega)]) (t 227 (by omega)) (t9 44 (by omega) (by omega) (by omega) (by omega) (by omega)) (t 256 (by omega)), tagJ_same a8 (by rw [t 0 (by omega)]) (t 228 (by omega)) (t9 46 (by omega) (by omega) (by omega) (by omega) (by omega)) (t 257 (by omega)), hr, tldJ_same a10 (fun j _ => by rw [t 222 (by omega)]) (t9 54 (by omega) (by omega) (by omega) (by omega) (by omega)) (t 261 (by omega))⟩
theorem DO.same {H : Nat → Prop} (h : Same H M M2) (hh : ∀ z, H z → (10 ≤ z ∧ z ≤ 14) ∨ (63 ≤ z ∧ z ≤ 113) ∨ (170 ≤ z ∧ z ≤ 219) ∨ z = 234 ∨ (246 ≤ z ∧ z ≤ 255) ∨ z = 258 ∨ z = 259) : DO M M2 := ⟨h.mono (fun z hz => by have := hh z hz; omega), fun j _ _ _ _ _ => by rw [h.1 229 (fun q => by have := hh 229 q; omega)], fun j _ => by rw [h.1 231 (fun q => by have := hh 231 q; omega)]⟩
theorem TO.dr (h : TO M M2) : DO M M2 := ⟨h.1.mono (fun z hz => by omega), fun j _ _ a _ c => h.2.1 j a c, h.2.2⟩
theorem SnapOnly.dr (h : SnapOnly M M2) : DO M M2 := ⟨h.1.mono (fun z hz => by omega), fun j _ a _ _ _ => h.2 j a, fun j _ => by rw [h.1.1 231 (by omega)]⟩
theorem DO.w {j : Nat} {w : Int32} (hj : j = 0 ∨ j = 49) : DO M (wI M 229 j w) := ⟨(Same.refl _ M).wI (by omega), fun i _ _ _ _ _ => by rw [wI_1, if_neg (by omega)], fun i _ => by rw [wI_ne _ (by omega)]⟩
theorem c_drawn {Q : Int32 → zMem → Prop} {n : Nat} (hn60 : n ≤ 60) (h : JA B M N F us) (hm : 0 < mP (plOf N)) (hn : 0 < nP (plOf N))
    (hQ : ∀ M2, DO M M2 → M2.1 231 = M.1 231 → M2.1 229 = M.1 229 → PC M2 63 (plOf N) (rnsS (plOf N) n (x, F, fun _ => 0)).2.1 → (∃ top, UC M2 ((F :: us).take 8) top) → M2.1 217 3 = 1 → (∀ j, j < 4 → M2.1 219 j = (rnsS (plOf N) n (x, F, fun _ => 0)).2.2 j) → PR M2 (plOf N) F → UR M2 us → Q (nI n) M2) : S_X11_drawn (d + 64) (nI n) x M (zI Q) ∨ n = 0 := by
  rcases Nat.eq_zero_or_pos n with w | n1
  · exact Or.inr w
  left
  obtain ⟨top, ht⟩ := h.2.2.1.1
  refine t_X11_drawn ⟨fun w => ?_, fun _ => ⟨fun _ => c_X5_hasBoth h.pc.1 h.pc.2.1 ?_, fun w => ?_⟩⟩
  · rw [show (1 : Int32) = nI 1 from rfl, nI_ltI (by omega) (by omega)] at w
    omega
  · rw [decide_eq_true (show 0 < nP (plOf N) ∧ 0 < mP (plOf N) by omega)]
    refine ⟨fun _ => ?_, fun w => (by cases w)⟩
    refine e_X10_note (by decide) (by omega) ht (fun M1 n1 s1 => ?_)
    have hF : cl (fC M 10) = F := by have := h.pc.2.2.1; rw [pT63.2.1] at this; exact this
    rw [hF] at n1
    have p1 : PC M1 63 (plOf N) F := PC_same h.pc (fun z hz => s1.1 z (by rcases hz with hz | hz; omega; have := inT63 hz; omega))
    refine c_X2_begin (b := 63) (by decide) p1 (fun M2 c2 o2 => ?_)
    refine t_X2_runRounds (by decide) (c_X2_runRounds (d := d + 8) (b := 63) (n := n) (by decide) hm hn (by omega) n 0 _ M2 (by omega) c2 o2 (fun M3 c3 o3 => ?_))
    refine t_X2_keepRefusals (fun M4 e4 M5 e5 => ?_)
    have o63 : ∀ z, inB 63 z ∨ z = 217 ∨ z = 218 → (10 ≤ z ∧ z < 15) ∨ (64 < z ∧ z ≤ 113) ∨ z = 217 ∨ z = 218 := fun z hz => by
      rcases hz with hz | hz | hz
      · have := inB63 hz; omega
      · omega
      · omega
    have s3 : Same (fun z => (10 ≤ z ∧ z < 15) ∨ (64 < z ∧ z ≤ 113) ∨ z = 217 ∨ z = 218) M1 M3 := o3.1.mono o63
    have s5 : Same (fun z => z = 217 ∨ z = 219) M3 M5 := by rw [e5, e4]; exact ((Same.refl _ _).cI (by omega)).wI (by omega)
    have n5 : UN M5 us top F := by
      refine ⟨UC_same n1.1 (fun z z1 z2 => by rw [s5.1 z (by omega), s3.1 z (by omega)]), ?_⟩
      have e := fC_same (M := M1) (M2 := M5) (b := 172 + 5 * top) (fun z z1 z2 => by have := n1.1.1; rw [s5.1 z (by omega), s3.1 z (by omega)])
      rw [e]
      exact n1.2
    refine zuu (e_X10_keepNoted n5 (fun M6 top2 u6 s6 => zii ?_))
    have sA : Same (fun z => (10 ≤ z ∧ z < 15) ∨ (64 < z ∧ z ≤ 113) ∨ (170 ≤ z ∧ z ≤ 219)) M M6 := (s1.mono (fun z hz => by omega)).trans ((s3.mono (fun z hz => by omega)).trans ((s5.mono (fun z hz => by omega)).trans (s6.mono (fun z hz => by omega))))
    refine hQ M6 (DO.same sA (fun z hz => by omega)) (sA.1 231 (by omega)) (sA.1 229 (by omega)) ?_ ⟨top2, u6⟩ ?_ (fun j hj => ?_) ?_ ?_
    · exact PC_same c3.1 (fun z hz => by
        have : z < 15 ∨ (64 < z ∧ z < 113) := by
          rcases hz with hz | hz
          · omega
          · have := inT63 hz; omega
        rw [s6.1 z (by omega), s5.1 z (by omega)])
    · rw [s6.1 217 (by omega), e5, wI_1, if_pos ⟨rfl, rfl⟩]
    · rw [s6.1 219 (by omega), e5, wI_ne _ (by omega), e4, cI_in _ hj]
      exact c3.2.2 j hj
    · exact ⟨h.pr.1, plnR_same h.pr.2.1 (fun j _ => by rw [sA.1 231 (by omega)]) (fun z hz => sA.1 z (by omega)), by rw [fR_same (sA.1 231 (by omega))]; exact h.pr.2.2⟩
    · exact UR_same h.2.2.1.2.1 (by rw [sA.1 229 (by omega)]) (sA.1 234 (by omega))
  · rw [show (60 : Int32) = nI 60 from rfl, nI_leI (by omega) (by omega)] at w
    omega
theorem m_drawn {n : Nat} (n1 : 1 ≤ n) (hn60 : n ≤ 60) (hR : PR M (plOf N) F) (hU : UR M us) (hm : 0 < mP (plOf N)) (hn : 0 < nP (plOf N)) (hg : bdG B (mP (plOf N)) F) (hB : B + 1000 ≤ 1000000000) {Q : Int32 → zMem → Prop}
    (hQ : ∀ M2, DO M M2 → (∀ z, z < 220 → M2.1 z = M.1 z) → PR M2 (plOf N) (rnsS (plOf N) n (x, F, fun _ => 0)).2.1 → UR M2 ((F :: us).take 8) → M2.1 229 49 = 1 → (∀ j, j < 4 → M2.1 259 j = (rnsS (plOf N) n (x, F, fun _ => 0)).2.2 j) → Q (nI n) M2) : S_X12_drawn (d + 64) (nI n) x M (zI Q) := by
  have gi : (decide (¬ nI n < 1) && decide (¬ (60 : Int32) < nI n)) = true := by
    have a1 : ¬ nI n < 1 := by rw [show (1 : Int32) = nI 1 from rfl, nI_ltI (by omega) (by omega)]; omega
    have a2 : ¬ (60 : Int32) < nI n := by rw [show (60 : Int32) = nI 60 from rfl, nI_ltI (by omega) (by omega)]; omega
    rw [decide_eq_true a1, decide_eq_true a2]
    rfl
  refine t_X12_drawn (fun M1 e1 => c_X12_isIn ⟨fun _ => ?_, fun q => (by rw [gi] at q; cases q)⟩)
  have d1 : DO M M1 := e1 ▸ DO.w (Or.inl rfl)
  have r1 : PR M1 (plOf N) F := e1 ▸ PR_w hR (by omega)
  have u1 : UR M1 us := UR_same hU (by rw [e1, wI_1, if_neg (by omega)]) (by rw [e1, wI_ne _ (by omega)])
  refine c_X12_isBare r1.1 r1.2.1 ?_
  rw [decide_eq_true (show 0 < nP (plOf N) ∧ 0 < mP (plOf N) by omega)]
  refine ⟨fun _ => e_X12_snap u1 (fun M2 u2 s2 => ?_), fun w => (by cases w)⟩
  rw [r1.2.2] at u2
  have r2 : PR M2 (plOf N) F := ⟨r1.1, plnR_same r1.2.1 (fun j _ => by rw [s2.1.1 231 (by omega)]) (fun z hz => s2.1.1 z (by omega)), by rw [fR_same (s2.1.1 231 (by omega))]; exact r1.2.2⟩
  refine c_X12_drawRounds (d := d + 3) (n := n) hm hn (by omega) r2 hg (by omega) (fun M3 c3 t3 => ?_)
  have u3 : UR M3 ((F :: us).take 8) := UR_same u2 (t3.2.1 25 (by omega) (by omega)) (t3.1.1 234 (by omega))
  have key : ∀ (c i : Nat) (M4 : zMem), i + c = 4 → Same (fun z => z = 259) M3 M4 → (∀ j, j < i → M4.1 259 j = M3.1 258 j) → S_X12_drawn_38 (d + 64) (nI n) (nI i) M4 (zI Q) := by
    intro c
    induction c with
    | zero =>
      intro i M4 hi s4 a4
      have e : i = 4 := by omega
      subst e
      refine t_X12_drawn_38 ⟨fun _ => ?_, fun w => absurd (by decide) w⟩
      intro M5 e5
      have r4 : PR M4 (plOf N) (rnsS (plOf N) n (x, F, fun _ => 0)).2.1 := ⟨c3.1.1, plnR_same c3.1.2.1 (fun j _ => by rw [s4.1 231 (by omega)]) (fun z hz => s4.1 z (by omega)), by rw [fR_same (s4.1 231 (by omega))]; exact c3.1.2.2⟩
      refine zii (hQ M5 (d1.trans (s2.dr.trans (t3.dr.trans ((DO.same s4 (fun z hz => by omega)).trans (e5 ▸ DO.w (Or.inr rfl)))))) (fun z hz => ?_) (e5 ▸ PR_w r4 (by omega)) (UR_same u3 (by rw [e5, wI_1, if_neg (by omega), s4.1 229 (by omega)]) (by rw [e5, wI_ne _ (by omega), s4.1 234 (by omega)])) (by rw [e5, wI_1, if_pos ⟨rfl, rfl⟩]) (fun j hj => ?_))
      · rw [e5, wI_ne _ (by omega), s4.1 z (by omega), t3.1.1 z (by omega), s2.1.1 z (by omega), e1, wI_ne _ (by omega)]
      · rw [e5, wI_ne _ (by omega), a4 j hj]
        exact c3.2.2 j hj
    | succ c ih =>
      intro i M4 hi s4 a4
      refine t_X12_drawn_38 ⟨fun w => absurd w (by rw [show (4 : Int32) = nI 4 from rfl]; exact nI_ge (by omega) (by omega)), fun _ => ⟨nIin (by omega) (by omega), nIin (by omega) (by omega), fun M5 e5 => ?_⟩⟩
      rw [nI_clamp (by omega)] at e5
      rw [nI_1]
      refine ih (i + 1) M5 (by omega) (e5 ▸ s4.wI rfl) (fun j hj => ?_)
      rw [e5, wI_1]
      by_cases ej : j = i
      · rw [if_pos ⟨rfl, ej⟩, s4.1 258 (by omega), ej]
      · rw [if_neg (by omega)]; exact a4 j (by omega)
  exact key 4 0 M3 (by omega) (Same.refl _ _) (fun j hj => absurd hj (Nat.not_lt_zero j))
theorem o_drawn (h : JA B M N F us) (hB : B + 1000 ≤ 1000000000) : S_X11_drawn (d + 64) y x M (zI fun r M1 => S_X12_drawn (d + 64) y x M1 (zI fun r2 M2 => eqJ (B + 1000) r r2 M2)) := by
  by_cases g : y < 1
  · refine t_X11_drawn ⟨fun _ => zii ?_, fun w => absurd g w⟩
    exact t_X12_drawn (fun M1 e1 => c_X12_isIn ⟨fun e => (by simp [g] at e), fun _ => zii ⟨rfl, J_mono (e1 ▸ h.w0.j) (by omega)⟩⟩)
  by_cases g2 : y ≤ 60
  · obtain ⟨n, n1, n2, e⟩ := lim_in (n := 60) (by omega) g g2
    by_cases w : 0 < nP (plOf N) ∧ 0 < mP (plOf N)
    · rw [e]
      refine (c_drawn (d := d) (x := x) (Q := fun r M1 => S_X12_drawn (d + 64) (nI n) x M1 (zI fun r2 M2 => eqJ (B + 1000) r r2 M2)) n2 h w.2 w.1 (fun M2 d2 r2 q2 p2 u2 k2 f2 pr2 ur2 => ?_)).resolve_right (by omega)
      refine m_drawn n1 n2 pr2 ur2 w.2 w.1 h.2.1.2.2 hB (fun M3 d3 l3 p3 u3 k3 f3 => ⟨rfl, N, (rnsS (plOf N) n (x, F, fun _ => 0)).2.1, (F :: us).take 8, h.1, ?_, ?_, ?_⟩)
      · refine ⟨PC_same p2 (fun z hz => l3 z ?_), p3, bdG_mono (bdG_rounds h.pc.1 w.2 w.1 n (x, F, fun _ => 0) B h.2.1.2.2) (by omega) (Nat.le_refl _)⟩
        rcases hz with hz | hz
        · omega
        · have := inT63 hz; omega
      · obtain ⟨top, ut⟩ := u2
        exact ⟨⟨top, UC_same ut (fun z z1 z2 => l3 z (by omega))⟩, u3, usD_ok h (B2 := B + 1000) (by omega) 0⟩
      · refine JO_mono (JO_draws h.2.2.2 (d2.trans d3) ⟨?_, fun j hj => ?_⟩) (by omega)
        · rw [l3 217 (by omega), k2, k3]
        · rw [l3 219 (by omega), f2 j hj, f3 j hj]
    · rw [e]
      have gi : (decide (¬ nI n < 1) && decide (¬ (60 : Int32) < nI n)) = true := by
        rw [e] at g g2
        simp [g, Int32.not_lt.mpr g2]
      rw [e] at g g2
      refine t_X11_drawn ⟨fun q => absurd q g, fun _ => ⟨fun _ => c_X5_hasBoth h.pc.1 h.pc.2.1 ?_, fun q => absurd g2 q⟩⟩
      rw [decide_eq_false w]
      refine ⟨fun q => (by cases q), fun _ => zii (t_X12_drawn (fun M1 e1 => c_X12_isIn ⟨fun _ => ?_, fun q => (by rw [gi] at q; cases q)⟩))⟩
      have hw : JA B M1 N F us := e1 ▸ h.w0
      refine c_X12_isBare hw.pr.1 hw.pr.2.1 ?_
      rw [decide_eq_false w]
      exact ⟨fun q => (by cases q), fun _ => zii ⟨rfl, J_mono hw.j (by omega)⟩⟩
  · refine t_X11_drawn ⟨fun w => absurd w g, fun _ => ⟨fun w => absurd w g2, fun _ => zii ?_⟩⟩
    exact t_X12_drawn (fun M1 e1 => c_X12_isIn ⟨fun e => (by simp [Int32.not_le.mp g2] at e), fun _ => zii ⟨rfl, J_mono (e1 ▸ h.w0.j) (by omega)⟩⟩)
end
