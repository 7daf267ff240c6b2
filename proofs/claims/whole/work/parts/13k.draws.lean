-- ===== draws: the class =====
section
variable {d B b p q k m : Nat} {M M2 M3 : zMem} {N : zNm} {F G : Nat → Int32} {P : zPl} {us us2 : List (Nat → Int32)} {x y z v : Int32} {R : Nat → Int32}
-- the class
def CD (M : zMem) (b : Nat) (P : zPl) (x : Int32) (F R : Nat → Int32) : Prop := PC M b P F ∧ M.1 217 0 = x ∧ ∀ j, j < 4 → M.1 218 j = R j
def CDo (b : Nat) (M M2 : zMem) : Prop := Same (fun z => inB b z ∨ z = 217 ∨ z = 218) M M2 ∧ ∀ j, j ≠ 0 → M2.1 217 j = M.1 217 j
theorem CDo.refl (M : zMem) : CDo b M M := ⟨Same.refl _ _, fun _ _ => rfl⟩
theorem CDo.trans (h : CDo b M M2) (h2 : CDo b M2 M3) : CDo b M M3 := ⟨h.1.trans h2.1, fun j a => (h2.2 j a).trans (h.2 j a)⟩
theorem ids_4217 : ∀ b, b ∈ iX4 → ¬ inB b 217 ∧ ¬ inB b 218 ∧ ¬ inB b 3 ∧ ¬ inB b 6 ∧ ¬ inB b 7 ∧ ¬ inB b 8 ∧ pT b + 50 ≤ 217 ∧ pF b + 5 ≤ 217 := by
  intro b hb
  rcases (show b = 63 ∨ b = 114 by simpa [iX4] using hb) with rfl | rfl
  · have := pT63; unfold inB; omega
  · have := pT63; unfold inB; omega
theorem PC_217 (hb : b ∈ iX4) (h : PC M b P F) (hs : Same (fun z => z = 217 ∨ z = 218) M M2) : PC M2 b P F := by
  have hi := ids_4217 b hb
  refine PC_same h (fun z hz => hs.1 z ?_)
  rcases hz with hz | hz
  · omega
  · have := inT_B hz; rintro (e | e)
    · rw [e] at this; exact hi.1 this
    · rw [e] at this; exact hi.2.1 this
theorem c_X2_draw {Q : Int32 → zMem → Prop} {n : Nat} (hb : b ∈ iX4) (hM : CD M b P x F R) (h0 : 0 < n) (hn : n < 2 ^ 20) (h : ∀ M2, CD M2 b P (nxS x) F R → CDo b M M2 → Q (nI (dvN x n)) M2) : S_X2_draw d (nI n) M (zI Q) := by
  refine t_X2_draw (fun M1 e1 => ⟨fun w => ?_, fun _ => ⟨nI_ne0 h0 (by omega), zii ?_⟩⟩)
  · rw [show (0 : Int32) = nI 0 from rfl] at w
    exact absurd w (nI_ge h0 (by omega))
  · have e0 : M1.1 217 0 = nxS x := by rw [e1, wI_1, if_pos ⟨rfl, rfl⟩, hM.2.1, nxS_is]
    rw [e0, dv_eq h0 hn]
    refine h M1 ⟨?_, e0, fun j hj => by rw [e1, wI_ne _ (by omega)]; exact hM.2.2 j hj⟩ ⟨?_, fun j hj => by rw [e1, wI_1, if_neg (by omega)]⟩
    · exact PC_217 hb hM.1 (e1 ▸ (Same.refl _ _).wI (Or.inl rfl))
    · rw [e1]; exact (Same.refl _ _).wI (by omega)
theorem c_X2_countRefusal {Q : zMem → Prop} {t : Nat} (hb : b ∈ iX4) (hM : CD M b P x F R) (ht : t < 4) (h : ∀ M2, CD M2 b P x F (cntR R (nI t)) → CDo b M M2 → Q M2) : S_X2_countRefusal d (nI t) M (zU Q) := by
  by_cases e0 : t = 0
  · subst e0
    refine t_X2_countRefusal ⟨fun _ => zuu (h M ⟨hM.1, hM.2.1, fun j hj => ?_⟩ (CDo.refl M)), fun w => absurd (by decide) w⟩
    rw [cntR_0 _ hj]
    exact hM.2.2 j hj
  · refine t_X2_countRefusal ⟨fun w => ?_, fun _ => ⟨fun w => ?_, fun _ => ⟨nIin ht (by omega), nIin ht (by omega), fun M1 e1 => zuu (h M1 ⟨?_, ?_, fun j hj => ?_⟩ ⟨?_, fun j hj => ?_⟩)⟩⟩⟩
    · rcases (show t = 1 ∨ t = 2 ∨ t = 3 by omega) with rfl | rfl | rfl <;> exact absurd w (by decide)
    · rcases (show t = 1 ∨ t = 2 ∨ t = 3 by omega) with rfl | rfl | rfl <;> exact absurd w (by decide)
    · exact PC_217 hb hM.1 (e1 ▸ (Same.refl _ _).wI (Or.inr rfl))
    · rw [e1, wI_ne _ (by omega)]; exact hM.2.1
    · rw [cntR_t _ (by omega) ht hj, e1, nI_clamp (by omega), wI_1]
      by_cases ej : j = t
      · rw [if_pos ⟨rfl, ej⟩, if_pos ej, ← ej, hM.2.2 j hj]
      · rw [if_neg (fun w => ej w.2), if_neg ej]
        exact hM.2.2 j hj
    · rw [e1]; exact (Same.refl _ _).wI (by omega)
    · rw [e1, wI_ne _ (by omega)]
theorem CD_dd (hb : b ∈ iX4) (hM : CD M b P x F R) (hp : PC M2 b P G) (hs : Same (inB b) M M2) : CD M2 b P x G R ∧ CDo b M M2 := by
  have hi := ids_4217 b hb
  refine ⟨⟨hp, by rw [hs.1 217 hi.1]; exact hM.2.1, fun j hj => by rw [hs.1 218 hi.2.1]; exact hM.2.2 j hj⟩, hs.mono (fun z hz => Or.inl hz), fun j _ => by rw [hs.1 217 hi.1]⟩
/-- a state of draws, held -/
def CDs (M : zMem) (b : Nat) (P : zPl) (s : zDr) : Prop := CD M b P s.1 s.2.1 s.2.2
theorem rndS_is (x : Int32) (F R : Nat → Int32) : rndS P (x, F, R) =
  if 2 < dvN x 8 then
    (if dvN (nxS x) (mP P) = dvN (nxS (nxS x)) (mP P) then (nxS (nxS (nxS x)), F, R)
     else if dvN x 8 = 7 then (nxS (nxS (nxS x)), turnF F (dvN (nxS x) (mP P)) (dvN (nxS (nxS x)) (mP P)), R)
     else (nxS (nxS (nxS x)), (pullD P F (dvN (nxS x) (mP P)) (dvN (nxS (nxS x)) (mP P))).2, cntR R (pullD P F (dvN (nxS x) (mP P)) (dvN (nxS (nxS x)) (mP P))).1))
  else if dvN x 8 = 2 then (nxS (nxS (nxS x)), (dropD F (dvN (nxS x) (mP P)) (dvN (nxS (nxS x)) (nP P))).2, cntR R (dropD F (dvN (nxS x) (mP P)) (dvN (nxS (nxS x)) (nP P))).1)
  else (nxS (nxS (nxS (nxS x))), (putD F (dvN (nxS x) (mP P)) (dvN (nxS (nxS x)) (nP P)) (nI (dvN (nxS (nxS (nxS x))) 10))).2, cntR R (putD F (dvN (nxS x) (mP P)) (dvN (nxS (nxS x)) (nP P)) (nI (dvN (nxS (nxS (nxS x))) 10))).1) := rfl
theorem lt2_is {j : Nat} (h : j < 8) : (2 < nI j) ↔ 2 < j := by rw [show (2 : Int32) = nI 2 from rfl, nI_ltI (by omega) (by omega)]
theorem c_X2_runRound {Q : zMem → Prop} {s : zDr} (hb : b ∈ iX4) (hm : 0 < mP P) (hn : 0 < nP P) (hM : CDs M b P s) (h : ∀ M2, CDs M2 b P (rndS P s) → CDo b M M2 → Q M2) : S_X2_runRound (d + 54) b M (zU Q) := by
  obtain ⟨x, F, R⟩ := s
  have hM : CD M b P x F R := hM
  rw [rndS_is] at h
  have hP := hM.1.1
  have h4 := hP.2.1
  have h24 := hP.1
  have a0 := dvN_lt (x := x) (n := 8) (by omega)
  have a1 := dvN_lt (x := nxS x) hm
  have a2 := dvN_lt (x := nxS (nxS x)) hm
  have a3 := dvN_lt (x := nxS (nxS x)) hn
  have a4 := dvN_lt (x := nxS (nxS (nxS x))) (n := 10) (by omega)
  have lt2 := lt2_is a0
  refine t_X2_runRound hb (c_X2_draw (n := 8) hb hM (by omega) (by omega) (fun M1 c1 o1 => ?_))
  rw [c1.1.2.1.2.1]
  refine c_X2_draw hb c1 hm (by omega) (fun M2 c2 o2 => ⟨fun w => ?_, fun w => ?_⟩)
  · have w := lt2.mp w
    rw [if_pos w] at h
    rw [c2.1.2.1.2.1]
    refine c_X2_draw hb c2 hm (by omega) (fun M3 c3 o3 => ⟨fun w2 => ⟨fun w3 => ?_, fun w3 => ?_⟩, fun w2 => zuu (h M3 ?_ (o1.trans (o2.trans o3)))⟩)
    · have e2 : ¬ dvN (nxS x) (mP P) = dvN (nxS (nxS x)) (mP P) := fun e => w2 (congrArg nI e)
      have e3 : ¬ dvN x 8 = 7 := fun e => w3 (by rw [e]; rfl)
      rw [if_neg e2, if_neg e3] at h
      refine e_X4_tryPull hb (by omega) (by omega) e2 c3.1 (fun M4 p4 s4 => ?_)
      obtain ⟨c4, o4⟩ := CD_dd hb c3 p4 s4
      obtain ⟨t, ht, et⟩ := pullD_4 (P := P) (F := F) (p := dvN (nxS x) (mP P)) (q := dvN (nxS (nxS x)) (mP P))
      rw [et] at h ⊢
      exact c_X2_countRefusal hb c4 ht (fun M5 c5 o5 => zuu (h M5 c5 (o1.trans (o2.trans (o3.trans (o4.trans o5))))))
    · have e2 : ¬ dvN (nxS x) (mP P) = dvN (nxS (nxS x)) (mP P) := fun e => w2 (congrArg nI e)
      have e3 : dvN x 8 = 7 := nI_inj (by omega) (by omega) w3
      rw [if_neg e2, if_pos e3] at h
      refine c_X3_turnLink (qX4_1 _ hb) (by omega) (by omega) (fun M4 f4 s4 => zuu ?_)
      obtain ⟨p4, q4⟩ := PC_turn hb (by omega) (by omega) c3.1 f4 s4
      obtain ⟨c4, o4⟩ := CD_dd hb c3 p4 q4
      exact h M4 c4 (o1.trans (o2.trans (o3.trans o4)))
    · have e2 : dvN (nxS x) (mP P) = dvN (nxS (nxS x)) (mP P) := nI_inj (by omega) (by omega) w2
      rw [if_pos e2]
      exact c3
  · have w := fun q => w (lt2.mpr q)
    rw [if_neg w] at h
    rw [c2.1.2.1.1]
    refine c_X2_draw hb c2 hn (by omega) (fun M3 c3 o3 => ⟨fun w2 => ?_, fun w2 => ?_⟩)
    · have e2 : ¬ dvN x 8 = 2 := fun e => w2 (by rw [e]; rfl)
      rw [if_neg e2] at h
      refine c_X2_draw (n := 10) hb c3 (by omega) (by omega) (fun M4 c4 o4 => ?_)
      refine e_X4_tryPut hb (by omega) (by omega) c4.1 (fun M5 p5 s5 => ?_)
      obtain ⟨c5, o5⟩ := CD_dd hb c4 p5 s5
      obtain ⟨t, ht, et⟩ := putD_4 (F := F) (p := dvN (nxS x) (mP P)) (k := dvN (nxS (nxS x)) (nP P)) (v := nI (dvN (nxS (nxS (nxS x))) 10))
      rw [et] at h ⊢
      exact c_X2_countRefusal hb c5 ht (fun M6 c6 o6 => zuu (h M6 c6 (o1.trans (o2.trans (o3.trans (o4.trans (o5.trans o6)))))))
    · have e2 : dvN x 8 = 2 := nI_inj (by omega) (by omega) w2
      rw [if_pos e2] at h
      refine e_X4_tryDrop hb (by omega) (by omega) c3.1 (fun M5 p5 s5 => ?_)
      obtain ⟨c5, o5⟩ := CD_dd hb c3 p5 s5
      obtain ⟨t, ht, et⟩ := dropD_4 (F := F) (p := dvN (nxS x) (mP P)) (k := dvN (nxS (nxS x)) (nP P))
      rw [et] at h ⊢
      exact c_X2_countRefusal hb c5 ht (fun M6 c6 o6 => zuu (h M6 c6 (o1.trans (o2.trans (o3.trans (o5.trans o6))))))
theorem c_X2_runRounds {Q : zMem → Prop} {n : Nat} (hb : b ∈ iX4) (hm : 0 < mP P) (hn : 0 < nP P) (hnn : n < 2 ^ 30) {M0 : zMem} : ∀ (c i : Nat) (s : zDr) (M : zMem), i + c = n → CDs M b P s → CDo b M0 M → (∀ M2, CDs M2 b P (rnsS P c s) → CDo b M0 M2 → Q M2) → S_X2_runRounds_2 (d + 55) b (nI n) (nI i) M (zU Q)
  | 0, i, s, M, hi, hM, ho, h => by
    have e : i = n := by omega
    subst e
    exact t_X2_runRounds_2 hb ⟨fun _ => zuu (h M hM ho), fun w => absurd (Int32.le_refl _) w⟩
  | c + 1, i, s, M, hi, hM, ho, h => by
    refine t_X2_runRounds_2 hb ⟨fun w => absurd w (nI_ge (by omega) (by omega)), fun _ => c_X2_runRound hb hm hn hM (fun M2 c2 o2 => ?_)⟩
    rw [nI_1]
    exact c_X2_runRounds hb hm hn hnn c (i + 1) _ M2 (by omega) c2 (ho.trans o2) h
theorem c_X2_begin {Q : zMem → Prop} (hb : b ∈ iX4) (hM : PC M b P F) (h : ∀ M2, CDs M2 b P (x, F, fun _ => 0) → CDo b M M2 → Q M2) : S_X2_begin d x M (zU Q) := by
  refine t_X2_begin (fun M1 e1 => ?_)
  have key : ∀ (c i : Nat) (M2 : zMem), i + c = 4 → Same (fun z => z = 218) M1 M2 → (∀ j, j < i → M2.1 218 j = 0) → S_X2_begin_7 d (nI i) M2 (zU Q) := by
    intro c
    induction c with
    | zero =>
      intro i M2 hi s2 a2
      have e : i = 4 := by omega
      subst e
      have s : Same (fun z => z = 217 ∨ z = 218) M M2 := by rw [e1] at s2; exact ((Same.refl _ _).wI (Or.inl rfl)).trans (s2.mono (fun z hz => Or.inr hz))
      refine t_X2_begin_7 ⟨fun _ => zuu (h M2 ⟨PC_217 hb hM s, ?_, fun j hj => a2 j hj⟩ ⟨s.mono (fun z hz => Or.inr hz), fun j hj => ?_⟩), fun w => absurd (by decide) w⟩
      · rw [s2.1 217 (by omega), e1, wI_1, if_pos ⟨rfl, rfl⟩]
      · rw [s2.1 217 (by omega), e1, wI_1, if_neg (by omega)]
    | succ c ih =>
      intro i M2 hi s2 a2
      refine t_X2_begin_7 ⟨fun w => absurd w (by rw [show (4 : Int32) = nI 4 from rfl]; exact nI_ge (by omega) (by omega)), fun _ => ⟨nIin (by omega) (by omega), fun M3 e3 => ?_⟩⟩
      rw [nI_clamp (by omega)] at e3
      rw [nI_1]
      refine ih (i + 1) M3 (by omega) (e3 ▸ s2.wI rfl) (fun j hj => ?_)
      rw [e3, wI_1]
      by_cases ej : j = i
      · rw [if_pos ⟨rfl, ej⟩]
      · rw [if_neg (by omega)]; exact a2 j (by omega)
  exact key 4 0 M1 (by omega) (Same.refl _ _) (fun j hj => absurd hj (Nat.not_lt_zero j))
end
