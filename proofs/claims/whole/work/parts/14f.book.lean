-- ===== a BOOK judged: the class =====
/-- the deed of a line -/
def ddB (P : zPl) (F : Nat → Int32) (b : zBk) : Int32 × (Nat → Int32) := if b.1 = 9 then cutD F b.2.1 b.2.2.1 else if b.1 = 10 then putD F b.2.1 b.2.2.1 (nI b.2.2.2) else if b.1 = 11 then dropD F b.2.1 b.2.2.1 else if b.1 = 12 then pullD P F b.2.1 b.2.2.1 else healD F b.2.1 b.2.2.1
/-- why it is wrong -/
def whB (P : zPl) (F : Nat → Int32) (b : zBk) : Int32 := if (ddB P F b).1 = 0 then 0 else nI (10 * opB b.1) + (ddB P F b).1
/-- why, how many lines are right, what is so behind them -/
def jdS (P : zPl) : List zBk → Nat → (Nat → Int32) → Int32 × Nat × (Nat → Int32)
  | [], r, F => (0, r, F)
  | b :: bs, r, F => if (ddB P F b).1 = 0 then jdS P bs (r + 1) (ddB P F b).2 else (whB P F b, r, F)
section
variable {d n most i k p B m : Nat} {M M2 M3 : zMem} {N : zNm} {P : zPl} {F : Nat → Int32} {b : zBk}
theorem jdS_c {b : zBk} {bs : List zBk} {r : Nat} {F : Nat → Int32} : jdS P (b :: bs) r F = if (ddB P F b).1 = 0 then jdS P bs (r + 1) (ddB P F b).2 else (whB P F b, r, F) := rfl
theorem ddB_F (h : ¬ (ddB P F b).1 = 0) : (ddB P F b).2 = F := by
  unfold ddB at h ⊢
  split
  · rename_i e; rw [if_pos e] at h; exact cutD_F h
  rename_i e; rw [if_neg e] at h
  split
  · rename_i e; rw [if_pos e] at h; exact putD_F h
  rename_i e; rw [if_neg e] at h
  split
  · rename_i e; rw [if_pos e] at h; exact dropD_F h
  rename_i e; rw [if_neg e] at h
  split
  · rename_i e; rw [if_pos e] at h; exact pullD_F h
  rename_i e; rw [if_neg e] at h
  exact healD_F h
theorem ddB_4 : ∃ t, t < 4 ∧ (ddB P F b).1 = nI t := by
  unfold ddB
  split
  · unfold cutD; split; exact ⟨1, by omega, rfl⟩; exact ⟨0, by omega, rfl⟩
  split
  · exact putD_4
  split
  · exact dropD_4
  split
  · exact pullD_4
  · unfold healD; split; exact ⟨0, by omega, rfl⟩; exact ⟨1, by omega, rfl⟩
theorem opB_5 (w : Nat) : opB w < 5 := by unfold opB; split; omega; split; omega; split; omega; split <;> omega
theorem whB_ne (_ : okB N b) (h : ¬ (ddB P F b).1 = 0) : ¬ whB P F b = 0 := by
  obtain ⟨t, ht, e⟩ := ddB_4 (P := P) (F := F) (b := b)
  have o5 := opB_5 b.1
  unfold whB
  rw [if_neg h, e, nI_add]
  rw [e] at h
  have t0 : t ≠ 0 := fun q => h (by rw [q]; rfl)
  exact nI_ne0 (by omega) (by omega)
theorem bdG_dd (hP : okP (plOf N)) (hb : okB N b) (h : bdG B (prN N).length F) : bdG (B + 1) (prN N).length (ddB (plOf N) F b).2 := by
  have h24 : (kyN N).length ≤ 24 := hP.1
  have h4 : (prN N).length ≤ 4 := hP.2.1
  obtain ⟨h1, h2, h3, h5, h6⟩ := hb
  unfold ddB
  split
  · have q := h5 (by omega)
    exact bdG_mono (bdG_cut h h4 h2 q.1 (fun e => q.2 e.symm)) (by omega) (Nat.le_refl _)
  split
  · have q := h3 (by omega)
    exact bdG_put h (by omega) (by omega) (by rw [nI_toInt (by omega)]; omega)
  split
  · have q := h3 (by omega)
    exact bdG_drop h (by omega) (by omega)
  split
  · have q := h5 (by omega)
    exact bdG_mono (bdG_pull hP h (by omega) (by omega)) (by omega) (Nat.le_refl _)
  · have q := h5 (by omega)
    exact bdG_mono (bdG_heal h h4 h2 q.1 (fun e => q.2 e.symm)) (by omega) (Nat.le_refl _)
theorem c_whyOf {Q : Int32 → zMem → Prop} {x t : Int32} (h : Q (if x = 0 then 0 else t + x) M) : S_X0_whyOf d x t M (zI Q) := by
  refine t_X0_whyOf ⟨fun e => zii ?_, fun e => zii ?_⟩
  · rw [if_neg e] at h; exact h
  · rw [if_pos e] at h; exact h
theorem j_live {Q : Int32 → zMem → Prop} (hM : PC M 114 (plOf N) F) (hr : rwC M i b) (hb : okB N b) (hi : i < 40) (h : ∀ M2, PC M2 114 (plOf N) (ddB (plOf N) F b).2 → Same (inB 114) M M2 → Q (whB (plOf N) F b) M2) : S_X0_liveLine (d + 54) 114 (nI i) M (zI Q) := by
  have h24 : (kyN N).length ≤ 24 := hM.1.1
  have h4 : (prN N).length ≤ 4 := hM.1.2.1
  obtain ⟨r1, r2, r3, r4⟩ := hr
  obtain ⟨w, p, k, v⟩ := b
  obtain ⟨h1, h2, h3, h5, h6⟩ := hb
  simp only [] at r1 r2 r3 r4 h1 h2 h3 h5 h6
  have i4 : 114 ∈ iX4 := by decide
  refine t_X0_liveLine i4 ?_
  rw [nI_clamp (by omega), r1, r2, r3]
  refine ⟨nIin hi (by omega), nIin hi (by omega), nIin hi (by omega), ?_⟩
  rw [show (9 : Int32) = nI 9 from rfl, nI_eq (by omega) (by omega), show (10 : Int32) = nI 10 from rfl, nI_eq (by omega) (by omega), show (11 : Int32) = nI 11 from rfl, nI_eq (by omega) (by omega), show (12 : Int32) = nI 12 from rfl, nI_eq (by omega) (by omega)]
  unfold whB ddB at h
  simp only [] at h
  refine ⟨fun e => ?_, fun e => ⟨nIin hi (by omega), ?_⟩, fun e => ?_, fun e => ?_, fun e9 e10 e11 e12 => ?_⟩
  · rw [if_pos e, show opB w = 3 by rw [e]; rfl] at h
    have q := h5 (by omega)
    exact e_X4_tryCut i4 (by omega) (by omega) hM (fun M2 p2 s2 => c_whyOf (zii (h M2 p2 s2)))
  · rw [if_neg (by omega), if_pos e, show opB w = 0 by rw [e]; rfl] at h
    have q := h3 (by omega)
    rw [r4 e]
    exact e_X4_tryPut i4 (by omega) (by omega) hM (fun M2 p2 s2 => c_whyOf (zii (h M2 p2 s2)))
  · rw [if_neg (by omega), if_neg (by omega), if_pos e, show opB w = 1 by rw [e]; rfl] at h
    have q := h3 (by omega)
    exact e_X4_tryDrop i4 (by omega) (by omega) hM (fun M2 p2 s2 => c_whyOf (zii (h M2 p2 s2)))
  · rw [if_neg (by omega), if_neg (by omega), if_neg (by omega), if_pos e, show opB w = 2 by rw [e]; rfl] at h
    have q := h5 (by omega)
    exact e_X4_tryPull i4 (by omega) (by omega) (fun e2 => q.2 e2.symm) hM (fun M2 p2 s2 => c_whyOf (zii (h M2 p2 s2)))
  · have e13 : w = 13 := by omega
    rw [if_neg e9, if_neg e10, if_neg e11, if_neg e12, show opB w = 4 by rw [e13]; rfl] at h
    have q := h5 (by omega)
    exact e_X4_tryHeal i4 (by omega) (by omega) hM (fun M2 p2 s2 => c_whyOf (zii (h M2 p2 s2)))
/-- what the judging may change -/
def JdS (M M2 : zMem) : Prop := Same (fun z => inB 114 z ∨ z = 222) M M2 ∧ M2.1 222 6 = M.1 222 6
theorem rwC_jd (h : JdS M M2) (hr : rwC M i b) : rwC M2 i b := by
  have t : ∀ z, 223 ≤ z → z ≤ 226 → M2.1 z = M.1 z := fun z z1 z2 => h.1.1 z (fun q => by rcases q with q | q; have := inB114 q; omega; omega)
  unfold rwC at hr ⊢
  rw [t 223 (by omega) (by omega), t 224 (by omega) (by omega), t 225 (by omega) (by omega), t 226 (by omega) (by omega)]
  exact hr
theorem PC_222 {j : Nat} {v : Int32} (hM : PC M 114 P F) : PC (wI M 222 j v) 114 P F := PC_same hM (fun z hz => wI_ne _ (by rcases hz with hz | hz; omega; have := inB114 (inT_B hz); omega))
theorem j_end {Q : Int32 → zMem → Prop} {M0 : zMem} {y : Int32} {r : Nat} (hM : PC M 114 (plOf N) F) (h8 : M.1 222 8 = y) (h9 : M.1 222 9 = nI r) (hS : JdS M0 M)
    (h : ∀ M2, PC M2 114 (plOf N) F → M2.1 222 7 = 1 → M2.1 222 8 = y → M2.1 222 9 = nI r → M2.1 222 10 = F 2 → M2.1 222 11 = manyF (rtP (plOf N) F) (mP (plOf N)) → JdS M0 M2 → Q (if y = 0 then -1 else nI r) M2) : S_X0_judge_60 (d + 10) 114 M (zI Q) := by
  refine t_X0_judge_60 (by decide) ?_
  intro M1 e1 M2 e2
  have p2 : PC M2 114 (plOf N) F := e2 ▸ PC_222 (e1 ▸ PC_222 hM)
  refine e_X4_rootKinds (by decide) p2 ?_
  intro M3 e3
  have p3 : PC M3 114 (plOf N) F := e3 ▸ PC_222 p2
  have f2 : M1.1 (pF 114) 6 = F 2 := by
    have p1 : PC M1 114 (plOf N) F := e1 ▸ PC_222 hM
    have := PC_f p1 (j := 2) (by omega)
    unfold fC at this
    rw [if_pos (by omega)] at this
    exact this
  have k8 : M3.1 222 8 = y := by rw [e3, wI_1, if_neg (by omega), e2, wI_1, if_neg (by omega), e1, wI_1, if_neg (by omega)]; exact h8
  have k9 : M3.1 222 9 = nI r := by rw [e3, wI_1, if_neg (by omega), e2, wI_1, if_neg (by omega), e1, wI_1, if_neg (by omega)]; exact h9
  have k7 : M3.1 222 7 = 1 := by rw [e3, wI_1, if_neg (by omega), e2, wI_1, if_neg (by omega), e1, wI_1, if_pos ⟨rfl, rfl⟩]
  have k10 : M3.1 222 10 = F 2 := by rw [e3, wI_1, if_neg (by omega), e2, wI_1, if_pos ⟨rfl, rfl⟩]; exact f2
  have k11 : M3.1 222 11 = manyF (rtP (plOf N) F) (mP (plOf N)) := by rw [e3, wI_1, if_pos ⟨rfl, rfl⟩]
  have S3 : JdS M0 M3 := ⟨by rw [e3, e2, e1]; exact ((hS.1.wI (Or.inr rfl)).wI (Or.inr rfl)).wI (Or.inr rfl), by rw [e3, wI_1, if_neg (by omega), e2, wI_1, if_neg (by omega), e1, wI_1, if_neg (by omega)]; exact hS.2⟩
  have main := h M3 p3 k7 k8 k9 k10 k11 S3
  rw [k8, k9]
  refine ⟨fun q => zii ?_, fun q => zii ?_⟩
  · rw [if_neg q] at main; exact main
  · rw [if_pos q] at main; exact main
theorem j_judge {Q : Int32 → zMem → Prop} {M0 : zMem} {all : List zBk} (hall : rwsC (N := N) M0 all)
    (h : ∀ M2, PC M2 114 (plOf N) (jdS (plOf N) all 0 F).2.2 → M2.1 222 7 = 1 → M2.1 222 8 = (jdS (plOf N) all 0 F).1 → M2.1 222 9 = nI (jdS (plOf N) all 0 F).2.1 → M2.1 222 10 = (jdS (plOf N) all 0 F).2.2 2 → M2.1 222 11 = manyF (rtP (plOf N) (jdS (plOf N) all 0 F).2.2) (mP (plOf N)) → JdS M0 M2 → Q (if (jdS (plOf N) all 0 F).1 = 0 then -1 else nI (jdS (plOf N) all 0 F).2.1) M2) :
    ∀ (bs : List zBk) (i : Nat) (G : Nat → Int32) (M : zMem), i + bs.length = all.length → (∀ j b, bs[j]? = some b → all[i + j]? = some b) → jdS (plOf N) all 0 F = jdS (plOf N) bs i G → PC M 114 (plOf N) G → M.1 222 8 = 0 → M.1 222 9 = nI i → JdS M0 M → S_X0_judge_12 (d + 55) 114 (nI i) M (zI Q)
  | [], i, G, M, hi, _, hj, hM, h8, h9, hS => by
    have h40 := hall.2.1
    have h6 : M.1 222 6 = nI all.length := hS.2.trans hall.1
    have hi : i = all.length := hi
    subst hi
    refine t_X0_judge_12 (by decide) ⟨fun _ => ?_, fun q => absurd (leY h6 (by omega)) q⟩
    rw [hj] at h
    exact j_end (d := d + 45) (y := 0) (r := all.length) hM h8 h9 hS (fun M2 a1 a2 a3 a4 a5 a6 a7 => h M2 a1 a2 a3 a4 a5 a6 a7)
  | b :: bs, i, G, M, hi, hb, hj, hM, h8, h9, hS => by
    have h40 := hall.2.1
    have h6 : M.1 222 6 = nI all.length := hS.2.trans hall.1
    have hi : i + (bs.length + 1) = all.length := hi
    have hb0 := hb 0 b rfl
    obtain ⟨q1, q2⟩ := hall.2.2 i b hb0
    rw [jdS_c] at hj
    refine t_X0_judge_12 (by decide) ⟨fun q => absurd q (leN h6 (by omega) (by omega)), fun _ => ⟨fun q => absurd h8 q, fun _ => j_live hM (rwC_jd hS q1) q2 (by omega) (fun M2 p2 s2 => ?_)⟩⟩
    intro M3 e3
    have p3 : PC M3 114 (plOf N) (ddB (plOf N) G b).2 := e3 ▸ PC_222 p2
    have k8 : M3.1 222 8 = whB (plOf N) G b := by rw [e3, wI_1, if_pos ⟨rfl, rfl⟩]
    have n222 : ¬ inB 114 222 := fun q => by have := inB114 q; omega
    have k9 : M3.1 222 9 = nI i := by rw [e3, wI_1, if_neg (by omega), s2.1 222 n222]; exact h9
    have k6 : M3.1 222 6 = M.1 222 6 := by rw [e3, wI_1, if_neg (by omega), s2.1 222 n222]
    have S3 : JdS M0 M3 := ⟨(hS.1.trans (s2.mono (fun z hz => Or.inl hz))).trans (e3 ▸ (Same.refl _ _).wI (Or.inr rfl)), k6.trans hS.2⟩
    rw [k8]
    by_cases e0 : (ddB (plOf N) G b).1 = 0
    · have w0 : whB (plOf N) G b = 0 := if_pos e0
      rw [if_pos e0] at hj
      refine ⟨fun q => absurd w0 q, fun _ M4 e4 => ?_⟩
      rw [nI_1]
      refine j_judge hall h bs (i + 1) (ddB (plOf N) G b).2 M4 (by omega) (fun j c hc => ?_) hj (e4 ▸ PC_222 p3) ?_ ?_ ⟨by rw [e4]; exact S3.1.wI (Or.inr rfl), by rw [e4, wI_1, if_neg (by omega)]; exact S3.2⟩
      · have := hb (j + 1) c hc
        rw [show i + 1 + j = i + (j + 1) by omega]
        exact this
      · rw [e4, wI_1, if_neg (by omega), k8, w0]
      · rw [e4, wI_1, if_pos ⟨rfl, rfl⟩, k9, nI_1]
    · rw [if_neg e0] at hj
      by_cases w0 : whB (plOf N) G b = 0
      · exfalso
        exact whB_ne q2 e0 w0
      · refine ⟨fun _ => ?_, fun q => absurd q w0⟩
        rw [ddB_F e0] at p3
        have h63 : M3.1 222 6 = nI all.length := k6.trans h6
        rw [hj] at h
        have fin : S_X0_judge_60 (d + 55) 114 M3 (zI Q) := j_end (d := d + 45) (y := whB (plOf N) G b) (r := i) p3 k8 k9 S3 (fun M2 a1 a2 a3 a4 a5 a6 a7 => h M2 a1 a2 a3 a4 a5 a6 a7)
        rw [nI_1]
        by_cases el : i + 1 = all.length
        · rw [el]
          exact t_X0_judge_12 (by decide) ⟨fun _ => fin, fun q => absurd (leY h63 (by omega)) q⟩
        · exact t_X0_judge_12 (by decide) ⟨fun q => absurd q (leN h63 (by omega) (by omega)), fun _ => ⟨fun _ => fin, fun q => absurd (k8 ▸ q) w0⟩⟩
end
