-- ===== the class reads a BOOK =====
section
variable {d n most i k p : Nat} {M M2 M3 : zMem} {N : zNm} {tx : Nat → Nat} {s : zPs} {f : zFt}
theorem b_end {Q : Bool → zMem → Prop} (hT : TC M tx n most s) (hk : M.1 220 10 = nI k) (h6 : M.1 222 6 = nI i) (hf : sgS s 59 = false → ∀ M2, ftC M2 (1, plS s) → BrS i M M2 → M2.1 220 10 = nI k → Q false M2)
    (hs : sgS s 59 = true → ∀ M2, TC M2 tx n most (nx tx n most s) → M2.1 222 6 = nI (i + 1) → M2.1 220 10 = nI (k + 1) → M2.1 220 11 = M.1 220 11 → BrS i M M2 → (∀ z, 223 ≤ z → z ≤ 226 → M2.1 z = M.1 z) → Q true M2) : S_X0_readLine_141 (d + 4) M (zB Q) := by
  refine t_X0_readLine_141 (e_X6_passLineEnd hT hk (fun e M2 g1 g2 => ⟨fun q => (by cases q), fun _ => zbf (hf e M2 g1 (Fl_br g2) ((Fl_10 g2).trans hk))⟩) (fun e M2 hT2 g1 g2 s2 => ⟨fun _ => ?_, fun q => (by cases q)⟩))
  intro M3 e3
  refine zbt (hs e M3 (e3 ▸ TC_w hT2 (by omega)) ?_ ?_ ?_ ((BrS.of s2).trans (e3 ▸ BrS.six)) (fun z z1 z2 => ?_))
  · rw [e3, wI_1, if_pos ⟨rfl, rfl⟩, s2.1 222 (by omega), h6, nI_1]
  · rw [e3, wI_ne _ (by omega)]; exact g1
  · rw [e3, wI_ne _ (by omega)]; exact g2
  · rw [e3, wI_ne _ (by omega), s2.1 z (by omega)]
theorem b_readLine {Q : Bool → zMem → Prop} (hN : okN N) (hd : hdC M 3 N) (hT : TC M tx n most s) (h6 : M.1 222 6 = nI i) (hi : i ≤ 40) (hk : M.1 220 10 = nI k)
    (hf : ∀ f, blnP tx n most N i s = .inl f → ∀ M2, ftC M2 f → BrS i M M2 → M2.1 220 10 = nI k → Q false M2)
    (hs : ∀ r, blnP tx n most N i s = .inr r → ∀ M2, TC M2 tx n most r.2 → rwC M2 i r.1 → M2.1 222 6 = nI (i + 1) → M2.1 220 10 = nI (k + 1) → M2.1 220 11 = M.1 220 11 → BrS i M M2 → Q true M2) : S_X0_readLine (d + 6) M (zB Q) := by
  have h4 := hN.2.2.2.2.1
  have e6 := TkC_6 hT.2
  refine t_X0_readLine ?_
  rw [e6, h6]
  unfold blnP at hf hs
  cases hw : wdS s with
  | none =>
    rw [hw] at hf
    exact ⟨fun _ => e_X6_fail (k := 1) hT (fun M2 g1 g2 => zbr (hf _ rfl M2 g1 (Fl_br g2) ((Fl_10 g2).trans hk))), fun q => absurd (by decide) q⟩
  | some w =>
    rw [hw] at hf hs
    simp only [] at hf hs
    have w24 : w < 24 := wdS_lt hw
    rw [show upI (some w) = nI w from rfl, show (9 : Int32) = nI 9 from rfl, nI_ltI (by omega) (by omega), show (13 : Int32) = nI 13 from rfl, nI_leI (by omega) (by omega)]
    refine ⟨fun q => e_X6_fail (k := 1) hT (fun M2 g1 g2 => zbr (hf _ (if_neg (by omega)) M2 g1 (Fl_br g2) ((Fl_10 g2).trans hk))), fun q => ⟨fun q2 => ?_, fun q2 => e_X6_fail (k := 1) hT (fun M2 g1 g2 => zbr (hf _ (if_neg (by omega)) M2 g1 (Fl_br g2) ((Fl_10 g2).trans hk)))⟩⟩
    rw [if_pos (by omega)] at hf hs
    rw [show (40 : Int32) = nI 40 from rfl, nI_ltI (by omega) (by omega)]
    refine ⟨fun q3 => ?_, fun q3 => e_X6_fail (k := 4) hT (fun M2 g1 g2 => zbr (hf _ (if_pos (by omega)) M2 g1 (Fl_br g2) ((Fl_10 g2).trans hk)))⟩
    rw [if_neg (by omega)] at hf hs
    rw [nI_clamp (by omega)]
    refine ⟨nIin q3 (by omega), fun M1 e1 => ?_⟩
    have hT1 : TC M1 tx n most s := e1 ▸ TC_w hT (by omega)
    have b1 : BrS i M M1 := e1 ▸ BrS.wr (by omega) (by omega)
    refine e_X6_next hT1 (fun M2 n2 hT2 => ?_)
    have b2 : BrS i M M2 := b1.trans (BrS.of n2.1)
    have hd2 := hd_br hd b2
    have k2 : M2.1 220 10 = nI k := by rw [n2.2 10 (by omega), e1, wI_ne _ (by omega)]; exact hk
    have l2 : M2.1 220 11 = M.1 220 11 := by rw [n2.2 11 (by omega), e1, wI_ne _ (by omega)]
    have i2 : M2.1 222 6 = nI i := by rw [n2.1.1 222 (by omega), e1, wI_ne _ (by omega)]; exact h6
    have r23 : M2.1 223 i = nI w := by rw [n2.1.1 223 (by omega), e1, wI_1, if_pos ⟨rfl, rfl⟩]
    unfold bpaP at hf hs
    refine e_X6_seePeer (by decide) hd2.2.2.2.2.1 h4 (nm_p hN hd2) hT2 (fun f hf2 M3 g1 g2 => ⟨fun q => absurd rfl q, fun _ => zbf (hf f ?_ M3 g1 (b2.trans (Fl_br g2)) ((Fl_10 g2).trans k2))⟩) (fun p hp hp2 => ⟨fun _ => ?_, fun q => absurd q (nI_m1 (by omega))⟩)
    · rw [hf2]; rfl
    rw [hp] at hf hs
    simp only [] at hf hs
    rw [i2, nI_clamp (by omega)]
    refine ⟨nIin q3 (by omega), fun M3 e3 => ?_⟩
    have hT3 : TC M3 tx n most (nx tx n most s) := e3 ▸ TC_w hT2 (by omega)
    refine e_X6_next hT3 (fun M4 n4 hT4 => ?_)
    have b4 : BrS i M M4 := b2.trans ((e3 ▸ BrS.wr (by omega) (by omega)).trans (BrS.of n4.1))
    have hd4 := hd_br hd b4
    have k4 : M4.1 220 10 = nI k := by rw [n4.2 10 (by omega), e3, wI_ne _ (by omega)]; exact k2
    have l4 : M4.1 220 11 = M.1 220 11 := by rw [n4.2 11 (by omega), e3, wI_ne _ (by omega)]; exact l2
    have i4 : M4.1 222 6 = nI i := by rw [n4.1.1 222 (by omega), e3, wI_ne _ (by omega)]; exact i2
    have r43 : M4.1 223 i = nI w := by rw [n4.1.1 223 (by omega), e3, wI_ne _ (by omega)]; exact r23
    have r44 : M4.1 224 i = nI p := by rw [n4.1.1 224 (by omega), e3, wI_1, if_pos ⟨rfl, rfl⟩]
    -- behind the piece: the end of the line
    have cont : ∀ {o : Sum zFt (zBk × zPs)} (Q2 : Bool → zMem → Prop), (∀ r, o = .inr r → r.1.1 = w ∧ r.1.2.1 = p) → (∀ f, bndP tx n most o = .inl f → ∀ M2, ftC M2 f → BrS i M M2 → M2.1 220 10 = nI k → Q false M2) → (∀ r, bndP tx n most o = .inr r → ∀ M2, TC M2 tx n most r.2 → rwC M2 i r.1 → M2.1 222 6 = nI (i + 1) → M2.1 220 10 = nI (k + 1) → M2.1 220 11 = M.1 220 11 → BrS i M M2 → Q true M2) →
        (∀ M5, zB Q (some (.int 0)) M5 → Q2 false M5) → (∀ M5, S_X0_readLine_141 (d + 6) M5 (zB Q) → Q2 true M5) → BPost tx n most i Q2 M4 o := by
      intro o Q2 ho hf hs q0 q1
      refine ⟨fun f e M5 g1 g2 g3 => q0 M5 (zbf (hf f (by rw [e]; rfl) M5 g1 (b4.trans g2) (g3.trans k4))), fun r e M5 hT5 g1 g2 g3 g4 g5 g6 => q1 M5 ?_⟩
      rw [e] at hf hs
      unfold bndP at hf hs
      simp only [] at hf hs
      obtain ⟨o1, o2⟩ := ho r e
      refine b_end hT5 ((g4 10 (by omega)).trans k4) (g5.trans i4) (fun e2 M6 a1 a2 a3 => hf _ (if_neg (by rw [e2]; decide)) M6 a1 (b4.trans (g3.trans a2)) a3) (fun e2 M6 hT6 a1 a2 a3 a4 a5 => hs _ (if_pos e2) M6 hT6 ⟨?_, ?_, ?_, fun z => ?_⟩ a1 a2 (a3.trans ((g4 11 (by omega)).trans l4)) (b4.trans (g3.trans a4)))
      · rw [a5 223 (by omega) (by omega), g6 223 (by omega), r43, ← o1]
      · rw [a5 224 (by omega) (by omega), g6 224 (by omega), r44, ← o2]
      · rw [a5 225 (by omega) (by omega)]; exact g1
      · rw [a5 226 (by omega) (by omega)]; exact g2 z
    have wk : w = 10 ∨ w = 11 → S_X0_readLine_112 (d + 6) (nI w) (nI p) M4 (zB Q) := by
      intro hw2
      rw [if_pos hw2] at hf hs
      refine t_X0_readLine_112 (b_keyPart hN hd4 hT4 i4 q3 hw2 (cont _ (fun r e => ?_) hf hs (fun M5 q => ⟨fun _ => q, fun z => (by cases z)⟩) (fun M5 q => ⟨fun z => (by cases z), fun _ => q⟩)))
      unfold bkyP at e
      split at e
      · cases e
      · split at e
        · cases e; exact ⟨rfl, rfl⟩
        · split at e
          · cases e
          · cases e; exact ⟨rfl, rfl⟩
    rw [show (10 : Int32) = nI 10 from rfl, nI_eq (by omega) (by omega), show (11 : Int32) = nI 11 from rfl, nI_eq (by omega) (by omega)]
    refine ⟨fun e => wk (Or.inl e), fun e => ⟨fun e2 => ?_, fun e2 => wk (Or.inr e2)⟩⟩
    rw [if_neg (by omega)] at hf hs
    refine b_other hN hd4 hT4 i4 q3 hp2 e (cont _ (fun r e => ?_) hf hs (fun M5 q => ⟨fun _ => q, fun z => (by cases z)⟩) (fun M5 q => ⟨fun z => (by cases z), fun _ => q⟩))
    unfold botP at e
    split at e
    · cases e
    · split at e
      · cases e
      · cases e; exact ⟨rfl, rfl⟩
end
