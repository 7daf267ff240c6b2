-- ===== the model reads a BOOK's line: all of it =====
section
variable {d n most i k p : Nat} {M M2 M3 : zMem} {N : zNm} {tx : Nat → Nat} {s : zPs} {f : zFt}
theorem i4 (i : Nat) : 4 * nI i = nI (4 * i) := by rw [show (4 : Int32) = nI 4 from rfl, pk_mul]
theorem m_end {Q : Bool → zMem → Prop} {b : zBk} {s2 : zPs} {o : Sum zFt (zBk × zPs)} (ho : o = .inr (b, s2)) (hT : TR M2 tx n most s2) (hr : rwR M2 i b) (hm : RmS i M M2) (hf : ∀ f, bndP tx n most o = .inl f → ∀ M3, ftR M3 f → RmS i M M3 → Q false M3)
    (hs : ∀ r, bndP tx n most o = .inr r → ∀ M3, TR M3 tx n most r.2 → rwR M3 i r.1 → RmS i M M3 → Q true M3) : S_X12_readEnd (d + 2) M2 (zB (fun r52 M53 => (r52 = false → zB Q (some (.int 0)) M53) ∧ (r52 = true → zB Q (some (.int 1)) M53))) := by
  rw [ho] at hf hs
  unfold bndP at hf hs
  simp only [] at hf hs
  refine e_X12_readEnd hT (fun e M3 g1 g2 => ⟨fun _ => zbf (hf _ (if_neg (by rw [e]; decide)) M3 g1 (hm.trans (RmS.of g2))), fun q => (by cases q)⟩) (fun e M3 hT3 n3 => ⟨fun q => (by cases q), fun _ => zbt (hs _ (if_pos e) M3 hT3 ?_ (hm.trans (RmS.of n3.ro)))⟩)
  unfold rwR at hr ⊢
  rw [n3.1.1 260 (by omega)]
  exact hr
theorem m_line {Q : Bool → zMem → Prop} (hN : okN N) (hd : hdR M N) (hT : TR M tx n most s) (h53 : M.1 229 53 = nI i) (hi : i ≤ 40)
    (hf : ∀ f, blnP tx n most N i s = .inl f → ∀ M2, ftR M2 f → RmS i M M2 → Q false M2)
    (hs : ∀ r, blnP tx n most N i s = .inr r → ∀ M2, TR M2 tx n most r.2 → rwR M2 i r.1 → RmS i M M2 → Q true M2) : S_X12_readBookLine (d + 6) M (zB Q) := by
  have h24 := hN.2.2.2.1
  have h4 := hN.2.2.2.2.1
  refine t_X12_readBookLine ?_
  refine for_up (S := fun j r => S_X12_readBookLine_4 (d + 6) r (nI j) M (zB Q)) (fin := fun r => S_X12_readBookLine_4 (d + 6) r (nI 5) M (zB Q)) (n := 5) (g := fun j r => if wdS s = some (piR (9 + j)) then nI j else r) (fun r hr => hr) (fun j r hj hr => ?_) 5 0 (-1) (by omega) ?_
  · refine t_X12_readBookLine_4 ⟨fun q => ?_, fun _ => ?_⟩
    · rw [show (4 : Int32) = nI 4 from rfl, nI_ltI (by omega) (by omega)] at q
      omega
    rw [show (9 : Int32) = nI 9 from rfl, nI_add, nI_1]
    refine e_X12_isWord (by omega) hT ⟨fun q => ?_, fun q => ?_⟩
    · have q := of_decide_eq_false q
      rw [if_neg q] at hr
      exact hr
    · have q := of_decide_eq_true q
      rw [if_pos q] at hr
      exact hr
  rw [opB_fold]
  unfold blnP at hf hs
  have bad : ∀ f, (∀ M2, ftR M2 (1, plS s) → RmS i M M2 → Q false M2) → f = (-1 : Int32) → S_X12_readBookLine_4 (d + 6) f (nI 5) M (zB Q) := by
    intro f h e
    exact t_X12_readBookLine_4 ⟨fun _ => ⟨fun q => absurd e q, fun _ => e_X12_bad1 hT (fun M2 g1 g2 => zbr (h M2 g1 (RmS.of g2)))⟩, fun q => absurd (by decide) q⟩
  cases hw : wdS s with
  | none =>
    rw [hw] at hf
    exact bad _ (fun M2 g1 g2 => hf _ rfl M2 g1 g2) rfl
  | some w =>
    rw [hw] at hf hs
    simp only [] at hf hs ⊢
    by_cases hw2 : 9 ≤ w ∧ w ≤ 13
    rotate_left
    · rw [if_neg hw2] at hf ⊢
      exact bad _ (fun M2 g1 g2 => hf _ rfl M2 g1 g2) rfl
    rw [if_pos hw2] at hf hs ⊢
    have s2 : s.1.1 = 2 := by
      unfold wdS at hw
      split at hw
      · assumption
      · cases hw
    have o5 : opB w < 5 := by unfold opB; split; omega; split; omega; split; omega; split <;> omega
    refine t_X12_readBookLine_4 ⟨fun _ => ⟨fun _ => ?_, fun q => absurd q (nI_m1 (by omega))⟩, fun q => absurd (by decide) q⟩
    rw [h53, i4, show (40 : Int32) = nI 40 from rfl, nI_eq (by omega) (by omega)]
    refine ⟨fun q => ?_, fun q => e_X12_bad (k := 4) hT (fun M2 g1 g2 => zbr (hf _ (by rw [if_pos (show 40 ≤ i by omega), if_neg (show ¬ s.1.1 = 1 by omega)]) M2 g1 (RmS.of g2)))⟩
    rw [if_neg (show ¬ 40 ≤ i by omega)] at hf hs
    have cl3 : (nI (4 * i) + 3).toNatClampNeg = 4 * i + 3 := by rw [show (3 : Int32) = nI 3 from rfl, nI_add, nI_clamp (by omega)]
    have n1 : nI (4 * i) + 1 = nI (4 * i + 1) := nI_1 _
    have n2 : nI (4 * i) + 2 = nI (4 * i + 2) := by rw [show (2 : Int32) = nI 2 from rfl, nI_add]
    have n3 : nI (4 * i) + 3 = nI (4 * i + 3) := by rw [show (3 : Int32) = nI 3 from rfl, nI_add]
    rw [n1, n2, n3, nI_clamp (by omega), nI_clamp (by omega)]
    refine ⟨nIin (by omega) (by omega), fun M1 e1 => ⟨nIin (by omega) (by omega), fun M2 e2 => ?_⟩⟩
    have hT2 : TR M2 tx n most s := e2 ▸ TR_w (e1 ▸ TR_w hT)
    have m2 : RmS i M M2 := by rw [e2, e1]; exact (RmS.wr (by omega)).trans (RmS.wr (by omega))
    have a20 : M2.1 260 (4 * i) = nI (opB w) := by rw [e2, wI_1, if_neg (by omega), e1, wI_1, if_pos ⟨rfl, rfl⟩]
    have a23 : M2.1 260 (4 * i + 3) = 0 := by rw [e2, wI_1, if_pos ⟨rfl, rfl⟩]
    refine e_X12_go (d := d + 4) hT2 (by omega) (fun M3 g3 hT3 => t_X12_readPeerName ?_)
    have m3 : RmS i M M3 := m2.trans (RmS.of g3.ro)
    have hd3 := hr_rm hd m3
    rw [hd3.2.2.2.2.1]
    unfold bpaP at hf hs
    refine e_X12_readNamed (d := d + 1) (o := 24) (by omega) (nr_p hN hd3) hT3 (fun f hf2 M4 g1 g2 => zbr (c_keep (by omega) (fun _ => ⟨fun q => (by cases q), fun _ => zbf (hf f ?_ M4 g1 (m3.trans (RmS.of g2)))⟩) (fun q => (by cases q)))) (fun p hp hp2 M4 hT4 k4 g4 => zbr (c_keep (by omega) (fun q => (by cases q)) (fun _ => ⟨fun _ => ?_, fun q => (by cases q)⟩)))
    · rw [hf2]; rfl
    rw [hp] at hf hs
    simp only [] at hf hs
    have e5 : M4.1 260 = M2.1 260 := by rw [g4.1.1 260 (by omega), g3.1.1 260 (by omega)]
    -- the memory behind the first peer
    generalize hM5 : wI M4 260 (4 * i + 1) (M4.1 229 13) = M5
    have hT5 : TR M5 tx n most (nx tx n most (nx tx n most s)) := hM5 ▸ TR_w hT4
    have m5 : RmS i M M5 := (m3.trans (RmS.of g4)).trans (hM5 ▸ RmS.wr (by omega))
    have hd5 := hr_rm hd m5
    have a50 : M5.1 260 (4 * i) = nI (opB w) := by rw [← hM5, wI_1, if_neg (by omega), e5]; exact a20
    have a51 : M5.1 260 (4 * i + 1) = nI p := by rw [← hM5, wI_1, if_pos ⟨rfl, rfl⟩]; exact k4
    have a53 : M5.1 260 (4 * i + 3) = 0 := by rw [← hM5, wI_1, if_neg (by omega), e5]; exact a23
    have lt2 : (nI (opB w) < 2) ↔ (w = 10 ∨ w = 11) := by
      rw [show (2 : Int32) = nI 2 from rfl, nI_ltI (by omega) (by omega)]
      rcases (show w = 9 ∨ w = 10 ∨ w = 11 ∨ w = 12 ∨ w = 13 by omega) with rfl | rfl | rfl | rfl | rfl <;> decide
    have eq1 : (nI (opB w) = 1) ↔ w = 11 := by
      rw [show (1 : Int32) = nI 1 from rfl, nI_eq (by omega) (by omega)]
      rcases (show w = 9 ∨ w = 10 ∨ w = 11 ∨ w = 12 ∨ w = 13 by omega) with rfl | rfl | rfl | rfl | rfl <;> decide
    rw [lt2, eq1]
    refine ⟨fun hw3 => ?_, fun hw3 => ?_⟩
    · rw [if_pos hw3] at hf hs
      rw [hd5.2.2.2.1]
      refine e_X12_readNamed (d := d + 2) (o := 0) (by omega) (nr_k hN hd5) hT5 (fun f hf2 M6 g1 g2 => c_keep (by omega) (fun _ => ⟨fun q => (by cases q), fun _ => zbf (hf f ?_ M6 g1 (m5.trans (RmS.of g2)))⟩) (fun q => (by cases q))) (fun k hk hk2 M6 hT6 k6 g6 => c_keep (by omega) (fun q => (by cases q)) (fun _ => ⟨fun _ => ?_, fun q => (by cases q)⟩))
      · unfold bkyP; rw [hf2]; rfl
      unfold bkyP at hf hs
      rw [hk] at hf hs
      simp only [] at hf hs
      have e7 : M6.1 260 = M5.1 260 := g6.1.1 260 (by omega)
      generalize hM7 : wI M6 260 (4 * i + 2) (M6.1 229 13) = M7
      have hT7 : TR M7 tx n most (nx tx n most (nx tx n most (nx tx n most s))) := hM7 ▸ TR_w hT6
      have m7 : RmS i M M7 := (m5.trans (RmS.of g6)).trans (hM7 ▸ RmS.wr (by omega))
      have a70 : M7.1 260 (4 * i) = nI (opB w) := by rw [← hM7, wI_1, if_neg (by omega), e7]; exact a50
      have a71 : M7.1 260 (4 * i + 1) = nI p := by rw [← hM7, wI_1, if_neg (by omega), e7]; exact a51
      have a72 : M7.1 260 (4 * i + 2) = nI k := by rw [← hM7, wI_1, if_pos ⟨rfl, rfl⟩]; exact k6
      have a73 : M7.1 260 (4 * i + 3) = 0 := by rw [← hM7, wI_1, if_neg (by omega), e7]; exact a53
      refine ⟨fun hw4 => ?_, fun hw4 => ?_⟩
      · rw [if_pos hw4] at hf hs
        exact m_end (d := d + 3) (b := (w, p, k, 0)) rfl hT7 ⟨a70, a71, a72, a73⟩ m7 hf hs
      · rw [if_neg hw4] at hf hs
        refine e_X12_readNumber (d := d + 3) (lo := 0) (hi := 999) (by omega) (by omega) hT7 (fun f hf2 M8 g1 g2 => c_keep (by omega) (fun _ => ⟨fun _ => zbf (hf f (by rw [hf2]; rfl) M8 g1 (m7.trans (RmS.of g2))), fun q => (by cases q)⟩) (fun q => (by cases q))) (fun v hv hv2 M8 hT8 k8 g8 => c_keep (by omega) (fun q => (by cases q)) (fun _ => ⟨fun q => (by cases q), fun _ => ?_⟩))
        rw [hv] at hf hs
        simp only [] at hf hs
        have e9 : M8.1 260 = M7.1 260 := g8.1.1 260 (by omega)
        generalize hM9 : wI M8 260 (4 * i + 3) (M8.1 229 13) = M9
        refine m_end (d := d + 3) (b := (w, p, k, v)) rfl (hM9 ▸ TR_w hT8) ⟨?_, ?_, ?_, ?_⟩ ((m7.trans (RmS.of g8)).trans (hM9 ▸ RmS.wr (by omega))) hf hs
        · rw [← hM9, wI_1, if_neg (by omega), e9]; exact a70
        · rw [← hM9, wI_1, if_neg (by omega), e9]; exact a71
        · rw [← hM9, wI_1, if_neg (by omega), e9]; exact a72
        · rw [← hM9, wI_1, if_pos ⟨rfl, rfl⟩]; exact k8
    · rw [if_neg hw3] at hf hs
      refine m_other (d := d + 2) (w := w) hN hd5 hT5 (by omega) hp2 a51 (fun f hf2 M6 g1 g2 => ⟨fun _ => zbf (hf f (by rw [hf2]; rfl) M6 g1 (m5.trans g2)), fun q => (by cases q)⟩) (fun r hr2 M6 hT6 g1 g2 g3 => ⟨fun q => (by cases q), fun _ => ?_⟩)
      have er : r.1.1 = w ∧ r.1.2.1 = p ∧ r.1.2.2.2 = 0 := by
        unfold botP at hr2
        split at hr2
        · cases hr2
        · split at hr2
          · cases hr2
          · cases hr2; exact ⟨rfl, rfl, rfl⟩
      refine m_end (d := d + 3) (b := r.1) (s2 := r.2) hr2 hT6 ⟨?_, ?_, g1, ?_⟩ (m5.trans g3) hf hs
      · rw [g2 _ (by omega), er.1]; exact a50
      · rw [g2 _ (by omega), er.2.1]; exact a51
      · rw [g2 _ (by omega), er.2.2]; exact a53
end
