-- ===== the model reads a SENTENCE =====
def SyR (M M2 : zMem) : Prop := Same (fun z => z = 229 ∨ z = 262) M M2 ∧ ∀ j, (j < 3 ∨ 13 < j) → j ≠ 56 → j ≠ 57 → j ≠ 58 → j ≠ 59 → M2.1 229 j = M.1 229 j
theorem SyR.refl (M : zMem) : SyR M M := ⟨Same.refl _ _, fun _ _ _ _ _ _ => rfl⟩
theorem SyR.trans {M M2 M3 : zMem} (h : SyR M M2) (h2 : SyR M2 M3) : SyR M M3 := ⟨h.1.trans h2.1, fun j a b c e f => (h2.2 j a b c e f).trans (h.2 j a b c e f)⟩
theorem SyR.ro {M M2 : zMem} (h : RoR M M2) : SyR M M2 := ⟨h.1.mono (fun _ hz => Or.inl hz), fun j a _ _ _ _ => h.2 j a⟩
theorem SyR.w {M M2 : zMem} {j : Nat} {x : Int32} (hj : 56 ≤ j ∧ j ≤ 59) (e : M2 = wI M 229 j x) : SyR M M2 := e ▸ ⟨(Same.refl _ M).wI (Or.inl rfl), fun i a b c e f => by rw [wI_1, if_neg (by omega)]⟩
theorem TR_k {M M2 : zMem} {tx : Nat → Nat} {n most : Nat} {s : zPs} (h : TR M tx n most s) (h1 : M2.1 230 = M.1 230) (h2 : ∀ j, j ≤ 13 → M2.1 229 j = M.1 229 j) (h3 : M2.2 229 = M.2 229) : TR M2 tx n most s := by
  obtain ⟨⟨⟨b, ⟨a1, a2, a3, a4, a5, a6, a7⟩, hb⟩, h10⟩, k⟩ := h
  refine ⟨⟨⟨b, ⟨a1, fun i hi => by rw [h1]; exact a2 i hi, by rw [h2 3 (by omega)]; exact a3, by rw [h2 4 (by omega)]; exact a4, a5, by rw [h2 5 (by omega)]; exact a6, a7⟩, hb⟩, by rw [h2 10 (by omega)]; exact h10⟩, ?_⟩
  unfold TkR at k ⊢
  rw [h2 6 (by omega), h2 7 (by omega), h2 8 (by omega), h2 9 (by omega), h3]
  exact k
theorem TR_j {M M2 : zMem} {tx : Nat → Nat} {n most j : Nat} {x : Int32} {s : zPs} (h : TR M tx n most s) (hj : 13 < j) (e : M2 = wI M 229 j x) : TR M2 tx n most s :=
  TR_k h (by rw [e, wI_ne _ (by omega)]) (fun i hi => by rw [e, wI_1, if_neg (by omega)]) (by rw [e]; rfl)
def RPost (tx : Nat → Nat) (n most m : Nat) (Q : Bool → zMem → Prop) (z v : Nat) (M : zMem) (o : Sum zFt zSr) : Prop :=
  (∀ f, o = .inl f → ∀ M2, ftR M2 f → SyR M M2 → Q false M2) ∧ ∀ r, o = .inr r → ∀ M2, TR M2 tx n most r.2.1 → M2.1 229 56 = nI (z + r.1.length) → M2.1 229 57 = nI r.2.2 → M2.1 229 58 = nI v → M2.1 229 59 = nI (z + r.1.length - 1) → ndT m (M2.1 262) r.1.length z r.1 → (∀ j, j < 4 * z → M2.1 262 j = M.1 262 j) → SyR M M2 → Q true M2
def PcR (tx : Nat → Nat) (n most : Nat) (N : zNm) (v : Nat) (proc : zMem → (Bool → zMem → Prop) → Prop) (one : Nat → zPs → Sum zFt zSr) : Prop :=
  ∀ (Q : Bool → zMem → Prop) (M : zMem) (s : zPs) (z o : Nat), TR M tx n most s → hdR M N → M.1 229 56 = nI z → M.1 229 57 = nI o → M.1 229 58 = nI v → z ≤ 2 * o → o ≤ 20 → RPost tx n most (prN N).length Q z v M (one o s) → proc M Q
section
variable {d n most k w p m v : Nat} {M M2 M3 : zMem} {N : zNm} {tx : Nat → Nat} {s : zPs} {f : zFt}
theorem hr_sy (hd : hdR M N) (h : SyR M M2) : hdR M2 N := hdR_same hd (fun j _ => by rw [h.1.1 231 (by omega)]) (h.1.2 237 (by omega))
/-- a node is added -/
theorem r_say {Q : Int32 → zMem → Prop} {z : Nat} {a b c e : Int32} (hz : M.1 229 56 = nI z) (h60 : z < 60) (h : ∀ M2, M2.1 229 56 = nI (z + 1) → (∀ j, j ≠ 56 → M2.1 229 j = M.1 229 j) → M2.1 262 (4 * z) = a → M2.1 262 (4 * z + 1) = b → M2.1 262 (4 * z + 2) = c → M2.1 262 (4 * z + 3) = e → (∀ j, j < 4 * z → M2.1 262 j = M.1 262 j) → Same (fun z => z = 229 ∨ z = 262) M M2 → M2.2 = M.2 → Q (nI z) M2) : S_X12_saysOne d a b c e M (zI Q) := by
  have n1 : nI (4 * z) + 1 = nI (4 * z + 1) := nI_1 _
  have n2 : nI (4 * z) + 2 = nI (4 * z + 2) := by rw [show (2 : Int32) = nI 2 from rfl, nI_add]
  have n3 : nI (4 * z) + 3 = nI (4 * z + 3) := by rw [show (3 : Int32) = nI 3 from rfl, nI_add]
  refine t_X12_saysOne ?_
  rw [hz, show (4 : Int32) * nI z = nI (4 * z) from by rw [show (4 : Int32) = nI 4 from rfl, pk_mul], n1, n2, n3, nI_clamp (by omega), nI_clamp (by omega), nI_clamp (by omega), nI_clamp (by omega)]
  refine ⟨nIin (by omega) (by omega), fun M1 e1 => ⟨nIin (by omega) (by omega), fun M2 e2 => ⟨nIin (by omega) (by omega), fun M3 e3 => ⟨nIin (by omega) (by omega), fun M4 e4 M5 e5 => zii ?_⟩⟩⟩⟩
  have k56 : M5.1 229 56 = nI (z + 1) := by rw [e5, wI_1, if_pos ⟨rfl, rfl⟩, e4, wI_ne _ (by omega), e3, wI_ne _ (by omega), e2, wI_ne _ (by omega), e1, wI_ne _ (by omega), hz, nI_1]
  rw [k56, nI_pred]
  have k262 : M5.1 262 = M4.1 262 := by rw [e5, wI_ne _ (by omega)]
  refine h M5 k56 (fun j hj => ?_) ?_ ?_ ?_ ?_ (fun j hj => ?_) ?_ (by rw [e5, e4, e3, e2, e1]; rfl)
  · rw [e5, wI_1, if_neg (by omega), e4, wI_ne _ (by omega), e3, wI_ne _ (by omega), e2, wI_ne _ (by omega), e1, wI_ne _ (by omega)]
  · rw [k262, e4, wI_1, if_neg (by omega), e3, wI_1, if_neg (by omega), e2, wI_1, if_neg (by omega), e1, wI_1, if_pos ⟨rfl, rfl⟩]
  · rw [k262, e4, wI_1, if_neg (by omega), e3, wI_1, if_neg (by omega), e2, wI_1, if_pos ⟨rfl, rfl⟩]
  · rw [k262, e4, wI_1, if_neg (by omega), e3, wI_1, if_pos ⟨rfl, rfl⟩]
  · rw [k262, e4, wI_1, if_pos ⟨rfl, rfl⟩]
  · rw [k262, e4, wI_1, if_neg (by omega), e3, wI_1, if_neg (by omega), e2, wI_1, if_neg (by omega), e1, wI_1, if_neg (by omega)]
  · rw [e5, e4, e3, e2, e1]; exact ((((((Same.refl _ M).wI (Or.inr rfl)).wI (Or.inr rfl)).wI (Or.inr rfl)).wI (Or.inr rfl)).wI (Or.inl rfl))
theorem SyR.sy (h : ∀ j, j ≠ 56 → M2.1 229 j = M.1 229 j) (h2 : Same (fun z => z = 229 ∨ z = 262) M M2) : SyR M M2 := ⟨h2, fun j _ a _ _ _ => h j a⟩
theorem TR_s (hT : TR M tx n most s) (h : ∀ j, j ≠ 56 → M2.1 229 j = M.1 229 j) (h2 : Same (fun z => z = 229 ∨ z = 262) M M2) (h3 : M2.2 = M.2) : TR M2 tx n most s := TR_k hT (h2.1 230 (by omega)) (fun j hj => h j (by omega)) (by rw [h3])
/-- a run of pieces with one word between them, the model's -/
theorem r_loop15 {one : Nat → zPs → Sum zFt zSr} (hg : OnG one) (hP : PcR tx n most N v (fun M Q => S_X12_readSaid (d + 3) M (zB Q)) one) {Q : Bool → zMem → Prop} {z0 : Nat} {M0 : zMem} :
    ∀ (c : Nat) (cs : List Int32) (s : zPs) (o : Nat) (M : zMem), 21 ≤ c + o → TR M tx n most s → hdR M N → M.1 229 56 = nI (z0 + cs.length) → M.1 229 57 = nI o → M.1 229 58 = nI v → z0 + cs.length < 2 * o → o ≤ 20 → 0 < cs.length → ndT (prN N).length (M.1 262) cs.length z0 cs → (∀ j, j < 4 * z0 → M.1 262 j = M0.1 262 j) → SyR M0 M → RPost tx n most (prN N).length Q z0 v M0 (slpP tx n most one 15 c cs s o) → S_X12_readAnd_14 (d + 4) (nI (z0 + cs.length - 1)) M (zB Q) := by
  intro c
  induction c with
  | zero => intro cs s o M h2 _ _ _ _ _ _ h3; omega
  | succ c ih =>
    intro cs s o M h2 hT hd hz ho hv hb h20 h0 hc hj hS h
    unfold slpP at h
    refine t_X12_readAnd_14 (e_X12_isWord (d := d + 1) (k := 15) (by omega) hT ?_)
    rw [show piR 15 = 15 by decide]
    refine ⟨fun q M1 e1 => ?_, fun q => ?_⟩
    · have q := of_decide_eq_false q
      rw [if_neg q] at h
      refine zbt (h.2 _ rfl M1 (TR_j hT (by omega) e1) ?_ ?_ ?_ ?_ ?_ ?_ (hS.trans (SyR.w (by omega) e1)))
      · rw [e1, wI_1, if_neg (by omega)]; exact hz
      · rw [e1, wI_1, if_neg (by omega)]; exact ho
      · rw [e1, wI_1, if_neg (by omega)]; exact hv
      · rw [e1, wI_1, if_pos ⟨rfl, rfl⟩]
      · rw [e1, wI_ne _ (by omega)]; exact hc
      · rw [e1, wI_ne _ (by omega)]; exact hj
    have q := of_decide_eq_true q
    rw [if_pos q] at h
    have s2 : s.1.1 = 2 := by
      unfold wdS at q
      split at q
      · assumption
      · cases q
    refine e_X12_go (d := d + 2) hT (by omega) (fun M1 n1 hT1 => ?_)
    have S1 : SyR M M1 := SyR.ro n1.ro
    have k1 : ∀ j, 9 < j → M1.1 229 j = M.1 229 j := fun j hj => n1.2 j (by omega)
    have t1 : M1.1 262 = M.1 262 := n1.1.1 262 (by omega)
    refine hP _ M1 (nx tx n most s) (z0 + cs.length) o hT1 (hr_sy hd S1) (by rw [k1 56 (by omega)]; exact hz) (by rw [k1 57 (by omega)]; exact ho) (by rw [k1 58 (by omega)]; exact hv) (by omega) h20 ⟨fun f hf M2 g1 g2 => ?_, fun r hr M2 hT2 hz2 ho2 hv2 ht2 hc2 hj2 S2 => ?_⟩
    · rw [hf] at h
      exact ⟨fun q => (by cases q), fun _ => zbf (h.1 f rfl M2 g1 ((hS.trans S1).trans g2))⟩
    rw [hr] at h
    refine ⟨fun _ => ?_, fun q => by cases q⟩
    obtain ⟨g1, g2, g3, g4, g5⟩ := (hg o (nx tx n most s) h20).2 r hr
    refine r_say (z := z0 + cs.length + r.1.length) hz2 (by omega) (fun M3 a1 a2 a3 a4 a5 a6 a7 a8 a9 => ?_)
    have l3 : (cs ++ r.1 ++ [nI 15]).length = cs.length + r.1.length + 1 := by simp only [List.length_append, List.length_singleton]
    have e3 : z0 + cs.length + r.1.length = z0 + (cs ++ r.1 ++ [nI 15]).length - 1 := by omega
    rw [e3]
    have o1 : ndT (prN N).length (M3.1 262) cs.length z0 cs := ndT_agree (fun j j1 j2 => by rw [a7 j (by omega), hj2 j (by omega), t1]) hc
    have o2 : ndT (prN N).length (M3.1 262) r.1.length (z0 + cs.length) r.1 := ndT_agree (fun j j1 j2 => a7 j (by omega)) hc2
    refine ih (cs ++ r.1 ++ [nI 15]) r.2.1 r.2.2 M3 (by omega) (TR_s hT2 a2 a8 a9) (hr_sy (hr_sy (hr_sy hd S1) S2) (SyR.sy a2 a8)) ?_ ?_ ?_ ?_ g2 ?_ ?_ (fun j hj3 => ?_) (((hS.trans S1).trans S2).trans (SyR.sy a2 a8)) h
    · rw [a1, l3]; congr 1; omega
    · rw [a2 57 (by omega)]; exact ho2
    · rw [a2 58 (by omega)]; exact hv2
    · rw [l3]; omega
    · rw [l3]; omega
    · rw [l3]
      unfold ndT
      exact Or.inr (Or.inr (Or.inr (Or.inr (Or.inl ⟨cs, r.1, rfl, a3, a4, by rw [a5, ht2], ndT_mono o1 (by omega), ndT_mono o2 (by omega)⟩))))
    · rw [a7 j (by omega), hj2 j (by omega), t1]; exact hj j hj3
theorem r_and {one : Nat → zPs → Sum zFt zSr} (hg : OnG one) (hP : PcR tx n most N v (fun M Q => S_X12_readSaid (d + 3) M (zB Q)) one) : PcR tx n most N v (fun M Q => S_X12_readAnd (d + 4) M (zB Q)) (schP tx n most one 15) := by
  intro Q M s z o hT hd hz ho hv hb h20 h
  unfold schP at h
  refine t_X12_readAnd (hP _ M s z o hT hd hz ho hv hb h20 ⟨fun f hf M2 g1 g2 => ?_, fun r hr M2 hT2 hz2 ho2 hv2 ht2 hc2 hj2 S2 => ?_⟩)
  · rw [hf] at h
    exact ⟨fun q => (by cases q), fun _ => zbf (h.1 f rfl M2 g1 g2)⟩
  rw [hr] at h
  refine ⟨fun _ => ?_, fun q => by cases q⟩
  obtain ⟨g1, g2, g3, g4, g5⟩ := (hg o s h20).2 r hr
  rw [ht2]
  exact r_loop15 hg hP (21 - r.2.2) r.1 r.2.1 r.2.2 M2 (by omega) hT2 (hr_sy hd S2) hz2 ho2 hv2 (by omega) g2 g3 hc2 hj2 S2 h
/-- the same, the other word -/
theorem r_loop14 {one : Nat → zPs → Sum zFt zSr} (hg : OnG one) (hP : PcR tx n most N v (fun M Q => S_X12_readAnd (d + 3) M (zB Q)) one) {Q : Bool → zMem → Prop} {z0 : Nat} {M0 : zMem} :
    ∀ (c : Nat) (cs : List Int32) (s : zPs) (o : Nat) (M : zMem), 21 ≤ c + o → TR M tx n most s → hdR M N → M.1 229 56 = nI (z0 + cs.length) → M.1 229 57 = nI o → M.1 229 58 = nI v → z0 + cs.length < 2 * o → o ≤ 20 → 0 < cs.length → ndT (prN N).length (M.1 262) cs.length z0 cs → (∀ j, j < 4 * z0 → M.1 262 j = M0.1 262 j) → SyR M0 M → RPost tx n most (prN N).length Q z0 v M0 (slpP tx n most one 14 c cs s o) → S_X12_readOr_14 (d + 4) (nI (z0 + cs.length - 1)) M (zB Q) := by
  intro c
  induction c with
  | zero => intro cs s o M h2 _ _ _ _ _ _ h3; omega
  | succ c ih =>
    intro cs s o M h2 hT hd hz ho hv hb h20 h0 hc hj hS h
    unfold slpP at h
    refine t_X12_readOr_14 (e_X12_isWord (d := d + 1) (k := 14) (by omega) hT ?_)
    rw [show piR 14 = 14 by decide]
    refine ⟨fun q M1 e1 => ?_, fun q => ?_⟩
    · have q := of_decide_eq_false q
      rw [if_neg q] at h
      refine zbt (h.2 _ rfl M1 (TR_j hT (by omega) e1) ?_ ?_ ?_ ?_ ?_ ?_ (hS.trans (SyR.w (by omega) e1)))
      · rw [e1, wI_1, if_neg (by omega)]; exact hz
      · rw [e1, wI_1, if_neg (by omega)]; exact ho
      · rw [e1, wI_1, if_neg (by omega)]; exact hv
      · rw [e1, wI_1, if_pos ⟨rfl, rfl⟩]
      · rw [e1, wI_ne _ (by omega)]; exact hc
      · rw [e1, wI_ne _ (by omega)]; exact hj
    have q := of_decide_eq_true q
    rw [if_pos q] at h
    have s2 : s.1.1 = 2 := by
      unfold wdS at q
      split at q
      · assumption
      · cases q
    refine e_X12_go (d := d + 2) hT (by omega) (fun M1 n1 hT1 => ?_)
    have S1 : SyR M M1 := SyR.ro n1.ro
    have k1 : ∀ j, 9 < j → M1.1 229 j = M.1 229 j := fun j hj => n1.2 j (by omega)
    have t1 : M1.1 262 = M.1 262 := n1.1.1 262 (by omega)
    refine hP _ M1 (nx tx n most s) (z0 + cs.length) o hT1 (hr_sy hd S1) (by rw [k1 56 (by omega)]; exact hz) (by rw [k1 57 (by omega)]; exact ho) (by rw [k1 58 (by omega)]; exact hv) (by omega) h20 ⟨fun f hf M2 g1 g2 => ?_, fun r hr M2 hT2 hz2 ho2 hv2 ht2 hc2 hj2 S2 => ?_⟩
    · rw [hf] at h
      exact ⟨fun q => (by cases q), fun _ => zbf (h.1 f rfl M2 g1 ((hS.trans S1).trans g2))⟩
    rw [hr] at h
    refine ⟨fun _ => ?_, fun q => by cases q⟩
    obtain ⟨g1, g2, g3, g4, g5⟩ := (hg o (nx tx n most s) h20).2 r hr
    refine r_say (z := z0 + cs.length + r.1.length) hz2 (by omega) (fun M3 a1 a2 a3 a4 a5 a6 a7 a8 a9 => ?_)
    have l3 : (cs ++ r.1 ++ [nI 14]).length = cs.length + r.1.length + 1 := by simp only [List.length_append, List.length_singleton]
    have e3 : z0 + cs.length + r.1.length = z0 + (cs ++ r.1 ++ [nI 14]).length - 1 := by omega
    rw [e3]
    have o1 : ndT (prN N).length (M3.1 262) cs.length z0 cs := ndT_agree (fun j j1 j2 => by rw [a7 j (by omega), hj2 j (by omega), t1]) hc
    have o2 : ndT (prN N).length (M3.1 262) r.1.length (z0 + cs.length) r.1 := ndT_agree (fun j j1 j2 => a7 j (by omega)) hc2
    refine ih (cs ++ r.1 ++ [nI 14]) r.2.1 r.2.2 M3 (by omega) (TR_s hT2 a2 a8 a9) (hr_sy (hr_sy (hr_sy hd S1) S2) (SyR.sy a2 a8)) ?_ ?_ ?_ ?_ g2 ?_ ?_ (fun j hj3 => ?_) (((hS.trans S1).trans S2).trans (SyR.sy a2 a8)) h
    · rw [a1, l3]; congr 1; omega
    · rw [a2 57 (by omega)]; exact ho2
    · rw [a2 58 (by omega)]; exact hv2
    · rw [l3]; omega
    · rw [l3]; omega
    · rw [l3]
      unfold ndT
      exact Or.inr (Or.inr (Or.inr (Or.inr (Or.inr ⟨cs, r.1, rfl, a3, a4, by rw [a5, ht2], ndT_mono o1 (by omega), ndT_mono o2 (by omega)⟩))))
    · rw [a7 j (by omega), hj2 j (by omega), t1]; exact hj j hj3
theorem r_or {one : Nat → zPs → Sum zFt zSr} (hg : OnG one) (hP : PcR tx n most N v (fun M Q => S_X12_readAnd (d + 3) M (zB Q)) one) : PcR tx n most N v (fun M Q => S_X12_readOr (d + 4) M (zB Q)) (schP tx n most one 14) := by
  intro Q M s z o hT hd hz ho hv hb h20 h
  unfold schP at h
  refine t_X12_readOr (hP _ M s z o hT hd hz ho hv hb h20 ⟨fun f hf M2 g1 g2 => ?_, fun r hr M2 hT2 hz2 ho2 hv2 ht2 hc2 hj2 S2 => ?_⟩)
  · rw [hf] at h
    exact ⟨fun q => (by cases q), fun _ => zbf (h.1 f rfl M2 g1 g2)⟩
  rw [hr] at h
  refine ⟨fun _ => ?_, fun q => by cases q⟩
  obtain ⟨g1, g2, g3, g4, g5⟩ := (hg o s h20).2 r hr
  rw [ht2]
  exact r_loop14 hg hP (21 - r.2.2) r.1 r.2.1 r.2.2 M2 (by omega) hT2 (hr_sy hd S2) hz2 ho2 hv2 (by omega) g2 g3 hc2 hj2 S2 h
/-- which word a ONE begins with, as the model finds it -/
def fwR (s : zPs) : Nat := match wdS s with
  | some w => if 16 ≤ w then w else 24
  | none => 24
theorem wdS_lt2 {w : Nat} (h : wdS s = some w) : w < 24 ∧ s.1.1 = 2 := by
  unfold wdS at h
  split at h
  · exact ⟨(wix_some.mp h).1, by assumption⟩
  · cases h
theorem fw_s : (sgS s 40 = true → sfsP s = some 24 ∧ fwR s = 24 ∧ s.1.1 = 4) ∧ (sgS s 40 = false → (sfsP s = some (fwR s) ∧ 16 ≤ fwR s ∧ fwR s ≤ 23 ∧ s.1.1 = 2) ∨ (sfsP s = none ∧ fwR s = 24)) := by
  unfold sfsP fwR
  refine ⟨fun q => ?_, fun q => ?_⟩
  · have q4 : s.1.1 = 4 := by
      unfold sgS at q
      exact (of_decide_eq_true q).1
    have hw : wdS s = none := by unfold wdS; rw [if_neg (by omega)]
    rw [q, hw]
    exact ⟨by simp, rfl, q4⟩
  · rw [q]
    cases hw : wdS s with
    | none => exact Or.inr ⟨by simp, rfl⟩
    | some w =>
      obtain ⟨l, k2⟩ := wdS_lt2 hw
      by_cases h16 : 16 ≤ w
      · exact Or.inl ⟨by simp [h16], by simp [h16], by simp [h16]; omega, k2⟩
      · exact Or.inr ⟨by simp [h16], by simp [h16]⟩
theorem r_find {Q : Bool → zMem → Prop} {x : Int32} (hT : TR M tx n most s) (h : S_X12_readSaid_30 (d + 3) x (nI (fwR s)) M (zB Q)) : ∀ c k, k + c = 24 → 16 ≤ k → (∀ j, 16 ≤ j → j < k → wdS s ≠ some j) → S_X12_readSaid_10 (d + 3) x (nI k) M (zB Q) := by
  intro c
  induction c with
  | zero =>
    intro k hk h16 hn
    have e : fwR s = 24 := by
      unfold fwR
      cases hw : wdS s with
      | none => rfl
      | some w =>
        obtain ⟨l, -⟩ := wdS_lt2 hw
        by_cases h2 : 16 ≤ w
        · exact absurd hw (hn w h2 (by omega))
        · simp [h2]
    rw [e] at h
    have ek : k = 24 := by omega
    subst ek
    exact t_X12_readSaid_10 ⟨fun _ => h, fun q => absurd (by decide) q⟩
  | succ c ih =>
    intro k hk h16 hn
    refine t_X12_readSaid_10 ⟨fun q => absurd q (by rw [show (23 : Int32) = nI 23 from rfl]; exact nI_nlt (by omega) (by omega)), fun _ => e_X12_isWord (d := d) (k := k) (by omega) hT ?_⟩
    rw [show piR k = k by unfold piR; rw [if_neg (by omega), if_neg (by omega), if_neg (by omega), if_neg (by omega)]]
    refine ⟨fun q => ?_, fun q => ?_⟩
    · have q := of_decide_eq_true q
      have e : fwR s = k := by unfold fwR; rw [q]; simp [h16]
      rw [e] at h
      exact h
    · have q := of_decide_eq_false q
      rw [nI_1]
      exact ih (k + 1) (by omega) (by omega) (fun j j1 j2 => if e : j = k then e ▸ q else hn j j1 (by omega))
/-- the sign there is, as the model has it -/
theorem r_compare {Q : Bool → zMem → Prop} {z o v : Nat} (hT : TR M tx n most s) (hz : M.1 229 56 = nI z) (ho : M.1 229 57 = nI o) (hv : M.1 229 58 = nI v) (h60 : z < 60) (hw : 20 ≤ w ∧ w ≤ 23) (h : RPost tx n most m Q z v M (sleP o (splP tx n most N w s))) : S_X12_readCompare (d + 4) (nI w) M (zB Q) := by
  unfold splP at h
  rw [if_neg (by omega), if_neg (by omega)] at h
  have yes : ∀ r, 60 ≤ r → r ≤ 62 → sgS s r = true → S_X12_readCompare_33 (d + 4) (nI w) M (zB Q) := by
    intro r r1 r2 hr
    have hr2 := of_decide_eq_true hr
    have e : opS s = r := by unfold opS; rw [if_pos hr2.1]; exact hr2.2
    rw [e, if_pos ⟨r1, r2⟩] at h
    have e9 : M.1 229 9 = nI r := by rw [(hT.2.2.2.2.2.2.2 hr2.1).1, hr2.2]
    refine t_X12_readCompare_33 (e_X12_go (d := d + 2) hT (by omega) (fun M1 n1 hT1 => ?_))
    refine e_X12_readNumber (d := d + 1) (lo := 0) (hi := 999) (by omega) (by omega) hT1 (fun f hf M2 g1 g2 => ⟨fun q => (by cases q), fun _ => zbf (h.1 f ?_ M2 g1 ((SyR.ro n1.ro).trans (SyR.ro g2)))⟩) (fun u hu hu2 M2 hT2 k2 g2 => ⟨fun _ => ?_, fun q => by cases q⟩)
    · rw [hf]; rfl
    rw [hu] at h
    have hu3 := (numP_le hu).2
    have k : ∀ j, 13 < j → M2.1 229 j = M.1 229 j := fun j hj => by rw [g2.2 j (by omega), n1.2 j (by omega)]
    rw [k2, e9, show (50 : Int32) = nI 50 from rfl, nI_add]
    refine r_say (z := z) (by rw [k 56 (by omega)]; exact hz) h60 (fun M3 a1 a2 a3 a4 a5 a6 a7 a8 a9 M4 e4 => zbt (h.2 _ rfl M4 (TR_j (TR_s hT2 a2 a8 a9) (by omega) e4) ?_ ?_ ?_ ?_ ?_ (fun j hj => ?_) (((SyR.ro n1.ro).trans (SyR.ro g2)).trans ((SyR.sy a2 a8).trans (SyR.w (by omega) e4)))))
    · rw [e4, wI_1, if_neg (by omega)]; exact a1
    · rw [e4, wI_1, if_neg (by omega), a2 57 (by omega), k 57 (by omega)]; exact ho
    · rw [e4, wI_1, if_neg (by omega), a2 58 (by omega), k 58 (by omega)]; exact hv
    · rw [e4, wI_1, if_pos ⟨rfl, rfl⟩]; rfl
    · rw [e4, wI_ne _ (by omega)]
      show ndT m (M3.1 262) (0 + 1) z _
      unfold ndT
      exact Or.inr (Or.inr (Or.inl ⟨w, r, u, hw.1, hw.2, r1, r2, hu3, rfl, a3, a5, a6⟩))
    · rw [e4, wI_ne _ (by omega), a7 j hj, g2.1.1 262 (by omega), n1.1.1 262 (by omega)]
  have no : ¬ (60 ≤ opS s ∧ opS s ≤ 62) → S_X12_bad (d + 3) 1 M (zB (fun r30 M31 => zB Q (some (.int (bi r30))) M31)) := by
    intro q
    rw [if_neg q] at h
    exact e_X12_bad1 hT (fun M2 g1 g2 => zbr (h.1 _ rfl M2 g1 (SyR.ro g2)))
  have sg : ∀ r, sgS s r = false → ¬ opS s = r ∨ s.1.1 ≠ 4 := by
    intro r hr
    have hr := of_decide_eq_false hr
    unfold opS
    by_cases e : s.1.1 = 4
    · rw [if_pos e]; exact Or.inl (fun q => hr ⟨e, q⟩)
    · exact Or.inr e
  refine t_X12_readCompare (e_X12_isSign (c := 60) (by omega) hT ⟨fun q => yes 60 (by omega) (by omega) q, fun q0 => e_X12_isSign (c := 61) (by omega) hT ⟨fun q => yes 61 (by omega) (by omega) q, fun q1 => e_X12_isSign (c := 62) (by omega) hT ⟨fun q => yes 62 (by omega) (by omega) q, fun q2 => no ?_⟩⟩⟩)
  intro q
  by_cases e : s.1.1 = 4
  · rcases sg 60 q0 with a | a
    rotate_left
    · exact a e
    rcases sg 61 q1 with b | b
    rotate_left
    · exact b e
    rcases sg 62 q2 with c | c
    rotate_left
    · exact c e
    omega
  · unfold opS at q
    rw [if_neg e] at q
    omega
theorem r_of {Q : Bool → zMem → Prop} {z o v : Nat} (hN : okN N) (hd : hdR M N) (hT : TR M tx n most s) (hz : M.1 229 56 = nI z) (ho : M.1 229 57 = nI o) (hv : M.1 229 58 = nI v) (h60 : z < 60) (hw : w = 18 ∨ w = 19) (h : RPost tx n most (prN N).length Q z v M (sleP o (splP tx n most N w s))) : S_X12_readOf (d + 5) (nI w) M (zB Q) := by
  have h4 := hN.2.2.2.2.1
  unfold splP at h
  rw [if_neg (by omega), if_pos hw] at h
  refine t_X12_readOf (t_X12_readPeerName ?_)
  rw [hd.2.2.2.2.1]
  refine e_X12_readNamed (d := d) (o := 24) (by omega) (nr_p hN hd) hT (fun f hf M2 g1 g2 => zbr ⟨fun q => (by cases q), fun _ => zbf (h.1 f ?_ M2 g1 (SyR.ro g2))⟩) (fun p hp hp2 M2 hT2 k2 g2 => zbr ⟨fun _ => ?_, fun q => by cases q⟩)
  · rw [hf]; rfl
  rw [hp] at h
  have k : ∀ j, 13 < j → M2.1 229 j = M.1 229 j := fun j hj => g2.2 j (by omega)
  rw [k2, show (50 : Int32) = nI 50 from rfl, nI_add]
  refine r_say (z := z) (by rw [k 56 (by omega)]; exact hz) h60 (fun M3 a1 a2 a3 a4 a5 a6 a7 a8 a9 M4 e4 => zbt (h.2 _ rfl M4 (TR_j (TR_s hT2 a2 a8 a9) (by omega) e4) ?_ ?_ ?_ ?_ ?_ (fun j hj => ?_) ((SyR.ro g2).trans ((SyR.sy a2 a8).trans (SyR.w (by omega) e4)))))
  · rw [e4, wI_1, if_neg (by omega)]; exact a1
  · rw [e4, wI_1, if_neg (by omega), a2 57 (by omega), k 57 (by omega)]; exact ho
  · rw [e4, wI_1, if_neg (by omega), a2 58 (by omega), k 58 (by omega)]; exact hv
  · rw [e4, wI_1, if_pos ⟨rfl, rfl⟩]; rfl
  · rw [e4, wI_ne _ (by omega)]
    show ndT (prN N).length (M3.1 262) (0 + 1) z _
    unfold ndT
    exact Or.inr (Or.inl ⟨w, p, hw, hp2, rfl, a3, a4⟩)
  · rw [e4, wI_ne _ (by omega), a7 j hj, g2.1.1 262 (by omega)]
theorem r_one (hN : okN N) : ∀ (e d : Nat), e ≤ 8 → PcR tx n most N (8 - e) (fun M Q => S_X12_readSaid (d + (4 * e + 8)) M (zB Q)) (sonP tx n most N e) := by
  intro e
  induction e with
  | zero =>
    intro d he Q M s z o hT hd hz ho hv hb h20 h
    unfold sonP at h
    obtain ⟨f1, f2⟩ := fw_s (s := s)
    have many : ∀ w x1 x2, sfsP s = some w → 2 ≤ s.1.1 → S_X12_readSaid_46 (d + 8) x1 x2 M (zB Q) := by
      intro w x1 x2 hw hk
      rw [hw] at h
      have no : S_X12_bad (d + 7) 4 M (zB (fun r22 M23 => zB Q (some (.int (bi r22))) M23)) := e_X12_bad (k := 4) hT (fun M2 g1 g2 => zbr (h.1 _ (by rw [if_neg (by omega)]) M2 g1 (SyR.ro g2)))
      exact t_X12_readSaid_46 ⟨fun _ => no, fun _ => ⟨fun q => absurd hv q, fun _ => no⟩⟩
    refine t_X12_readSaid (e_X12_isSign (c := 40) (by omega) hT ?_)
    refine r_find (d := d + 5) hT ?_ 8 16 (by omega) (by omega) (fun j a b => by omega)
    cases hs40 : sgS s 40 with
    | true =>
      obtain ⟨a, b, c⟩ := f1 hs40
      exact t_X12_readSaid_30 ⟨fun _ => many 24 _ _ a (by omega), fun q => absurd q (by decide)⟩
    | false =>
      refine t_X12_readSaid_30 ⟨fun q => absurd rfl q, fun _ => ?_⟩
      rcases f2 hs40 with ⟨a, b, c, k2⟩ | ⟨a, b⟩
      · exact ⟨fun _ => many _ _ _ a (by omega), fun q => absurd (nI_le (b := 23) c (by omega)) q⟩
      · rw [b]
        rw [a] at h
        exact ⟨fun q => absurd q (by decide), fun _ => e_X12_bad1 hT (fun M2 g1 g2 => zbr (h.1 _ rfl M2 g1 (SyR.ro g2)))⟩
  | succ e ih =>
    intro d he Q M s z o hT hd hz ho hv hb h20 h
    unfold sonP at h
    obtain ⟨f1, f2⟩ := fw_s (s := s)
    have hv9 : nI (8 - (e + 1)) + 1 = nI (8 - e) := by rw [nI_1]; congr 1; omega
    have hvp : nI (8 - e) - 1 = nI (8 - (e + 1)) := by rw [show 8 - e = (8 - (e + 1)) + 1 by omega, nI_pred]
    have go : ∀ (w : Nat) (x1 x2 : Int32), sfsP s = some w → 2 ≤ s.1.1 → (w = 24 → ¬ x1 = 0) → (w ≠ 24 → x1 = 0 ∧ x2 = nI w ∧ 16 ≤ w ∧ w ≤ 23) → S_X12_readSaid_46 (d + (4 * (e + 1) + 8)) x1 x2 M (zB Q) := by
      intro w x1 x2 hw hk h24 hn24
      rw [hw] at h
      simp only [] at h
      refine t_X12_readSaid_46 (d := d + (4 * e + 11)) ?_
      rw [ho, hv, show (20 : Int32) = nI 20 from rfl, nI_eq (by omega) (by omega), show (8 : Int32) = nI 8 from rfl, nI_eq (by omega) (by omega)]
      refine ⟨fun q => e_X12_bad (k := 4) hT (fun M2 g1 g2 => zbr (h.1 _ (by rw [if_pos (by omega), if_neg (by omega)]) M2 g1 (SyR.ro g2))), fun q => ⟨fun _ => ?_, fun a => by omega⟩⟩
      rw [if_neg (by omega)] at h
      intro M1 e1 M2 e2
      have hT2 : TR M2 tx n most s := TR_j (TR_j hT (by omega) e1) (by omega) e2
      have s2 : SyR M M2 := (SyR.w (by omega) e1).trans (SyR.w (by omega) e2)
      refine e_X12_go (d := d + (4 * e + 10)) hT2 hk (fun M3 n3 hT3 => ?_)
      have s3 : SyR M M3 := s2.trans (SyR.ro n3.ro)
      have hz3 : M3.1 229 56 = nI z := by rw [n3.2 56 (by omega), e2, wI_1, if_neg (by omega), e1, wI_1, if_neg (by omega)]; exact hz
      have ho3 : M3.1 229 57 = nI (o + 1) := by rw [n3.2 57 (by omega), e2, wI_1, if_neg (by omega), e1, wI_1, if_pos ⟨rfl, rfl⟩, nI_1]
      have hv3 : M3.1 229 58 = nI (8 - e) := by rw [n3.2 58 (by omega), e2, wI_1, if_pos ⟨rfl, rfl⟩, e1, wI_1, if_neg (by omega), hv, hv9]
      have t3 : M3.1 262 = M.1 262 := by rw [n3.1.1 262 (by omega), e2, wI_ne _ (by omega), e1, wI_ne _ (by omega)]
      have hd3 := hr_sy hd s3
      -- what comes behind: its 'within' is one more, and is taken back
      have up : ∀ (r : Sum zFt zSr), RPost tx n most (prN N).length Q z (8 - (e + 1)) M r → RPost tx n most (prN N).length (fun b M4 => ∀ M5, M5 = wI M4 229 58 (M4.1 229 58 - 1) → Q b M5) z (8 - e) M3 r := by
        intro r g
        refine ⟨fun f hf M4 g1 g2 M5 e5 => g.1 f hf M5 ⟨?_, ?_⟩ (s3.trans (g2.trans (SyR.w (by omega) e5))), fun r2 hr M4 g1 g2 g3 g4 g5 g6 g7 g8 M5 e5 => g.2 r2 hr M5 (TR_j g1 (by omega) e5) ?_ ?_ ?_ ?_ ?_ (fun j hj => ?_) (s3.trans (g8.trans (SyR.w (by omega) e5)))⟩
        · rw [e5, wI_1, if_neg (by omega)]; exact g1.1
        · rw [e5, wI_1, if_neg (by omega)]; exact g1.2
        · rw [e5, wI_1, if_neg (by omega)]; exact g2
        · rw [e5, wI_1, if_neg (by omega)]; exact g3
        · rw [e5, wI_1, if_pos ⟨rfl, rfl⟩, g4, hvp]
        · rw [e5, wI_1, if_neg (by omega)]; exact g5
        · rw [e5, wI_ne _ (by omega)]; exact g6
        · rw [e5, wI_ne _ (by omega), g7 j hj, t3]
      by_cases hb24 : w = 24
      · refine ⟨fun a => absurd a (h24 hb24), fun _ => ?_⟩
        rw [if_pos hb24] at h
        have h := up _ h
        refine t_X12_readBracket (r_or (d := d + (4 * e + 6)) (schP_g (sonP_g e) (Or.inr rfl)) (r_and (d := d + (4 * e + 5)) (sonP_g e) (ih d (by omega))) _ M3 (nx tx n most s) z (o + 1) hT3 hd3 hz3 ho3 hv3 (by omega) (by omega) ⟨fun f hf M4 g1 g2 => ?_, fun r hr M4 hT4 hz4 ho4 hv4 ht4 hc4 hj4 S4 => ?_⟩)
        · rw [hf] at h
          exact ⟨fun q => (by cases q), fun _ => zbf (fun M5 e5 => zbr (h.1 f rfl M4 g1 g2 M5 e5))⟩
        rw [hr] at h
        unfold sbrP at h
        simp only [] at h
        refine ⟨fun _ => ?_, fun q => by cases q⟩
        refine e_X12_isSign (c := 41) (by omega) hT4 ⟨fun q => ?_, fun q => ?_⟩
        · rw [if_pos q] at h
          have q4 := (of_decide_eq_true q).1
          refine e_X12_go (d := d + (4 * e + 9)) hT4 (by omega) (fun M5 n5 hT5 => zbt (fun M6 e6 => zbr (h.2 _ rfl M5 hT5 ?_ ?_ ?_ ?_ ?_ (fun j hj => ?_) (S4.trans (SyR.ro n5.ro)) M6 e6)))
          · rw [n5.2 56 (by omega)]; exact hz4
          · rw [n5.2 57 (by omega)]; exact ho4
          · rw [n5.2 58 (by omega)]; exact hv4
          · rw [n5.2 59 (by omega)]; exact ht4
          · rw [n5.1.1 262 (by omega)]; exact hc4
          · rw [n5.1.1 262 (by omega)]; exact hj4 j hj
        · rw [if_neg (by rw [q]; decide)] at h
          exact e_X12_bad1 hT4 (fun M5 g1 g2 => zbr (fun M6 e6 => zbr (h.1 _ rfl M5 g1 (S4.trans (SyR.ro g2)) M6 e6)))
      rw [if_neg hb24] at h
      obtain ⟨x10, x2w, w16, w23⟩ := hn24 hb24
      refine ⟨fun _ => ?_, fun a => absurd x10 a⟩
      rw [x2w]
      have e16 : nI w = 16 ↔ w = 16 := by rw [show (16 : Int32) = nI 16 from rfl, nI_eq (by omega) (by omega)]
      refine ⟨fun n16 => ?_, fun q16 => ?_⟩
      · have hn16 : ¬ w = 16 := fun q => n16 (e16.mpr q)
        rw [if_neg hn16] at h
        have h := up _ h
        rw [show (18 : Int32) = nI 18 from rfl, nI_leI (by omega) (by omega), nI_leI (by omega) (by omega)]
        refine ⟨fun q18 => ⟨fun q20 => ?_, fun q20 => ?_⟩, fun q18 => ?_⟩
        · exact r_compare (d := d + (4 * e + 7)) (N := N) hT3 hz3 ho3 hv3 (by omega) ⟨q20, w23⟩ ⟨fun f hf M4 g1 g2 M5 e5 => zbr (h.1 f hf M4 g1 g2 M5 e5), fun r hr M4 a1 a2 a3 a4 a5 a6 a7 a8 M5 e5 => zbr (h.2 r hr M4 a1 a2 a3 a4 a5 a6 a7 a8 M5 e5)⟩
        · exact r_of (d := d + (4 * e + 6)) hN hd3 hT3 hz3 ho3 hv3 (by omega) (by omega) ⟨fun f hf M4 g1 g2 M5 e5 => zbr (h.1 f hf M4 g1 g2 M5 e5), fun r hr M4 a1 a2 a3 a4 a5 a6 a7 a8 M5 e5 => zbr (h.2 r hr M4 a1 a2 a3 a4 a5 a6 a7 a8 M5 e5)⟩
        · have w17 : w = 17 := by omega
          subst w17
          unfold splP at h
          rw [if_pos rfl] at h
          refine r_say (z := z) hz3 (by omega) (fun M4 a1 a2 a3 a4 a5 a6 a7 a8 a9 M5 e5 M6 e6 => zbt (h.2 _ rfl M5 (TR_j (TR_s hT3 a2 a8 a9) (by omega) e5) ?_ ?_ ?_ ?_ ?_ (fun j hj => ?_) ((SyR.sy a2 a8).trans (SyR.w (by omega) e5)) M6 e6))
          · rw [e5, wI_1, if_neg (by omega)]; exact a1
          · rw [e5, wI_1, if_neg (by omega), a2 57 (by omega)]; exact ho3
          · rw [e5, wI_1, if_neg (by omega), a2 58 (by omega)]; exact hv3
          · rw [e5, wI_1, if_pos ⟨rfl, rfl⟩]; rfl
          · rw [e5, wI_ne _ (by omega)]
            show ndT (prN N).length (M4.1 262) (0 + 1) z _
            unfold ndT
            exact Or.inl ⟨rfl, a3⟩
          · rw [e5, wI_ne _ (by omega), a7 j hj]
      · have h16 : w = 16 := e16.mp q16
        rw [if_pos h16] at h
        have h := up _ h
        have ih2 := ih (d + 2) (by omega)
        rw [show d + 2 + (4 * e + 8) = d + (4 * e + 10) by omega] at ih2
        refine t_X12_readNot (ih2 _ M3 (nx tx n most s) z (o + 1) hT3 hd3 hz3 ho3 hv3 (by omega) (by omega) ⟨fun f hf M4 g1 g2 => ?_, fun r hr M4 hT4 hz4 ho4 hv4 ht4 hc4 hj4 S4 => ?_⟩)
        · rw [hf] at h
          exact ⟨fun q => (by cases q), fun _ => zbf (fun M5 e5 => zbr (h.1 f rfl M4 g1 g2 M5 e5))⟩
        rw [hr] at h
        refine ⟨fun _ => ?_, fun q => by cases q⟩
        obtain ⟨g1, g2, g3, g4, g5⟩ := (sonP_g (tx := tx) (n := n) (most := most) (N := N) e (o + 1) (nx tx n most s) (by omega)).2 r hr
        rw [ht4]
        refine r_say (z := z + r.1.length) hz4 (by omega) (fun M5 a1 a2 a3 a4 a5 a6 a7 a8 a9 M6 e6 => zbt (fun M7 e7 => zbr (h.2 _ rfl M6 (TR_j (TR_s hT4 a2 a8 a9) (by omega) e6) ?_ ?_ ?_ ?_ ?_ (fun j hj => ?_) (S4.trans ((SyR.sy a2 a8).trans (SyR.w (by omega) e6))) M7 e7)))
        · rw [e6, wI_1, if_neg (by omega), a1]
          show nI _ = nI (z + (r.1 ++ [16]).length)
          rw [List.length_append, List.length_singleton]; congr 1
        · rw [e6, wI_1, if_neg (by omega), a2 57 (by omega)]; exact ho4
        · rw [e6, wI_1, if_neg (by omega), a2 58 (by omega)]; exact hv4
        · rw [e6, wI_1, if_pos ⟨rfl, rfl⟩]
          show nI _ = nI (z + (r.1 ++ [16]).length - 1)
          rw [List.length_append, List.length_singleton]; congr 1
        · rw [e6, wI_ne _ (by omega)]
          show ndT (prN N).length (M5.1 262) (r.1 ++ [16]).length z (r.1 ++ [16])
          rw [List.length_append, List.length_singleton]
          unfold ndT
          exact Or.inr (Or.inr (Or.inr (Or.inl ⟨r.1, rfl, a3, a4, ndT_agree (fun j j1 j2 => a7 j (by omega)) hc4⟩)))
        · rw [e6, wI_ne _ (by omega), a7 j (by omega)]; exact hj4 j hj
    refine t_X12_readSaid (d := d + (4 * (e + 1) + 7)) (e_X12_isSign (c := 40) (by omega) hT ?_)
    refine r_find (d := d + (4 * (e + 1) + 5)) hT ?_ 8 16 (by omega) (by omega) (fun j a b => by omega)
    cases hs40 : sgS s 40 with
    | true =>
      obtain ⟨a, b, c⟩ := f1 hs40
      exact t_X12_readSaid_30 (d := d + (4 * (e + 1) + 7)) ⟨fun _ => go 24 _ _ a (by omega) (fun _ => by decide) (fun q => absurd rfl q), fun q => absurd q (by decide)⟩
    | false =>
      refine t_X12_readSaid_30 (d := d + (4 * (e + 1) + 7)) ⟨fun q => absurd rfl q, fun _ => ?_⟩
      rcases f2 hs40 with ⟨a, b, c, k2⟩ | ⟨a, b⟩
      · exact ⟨fun _ => go _ _ _ a (by omega) (fun q => by omega) (fun _ => ⟨rfl, rfl, b, c⟩), fun q => absurd (nI_le (b := 23) c (by omega)) q⟩
      · rw [b]
        rw [a] at h
        exact ⟨fun q => absurd q (by decide), fun _ => e_X12_bad1 hT (fun M2 g1 g2 => zbr (h.1 _ rfl M2 g1 (SyR.ro g2)))⟩
end
