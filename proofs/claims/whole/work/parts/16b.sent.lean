-- ===== the class reads a SENTENCE =====
theorem cd_or {w r b : Nat} (hw : w < 256) (hr : r < 256) (hb : b < 32768) : (nI w ||| (nI r <<< ((8 : Int32) &&& 31))) ||| (nI b <<< ((16 : Int32) &&& 31)) = nI (w + 256 * r + 65536 * b) := by
  have e8 : nI r <<< ((8 : Int32) &&& 31) = nI (r * 2 ^ 8) := pk_shlN _ 8 (by decide) (by omega)
  have e16 : nI b <<< ((16 : Int32) &&& 31) = nI (b * 2 ^ 16) := pk_shlN _ 16 (by decide) (by omega)
  rw [e8, e16]
  have o1 : w ||| r * 2 ^ 8 = w + 256 * r := by
    rw [Nat.or_comm, ← Nat.shiftLeft_eq, ← Nat.shiftLeft_add_eq_or_of_lt (by omega), Nat.shiftLeft_eq]; omega
  have o2 : (w + 256 * r) ||| b * 2 ^ 16 = w + 256 * r + 65536 * b := by
    rw [Nat.or_comm, ← Nat.shiftLeft_eq, ← Nat.shiftLeft_add_eq_or_of_lt (by omega), Nat.shiftLeft_eq]; omega
  apply tn_inj
  show ((nI w ||| nI (r * 2 ^ 8)) ||| nI (b * 2 ^ 16)).toBitVec.toNat = tn _
  rw [Int32.toBitVec_or, BitVec.toNat_or, Int32.toBitVec_or, BitVec.toNat_or]
  show (tn (nI w) ||| tn (nI (r * 2 ^ 8))) ||| tn (nI (b * 2 ^ 16)) = tn _
  rw [tn_nI (by omega), tn_nI (by omega), tn_nI (by omega), tn_nI (by omega), o1, o2]
def SyS (M M2 : zMem) : Prop := Same (fun z => z = 220 ∨ z = 30 ∨ z = 31) M M2
theorem SyS.fl {M M2 : zMem} (h : FlC M M2) : SyS M M2 := h.1.mono (fun _ hz => Or.inl hz)
theorem SyS.nx {M M2 : zMem} (h : NxC M M2) : SyS M M2 := h.1.mono (fun _ hz => Or.inl hz)
/-- codes at a place of the class's row -/
def cdsC (M : zMem) (z : Nat) (cs : List Int32) : Prop := ∀ i c, cs[i]? = some c → M.1 31 (z + i) = c
theorem cdsC_app {M : zMem} {z : Nat} {a b : List Int32} (h1 : cdsC M z a) (h2 : cdsC M (z + a.length) b) : cdsC M z (a ++ b) := by
  intro i c hc
  rw [List.getElem?_append] at hc
  split at hc
  · exact h1 i c hc
  · rename_i q
    have := h2 _ c hc
    rw [show z + a.length + (i - a.length) = z + i by omega] at this
    exact this
theorem cdsC_same {M M2 : zMem} {z : Nat} {a : List Int32} (h : cdsC M z a) (h1 : ∀ j, j < z + a.length → M2.1 31 j = M.1 31 j) : cdsC M2 z a := by
  intro i c hc
  rw [h1 _ (by have := (List.getElem?_eq_some_iff.mp hc).1; omega)]
  exact h i c hc
theorem cdsC_1 {M : zMem} {z : Nat} {c : Int32} (h : M.1 31 z = c) : cdsC M z [c] := by
  intro i c2 hc
  cases i with
  | zero => cases hc; exact h
  | succ i => cases hc
def SPost (tx : Nat → Nat) (n most : Nat) (Q : Bool → zMem → Prop) (z : Nat) (M : zMem) (o : Sum zFt zSr) : Prop :=
  (∀ f, o = .inl f → ∀ M2, ftC M2 f → SyS M M2 → Q false M2) ∧ ∀ r, o = .inr r → ∀ M2, TC M2 tx n most r.2.1 → M2.1 30 1 = nI (z + r.1.length) → M2.1 30 2 = nI r.2.2 → cdsC M2 z r.1 → (∀ j, j < z → M2.1 31 j = M.1 31 j) → M2.1 220 11 = M.1 220 11 → SyS M M2 → Q true M2
/-- a piece of the class's: it does as 'one' tells -/
def PcC (tx : Nat → Nat) (n most : Nat) (N : zNm) (proc : zMem → (Bool → zMem → Prop) → Prop) (one : Nat → zPs → Sum zFt zSr) : Prop :=
  ∀ (Q : Bool → zMem → Prop) (M : zMem) (s : zPs) (z o : Nat), TC M tx n most s → hdC M 3 N → M.1 30 1 = nI z → M.1 30 2 = nI o → z ≤ 2 * o → o ≤ 20 → SPost tx n most Q z M (one o s) → proc M Q
section
variable {d n most k w p : Nat} {M M2 M3 : zMem} {N : zNm} {tx : Nat → Nat} {s : zPs} {f : zFt}
theorem hd_sy (hd : hdC M 3 N) (h : SyS M M2) : hdC M2 3 N := hdC_same hd (h.1 3 (by omega)) (fun z hz => h.2 z (by omega))
/-- a code is added -/
theorem c_add {Q : zMem → Prop} {z w r b : Nat} (hw : w < 256) (hr : r < 256) (hb : b < 32768) (hz : M.1 30 1 = nI z) (h60 : z < 60) (h : ∀ M2, M2.1 30 1 = nI (z + 1) → M2.1 30 2 = M.1 30 2 → M2.1 31 z = nI (w + 256 * r + 65536 * b) → (∀ j, j ≠ z → M2.1 31 j = M.1 31 j) → Same (fun z => z = 30 ∨ z = 31) M M2 → Q M2) : S_X7_add d 30 (nI w) (nI r) (nI b) M (zU Q) := by
  refine t_X7_add (by decide) ?_
  rw [hz, nI_clamp (by omega), cd_or hw hr hb]
  refine ⟨fun q => absurd q (by rw [show (60 : Int32) = nI 60 from rfl]; exact nI_ge (by omega) (by omega)), fun _ => ⟨nIin h60 (by omega), fun M1 e1 M3 e3 => zuu (h M3 ?_ ?_ ?_ (fun j hj => ?_) ?_)⟩⟩
  · rw [e3, wI_1, if_pos ⟨rfl, rfl⟩, e1, wI_ne _ (by omega), hz, nI_1]
  · rw [e3, wI_1, if_neg (by omega), e1, wI_ne _ (by omega)]
  · rw [e3, wI_ne _ (by omega), e1, wI_1, if_pos ⟨rfl, rfl⟩]
  · rw [e3, wI_ne _ (by omega), e1, wI_1, if_neg (by omega)]
  · rw [e3, e1]; exact ((Same.refl _ M).wI (Or.inr rfl)).wI (Or.inl rfl)
theorem TC_a (h : TC M tx n most s) (hS : Same (fun z => z = 30 ∨ z = 31) M M2) : TC M2 tx n most s := TC_o h (hS.1 1 (by omega)) (hS.1 220 (by omega)) (hS.2 220 (by omega))
theorem SyS.a (h : Same (fun z => z = 30 ∨ z = 31) M M2) : SyS M M2 := h.mono (fun _ hz => Or.inr hz)
/-- a run of pieces with one word between them: the words 15, 14 -/
theorem s_loop15 {one : Nat → zPs → Sum zFt zSr} {x : Int32} (hg : OnG one) (hP : PcC tx n most N (fun M Q => S_X7_readOne (d + 3) 30 3 x M (zB Q)) one) {Q : Bool → zMem → Prop} {z0 : Nat} {M0 : zMem} :
    ∀ (c i : Nat) (cs : List Int32) (s : zPs) (o : Nat) (M : zMem), i + c ≤ 40 → 21 ≤ c + o → TC M tx n most s → hdC M 3 N → M.1 30 1 = nI (z0 + cs.length) → M.1 30 2 = nI o → z0 + cs.length < 2 * o → o ≤ 20 → 0 < cs.length → cdsC M z0 cs → (∀ j, j < z0 → M.1 31 j = M0.1 31 j) → M.1 220 11 = M0.1 220 11 → SyS M0 M → SPost tx n most Q z0 M0 (slpP tx n most one 15 c cs s o) → S_X7_readAll_15 (d + 4) 30 3 x (nI i) M (zB Q) := by
  intro c
  induction c with
  | zero => intro i cs s o M h1 h2 _ _ _ _ _ h3; omega
  | succ c ih =>
    intro i cs s o M h1 h2 hT hd hz ho hb h20 h0 hc hj h11 hS h
    have h6 := TkC_6 hT.2
    have e15 : M.1 220 6 = 15 ↔ wdS s = some 15 := by
      rw [h6]
      cases hw : wdS s with
      | none => exact ⟨fun q => absurd q (by decide), fun q => by cases q⟩
      | some v =>
        have hv : v < 24 := by
          unfold wdS at hw
          split at hw
          · exact (wix_some.mp hw).1
          · cases hw
        rw [show upI (some v) = nI v from rfl, show (15 : Int32) = nI 15 from rfl, nI_eq (by omega) (by omega)]
        exact ⟨fun q => by rw [q], fun q => by cases q; rfl⟩
    unfold slpP at h
    refine t_X7_readAll_15 (by decide) (by decide) ⟨fun q => absurd q (by rw [show (940 : Int32) = nI 940 from rfl]; exact nI_ge (by omega) (by omega)), fun _ => ⟨fun q => ?_, fun q => ?_⟩⟩
    · rw [if_neg (fun w => q (e15.mpr w))] at h
      exact zbt (h.2 _ rfl M hT hz ho hc hj h11 hS)
    have hw := e15.mp q
    rw [if_pos hw] at h
    refine e_X6_next (d := d + 1) hT (fun M1 n1 hT1 => ?_)
    have hz1 : M1.1 30 1 = nI (z0 + cs.length) := by rw [n1.1.1 30 (by omega)]; exact hz
    have ho1 : M1.1 30 2 = nI o := by rw [n1.1.1 30 (by omega)]; exact ho
    have S1 : SyS M0 M1 := hS.trans (SyS.nx n1)
    refine hP _ M1 (nx tx n most s) (z0 + cs.length) o hT1 (hd_sy hd (SyS.nx n1)) hz1 ho1 (by omega) h20 ⟨fun f hf M2 g1 g2 => ?_, fun r hr M2 hT2 hz2 ho2 hc2 hj2 k2 S2 => ?_⟩
    · rw [hf] at h
      exact ⟨fun q => (by cases q), fun _ => zbf (h.1 f rfl M2 g1 (S1.trans g2))⟩
    rw [hr] at h
    refine ⟨fun _ => ?_, fun q => by cases q⟩
    obtain ⟨g1, g2, g3, g4, g5⟩ := (hg o (nx tx n most s) h20).2 r hr
    refine c_add (d := d + 3) (w := 15) (r := 0) (b := 0) (by omega) (by omega) (by omega) hz2 (by omega) (fun M3 a1 a2 a3 a4 a5 => ?_)
    have l3 : (cs ++ r.1 ++ [nI 15]).length = cs.length + r.1.length + 1 := by simp only [List.length_append, List.length_singleton]
    have e31 : ∀ j, j < z0 + cs.length → M3.1 31 j = M.1 31 j := fun j hj3 => by rw [a4 j (by omega), hj2 j hj3, n1.1.1 31 (by omega)]
    rw [nI_1]
    refine ih (i + 1) (cs ++ r.1 ++ [nI 15]) r.2.1 r.2.2 M3 (by omega) (by omega) (TC_a hT2 a5) (hd_sy (hd_sy (hd_sy hd (SyS.nx n1)) S2) (SyS.a a5)) ?_ ?_ ?_ g2 ?_ ?_ ?_ ?_ ((S1.trans S2).trans (SyS.a a5)) ?_
    · rw [a1, l3]; congr 1; omega
    · rw [a2]; exact ho2
    · rw [l3]; omega
    · rw [l3]; omega
    · refine cdsC_app (cdsC_app (cdsC_same hc e31) (cdsC_same hc2 (fun j hj3 => a4 j (by omega)))) (cdsC_1 ?_)
      rw [List.length_append, show z0 + (cs.length + r.1.length) = z0 + cs.length + r.1.length by omega, a3]
    · exact fun j hj3 => by rw [e31 j (by omega)]; exact hj j hj3
    · rw [a5.1 220 (by omega), k2, n1.2 11 (by omega)]; exact h11
    · exact h
theorem s_loop14 {one : Nat → zPs → Sum zFt zSr} {x : Int32} (hg : OnG one) (hP : PcC tx n most N (fun M Q => S_X7_readAll (d + 3) 30 3 x M (zB Q)) one) {Q : Bool → zMem → Prop} {z0 : Nat} {M0 : zMem} :
    ∀ (c i : Nat) (cs : List Int32) (s : zPs) (o : Nat) (M : zMem), i + c ≤ 40 → 21 ≤ c + o → TC M tx n most s → hdC M 3 N → M.1 30 1 = nI (z0 + cs.length) → M.1 30 2 = nI o → z0 + cs.length < 2 * o → o ≤ 20 → 0 < cs.length → cdsC M z0 cs → (∀ j, j < z0 → M.1 31 j = M0.1 31 j) → M.1 220 11 = M0.1 220 11 → SyS M0 M → SPost tx n most Q z0 M0 (slpP tx n most one 14 c cs s o) → S_X7_readCond_15 (d + 4) 30 3 x (nI i) M (zB Q) := by
  intro c
  induction c with
  | zero => intro i cs s o M h1 h2 _ _ _ _ _ h3; omega
  | succ c ih =>
    intro i cs s o M h1 h2 hT hd hz ho hb h20 h0 hc hj h11 hS h
    have h6 := TkC_6 hT.2
    have e14 : M.1 220 6 = 14 ↔ wdS s = some 14 := by
      rw [h6]
      cases hw : wdS s with
      | none => exact ⟨fun q => absurd q (by decide), fun q => by cases q⟩
      | some v =>
        have hv : v < 24 := by
          unfold wdS at hw
          split at hw
          · exact (wix_some.mp hw).1
          · cases hw
        rw [show upI (some v) = nI v from rfl, show (14 : Int32) = nI 14 from rfl, nI_eq (by omega) (by omega)]
        exact ⟨fun q => by rw [q], fun q => by cases q; rfl⟩
    unfold slpP at h
    refine t_X7_readCond_15 (by decide) (by decide) ⟨fun q => absurd q (by rw [show (940 : Int32) = nI 940 from rfl]; exact nI_ge (by omega) (by omega)), fun _ => ⟨fun q => ?_, fun q => ?_⟩⟩
    · rw [if_neg (fun w => q (e14.mpr w))] at h
      exact zbt (h.2 _ rfl M hT hz ho hc hj h11 hS)
    have hw := e14.mp q
    rw [if_pos hw] at h
    refine e_X6_next (d := d + 1) hT (fun M1 n1 hT1 => ?_)
    have hz1 : M1.1 30 1 = nI (z0 + cs.length) := by rw [n1.1.1 30 (by omega)]; exact hz
    have ho1 : M1.1 30 2 = nI o := by rw [n1.1.1 30 (by omega)]; exact ho
    have S1 : SyS M0 M1 := hS.trans (SyS.nx n1)
    refine hP _ M1 (nx tx n most s) (z0 + cs.length) o hT1 (hd_sy hd (SyS.nx n1)) hz1 ho1 (by omega) h20 ⟨fun f hf M2 g1 g2 => ?_, fun r hr M2 hT2 hz2 ho2 hc2 hj2 k2 S2 => ?_⟩
    · rw [hf] at h
      exact ⟨fun q => (by cases q), fun _ => zbf (h.1 f rfl M2 g1 (S1.trans g2))⟩
    rw [hr] at h
    refine ⟨fun _ => ?_, fun q => by cases q⟩
    obtain ⟨g1, g2, g3, g4, g5⟩ := (hg o (nx tx n most s) h20).2 r hr
    refine c_add (d := d + 3) (w := 14) (r := 0) (b := 0) (by omega) (by omega) (by omega) hz2 (by omega) (fun M3 a1 a2 a3 a4 a5 => ?_)
    have l3 : (cs ++ r.1 ++ [nI 14]).length = cs.length + r.1.length + 1 := by simp only [List.length_append, List.length_singleton]
    have e31 : ∀ j, j < z0 + cs.length → M3.1 31 j = M.1 31 j := fun j hj3 => by rw [a4 j (by omega), hj2 j hj3, n1.1.1 31 (by omega)]
    rw [nI_1]
    refine ih (i + 1) (cs ++ r.1 ++ [nI 14]) r.2.1 r.2.2 M3 (by omega) (by omega) (TC_a hT2 a5) (hd_sy (hd_sy (hd_sy hd (SyS.nx n1)) S2) (SyS.a a5)) ?_ ?_ ?_ g2 ?_ ?_ ?_ ?_ ((S1.trans S2).trans (SyS.a a5)) ?_
    · rw [a1, l3]; congr 1; omega
    · rw [a2]; exact ho2
    · rw [l3]; omega
    · rw [l3]; omega
    · refine cdsC_app (cdsC_app (cdsC_same hc e31) (cdsC_same hc2 (fun j hj3 => a4 j (by omega)))) (cdsC_1 ?_)
      rw [List.length_append, show z0 + (cs.length + r.1.length) = z0 + cs.length + r.1.length by omega, a3]
    · exact fun j hj3 => by rw [e31 j (by omega)]; exact hj j hj3
    · rw [a5.1 220 (by omega), k2, n1.2 11 (by omega)]; exact h11
    · exact h

theorem s_all {one : Nat → zPs → Sum zFt zSr} {x : Int32} (hg : OnG one) (hP : PcC tx n most N (fun M Q => S_X7_readOne (d + 3) 30 3 x M (zB Q)) one) : PcC tx n most N (fun M Q => S_X7_readAll (d + 4) 30 3 x M (zB Q)) (schP tx n most one 15) := by
  intro Q M s z o hT hd hz ho hb h20 h
  unfold schP at h
  refine t_X7_readAll (by decide) (by decide) ?_
  refine hP _ M s z o hT hd hz ho hb h20 ⟨fun f hf M2 g1 g2 => ?_, fun r hr M2 hT2 hz2 ho2 hc2 hj2 k2 S2 => ?_⟩
  · rw [hf] at h
    exact ⟨fun q => (by cases q), fun _ => zbf (h.1 f rfl M2 g1 g2)⟩
  rw [hr] at h
  refine ⟨fun _ => ?_, fun q => by cases q⟩
  obtain ⟨g1, g2, g3, g4, g5⟩ := (hg o s h20).2 r hr
  exact s_loop15 hg hP (21 - r.2.2) 0 r.1 r.2.1 r.2.2 M2 (by omega) (by omega) hT2 (hd_sy hd S2) hz2 ho2 (by omega) g2 g3 hc2 hj2 k2 S2 h
theorem s_cond {one : Nat → zPs → Sum zFt zSr} {x : Int32} (hg : OnG one) (hP : PcC tx n most N (fun M Q => S_X7_readAll (d + 3) 30 3 x M (zB Q)) one) : PcC tx n most N (fun M Q => S_X7_readCond (d + 4) 30 3 x M (zB Q)) (schP tx n most one 14) := by
  intro Q M s z o hT hd hz ho hb h20 h
  unfold schP at h
  refine t_X7_readCond (by decide) (by decide) ?_
  refine hP _ M s z o hT hd hz ho hb h20 ⟨fun f hf M2 g1 g2 => ?_, fun r hr M2 hT2 hz2 ho2 hc2 hj2 k2 S2 => ?_⟩
  · rw [hf] at h
    exact ⟨fun q => (by cases q), fun _ => zbf (h.1 f rfl M2 g1 g2)⟩
  rw [hr] at h
  refine ⟨fun _ => ?_, fun q => by cases q⟩
  obtain ⟨g1, g2, g3, g4, g5⟩ := (hg o s h20).2 r hr
  exact s_loop14 hg hP (21 - r.2.2) 0 r.1 r.2.1 r.2.2 M2 (by omega) (by omega) hT2 (hd_sy hd S2) hz2 ho2 (by omega) g2 g3 hc2 hj2 k2 S2 h
/-- the sign there is, as the class has it -/
theorem TkC_op (h : TkC M n most s.1) : M.1 220 9 = nI (opS s) ∧ opS s < 63 := by
  obtain ⟨-, -, h4, k0, k1, k2, k3, k4⟩ := h
  unfold opS
  rcases (show s.1.1 = 0 ∨ s.1.1 = 1 ∨ s.1.1 = 2 ∨ s.1.1 = 3 ∨ s.1.1 = 4 by omega) with e | e | e | e | e
  · rw [(k0 e).2.2, if_neg (by omega)]; exact ⟨rfl, by omega⟩
  · rw [(k1 e).2.2, if_neg (by omega)]; exact ⟨rfl, by omega⟩
  · rw [(k2 e).2.2.1, if_neg (by omega)]; exact ⟨rfl, by omega⟩
  · rw [(k3 e).2.2.1, if_neg (by omega)]; exact ⟨rfl, by omega⟩
  · have := isS_lt (k4 e).2.2.2
    rw [(k4 e).2.2.1, if_pos e]; exact ⟨rfl, this⟩
/-- a ONE that is no bracket and no 'not': what stands behind its word -/
theorem s_plain {Q : Bool → zMem → Prop} {z o : Nat} (hN : okN N) (hT : TC M tx n most s) (hd : hdC M 3 N) (hz : M.1 30 1 = nI z) (h60 : z < 60) (hw : 17 ≤ w ∧ w ≤ 23) (ho : M.1 30 2 = nI o) (h : SPost tx n most Q z M (sleP o (splP tx n most N w s))) : S_X7_readPlainOne (d + 4) 30 3 (nI w) M (zB Q) := by
  have h4 := hN.2.2.2.2.1
  unfold splP at h
  obtain ⟨k9, l9⟩ := TkC_op hT.2
  have e17 : nI w = 17 ↔ w = 17 := by rw [show (17 : Int32) = nI 17 from rfl, nI_eq (by omega) (by omega)]
  have e18 : nI w = 18 ↔ w = 18 := by rw [show (18 : Int32) = nI 18 from rfl, nI_eq (by omega) (by omega)]
  have e19 : nI w = 19 ↔ w = 19 := by rw [show (19 : Int32) = nI 19 from rfl, nI_eq (by omega) (by omega)]
  have put : ∀ (r b : Nat) (M1 : zMem) (K : zMem → Prop), r < 256 → b < 32768 → SyS M M1 → M1.1 30 = M.1 30 → M1.1 31 = M.1 31 → (∀ M2, SyS M M2 → M2.1 30 1 = nI (z + 1) → M2.1 30 2 = nI o → cdsC M2 z [nI (w + 256 * r + 65536 * b)] → (∀ j, j < z → M2.1 31 j = M.1 31 j) → Same (fun z => z = 30 ∨ z = 31) M1 M2 → K M2) → S_X7_add (d + 3) 30 (nI w) (nI r) (nI b) M1 (zU K) := by
    intro r b M1 K hr hb S1 e30 e31 k
    refine c_add (by omega) hr hb (by rw [e30]; exact hz) h60 (fun M2 a1 a2 a3 a4 a5 => k M2 (S1.trans (SyS.a a5)) a1 (by rw [a2, e30]; exact ho) (cdsC_1 a3) (fun j hj => by rw [a4 j (by omega), e31]) a5)
  have peer : (w = 18 ∨ w = 19) → S_X7_readPlainOne_27 (d + 4) 30 3 (nI w) M (zB Q) := by
    intro hw2
    rw [if_neg (by omega), if_pos hw2] at h
    refine t_X7_readPlainOne_27 (by decide) (by decide) (e_X6_seePeer (d := d + 1) (by decide) hd.2.2.2.2.1 h4 (nm_p hN hd) hT (fun f hf M2 g1 g2 => ⟨fun q => absurd rfl q, fun _ => zbf (h.1 f ?_ M2 g1 (SyS.fl g2))⟩) (fun p hp hp2 => ⟨fun _ => ?_, fun q => absurd q (nI_m1 (by omega))⟩))
    · rw [hf]; rfl
    rw [hp] at h
    refine put 0 p M _ (by omega) (by omega) (Same.refl _ _) rfl rfl (fun M2 S2 a1 a2 a3 a4 a5 => ?_)
    refine e_X6_next (d := d + 1) (TC_a hT a5) (fun M3 n3 hT3 => zbt (h.2 _ rfl M3 hT3 ?_ ?_ ?_ (fun j hj => ?_) ?_ (S2.trans (SyS.nx n3))))
    · rw [n3.1.1 30 (by omega)]; exact a1
    · rw [n3.1.1 30 (by omega)]; exact a2
    · exact cdsC_same a3 (fun j _ => by rw [n3.1.1 31 (by omega)])
    · rw [n3.1.1 31 (by omega)]; exact a4 j hj
    · rw [n3.2 11 (by omega), a5.1 220 (by omega)]
  refine t_X7_readPlainOne (by decide) (by decide) ⟨fun n17 => ⟨fun q18 => peer (Or.inl (e18.mp q18)), fun n18 => ⟨fun n19 => ?_, fun q19 => peer (Or.inr (e19.mp q19))⟩⟩, fun q17 => ?_⟩
  · -- a comparing
    have hw3 : ¬ w = 17 ∧ ¬ w = 18 ∧ ¬ w = 19 := ⟨fun q => n17 (e17.mpr q), fun q => n18 (e18.mpr q), fun q => n19 (e19.mpr q)⟩
    rw [if_neg hw3.1, if_neg (by omega)] at h
    rw [k9, show (60 : Int32) = nI 60 from rfl, nI_ltI (by omega) (by omega), show (62 : Int32) = nI 62 from rfl, nI_leI (by omega) (by omega)]
    have no : ¬ (60 ≤ opS s ∧ opS s ≤ 62) → ∀ M2, ftC M2 (1, plS s) → FlC M M2 → Q false M2 := fun q M2 g1 g2 => h.1 _ (by rw [if_neg q]; rfl) M2 g1 (SyS.fl g2)
    refine ⟨fun q => e_X6_fail (k := 1) hT (fun M2 g1 g2 => zbr (no (by omega) M2 g1 g2)), fun q => ⟨fun q2 => ?_, fun q2 => e_X6_fail (k := 1) hT (fun M2 g1 g2 => zbr (no (by omega) M2 g1 g2))⟩⟩
    rw [if_pos ⟨by omega, q2⟩] at h
    refine e_X6_next (d := d + 1) hT (fun M1 n1 hT1 => ?_)
    refine e_X6_seeNumber (d := d + 2) (lo := 0) (hi := 999) (by omega) (by omega) hT1 (fun f hf M2 g1 g2 => ⟨fun q => absurd rfl q, fun _ => zbf (h.1 f ?_ M2 g1 ((SyS.nx n1).trans (SyS.fl g2)))⟩) (fun v hv hv2 => ⟨fun _ => ?_, fun q => absurd q (nI_m1 (by omega))⟩)
    · rw [hf]; rfl
    rw [hv] at h
    refine e_X6_next (d := d + 1) hT1 (fun M3 n3 hT3 => ?_)
    refine put (opS s) v M3 _ (by omega) (by omega) ((SyS.nx n1).trans (SyS.nx n3)) ?_ ?_ (fun M2 S2 a1 a2 a3 a4 a5 => zbt (h.2 _ rfl M2 (TC_a hT3 a5) a1 a2 a3 a4 ?_ S2))
    · rw [n3.1.1 30 (by omega), n1.1.1 30 (by omega)]
    · rw [n3.1.1 31 (by omega), n1.1.1 31 (by omega)]
    · rw [a5.1 220 (by omega), n3.2 11 (by omega), n1.2 11 (by omega)]
  · -- torn
    have hw1 : w = 17 := e17.mp q17
    rw [if_pos hw1] at h
    refine put 0 0 M _ (by omega) (by omega) (Same.refl _ _) rfl rfl (fun M2 S2 a1 a2 a3 a4 a5 => zbt (h.2 _ rfl M2 (TC_a hT a5) a1 a2 ?_ a4 (by rw [a5.1 220 (by omega)]) S2))
    subst hw1
    exact a3
/-- which word a ONE begins with, as the class has it -/
theorem TkC_s (h : TkC M n most s.1) : (M.1 220 9 = 40 ↔ sgS s 40 = true) ∧ (sgS s 40 = false → ((∃ w, wdS s = some w ∧ 16 ≤ w ∧ w ≤ 23 ∧ sfsP s = some w ∧ M.1 220 6 = nI w) ∨ (sfsP s = none ∧ (M.1 220 6 < 16 ∨ ¬ M.1 220 6 ≤ 23)))) := by
  refine ⟨TkC_9 (c := 40) h (by omega) (by omega), fun q => ?_⟩
  have h6 := TkC_6 h
  unfold sfsP
  rw [q]
  cases hw : wdS s with
  | none => exact Or.inr ⟨by simp, Or.inl (by rw [h6, hw]; decide)⟩
  | some v =>
    have hv : v < 24 := by
      unfold wdS at hw
      split at hw
      · exact (wix_some.mp hw).1
      · cases hw
    rw [hw] at h6
    by_cases hv2 : 16 ≤ v
    · exact Or.inl ⟨v, rfl, hv2, by omega, by simp [hv2], h6⟩
    · refine Or.inr ⟨by simp [hv2], Or.inl ?_⟩
      rw [h6]
      exact nI_lt (a := v) (b := 16) (by omega) (by omega)
theorem s_one (hN : okN N) : ∀ (e d : Nat), e ≤ 8 → PcC tx n most N (fun M Q => S_X7_readOne (d + (3 * e + 8)) 30 3 (nI (9 - e)) M (zB Q)) (sonP tx n most N e) := by
  intro e
  induction e with
  | zero =>
    intro d he Q M s z o hT hd hz ho hb h20 h
    unfold sonP at h
    obtain ⟨k40, kw⟩ := TkC_s hT.2
    have many : ∀ w x5, sfsP s = some w → S_X7_readOne_47 (d + 8) 30 3 (nI 9) (M.1 220 6) x5 M (zB Q) := by
      intro w x5 hw
      rw [hw] at h
      exact t_X7_readOne_47 (by decide) (by decide) ⟨fun _ => e_X6_fail (k := 4) hT (fun M2 g1 g2 => zbr (h.1 _ rfl M2 g1 (SyS.fl g2))), fun _ => ⟨fun q => absurd q (by decide), fun _ => e_X6_fail (k := 4) hT (fun M2 g1 g2 => zbr (h.1 _ rfl M2 g1 (SyS.fl g2)))⟩⟩
    refine t_X7_readOne (by decide) (by decide) ⟨fun q => ?_, fun q => many 24 _ (by unfold sfsP; rw [if_pos (k40.mp q)])⟩
    have q2 : sgS s 40 = false := Bool.eq_false_iff.mpr (fun w => q (k40.mpr w))
    rcases kw q2 with ⟨w, w1, w2, w3, w4, w5⟩ | ⟨w4, w5⟩
    · rw [w5]
      refine ⟨fun a => absurd a (nI_nlt (b := 16) (a := w) (by omega) (by omega)), fun _ => ⟨fun _ => ?_, fun a => absurd (nI_le (a := w) (b := 23) (by omega) (by omega)) a⟩⟩
      have := many w 0 w4
      rw [w5] at this
      exact this
    · rw [w4] at h
      have no : S_X6_fail (d + 7) 1 M (zB (fun r24 M25 => zB Q (some (.int (bi r24))) M25)) := e_X6_fail (k := 1) hT (fun M2 g1 g2 => zbr (h.1 _ rfl M2 g1 (SyS.fl g2)))
      exact ⟨fun _ => no, fun a => ⟨fun b => (w5.elim (fun c => absurd c a) (fun c => absurd b c)), fun _ => no⟩⟩
  | succ e ih =>
    intro d he Q M s z o hT hd hz ho hb h20 h
    unfold sonP at h
    obtain ⟨k40, kw⟩ := TkC_s hT.2
    have ihO := ih (d + 0) (by omega)
    have hw9 : nI (9 - (e + 1)) + 1 = nI (9 - e) := by rw [nI_1]; congr 1; omega
    have go : ∀ (w : Nat) (x4 x5 : Int32), sfsP s = some w → (w = 24 → ¬ x5 = 0) → (w ≠ 24 → x5 = 0 ∧ x4 = nI w ∧ 16 ≤ w ∧ w ≤ 23) → S_X7_readOne_47 (d + (3 * (e + 1) + 8)) 30 3 (nI (9 - (e + 1))) x4 x5 M (zB Q) := by
      intro w x4 x5 hw h24 hn24
      rw [hw] at h
      simp only [] at h
      refine t_X7_readOne_47 (d := d + (3 * e + 10)) (by decide) (by decide) ?_
      rw [ho, show (20 : Int32) = nI 20 from rfl, nI_leI (by omega) (by omega)]
      refine ⟨fun q => e_X6_fail (k := 4) hT (fun M2 g1 g2 => zbr (h.1 _ (if_pos q) M2 g1 (SyS.fl g2))), fun q => ?_⟩
      rw [if_neg q] at h
      refine ⟨fun _ => ?_, fun a => absurd (by rw [show (8 : Int32) = nI 8 from rfl]; exact nI_le (by omega) (by omega)) a⟩
      rw [nI_1, hw9]
      intro M1 e1
      have hT1 : TC M1 tx n most s := e1 ▸ TC_w hT (by omega)
      have s1 : SyS M M1 := e1 ▸ (Same.refl _ M).wI (Or.inr (Or.inl rfl))
      refine e_X6_next (d := d + (3 * e + 8)) hT1 (fun M2 n2 hT2 => ?_)
      have s2 : SyS M M2 := s1.trans (SyS.nx n2)
      have hz2 : M2.1 30 1 = nI z := by rw [n2.1.1 30 (by omega), e1, wI_1, if_neg (by omega)]; exact hz
      have ho2 : M2.1 30 2 = nI (o + 1) := by rw [n2.1.1 30 (by omega), e1, wI_1, if_pos ⟨rfl, rfl⟩]
      have k2 : M2.1 220 11 = M.1 220 11 := by rw [n2.2 11 (by omega), e1, wI_ne _ (by omega)]
      have j2 : M2.1 31 = M.1 31 := by rw [n2.1.1 31 (by omega), e1, wI_ne _ (by omega)]
      have hd2 := hd_sy hd s2
      -- what comes behind goes on from here
      have up : ∀ (Q2 : Bool → zMem → Prop) (r : Sum zFt zSr), SPost tx n most Q2 z M r → SPost tx n most Q2 z M2 r := fun Q2 r g => ⟨fun f hf M3 g1 g2 => g.1 f hf M3 g1 (s2.trans g2), fun r2 hr M3 g1 g2 g3 g4 g5 g6 g7 => g.2 r2 hr M3 g1 g2 g3 g4 (fun j hj => by rw [g5 j hj, j2]) (by rw [g6, k2]) (s2.trans g7)⟩
      by_cases hb24 : w = 24
      · refine ⟨fun a => absurd a (h24 hb24), fun _ => ?_⟩
        rw [if_pos hb24] at h
        refine s_cond (d := d + (3 * e + 6)) (schP_g (sonP_g e) (Or.inr rfl)) (s_all (d := d + (3 * e + 5)) (sonP_g e) (ihO)) _ M2 (nx tx n most s) z (o + 1) hT2 hd2 hz2 ho2 (by omega) (by omega) ⟨fun f hf M3 g1 g2 => ?_, fun r hr M3 hT3 hz3 ho3 hc3 hj3 k3 S3 => ?_⟩
        · rw [hf] at h
          exact ⟨fun _ => zbf ((up _ _ h).1 f rfl M3 g1 g2), fun q => by cases q⟩
        rw [hr] at h
        unfold sbrP at h
        simp only [] at h
        refine ⟨fun q => (by cases q), fun _ => ?_⟩
        refine e_X6_passSign (d := d + (3 * e + 7)) (c := 41) (by omega) (by omega) hT3 (fun e4 M4 g1 g2 => ⟨fun _ => zbf ((up _ _ h).1 _ (by rw [e4]; rfl) M4 g1 (S3.trans (SyS.fl g2))), fun q => by cases q⟩) (fun e4 M4 hT4 n4 => ⟨fun q => (by cases q), fun _ => zbt ?_⟩)
        rw [if_pos e4] at h
        refine (up _ _ h).2 _ rfl M4 hT4 ?_ ?_ ?_ (fun j hj => ?_) ?_ (S3.trans (SyS.nx n4))
        · rw [n4.1.1 30 (by omega)]; exact hz3
        · rw [n4.1.1 30 (by omega)]; exact ho3
        · exact cdsC_same hc3 (fun j _ => by rw [n4.1.1 31 (by omega)])
        · rw [n4.1.1 31 (by omega)]; exact hj3 j hj
        · rw [n4.2 11 (by omega)]; exact k3
      rw [if_neg hb24] at h
      obtain ⟨x50, x4w, w16, w23⟩ := hn24 hb24
      refine ⟨fun _ => ?_, fun a => absurd x50 a⟩
      rw [x4w]
      have e16 : nI w = 16 ↔ w = 16 := by rw [show (16 : Int32) = nI 16 from rfl, nI_eq (by omega) (by omega)]
      refine ⟨fun n16 => ?_, fun q16 => ?_⟩
      · have hn16 : ¬ w = 16 := fun q => n16 (e16.mpr q)
        rw [if_neg hn16] at h
        refine s_plain (d := d + (3 * e + 6)) (o := o + 1) hN hT2 hd2 hz2 (by omega) (by omega) ho2 ?_
        have g := up _ _ h
        exact ⟨fun f hf M3 g1 g2 => zbr (g.1 f hf M3 g1 g2), fun r hr M3 g1 g2 g3 g4 g5 g6 g7 => zbr (g.2 r hr M3 g1 g2 g3 g4 g5 g6 g7)⟩
      · have h16 : w = 16 := e16.mp q16
        rw [if_pos h16] at h
        have ih2 := ih (d + 1) (by omega)
        rw [show d + 1 + (3 * e + 8) = d + (3 * e + 9) by omega] at ih2
        refine t_X7_readDenied (d := d + (3 * e + 9)) (by decide) (by decide) ?_
        refine ih2 _ M2 (nx tx n most s) z (o + 1) hT2 hd2 hz2 ho2 (by omega) (by omega) ⟨fun f hf M3 g1 g2 => ?_, fun r hr M3 hT3 hz3 ho3 hc3 hj3 k3 S3 => ?_⟩
        · rw [hf] at h
          exact ⟨fun q => (by cases q), fun _ => zbf (zbr (r := false) ((up _ _ h).1 f rfl M3 g1 g2))⟩
        rw [hr] at h
        refine ⟨fun _ => ?_, fun q => by cases q⟩
        obtain ⟨g1, g2, g3, g4, g5⟩ := (sonP_g (tx := tx) (n := n) (most := most) (N := N) e (o + 1) (nx tx n most s) (by omega)).2 r hr
        refine c_add (d := d + (3 * e + 9)) (w := 16) (r := 0) (b := 0) (by omega) (by omega) (by omega) hz3 (by omega) (fun M4 a1 a2 a3 a4 a5 => zbt (zbr (r := true) ((up _ _ h).2 _ rfl M4 (TC_a hT3 a5) ?_ ?_ ?_ (fun j hj => ?_) ?_ (S3.trans (SyS.a a5)))))
        · rw [a1]
          show nI _ = nI (z + (r.1 ++ [16]).length)
          rw [List.length_append, List.length_singleton]; congr 1
        · rw [a2]; exact ho3
        · exact cdsC_app (cdsC_same hc3 (fun j hj => a4 j (by omega))) (cdsC_1 a3)
        · rw [a4 j (by omega)]; exact hj3 j hj
        · rw [a5.1 220 (by omega)]; exact k3
    refine t_X7_readOne (d := d + (3 * (e + 1) + 7)) (by decide) (by decide) ⟨fun q => ?_, fun q => go 24 _ 1 (by unfold sfsP; rw [if_pos (k40.mp q)]) (fun _ => by decide) (fun a => absurd rfl a)⟩
    have q2 : sgS s 40 = false := Bool.eq_false_iff.mpr (fun w => q (k40.mpr w))
    rcases kw q2 with ⟨w, w1, w2, w3, w4, w5⟩ | ⟨w4, w5⟩
    · rw [w5]
      exact ⟨fun a => absurd a (nI_nlt (b := 16) (a := w) (by omega) (by omega)), fun _ => ⟨fun _ => go w _ 0 w4 (fun a => by omega) (fun _ => ⟨rfl, rfl, w2, w3⟩), fun a => absurd (nI_le (a := w) (b := 23) (by omega) (by omega)) a⟩⟩
    · rw [w4] at h
      have no : S_X6_fail (d + (3 * (e + 1) + 7)) 1 M (zB (fun r24 M25 => zB Q (some (.int (bi r24))) M25)) := e_X6_fail (k := 1) hT (fun M2 g1 g2 => zbr (h.1 _ rfl M2 g1 (SyS.fl g2)))
      exact ⟨fun _ => no, fun a => ⟨fun b => (w5.elim (fun c => absurd c a) (fun c => absurd b c)), fun _ => no⟩⟩
/-- the class reads a SENTENCE's text -/
theorem s_read {Q : Bool → zMem → Prop} (hN : okN N) (hd : hdC M 3 N) (hT : TC M tx n 200 (nextT tx n 200 0)) (h11 : M.1 220 11 = 0)
    (hf : ∀ f, rdS N tx n = .inl f → ∀ M2, ftC M2 f → SyS M M2 → Q false M2)
    (hs : ∀ r, rdS N tx n = .inr r → ∀ M2, M2.1 30 1 = nI r.1.length → M2.1 30 2 = nI r.2 → cdsC M2 0 r.1 → M2.1 220 11 = 0 → SyS M M2 → Q true M2) : S_X7_read (d + 35) 30 3 M (zB Q) := by
  refine t_X7_read (by decide) (by decide) (t_X7_clear (by decide) (fun M1 e1 M2 e2 => zuu ?_))
  have s2 : SyS M M2 := e2 ▸ (e1 ▸ ((Same.refl _ M).wI (Or.inr (Or.inl rfl)))).wI (Or.inr (Or.inl rfl))
  have hT2 : TC M2 tx n 200 (nextT tx n 200 0) := e2 ▸ TC_w (e1 ▸ TC_w hT (by omega)) (by omega)
  have hz : M2.1 30 1 = nI 0 := by rw [e2, wI_1, if_neg (by omega), e1, wI_1, if_pos ⟨rfl, rfl⟩]; rfl
  have ho : M2.1 30 2 = nI 0 := by rw [e2, wI_1, if_pos ⟨rfl, rfl⟩]; rfl
  have k2 : M2.1 220 11 = 0 := by rw [e2, wI_ne _ (by omega), e1, wI_ne _ (by omega)]; exact h11
  unfold rdS at hf hs
  refine s_cond (d := d + 30) (x := 1) (schP_g (sonP_g 8) (Or.inr rfl)) (s_all (d := d + 29) (sonP_g 8) (s_one hN 8 d (by omega))) _ M2 (nextT tx n 200 0) 0 0 hT2 (hd_sy hd s2) hz ho (by omega) (by omega) ⟨fun f hf2 M3 g1 g2 => ?_, fun r hr M3 hT3 hz3 ho3 hc3 hj3 k3 S3 => ?_⟩
  · rw [hf2] at hf
    exact ⟨fun q => (by cases q), fun _ => zbf (hf f rfl M3 g1 (s2.trans g2))⟩
  rw [hr] at hf hs
  simp only [] at hf hs
  refine ⟨fun _ => ?_, fun q => by cases q⟩
  refine ⟨fun q => e_X6_fail (k := 1) hT3 (fun M4 g1 g2 => zbr (hf _ ?_ M4 g1 ((s2.trans S3).trans (SyS.fl g2)))), fun q => ?_⟩
  · rw [if_neg (fun w => q ((TC_0 hT3).mpr (Or.inl w)))]
  rw [Nat.zero_add] at hz3
  refine e_X6_isWhole (d := d + 33) hT3 (fun hlt M4 g1 g2 => zbr (hf _ ?_ M4 g1 ((s2.trans S3).trans (SyS.fl g2)))) (fun hle => zbr (hs (r.1, r.2.2) ?_ M3 hz3 ho3 hc3 (by rw [k3]; exact k2) (s2.trans S3)))
  · rcases (TC_0 hT3).mp q with w | w
    · have := (hT3.2.2.2.2.1 w).1.2
      omega
    · rw [if_neg (by omega)]
  · rcases (TC_0 hT3).mp q with w | w
    · rw [if_pos w]
    · rcases (hT3.2.2.2.2.2.1 w.1).1 with v | v
      · omega
      · rw [v] at w; exact absurd w.2 (by decide)
end
