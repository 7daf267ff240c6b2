-- ===== the class reads a CLUSTER's text =====
theorem namP_lt {names : List (List Nat)} {s : zPs} {v : Nat} (h : namP names s = .inr v) : v < names.length := by
  unfold namP at h
  cases hn : nmS s with
  | none => rw [hn] at h; cases h
  | some l =>
    rw [hn] at h
    cases hx : ixN names l with
    | none => simp only [hx] at h; cases h
    | some i =>
      simp only [hx] at h
      cases h
      exact (ixN_lt hx).1
theorem numP_lt {lo hi : Nat} {s : zPs} {v : Nat} (h : numP lo hi s = .inr v) : lo ≤ v ∧ v ≤ hi := by
  unfold numP at h
  split at h
  · split at h
    · rename_i q
      cases h
      exact q
    · cases h
  · cases h
theorem newP_ok {c : zCl} {s : zPs} {l : List Nat} (h : newP c s = .inr l) : nmS s = some l ∧ ixN (kyN c.2.1) l = none ∧ ixN (prN c.2.1) l = none := by
  unfold newP at h
  cases hn : nmS s with
  | none => rw [hn] at h; cases h
  | some x =>
    rw [hn] at h
    simp only [] at h
    split at h
    · rename_i q
      cases h
      exact ⟨rfl, q⟩
    · cases h
def tbN (o : Bool × Bool × Bool) : Nat := (if o.1 = true then 1 else 0) + ((if o.2.1 = true then 2 else 0) + (if o.2.2 = true then 4 else 0))
theorem tb_get : ∀ w, w < 3 → ∀ a b c : Bool, ((((Int32.toUInt32 (nI (tbN (a, b, c))) >>> (Int32.toUInt32 (nI w) &&& Int32.toUInt32 31)).toInt32) &&& 1) = 0 ↔ oneP w (a, b, c) = false) := by decide +kernel
theorem tb_set : ∀ w, w < 3 → ∀ a b c : Bool, (nI (tbN (a, b, c)) ||| ((1 : Int32) <<< (nI w &&& 31))) = nI (tbN (oneS w (a, b, c))) := by decide +kernel
def ClC (M : zMem) (c : zCl) : Prop := hdC M 18 c.2.1 ∧ cl (fC M 25) = c.2.2 ∧ M.1 221 3 = nI (tbN c.1)
def CrS (M M2 : zMem) : Prop := Same (fun z => z = 220 ∨ z = 221 ∨ (18 ≤ z ∧ z ≤ 29)) M M2
def CrC (M M2 : zMem) : Prop := CrS M M2 ∧ ∀ j, 9 < j → M2.1 220 j = M.1 220 j
theorem CrC.refl (M : zMem) : CrC M M := ⟨Same.refl _ _, fun _ _ => rfl⟩
theorem CrC.trans {M M2 M3 : zMem} (h : CrC M M2) (h2 : CrC M2 M3) : CrC M M3 := ⟨h.1.trans h2.1, fun j hj => (h2.2 j hj).trans (h.2 j hj)⟩
theorem NxC.cr {M M2 : zMem} (h : NxC M M2) : CrC M M2 := ⟨h.1.mono (fun i hi => Or.inl hi), fun j hj => h.2 j (by omega)⟩
theorem CrC.w {M M2 : zMem} (h : CrC M M2) {i j : Nat} {x : Int32} (hi : i = 221 ∨ (18 ≤ i ∧ i ≤ 29)) : CrC M (wI M2 i j x) := ⟨h.1.wI (by omega), fun k hk => by rw [wI_1, if_neg (by omega)]; exact h.2 k hk⟩
theorem CrC.s {M M2 : zMem} (h : Same (fun z => z = 221 ∨ (18 ≤ z ∧ z ≤ 29)) M M2) : CrC M M2 := ⟨h.mono (fun i hi => by omega), fun j _ => by rw [h.1 220 (by omega)]⟩
section
variable {d n most B : Nat} {M : zMem} {tx : Nat → Nat} {s : zPs} {c : zCl}
theorem TC_o {M2 : zMem} (h : TC M tx n most s) (h1 : M2.1 1 = M.1 1) (h2 : M2.1 220 = M.1 220) (h3 : M2.2 220 = M.2 220) : TC M2 tx n most s := by
  obtain ⟨⟨a1, a2, a3, a4, a5, a6, a7⟩, hk⟩ := h
  refine ⟨⟨a1, fun i hi => by rw [h1]; exact a2 i hi, by rw [h2]; exact a3, by rw [h2]; exact a4, a5, by rw [h2]; exact a6, a7⟩, ?_⟩
  unfold TkC at hk ⊢
  rw [h2, h3]
  exact hk
theorem ClC_o {M2 : zMem} (h : ClC M c) (h1 : ∀ z, z = 221 ∨ (18 ≤ z ∧ z ≤ 29) → M2.1 z = M.1 z) (h2 : ∀ z, z = 19 ∨ z = 20 → M2.2 z = M.2 z) : ClC M2 c := by
  refine ⟨hdC_same h.1 (h1 18 (by omega)) (fun z hz => h2 z (by omega)), ?_, by rw [h1 221 (by omega)]; exact h.2.2⟩
  rw [fC_same (fun i i1 i2 => h1 i (by omega))]
  exact h.2.1
theorem ClC_nx {M2 : zMem} (h : ClC M c) (hS : Same (fun z => z = 220) M M2) : ClC M2 c := ClC_o h (fun z hz => hS.1 z (by omega)) (fun z hz => hS.2 z (by omega))
def FPost (tx : Nat → Nat) (n most : Nat) (Q : Bool → zMem → Prop) (M : zMem) (o : Sum zFt (zCl × zPs)) : Prop :=
  (∀ f, o = .inl f → ∀ M2, ftC M2 f → CrS M M2 → M2.1 220 10 = M.1 220 10 → Q false M2) ∧ ∀ r, o = .inr r → ∀ M2, TC M2 tx n most r.2 → ClC M2 r.1 → CrC M M2 → Q true M2
theorem FPost.fl {Q : Bool → zMem → Prop} {o : Sum zFt (zCl × zPs)} (h : FPost tx n most Q M o) {f : zFt} (ho : o = .inl f) {M1 M2 : zMem} (h1 : CrC M M1) (h2 : ftC M2 f) (h3 : FlC M1 M2) : Q false M2 :=
  h.1 f ho M2 h2 (h1.1.trans (h3.1.mono (fun i hi => Or.inl hi))) ((h3.2 10 (by omega) (by omega)).trans (h1.2 10 (by omega)))
theorem ky0 {N : zNm} : (nI (kyN N).length ≤ 0 ↔ kyN N = []) ∨ ¬ (kyN N).length < 2 ^ 31 := by
  rcases Nat.lt_or_ge (kyN N).length (2 ^ 31) with h | h
  · left
    rw [show (0 : Int32) = nI 0 from rfl, nI_leI h (by omega)]
    exact ⟨fun q => List.eq_nil_of_length_eq_zero (by omega), fun q => by rw [q]; exact Nat.le_refl _⟩
  · exact Or.inr (by omega)
theorem ky0' (hc : okCl B c) : nI (kyN c.2.1).length ≤ 0 ↔ kyN c.2.1 = [] := by
  have h24 := hc.1.2.2.2.1
  rcases ky0 (N := c.2.1) with h | h
  · exact h
  · omega
theorem p_readSetting {Q : Bool → zMem → Prop} {w : Nat} (hw : w = 0 ∨ w = 1) (hc : okCl B c) (hC : ClC M c) (hT : TC M tx n most s) (h : FPost tx n most Q M (setP tx n most w c s)) : S_X1_readSetting (d + 3) (nI w) M (zB Q) := by
  have hk0 := ky0' hc
  refine t_X1_readSetting ?_
  rw [hC.2.2, hC.1.2.2.2.1]
  have hget := tb_get w (by omega) c.1.1 c.1.2.1 c.1.2.2
  have hset := tb_set w (by omega) c.1.1 c.1.2.1 c.1.2.2
  have ec : (c.1.1, c.1.2.1, c.1.2.2) = c.1 := rfl
  rw [ec] at hget hset
  rw [hget, hk0, hset]
  have bad3 : (oneP w c.1 = true ∨ kyN c.2.1 ≠ []) → S_X6_fail (d + 2) 3 M (zB (fun r22 M23 => zB Q (some (.int (bi r22))) M23)) := by
    intro hb
    refine e_X6_fail (k := 3) hT (fun M2 h1 h2 => zbr (h.fl ?_ (CrC.refl M) h1 h2))
    unfold setP; rw [if_pos hb]
  refine ⟨fun q => bad3 (Or.inl (by simpa using q)), fun q => ⟨fun q2 => ?_, fun q2 => bad3 (Or.inr q2)⟩⟩
  have hno : ¬ (oneP w c.1 = true ∨ kyN c.2.1 ≠ []) := fun w => by
    rcases w with w | w
    · rw [q] at w; cases w
    · exact w q2
  rintro M1 rfl
  have S1 : CrC M (wI M 221 3 (nI (tbN (oneS w c.1)))) := (CrC.refl M).w (by omega)
  have hT1 : TC (wI M 221 3 (nI (tbN (oneS w c.1)))) tx n most s := TC_o hT (wI_ne _ (by omega)) (wI_ne _ (by omega)) rfl
  have hC1 : ClC (wI M 221 3 (nI (tbN (oneS w c.1)))) (oneS w c.1, c.2.1, c.2.2) := by
    refine ⟨hdC_same hC.1 (wI_ne _ (by omega)) (fun z hz => rfl), ?_, by rw [wI_1, if_pos ⟨rfl, rfl⟩]⟩
    rw [fC_same (fun i i1 i2 => wI_ne _ (by omega))]
    exact hC.2.1
  generalize wI M 221 3 (nI (tbN (oneS w c.1))) = M1 at S1 hT1 hC1 ⊢
  refine e_X6_next hT1 (fun M2 n2 hT2 => ?_)
  have hC2 := ClC_nx hC1 n2.1
  have S2 := S1.trans n2.cr
  -- the number and what it sets
  have num : ∀ hi : Nat, hi = (if w = 0 then 4 else 12) → hi < 1000 → ∀ (K : zMem → Nat → Prop), (∀ v, numP 1 hi (nx tx n most s) = .inr v → v < 1000 → K M2 v) → S_X6_seeNumber (d + 2) 1 (nI hi) M2 (zI (fun r31 M32 => (¬ r31 = (-1) → ∃ v, r31 = nI v ∧ M32 = M2 ∧ K M2 v) ∧ (r31 = (-1) → zB Q (some (.int 0)) M32))) := by
    intro hi hhi hlt K hK
    refine e_X6_seeNumber (lo := 1) (by omega) hlt hT2 (fun f hf M3 h3 f3 => ⟨fun q => absurd rfl q, fun _ => zbf (h.fl ?_ S2 h3 f3)⟩) (fun v hv hv2 => ⟨fun _ => ⟨v, rfl, rfl, hK v hv hv2⟩, fun q => absurd q (nI_m1 (by omega))⟩)
    unfold setP; rw [if_neg hno]; rw [← hhi, hf]
  have fin : ∀ v, numP 1 (if w = 0 then 4 else 12) (nx tx n most s) = .inr v → ∀ M3, NxC M2 M3 → TC M3 tx n most (nx tx n most (nx tx n most s)) → Q true (if w = 0 then wI M3 18 0 (nI v) else wI M3 18 1 (nI v)) := by
    intro v hv M3 n3 hT3
    have hC3 := ClC_nx hC2 n3.1
    have S3 := S2.trans n3.cr
    have e : setP tx n most w c s = .inr ((oneS w c.1, (if w = 0 then (v, pgN c.2.1, ruN c.2.1, kyN c.2.1, prN c.2.1) else (btN c.2.1, v, ruN c.2.1, kyN c.2.1, prN c.2.1)), c.2.2), nx tx n most (nx tx n most s)) := by
      unfold setP; rw [if_neg hno]; rw [hv]
    obtain ⟨b1, b2, b3, b4, b5, b6, b7⟩ := hC3.1
    rcases hw with rfl | rfl
    · rw [if_pos rfl]
      refine h.2 _ e _ (TC_o hT3 (wI_ne _ (by omega)) (wI_ne _ (by omega)) rfl) ⟨⟨?_, ?_, ?_, ?_, ?_, b6, b7⟩, ?_, ?_⟩ (S3.w (by omega))
      · rw [wI_1, if_pos ⟨rfl, rfl⟩]; rfl
      · rw [wI_1, if_neg (by omega)]; exact b2
      · rw [wI_1, if_neg (by omega)]; exact b3
      · rw [wI_1, if_neg (by omega)]; exact b4
      · rw [wI_1, if_neg (by omega)]; exact b5
      · rw [fC_same (fun i i1 i2 => wI_ne _ (by omega))]; exact hC3.2.1
      · rw [wI_1, if_neg (by omega)]; exact hC3.2.2
    · rw [if_neg (show ¬ (1 = 0) by decide)]
      refine h.2 _ e _ (TC_o hT3 (wI_ne _ (by omega)) (wI_ne _ (by omega)) rfl) ⟨⟨?_, ?_, ?_, ?_, ?_, b6, b7⟩, ?_, ?_⟩ (S3.w (by omega))
      · rw [wI_1, if_neg (by omega)]; exact b1
      · rw [wI_1, if_pos ⟨rfl, rfl⟩]; rfl
      · rw [wI_1, if_neg (by omega)]; exact b3
      · rw [wI_1, if_neg (by omega)]; exact b4
      · rw [wI_1, if_neg (by omega)]; exact b5
      · rw [fC_same (fun i i1 i2 => wI_ne _ (by omega))]; exact hC3.2.1
      · rw [wI_1, if_neg (by omega)]; exact hC3.2.2
  rcases hw with rfl | rfl
  · refine ⟨fun _ => ⟨fun q3 => absurd rfl q3, fun _ => ?_⟩, fun q3 => absurd q3 (by decide)⟩
    refine e_X6_seeNumber (lo := 1) (hi := 4) (by omega) (by omega) hT2 (fun f hf M3 h3 f3 => ⟨fun q => absurd rfl q, fun _ => zbf (h.fl ?_ S2 h3 f3)⟩) (fun v hv hv2 => ⟨fun _ => e_X6_next hT2 (fun M3 n3 hT3 => ⟨fun q3 => absurd rfl q3, fun _ => ?_⟩), fun q => absurd q (nI_m1 (by omega))⟩)
    · unfold setP; rw [if_neg hno]; simp only [if_true, hf]
    · rintro M4 rfl
      exact zbt (fin v hv M3 n3 hT3)
  · refine ⟨fun _ => ⟨fun _ => ?_, fun q3 => absurd q3 (by decide)⟩, fun q3 => absurd q3 (by decide)⟩
    refine e_X6_seeNumber (lo := 1) (hi := 12) (by omega) (by omega) hT2 (fun f hf M3 h3 f3 => ⟨fun q => absurd rfl q, fun _ => zbf (h.fl ?_ S2 h3 f3)⟩) (fun v hv hv2 => ⟨fun _ => e_X6_next hT2 (fun M3 n3 hT3 => ⟨fun _ => ?_, fun q3 => absurd q3 (by decide)⟩), fun q => absurd q (nI_m1 (by omega))⟩)
    · unfold setP; rw [if_neg hno]; simp only [show ((1 : Nat) = 0) = False from eq_false (by decide), if_false, hf]
    · rintro M4 rfl
      exact zbt (fin v hv M3 n3 hT3)
theorem wd_cases (o : Option Nat) (ho : ∀ w, o = some w → w < 24) : (upI o < 3 ↔ ¬ ∃ w, o = some w ∧ 3 ≤ w) ∧ (upI o ≤ 5 ↔ ¬ ∃ w, o = some w ∧ 5 < w) := by
  cases o with
  | none => exact ⟨⟨fun _ ⟨w, q, _⟩ => (by cases q), fun _ => by decide⟩, ⟨fun _ ⟨w, q, _⟩ => (by cases q), fun _ => by decide⟩⟩
  | some w =>
    have := ho w rfl
    show (nI w < 3 ↔ _) ∧ (nI w ≤ 5 ↔ _)
    rw [show (3 : Int32) = nI 3 from rfl, show (5 : Int32) = nI 5 from rfl, nI_ltI (by omega) (by omega), nI_leI (by omega) (by omega)]
    refine ⟨⟨fun q ⟨v, q1, q2⟩ => ?_, fun q => ?_⟩, ⟨fun q ⟨v, q1, q2⟩ => ?_, fun q => ?_⟩⟩
    · cases q1; omega
    · exact Nat.lt_of_not_le (fun q2 => q ⟨w, rfl, q2⟩)
    · cases q1; omega
    · exact Nat.le_of_not_lt (fun q2 => q ⟨w, rfl, q2⟩)
theorem wdS_lt {w : Nat} (h : wdS s = some w) : w < 24 := by
  unfold wdS at h
  split at h
  · exact (wix_some.mp h).1
  · cases h
theorem p_readRule {Q : Bool → zMem → Prop} (hc : okCl B c) (hC : ClC M c) (hT : TC M tx n most s) (h : FPost tx n most Q M (rulP tx n most c s)) : S_X1_readSetting (d + 4) 2 M (zB Q) := by
  have hk0 := ky0' hc
  refine t_X1_readSetting ?_
  rw [hC.2.2, hC.1.2.2.2.1]
  have hget := tb_get 2 (by omega) c.1.1 c.1.2.1 c.1.2.2
  have hset := tb_set 2 (by omega) c.1.1 c.1.2.1 c.1.2.2
  have ec : (c.1.1, c.1.2.1, c.1.2.2) = c.1 := rfl
  rw [ec] at hget hset
  rw [show (2 : Int32) = nI 2 from rfl, hget, hk0, hset]
  have bad3 : (oneP 2 c.1 = true ∨ kyN c.2.1 ≠ []) → S_X6_fail (d + 3) 3 M (zB (fun r22 M23 => zB Q (some (.int (bi r22))) M23)) := by
    intro hb
    refine e_X6_fail (k := 3) hT (fun M2 h1 h2 => zbr (h.fl ?_ (CrC.refl M) h1 h2))
    unfold rulP; rw [if_pos hb]
  refine ⟨fun q => bad3 (Or.inl (by simpa using q)), fun q => ⟨fun q2 => ?_, fun q2 => bad3 (Or.inr q2)⟩⟩
  have hno : ¬ (oneP 2 c.1 = true ∨ kyN c.2.1 ≠ []) := fun w => by
    rcases w with w | w
    · rw [q] at w; cases w
    · exact w q2
  rintro M1 rfl
  have S1 : CrC M (wI M 221 3 (nI (tbN (oneS 2 c.1)))) := (CrC.refl M).w (by omega)
  have hT1 : TC (wI M 221 3 (nI (tbN (oneS 2 c.1)))) tx n most s := TC_o hT (wI_ne _ (by omega)) (wI_ne _ (by omega)) rfl
  have hC1 : ClC (wI M 221 3 (nI (tbN (oneS 2 c.1)))) (oneS 2 c.1, c.2.1, c.2.2) := by
    refine ⟨hdC_same hC.1 (wI_ne _ (by omega)) (fun z hz => rfl), ?_, by rw [wI_1, if_pos ⟨rfl, rfl⟩]⟩
    rw [fC_same (fun i i1 i2 => wI_ne _ (by omega))]
    exact hC.2.1
  generalize wI M 221 3 (nI (tbN (oneS 2 c.1))) = M1 at S1 hT1 hC1 ⊢
  refine e_X6_next hT1 (fun M2 n2 hT2 => ?_)
  have hC2 := ClC_nx hC1 n2.1
  have S2 := S1.trans n2.cr
  refine ⟨fun q3 => absurd rfl q3, fun _ => t_X1_readRule ?_⟩
  obtain ⟨w1, w2⟩ := wd_cases (wdS (nx tx n most s)) (fun w hw => wdS_lt hw)
  rw [TkC_6 hT2.2, w1, w2]
  have bad1 : (¬ ∃ w, wdS (nx tx n most s) = some w ∧ 3 ≤ w ∧ w ≤ 5) → S_X6_fail (d + 2) 1 M2 (zB (fun r22 M23 => zB (fun r51 M52 => zB Q (some (.int (bi r51))) M52) (some (.int (bi r22))) M23)) := by
    intro hb
    refine e_X6_fail (k := 1) hT2 (fun M3 h1 h2 => zbr (zbr (h.fl ?_ S2 h1 h2)))
    unfold rulP; rw [if_neg hno]
    cases hx : wdS (nx tx n most s) with
    | none => rfl
    | some w => simp only []; rw [if_neg (fun v => hb ⟨w, hx, v⟩)]
  refine ⟨fun v => bad1 (fun ⟨w, a, b, _⟩ => v ⟨w, a, b⟩), fun v => ⟨fun v2 => ?_, fun v2 => ?_⟩⟩
  · obtain ⟨w, a, b⟩ := Classical.byContradiction (fun x => v x)
    have b5 : w ≤ 5 := Nat.le_of_not_lt (fun x => v2 ⟨w, a, x⟩)
    rw [a]
    rintro M3 rfl
    rw [show (upI (some w) - 3 : Int32) = nI (w - 3) from pk_sub b]
    refine e_X6_next (M := wI M2 18 2 (nI (w - 3))) (s := nx tx n most s) (TC_o hT2 (wI_ne _ (by omega)) (wI_ne _ (by omega)) rfl) (fun M4 n4 hT4 => ?_)
    refine zbt ?_
    refine zbr (r := true) ?_
    have S3 : CrC M (wI M2 18 2 (nI (w - 3))) := S2.w (by omega)
    have e : rulP tx n most c s = .inr ((oneS 2 c.1, (btN c.2.1, pgN c.2.1, w - 3, kyN c.2.1, prN c.2.1), c.2.2), nx tx n most (nx tx n most s)) := by
      unfold rulP; rw [if_neg hno, a]; simp only []; rw [if_pos ⟨b, b5⟩]
    obtain ⟨c1, c2, c3, c4, c5, c6, c7⟩ := hC2.1
    refine h.2 _ e _ hT4 (ClC_nx (M := wI M2 18 2 (nI (w - 3))) ⟨⟨?_, ?_, ?_, ?_, ?_, c6, c7⟩, ?_, ?_⟩ n4.1) (S3.trans n4.cr)
    · rw [wI_1, if_neg (by omega)]; exact c1
    · rw [wI_1, if_neg (by omega)]; exact c2
    · rw [wI_1, if_pos ⟨rfl, rfl⟩]; rfl
    · rw [wI_1, if_neg (by omega)]; exact c4
    · rw [wI_1, if_neg (by omega)]; exact c5
    · rw [fC_same (fun i i1 i2 => wI_ne _ (by omega))]; exact hC2.2.1
    · rw [wI_1, if_neg (by omega)]; exact hC2.2.2
  · obtain ⟨w, a, b⟩ := Classical.byContradiction (fun x => v2 x)
    refine bad1 (fun ⟨x, a2, _, b2⟩ => ?_)
    rw [a] at a2
    cases a2
    omega
end
