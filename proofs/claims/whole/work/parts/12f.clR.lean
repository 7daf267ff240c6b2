-- ===== the model reads a CLUSTER's text =====
/-- what texts tell of facts: nothing was pulled, nothing came -/
def fz (F : Nat → Int32) : Prop := F 0 = 0 ∧ F 1 = 0 ∧ ∀ p, p < 4 → F (7 + p) = 0
theorem fz_write {F : Nat → Int32} {p k : Nat} {v : Int32} (h : fz F) : fz (writeF F p k v) := by
  unfold writeF
  refine ⟨?_, ?_, fun q hq => ?_⟩
  · rw [upd_n _ _ (by omega), upd_n _ _ (by omega), upd_n _ _ (by omega)]; exact h.1
  · rw [upd_n _ _ (by omega), upd_n _ _ (by omega), upd_n _ _ (by omega)]; exact h.2.1
  · rw [upd_n _ _ (by omega), upd_n _ _ (by omega), upd_n _ _ (by omega)]; exact h.2.2 q hq
theorem fz_turn {F : Nat → Int32} {p q : Nat} (hp : p < 4) (hq : q < 4) (h : fz F) : fz (turnF F p q) := by
  unfold turnF
  refine ⟨?_, ?_, fun r hr => ?_⟩
  · rw [upd_n _ _ (by omega), upd_n _ _ (by omega)]; exact h.1
  · rw [upd_n _ _ (by omega), upd_n _ _ (by omega)]; exact h.2.1
  · rw [upd_n _ _ (by omega), upd_n _ _ (by omega)]; exact h.2.2 r hr
def onR (M : zMem) (o : Bool × Bool × Bool) : Prop := ∀ w, w < 3 → M.1 241 w = bi (oneP w o)
def hdD (M : zMem) (N : zNm) : Prop := M.1 232 2 = nI (btN N) ∧ M.1 232 3 = nI (pgN N) ∧ M.1 232 4 = nI (ruN N) ∧ M.1 232 0 = nI (kyN N).length ∧ M.1 232 1 = nI (prN N).length ∧ (∀ k, k < (kyN N).length → M.2 238 k = lN (b27 (kAt N k))) ∧ ∀ p, p < (prN N).length → M.2 238 (24 + p) = lN (b27 (pAt N p))
def fD (M : zMem) (F : Nat → Int32) : Prop := M.1 232 5 = F 2 ∧ (∀ p, p < 4 → M.1 232 (6 + p) = F (3 + p)) ∧ ∀ i, i < 96 → M.1 232 (10 + i) = F (11 + i) ∧ M.1 232 (106 + i) = F (107 + i)
def ClR (M : zMem) (c : zCl) : Prop := onR M c.1 ∧ hdD M c.2.1 ∧ fD M c.2.2 ∧ fz c.2.2
def RcS (M M2 : zMem) : Prop := Same (fun z => z = 229 ∨ z = 232 ∨ z = 238 ∨ z = 241) M M2 ∧ ∀ j, j < 3 ∨ 13 < j → M2.1 229 j = M.1 229 j
theorem RcS.refl (M : zMem) : RcS M M := ⟨Same.refl _ _, fun _ _ => rfl⟩
theorem RcS.trans {M M2 M3 : zMem} (h : RcS M M2) (h2 : RcS M2 M3) : RcS M M3 := ⟨h.1.trans h2.1, fun j hj => (h2.2 j hj).trans (h.2 j hj)⟩
theorem RoR.rc {M M2 : zMem} (h : RoR M M2) : RcS M M2 := ⟨h.1.mono (fun i hi => Or.inl hi), h.2⟩
theorem RcS.w {M M2 : zMem} (h : RcS M M2) {i j : Nat} {x : Int32} (hi : i = 232 ∨ i = 241) : RcS M (wI M2 i j x) := ⟨h.1.wI (by omega), fun k hk => by rw [wI_ne _ (by omega)]; exact h.2 k hk⟩
theorem RcS.l {M M2 : zMem} (h : RcS M M2) {j : Nat} {x : Int64} : RcS M (wL M2 238 j x) := ⟨h.1.wL (by omega), h.2⟩
section
variable {d n most B : Nat} {M : zMem} {tx : Nat → Nat} {s : zPs} {c : zCl}
theorem TR_o {M2 : zMem} (h : TR M tx n most s) (h1 : M2.1 230 = M.1 230) (h2 : M2.1 229 = M.1 229) (h3 : M2.2 229 = M.2 229) : TR M2 tx n most s := by
  obtain ⟨⟨⟨b, ⟨a1, a2, a3, a4, a5, a6, a7⟩, hb⟩, h10⟩, hk⟩ := h
  refine ⟨⟨⟨b, ⟨a1, fun i hi => by rw [h1]; exact a2 i hi, by rw [h2]; exact a3, by rw [h2]; exact a4, a5, by rw [h2]; exact a6, a7⟩, hb⟩, by rw [h2]; exact h10⟩, ?_⟩
  unfold TkR at hk ⊢
  rw [h2, h3]
  exact hk
theorem ClR_ro {M2 : zMem} (h : ClR M c) (hS : Same (fun z => z = 229) M M2) : ClR M2 c := by
  unfold ClR onR hdD fD at h ⊢
  rw [hS.1 241 (by omega), hS.1 232 (by omega), hS.2 238 (by omega)]
  exact h
def FPosR (tx : Nat → Nat) (n most : Nat) (Q : Bool → zMem → Prop) (M : zMem) (o : Sum zFt (zCl × zPs)) : Prop :=
  (∀ f, o = .inl f → ∀ M2, ftR M2 f → RcS M M2 → Q false M2) ∧ ∀ r, o = .inr r → ∀ M2, TR M2 tx n most r.2 → ClR M2 r.1 → RcS M M2 → Q true M2
theorem FPosR.fl {Q : Bool → zMem → Prop} {o : Sum zFt (zCl × zPs)} (h : FPosR tx n most Q M o) {f : zFt} (ho : o = .inl f) {M1 M2 : zMem} (h1 : RcS M M1) (h2 : ftR M2 f) (h3 : RoR M1 M2) : Q false M2 := h.1 f ho M2 h2 (h1.trans h3.rc)
theorem bi_0 {x : Bool} : bi x = 0 ↔ x = false := by cases x <;> decide
theorem oneS_get (w : Nat) (hw : w < 3) (o : Bool × Bool × Bool) (v : Nat) (hv : v < 3) : oneP v (oneS w o) = if v = w then true else oneP v o := by
  obtain ⟨a, b, c⟩ := o
  have : ∀ w, w < 3 → ∀ v, v < 3 → ∀ a b c : Bool, oneP v (oneS w (a, b, c)) = if v = w then true else oneP v (a, b, c) := by decide
  exact this w hw v hv a b c
theorem onR_set {M1 : zMem} {o : Bool × Bool × Bool} {w : Nat} (hw : w < 3) (h : onR M1 o) : onR (wI M1 241 w 1) (oneS w o) := by
  intro v hv
  rw [oneS_get w hw o v hv, wI_1]
  by_cases q : v = w
  · rw [if_pos q, if_pos ⟨rfl, q⟩]; rfl
  · rw [if_neg q, if_neg (fun x => q x.2)]; exact h v hv
theorem p2_isFresh {Q : Bool → zMem → Prop} {w : Nat} (hw : w < 3) (h2 : s.1.1 = 2) (hc : okCl B c) (hC : ClR M c) (hT : TR M tx n most s) (hf : (oneP w c.1 = true ∨ kyN c.2.1 ≠ []) → ∀ M2, ftR M2 (3, plS s) → RcS M M2 → Q false M2)
    (hs : ¬ (oneP w c.1 = true ∨ kyN c.2.1 ≠ []) → ∀ M2, TR M2 tx n most (nx tx n most s) → ClR M2 (oneS w c.1, c.2) → RcS M M2 → Q true M2) : S_X12_isFresh (d + 2) (nI w) M (zB Q) := by
  have h24 := hc.1.2.2.2.1
  have hb : (oneP w c.1 = true ∨ kyN c.2.1 ≠ []) → S_X12_bad (d + 1) 3 M (zB (fun r M' => zB Q (some (.int (bi r))) M')) := fun q => e_X12_bad (k := 3) hT (fun M2 h1 h3 => zbr (hf q M2 (by rw [if_neg (by omega)] at h1; exact h1) h3.rc))
  refine t_X12_isFresh ⟨nIin hw (by omega), ?_⟩
  rw [nI_clamp (by omega), hC.1 w hw, bi_0, hC.2.1.2.2.2.1, show (0 : Int32) = nI 0 from rfl, nI_leI (by omega) (by omega)]
  refine ⟨fun q => hb (Or.inl (by simpa using q)), fun q => ⟨fun q2 => ⟨nIin hw (by omega), ?_⟩, fun q2 => hb (Or.inr (fun e => q2 (by rw [e]; exact Nat.le_refl _)))⟩⟩
  rintro M1 rfl
  have hT1 : TR (wI M 241 w 1) tx n most s := TR_o hT (wI_ne _ (by omega)) (wI_ne _ (by omega)) rfl
  have hC1 : ClR (wI M 241 w 1) (oneS w c.1, c.2) := by
    refine ⟨onR_set hw hC.1, ?_, ?_, hC.2.2.2⟩
    · have := hC.2.1
      unfold hdD at this ⊢
      rw [wI_ne _ (by omega), wI_2]
      exact this
    · have := hC.2.2.1
      unfold fD at this ⊢
      rw [wI_ne _ (by omega)]
      exact this
  refine e_X12_go hT1 (by omega) (fun M2 h1 h3 => zbt (hs ?_ M2 h3 (ClR_ro hC1 h1.1) (((RcS.refl M).w (by omega)).trans h1.ro.rc)))
  rintro (v | v)
  · rw [q] at v; cases v
  · exact v (List.eq_nil_of_length_eq_zero (by omega))
theorem c_X12_noted {Q : Bool → zMem → Prop} {o : Nat} (ho : o < 202) (r : Bool) (h0 : r = false → Q false M) (h1 : r = true → Q true (wI M 232 o (M.1 229 13))) : S_X12_noted d (nI o) (bi r) M (zB Q) := by
  refine t_X12_noted ⟨fun q => ⟨Or.inl q, ?_⟩, fun q => ⟨nIin ho (by omega), ?_⟩⟩
  · rw [bi_0] at q
    subst q
    exact zbf (h0 rfl)
  · have e : r = true := by
      cases r with
      | true => rfl
      | false => exact absurd rfl q
    subst e
    rw [nI_clamp (by omega)]
    rintro M1 rfl
    exact ⟨Or.inr rfl, zbt (h1 rfl)⟩
theorem wd2 (h : ∃ i, wdS s = some i) : s.1.1 = 2 := by
  obtain ⟨i, hi⟩ := h
  unfold wdS at hi
  split at hi
  · assumption
  · cases hi
theorem p2_set {Q : Bool → zMem → Prop} {w : Nat} (hw : w = 0 ∨ w = 1) (h2 : s.1.1 = 2) (hc : okCl B c) (hC : ClR M c) (hT : TR M tx n most s) (h : FPosR tx n most Q M (setP tx n most w c s)) :
    S_X12_isFresh (d + 4) (nI w) M (zB (fun r54 M55 => (r54 = false → zB Q (some (.int 0)) M55) ∧ (r54 = true → S_X12_readNumber (d + 4) 1 (nI (if w = 0 then 4 else 12)) M55 (zB (fun r57 M58 => S_X12_noted (d + 4) (nI (if w = 0 then 2 else 3)) (bi r57) M58 (zB (fun r59 M60 => (r59 = false → zB Q (some (.int 0)) M60) ∧ (r59 = true → zB Q (some (.int 1)) M60)))))))) := by
  refine p2_isFresh (d := d + 2) (by omega) h2 hc hC hT (fun hb M2 h1 h3 => ⟨fun _ => zbf (h.1 _ ?_ M2 h1 h3), fun q => (by cases q)⟩) (fun hno M1 hT1 hC1 S1 => ⟨fun q => (by cases q), fun _ => ?_⟩)
  · unfold setP; rw [if_pos hb]
  refine e_X12_readNumber (d := d + 2) (lo := 1) (hi := if w = 0 then 4 else 12) (by omega) (by split <;> omega) hT1 (fun f hf M2 g1 g2 => c_X12_noted (by split <;> omega) false (fun _ => ⟨fun _ => zbf (h.1 f ?_ M2 g1 (S1.trans g2.rc)), fun q => (by cases q)⟩) (fun q => (by cases q))) (fun v hv hv2 M2 hT2 g13 g2 => c_X12_noted (by split <;> omega) true (fun q => (by cases q)) (fun _ => ⟨fun q => (by cases q), fun _ => zbt ?_⟩))
  · unfold setP; rw [if_neg hno, hf]
  have hC2 := ClR_ro hC1 g2.1
  have e : setP tx n most w c s = .inr ((oneS w c.1, (if w = 0 then (v, pgN c.2.1, ruN c.2.1, kyN c.2.1, prN c.2.1) else (btN c.2.1, v, ruN c.2.1, kyN c.2.1, prN c.2.1)), c.2.2), nx tx n most (nx tx n most s)) := by
    unfold setP; rw [if_neg hno, hv]
  rw [g13]
  obtain ⟨b1, b2, b3, b4, b5, b6, b7⟩ := hC2.2.1
  have hfD : ∀ (o : Nat) (x : Int32), o < 5 → fD (wI M2 232 o x) c.2.2 := by
    intro o x ho
    obtain ⟨f1, f2, f3⟩ := hC2.2.2.1
    refine ⟨by rw [wI_1, if_neg (by omega)]; exact f1, fun p hp => by rw [wI_1, if_neg (by omega)]; exact f2 p hp, fun i hi => ⟨by rw [wI_1, if_neg (by omega)]; exact (f3 i hi).1, by rw [wI_1, if_neg (by omega)]; exact (f3 i hi).2⟩⟩
  have hon : ∀ (o : Nat) (x : Int32), onR (wI M2 232 o x) (oneS w c.1) := fun o x v hv => by rw [wI_ne _ (by omega)]; exact hC2.1 v hv
  rcases hw with rfl | rfl
  · simp only [if_true] at e ⊢
    refine h.2 _ e _ (TR_o hT2 (wI_ne _ (by omega)) (wI_ne _ (by omega)) rfl) ⟨hon _ _, ⟨?_, ?_, ?_, ?_, ?_, b6, b7⟩, hfD _ _ (by omega), hC2.2.2.2⟩ ((S1.trans g2.rc).w (by omega))
    · rw [wI_1, if_pos ⟨rfl, rfl⟩]; rfl
    · rw [wI_1, if_neg (by omega)]; exact b2
    · rw [wI_1, if_neg (by omega)]; exact b3
    · rw [wI_1, if_neg (by omega)]; exact b4
    · rw [wI_1, if_neg (by omega)]; exact b5
  · simp only [show ((1 : Nat) = 0) = False from eq_false (by decide), if_false] at e ⊢
    refine h.2 _ e _ (TR_o hT2 (wI_ne _ (by omega)) (wI_ne _ (by omega)) rfl) ⟨hon _ _, ⟨?_, ?_, ?_, ?_, ?_, b6, b7⟩, hfD _ _ (by omega), hC2.2.2.2⟩ ((S1.trans g2.rc).w (by omega))
    · rw [wI_1, if_neg (by omega)]; exact b1
    · rw [wI_1, if_pos ⟨rfl, rfl⟩]; rfl
    · rw [wI_1, if_neg (by omega)]; exact b3
    · rw [wI_1, if_neg (by omega)]; exact b4
    · rw [wI_1, if_neg (by omega)]; exact b5
theorem p2_rule {Q : Bool → zMem → Prop} (h2 : s.1.1 = 2) (hc : okCl B c) (hC : ClR M c) (hT : TR M tx n most s) (h : FPosR tx n most Q M (rulP tx n most c s)) : S_X12_readRule (d + 4) M (zB Q) := by
  refine t_X12_readRule (p2_isFresh (d := d + 1) (w := 2) (by omega) h2 hc hC hT (fun hb M2 h1 h3 => ⟨fun q => (by cases q), fun _ => zbf (h.1 _ ?_ M2 h1 h3)⟩) (fun hno M1 hT1 hC1 S1 => ⟨fun _ => ?_, fun q => (by cases q)⟩))
  · unfold rulP; rw [if_pos hb]
  have e0 : rulP tx n most c s = (match wdS (nx tx n most s) with
      | some w => if 3 ≤ w ∧ w ≤ 5 then .inr ((oneS 2 c.1, (btN c.2.1, pgN c.2.1, w - 3, kyN c.2.1, prN c.2.1), c.2.2), nx tx n most (nx tx n most s)) else .inl (1, plS (nx tx n most s))
      | none => .inl (1, plS (nx tx n most s))) := by unfold rulP; rw [if_neg hno]; cases wdS (nx tx n most s) <;> rfl
  -- the rule found so far
  have fin : ∀ r : Option Nat, (∀ w, r = some w ↔ (wdS (nx tx n most s) = some (w + 3) ∧ w < 3)) → S_X12_readRule_14 (d + 4) (upI r) 6 M1 (zB Q) := by
    intro r hr
    refine t_X12_readRule_14 ⟨fun _ => ⟨fun q => ?_, fun q => ?_⟩, fun q => absurd (by decide) q⟩
    · cases r with
      | none => exact absurd rfl q
      | some w =>
        obtain ⟨hw, hw3⟩ := (hr w).mp rfl
        rintro M2 rfl
        have hk2 := wd2 ⟨_, hw⟩
        refine e_X12_go (d := d + 2) (s := nx tx n most s) (TR_o hT1 (wI_ne _ (by omega)) (wI_ne _ (by omega)) rfl) (by omega) (fun M3 n3 hT3 => zbt ?_)
        have e : rulP tx n most c s = .inr ((oneS 2 c.1, (btN c.2.1, pgN c.2.1, w, kyN c.2.1, prN c.2.1), c.2.2), nx tx n most (nx tx n most s)) := by
          rw [e0, hw]; simp only []; rw [if_pos ⟨by omega, by omega⟩, Nat.add_sub_cancel]
        obtain ⟨b1, b2, b3, b4, b5, b6, b7⟩ := hC1.2.1
        obtain ⟨f1, f2, f3⟩ := hC1.2.2.1
        refine h.2 _ e M3 hT3 (ClR_ro (M := wI M1 232 4 (upI (some w))) ⟨fun v hv => by rw [wI_ne _ (by omega)]; exact hC1.1 v hv, ⟨?_, ?_, ?_, ?_, ?_, b6, b7⟩, ⟨by rw [wI_1, if_neg (by omega)]; exact f1, fun p hp => by rw [wI_1, if_neg (by omega)]; exact f2 p hp, fun i hi => ⟨by rw [wI_1, if_neg (by omega)]; exact (f3 i hi).1, by rw [wI_1, if_neg (by omega)]; exact (f3 i hi).2⟩⟩, hC1.2.2.2⟩ n3.1) ((S1.w (by omega)).trans n3.ro.rc)
        · rw [wI_1, if_neg (by omega)]; exact b1
        · rw [wI_1, if_neg (by omega)]; exact b2
        · rw [wI_1, if_pos ⟨rfl, rfl⟩]; rfl
        · rw [wI_1, if_neg (by omega)]; exact b4
        · rw [wI_1, if_neg (by omega)]; exact b5
    · have hrn : r = none := by
        cases r with
        | none => rfl
        | some w => exact absurd q (nI_m1 (by have := ((hr w).mp rfl).2; omega))
      refine e_X12_bad1 hT1 (fun M2 g1 g2 => zbr (h.fl ?_ S1 g1 g2))
      rw [e0]
      cases hw : wdS (nx tx n most s) with
      | none => rfl
      | some w =>
        simp only []
        rw [if_neg (fun v => by
          have := (hr (w - 3)).mpr ⟨by rw [hw]; congr 1; omega, by omega⟩
          rw [hrn] at this; cases this)]
  have step : ∀ (i : Nat) (r : Option Nat), 3 ≤ i → i < 6 → (∀ r2, S_X12_readRule_14 (d + 4) (upI r2) (nI (i + 1)) M1 (zB Q) ∨ True) → (wdS (nx tx n most s) = some i → S_X12_readRule_14 (d + 4) (nI (i - 3)) (nI (i + 1)) M1 (zB Q)) → (wdS (nx tx n most s) ≠ some i → S_X12_readRule_14 (d + 4) (upI r) (nI (i + 1)) M1 (zB Q)) → S_X12_readRule_14 (d + 4) (upI r) (nI i) M1 (zB Q) := by
    intro i r hi3 hi6 _ h1 h0
    refine t_X12_readRule_14 ⟨fun q => absurd q (by rw [show (5 : Int32) = nI 5 from rfl]; exact nI_nlt (by omega) (by omega)), fun _ => e_X12_isWord (d := d + 1) (k := i) (by omega) hT1 ?_⟩
    have hp : piR i = i := by
      have : ∀ i, i < 6 → piR i = i := by decide
      exact this i hi6
    rw [hp, nI_1, show (nI i - 3 : Int32) = nI (i - 3) from pk_sub hi3]
    exact ⟨fun q => h0 (of_decide_eq_false q), fun q => h1 (of_decide_eq_true q)⟩
  have ne : ∀ i j : Nat, i ≠ j → (some i : Option Nat) ≠ some j := fun i j h q => h (Option.some.inj q)
  have f0 : wdS (nx tx n most s) = some 3 → S_X12_readRule_14 (d + 4) (upI (some 0)) 6 M1 (zB Q) := fun q => fin (some 0) (fun w => by rw [q]; exact ⟨fun e => by cases e; exact ⟨rfl, by omega⟩, fun e => by have := Option.some.inj e.1; congr 1; omega⟩)
  have f1 : wdS (nx tx n most s) = some 4 → S_X12_readRule_14 (d + 4) (upI (some 1)) 6 M1 (zB Q) := fun q => fin (some 1) (fun w => by rw [q]; exact ⟨fun e => by cases e; exact ⟨rfl, by omega⟩, fun e => by have := Option.some.inj e.1; congr 1; omega⟩)
  have f2 : wdS (nx tx n most s) = some 5 → S_X12_readRule_14 (d + 4) (upI (some 2)) 6 M1 (zB Q) := fun q => fin (some 2) (fun w => by rw [q]; exact ⟨fun e => by cases e; exact ⟨rfl, by omega⟩, fun e => by have := Option.some.inj e.1; congr 1; omega⟩)
  refine step 3 none (by omega) (by omega) (fun _ => Or.inr trivial) (fun q => step 4 (some 0) (by omega) (by omega) (fun _ => Or.inr trivial) (fun w => absurd (q.symm.trans w) (ne _ _ (by omega))) (fun _ => step 5 (some 0) (by omega) (by omega) (fun _ => Or.inr trivial) (fun w => absurd (q.symm.trans w) (ne _ _ (by omega))) (fun _ => f0 q))) (fun q3 => step 4 none (by omega) (by omega) (fun _ => Or.inr trivial) (fun q => step 5 (some 1) (by omega) (by omega) (fun _ => Or.inr trivial) (fun w => absurd (q.symm.trans w) (ne _ _ (by omega))) (fun _ => f1 q)) (fun q4 => step 5 none (by omega) (by omega) (fun _ => Or.inr trivial) (fun q => f2 q) (fun q5 => fin none (fun w => ⟨fun e => (by cases e), fun e => ?_⟩))))
  rcases (show w = 0 ∨ w = 1 ∨ w = 2 by omega) with rfl | rfl | rfl
  · exact absurd e.1 q3
  · exact absurd e.1 q4
  · exact absurd e.1 q5
end
