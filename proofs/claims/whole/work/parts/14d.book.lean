-- ===== the model reads a BOOK's line =====
section
variable {d n most i k p : Nat} {M M2 M3 : zMem} {N : zNm} {tx : Nat → Nat} {s : zPs} {f : zFt}
/-- the model's number of a line's word -/
def opB (w : Nat) : Nat := if w = 10 then 0 else if w = 11 then 1 else if w = 12 then 2 else if w = 9 then 3 else 4
def rwR (M : zMem) (i : Nat) (b : zBk) : Prop := M.1 260 (4 * i) = nI (opB b.1) ∧ M.1 260 (4 * i + 1) = nI b.2.1 ∧ M.1 260 (4 * i + 2) = nI b.2.2.1 ∧ M.1 260 (4 * i + 3) = nI b.2.2.2
/-- what the reading of the line i may change -/
def RmS (i : Nat) (M M2 : zMem) : Prop := Same (fun z => z = 229 ∨ z = 260) M M2 ∧ (∀ j, j < 3 ∨ 13 < j → M2.1 229 j = M.1 229 j) ∧ ∀ j, j < 4 * i → M2.1 260 j = M.1 260 j
theorem RmS.refl (M : zMem) : RmS i M M := ⟨Same.refl _ _, fun _ _ => rfl, fun _ _ => rfl⟩
theorem RmS.trans (h : RmS i M M2) (h2 : RmS i M2 M3) : RmS i M M3 := ⟨h.1.trans h2.1, fun j a => (h2.2.1 j a).trans (h.2.1 j a), fun j a => (h2.2.2 j a).trans (h.2.2 j a)⟩
theorem RmS.of (h : RoR M M2) : RmS i M M2 := ⟨h.1.mono (fun z hz => Or.inl hz), h.2, fun j _ => by rw [h.1.1 260 (by omega)]⟩
theorem RmS.wr {j : Nat} {v : Int32} (h : 4 * i ≤ j) : RmS i M (wI M 260 j v) := ⟨(Same.refl _ M).wI (by omega), fun j _ => by rw [wI_ne _ (by omega)], fun k hk => by rw [wI_1, if_neg (by omega)]⟩
theorem TR_w {j : Nat} {v : Int32} (h : TR M tx n most s) : TR (wI M 260 j v) tx n most s := TR_o h (wI_ne _ (by omega)) (wI_ne _ (by omega)) rfl
theorem nr_k (hN : okN N) (hd : hdR M N) : nmsR M 237 0 (kyN N) := ⟨fun x hx => hN.2.2.2.2.2.1 x (List.mem_append_left _ hx), fun i hi => by rw [Nat.zero_add]; exact hd.2.2.2.2.2.1 i hi⟩
theorem nr_p (hN : okN N) (hd : hdR M N) : nmsR M 237 24 (prN N) := ⟨fun x hx => hN.2.2.2.2.2.1 x (List.mem_append_right _ hx), fun i hi => hd.2.2.2.2.2.2 i hi⟩
theorem hr_rm (hd : hdR M N) (h : RmS i M M2) : hdR M2 N := hdR_same hd (fun j _ => by rw [h.1.1 231 (by omega)]) (h.1.2 237 (by omega))
theorem c_keep {Q : Bool → zMem → Prop} {r : Bool} {j : Nat} (hj : j < 160) (h0 : r = false → Q false M) (h1 : r = true → Q true (wI M 260 j (M.1 229 13))) : S_X12_keep d (nI j) (bi r) M (zB Q) := by
  cases r with
  | false => exact t_X12_keep ⟨fun _ => ⟨Or.inl rfl, zbf (h0 rfl)⟩, fun q => absurd rfl q⟩
  | true =>
    refine t_X12_keep ⟨fun q => absurd q (by decide), fun _ => ⟨nIin hj (by omega), fun M1 e1 => ⟨Or.inr rfl, zbt ?_⟩⟩⟩
    rw [e1, nI_clamp (by omega)]
    exact h1 rfl
theorem m_other {Q : Bool → zMem → Prop} {w : Nat} (hN : okN N) (hd : hdR M N) (hT : TR M tx n most s) (hi : i < 40) (hp : p < (prN N).length) (h1 : M.1 260 (4 * i + 1) = nI p) (hf : ∀ f, botP tx n most N w p s = .inl f → ∀ M2, ftR M2 f → RmS i M M2 → Q false M2)
    (hs : ∀ r, botP tx n most N w p s = .inr r → ∀ M2, TR M2 tx n most r.2 → M2.1 260 (4 * i + 2) = nI r.1.2.2.1 → (∀ j, j ≠ 4 * i + 2 → M2.1 260 j = M.1 260 j) → RmS i M M2 → Q true M2) : S_X12_readOther (d + 3) (nI (4 * i + 1)) M (zB Q) := by
  have h4 := hN.2.2.2.2.1
  have hn := nr_p hN hd
  unfold botP at hf hs
  refine t_X12_readOther (e_X12_isName (d := d) hT ⟨fun e => ?_, fun e => e_X12_bad1 hT (fun M2 g1 g2 => zbr (hf _ ?_ M2 g1 (RmS.of g2)))⟩)
  rotate_left
  · unfold namP
    have : nmS s = none := by
      cases q : nmS s with
      | none => rfl
      | some l => rw [q] at e; cases e
    rw [this]
  obtain ⟨l, hl⟩ := Option.isSome_iff_exists.mp e
  obtain ⟨e2, hw, h12, -⟩ := nmS_some hT.2 hl
  have hzl : zl 237 = 28 := by decide
  rw [hd.2.2.2.2.1]
  refine c_X12_findIn (o := 24) (by decide) (by rw [hzl]; omega) (by rw [hzl]; decide) ?_
  rw [h12, ixW_R hn hw]
  have c1 : (nI (4 * i + 1) + 1).toNatClampNeg = 4 * i + 2 := by rw [nI_1, nI_clamp (by omega)]
  have v1 : vp_in (nI (4 * i + 1) + 1) 160 := by rw [nI_1]; exact nIin (by omega) (by omega)
  rw [c1, nI_clamp (by omega)]
  refine ⟨v1, fun M1 e1 => ⟨v1, ?_⟩⟩
  have hT1 : TR M1 tx n most s := e1 ▸ TR_w hT
  have m1 : RmS i M M1 := e1 ▸ RmS.wr (by omega)
  have k2 : M1.1 260 (4 * i + 2) = upI (ixN (prN N) l) := by rw [e1, wI_1, if_pos ⟨rfl, rfl⟩]
  have k1 : M1.1 260 (4 * i + 1) = nI p := by rw [e1, wI_1, if_neg (by omega)]; exact h1
  rw [k2, k1]
  cases hx : ixN (prN N) l with
  | none =>
    refine ⟨fun _ => e_X12_bad (k := 3) hT1 (fun M2 g1 g2 => zbr (hf _ ?_ M2 g1 (m1.trans (RmS.of g2)))), fun q => absurd rfl q⟩
    unfold namP; rw [hl]; simp only [hx]; rw [if_neg (show ¬ s.1.1 = 1 by omega)]
  | some q =>
    have hlt := (ixN_lt hx).1
    have hnam : namP (prN N) s = .inr q := by unfold namP; rw [hl]; simp only [hx]
    rw [hnam] at hf hs
    simp only [] at hf hs
    rw [hx] at k2
    refine ⟨fun w => absurd w (nI_m1 (by omega)), fun _ => ⟨v1, nIin (by omega) (by omega), ?_⟩⟩
    rw [show upI (some q) = nI q from rfl, nI_eq (by omega) (by omega)]
    refine ⟨fun w2 => ?_, fun w2 => e_X12_bad (k := 3) hT1 (fun M2 g1 g2 => zbr (hf _ ?_ M2 g1 (m1.trans (RmS.of g2))))⟩
    · rw [if_neg w2] at hs
      refine e_X12_go (d := d + 1) hT1 (by omega) (fun M2 n2 hT2 => zbt (hs _ rfl M2 hT2 ?_ (fun j hj => ?_) (m1.trans (RmS.of n2.ro))))
      · rw [n2.1.1 260 (by omega)]; exact k2
      · rw [n2.1.1 260 (by omega), e1, wI_1, if_neg (by omega)]
    · rw [if_pos w2, if_neg (show ¬ s.1.1 = 1 by omega)]
/-- which word it is -/
theorem opB_fold {o : Option Nat} : forS (fun j r => if o = some (piR (9 + j)) then nI j else r) 5 0 (-1) = (match o with
    | none => -1
    | some w => if 9 ≤ w ∧ w ≤ 13 then nI (opB w) else -1) := by
  have e : ∀ j, j < 5 → piR (9 + j) = (if j = 0 then 10 else if j = 1 then 11 else if j = 2 then 12 else if j = 3 then 9 else 13) := by decide
  show (if o = some (piR (9 + 4)) then nI 4 else if o = some (piR (9 + 3)) then nI 3 else if o = some (piR (9 + 2)) then nI 2 else if o = some (piR (9 + 1)) then nI 1 else if o = some (piR (9 + 0)) then nI 0 else -1) = _
  rw [e 4 (by omega), e 3 (by omega), e 2 (by omega), e 1 (by omega), e 0 (by omega)]
  cases o with
  | none => rfl
  | some w =>
    by_cases h : 9 ≤ w ∧ w ≤ 13
    · rcases (show w = 9 ∨ w = 10 ∨ w = 11 ∨ w = 12 ∨ w = 13 by omega) with rfl | rfl | rfl | rfl | rfl <;> decide
    · simp only [Option.some.injEq]
      rw [if_neg (show ¬ w = _ by simp; omega), if_neg (show ¬ w = _ by simp; omega), if_neg (show ¬ w = _ by simp; omega), if_neg (show ¬ w = _ by simp; omega), if_neg (show ¬ w = _ by simp; omega), if_neg h]
end
