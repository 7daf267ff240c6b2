-- ===== a BOOK's text: what it tells; the class reads a line =====
/-- a line: its word, the first peer, the key or the other peer, the value -/
abbrev zBk : Type := Nat × Nat × Nat × Nat
section
variable (tx : Nat → Nat) (n most : Nat) (N : zNm)
def bkyP (w p : Nat) (s : zPs) : Sum zFt (zBk × zPs) := match namP (kyN N) s with
  | .inl f => .inl f
  | .inr k => if w = 11 then .inr ((w, p, k, 0), nx tx n most s) else match numP 0 999 (nx tx n most s) with
    | .inl f => .inl f
    | .inr v => .inr ((w, p, k, v), nx tx n most (nx tx n most s))
def botP (w p : Nat) (s : zPs) : Sum zFt (zBk × zPs) := match namP (prN N) s with
  | .inl f => .inl f
  | .inr q => if q = p then .inl (3, plS s) else .inr ((w, p, q, 0), nx tx n most s)
def bpaP (w : Nat) (s : zPs) : Sum zFt (zBk × zPs) := match namP (prN N) s with
  | .inl f => .inl f
  | .inr p => if w = 10 ∨ w = 11 then bkyP tx n most N w p (nx tx n most s) else botP tx n most N w p (nx tx n most s)
/-- a line's end behind a piece -/
def bndP (o : Sum zFt (zBk × zPs)) : Sum zFt (zBk × zPs) := match o with
  | .inl f => .inl f
  | .inr r => if sgS r.2 59 = true then .inr (r.1, nx tx n most r.2) else .inl (1, plS r.2)
def blnP (i : Nat) (s : zPs) : Sum zFt (zBk × zPs) := match wdS s with
  | none => .inl (1, plS s)
  | some w => if 9 ≤ w ∧ w ≤ 13 then (if 40 ≤ i then .inl (4, plS s) else bndP tx n most (bpaP tx n most N w (nx tx n most s))) else .inl (1, plS s)
/-- all lines -/
def blsP : Nat → Nat → List zBk → zPs → Sum (zFt × Nat) (List zBk)
  | 0, i, _, s => .inl ((1, plS s), i)
  | f + 1, i, bs, s => if s.1.1 = 0 then .inr bs else match blnP tx n most N i s with
    | .inl e => .inl (e, i)
    | .inr r => blsP f (i + 1) (bs ++ [r.1]) r.2
end
section
variable {d n most i k w p : Nat} {M M2 M3 : zMem} {N : zNm} {tx : Nat → Nat} {s : zPs} {f : zFt}
/-- a line in the class's rows -/
def rwC (M : zMem) (i : Nat) (b : zBk) : Prop := M.1 223 i = nI b.1 ∧ M.1 224 i = nI b.2.1 ∧ M.1 225 i = nI b.2.2.1 ∧ (b.1 = 10 → M.1 226 i = nI b.2.2.2)
/-- what the reading of the line i may change -/
def BrS (i : Nat) (M M2 : zMem) : Prop := Same (fun z => z = 220 ∨ (222 ≤ z ∧ z ≤ 226)) M M2 ∧ (∀ j, j ≠ 6 → M2.1 222 j = M.1 222 j) ∧ ∀ z, 223 ≤ z → z ≤ 226 → ∀ j, j ≠ i → M2.1 z j = M.1 z j
theorem BrS.refl (M : zMem) : BrS i M M := ⟨Same.refl _ _, fun _ _ => rfl, fun _ _ _ _ _ => rfl⟩
theorem BrS.trans (h : BrS i M M2) (h2 : BrS i M2 M3) : BrS i M M3 := ⟨h.1.trans h2.1, fun j a => (h2.2.1 j a).trans (h.2.1 j a), fun z a b j e => (h2.2.2 z a b j e).trans (h.2.2 z a b j e)⟩
theorem BrS.of (h : Same (fun z => z = 220) M M2) : BrS i M M2 := ⟨h.mono (fun z hz => Or.inl hz), fun j _ => by rw [h.1 222 (by omega)], fun z a b j _ => by rw [h.1 z (by omega)]⟩
theorem BrS.wr {z : Nat} {v : Int32} (h1 : 223 ≤ z) (h2 : z ≤ 226) : BrS i M (wI M z i v) := ⟨(Same.refl _ M).wI (by omega), fun j _ => by rw [wI_ne _ (by omega)], fun y a b j e => by rw [wI_1, if_neg (by omega)]⟩
theorem BrS.six {v : Int32} : BrS i M (wI M 222 6 v) := ⟨(Same.refl _ M).wI (by omega), fun j e => by rw [wI_1, if_neg (by omega)], fun y a b j e => by rw [wI_ne _ (by omega)]⟩
theorem TC_w {z j : Nat} {v : Int32} (h : TC M tx n most s) (hz : z ≠ 1 ∧ z ≠ 220) : TC (wI M z j v) tx n most s := TC_o h (wI_ne _ (by omega)) (wI_ne _ (by omega)) rfl
theorem nm_k (hN : okN N) (hd : hdC M 3 N) : nmsC M 4 (kyN N) := ⟨fun x hx => hN.2.2.2.2.2.1 x (List.mem_append_left _ hx), fun i hi => hd.2.2.2.2.2.1 i hi⟩
theorem nm_p (hN : okN N) (hd : hdC M 3 N) : nmsC M 5 (prN N) := ⟨fun x hx => hN.2.2.2.2.2.1 x (List.mem_append_right _ hx), fun i hi => hd.2.2.2.2.2.2 i hi⟩
theorem hd_br (hd : hdC M 3 N) (h : BrS i M M2) : hdC M2 3 N := hdC_same hd (h.1.1 3 (by omega)) (fun z hz => h.1.2 z (by omega))
/-- the answer of a piece of a line -/
def BPost (tx : Nat → Nat) (n most i : Nat) (Q : Bool → zMem → Prop) (M : zMem) (o : Sum zFt (zBk × zPs)) : Prop :=
  (∀ f, o = .inl f → ∀ M2, ftC M2 f → BrS i M M2 → M2.1 220 10 = M.1 220 10 → Q false M2) ∧ ∀ r, o = .inr r → ∀ M2, TC M2 tx n most r.2 → M2.1 225 i = nI r.1.2.2.1 → (r.1.1 = 10 → M2.1 226 i = nI r.1.2.2.2) → BrS i M M2 → (∀ j, 9 < j → M2.1 220 j = M.1 220 j) → M2.1 222 6 = M.1 222 6 → (∀ z, z = 223 ∨ z = 224 → M2.1 z = M.1 z) → Q true M2
theorem Fl_br (h : FlC M M2) : BrS i M M2 := BrS.of h.1
theorem Fl_10 (h : FlC M M2) : M2.1 220 10 = M.1 220 10 := h.2 10 (by omega) (by omega)
theorem b_keyPart {Q : Bool → zMem → Prop} (hN : okN N) (hd : hdC M 3 N) (hT : TC M tx n most s) (h6 : M.1 222 6 = nI i) (hi : i < 40) (hw : w = 10 ∨ w = 11) (h : BPost tx n most i Q M (bkyP tx n most N w p s)) : S_X0_readKeyPart (d + 5) (nI w) M (zB Q) := by
  have h24 := hN.2.2.2.1
  refine t_X0_readKeyPart (e_X6_seeKey (by decide) hd.2.2.2.1 h24 (nm_k hN hd) hT (fun f hf M2 g1 g2 => ⟨fun q => absurd rfl q, fun _ => zbf (h.1 f ?_ M2 g1 (Fl_br g2) (Fl_10 g2))⟩) (fun k hk hk2 => ⟨fun _ => ?_, fun q => absurd q (nI_m1 (by omega))⟩))
  · unfold bkyP; rw [hf]
  unfold bkyP at h
  rw [hk] at h
  simp only [] at h
  rw [h6, nI_clamp (by omega)]
  refine ⟨nIin hi (by omega), fun M1 e1 => ?_⟩
  have hT1 : TC M1 tx n most s := e1 ▸ TC_w hT (by omega)
  have b1 : BrS i M M1 := e1 ▸ BrS.wr (by omega) (by omega)
  refine e_X6_next hT1 (fun M2 n2 hT2 => ?_)
  have b2 : BrS i M M2 := b1.trans (BrS.of n2.1)
  have k225 : M2.1 225 i = nI k := by rw [n2.1.1 225 (by omega), e1, wI_1, if_pos ⟨rfl, rfl⟩]
  have c2 : ∀ j, 9 < j → M2.1 220 j = M.1 220 j := fun j hj => by rw [n2.2 j (by omega), e1, wI_ne _ (by omega)]
  have k6 : M2.1 222 6 = M.1 222 6 := by rw [n2.1.1 222 (by omega), e1, wI_ne _ (by omega)]
  have k34 : ∀ z, z = 223 ∨ z = 224 → M2.1 z = M.1 z := fun z hz => by rw [n2.1.1 z (by omega), e1, wI_ne _ (by omega)]
  refine ⟨fun q => ?_, fun q => zbt ?_⟩
  · have w10 : w = 10 := by
      rcases hw with e | e
      · exact e
      · exact absurd (by rw [e]; rfl) q
    rw [if_neg (by omega)] at h
    refine e_X6_seeNumber (lo := 0) (hi := 999) (by omega) (by omega) hT2 (fun f hf M3 g1 g2 => ⟨fun q => absurd rfl q, fun _ => zbf (h.1 f ?_ M3 g1 (b2.trans (Fl_br g2)) ((Fl_10 g2).trans (c2 10 (by omega))))⟩) (fun v hv hv2 => ⟨fun _ => ?_, fun q => absurd q (nI_m1 (by omega))⟩)
    · rw [hf]
    rw [hv] at h
    simp only [] at h
    rw [k6, h6, nI_clamp (by omega)]
    refine ⟨nIin hi (by omega), fun M3 e3 => ?_⟩
    have hT3 : TC M3 tx n most (nx tx n most s) := e3 ▸ TC_w hT2 (by omega)
    refine e_X6_next hT3 (fun M4 n4 hT4 => zbt (h.2 _ rfl M4 hT4 ?_ (fun _ => ?_) (b2.trans ((e3 ▸ BrS.wr (by omega) (by omega)).trans (BrS.of n4.1))) (fun j hj => ?_) ?_ (fun z hz => ?_)))
    · rw [n4.1.1 225 (by omega), e3, wI_ne _ (by omega)]; exact k225
    · rw [n4.1.1 226 (by omega), e3, wI_1, if_pos ⟨rfl, rfl⟩]
    · rw [n4.2 j (by omega), e3, wI_ne _ (by omega)]; exact c2 j hj
    · rw [n4.1.1 222 (by omega), e3, wI_ne _ (by omega)]; exact k6
    · rw [n4.1.1 z (by omega), e3, wI_ne _ (by omega)]; exact k34 z hz
  · have w11 : w = 11 := by
      rcases hw with e | e
      · rw [e] at q; exact absurd q (by decide)
      · exact e
    rw [if_pos w11] at h
    exact h.2 _ rfl M2 hT2 k225 (fun e => absurd (w11.symm.trans e) (by decide)) b2 c2 k6 k34
theorem b_other {Q : Bool → zMem → Prop} (hN : okN N) (hd : hdC M 3 N) (hT : TC M tx n most s) (h6 : M.1 222 6 = nI i) (hi : i < 40) (hp : p < (prN N).length) (hw : w ≠ 10) (h : BPost tx n most i Q M (botP tx n most N w p s)) : S_X0_readOtherPeer (d + 5) (nI p) M (zB Q) := by
  have h4 := hN.2.2.2.2.1
  refine t_X0_readOtherPeer (e_X6_seePeer (by decide) hd.2.2.2.2.1 h4 (nm_p hN hd) hT (fun f hf M2 g1 g2 => ⟨fun q => absurd rfl q, fun _ => zbf (h.1 f ?_ M2 g1 (Fl_br g2) (Fl_10 g2))⟩) (fun k hk hk2 => ⟨fun _ => ?_, fun q => absurd q (nI_m1 (by omega))⟩))
  · unfold botP; rw [hf]
  unfold botP at h
  rw [hk] at h
  simp only [] at h
  rw [nI_eq (by omega) (by omega)]
  refine ⟨fun q => ?_, fun q => e_X6_fail (k := 3) hT (fun M2 g1 g2 => zbr (h.1 _ (if_pos q) M2 g1 (Fl_br g2) (Fl_10 g2)))⟩
  rw [if_neg q] at h
  rw [h6, nI_clamp (by omega)]
  refine ⟨nIin hi (by omega), fun M1 e1 => ?_⟩
  have hT1 : TC M1 tx n most s := e1 ▸ TC_w hT (by omega)
  have b1 : BrS i M M1 := e1 ▸ BrS.wr (by omega) (by omega)
  refine e_X6_next hT1 (fun M2 n2 hT2 => zbt (h.2 _ rfl M2 hT2 ?_ (fun e => absurd e hw) (b1.trans (BrS.of n2.1)) (fun j hj => ?_) ?_ (fun z hz => ?_)))
  · rw [n2.1.1 225 (by omega), e1, wI_1, if_pos ⟨rfl, rfl⟩]
  · rw [n2.2 j (by omega), e1, wI_ne _ (by omega)]
  · rw [n2.1.1 222 (by omega), e1, wI_ne _ (by omega)]
  · rw [n2.1.1 z (by omega), e1, wI_ne _ (by omega)]
end
