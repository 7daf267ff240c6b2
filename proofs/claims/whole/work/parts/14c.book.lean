-- ===== the class reads a BOOK: all lines =====
/-- the answer of a reading of a BOOK's text -/
def rdB (N : zNm) (tx : Nat → Nat) (n : Nat) : Sum (zFt × Nat) (List zBk) := blsP tx n 400 N 41 0 [] (nextT tx n 400 0)
/-- a line that may stand in a BOOK -/
def okB (N : zNm) (b : zBk) : Prop := (9 ≤ b.1 ∧ b.1 ≤ 13) ∧ b.2.1 < (prN N).length ∧ ((b.1 = 10 ∨ b.1 = 11) → b.2.2.1 < (kyN N).length) ∧ (¬ (b.1 = 10 ∨ b.1 = 11) → b.2.2.1 < (prN N).length ∧ b.2.2.1 ≠ b.2.1) ∧ b.2.2.2 ≤ 999
section
variable {d n most i k p : Nat} {M M2 M3 : zMem} {N : zNm} {tx : Nat → Nat} {s : zPs} {f : zFt}
theorem namP_lt2 {names : List (List Nat)} {v : Nat} (h : namP names s = .inr v) : v < names.length := by
  unfold namP at h
  split at h
  · split at h
    · rename_i l _ j hj
      cases h
      exact (ixN_lt hj).1
    · cases h
  · cases h
theorem numP_le {lo hi v : Nat} (h : numP lo hi s = .inr v) : lo ≤ v ∧ v ≤ hi := by
  unfold numP at h
  split at h
  · split at h
    · rename_i q
      cases h
      exact q
    · cases h
  · cases h
theorem blnP_ok {r : zBk × zPs} (h : blnP tx n most N i s = .inr r) : okB N r.1 ∧ i < 40 := by
  unfold blnP at h
  split at h
  · cases h
  rename_i w hw
  split at h
  · rename_i hw2
    split at h
    · cases h
    rename_i hi
    refine ⟨?_, by omega⟩
    unfold bndP at h
    split at h
    · cases h
    rename_i o r2 e
    split at h
    · cases h
      show okB N r2.1
      unfold bpaP at e
      split at e
      · cases e
      rename_i p hp
      have hp2 := namP_lt2 hp
      split at e
      · rename_i hw3
        unfold bkyP at e
        split at e
        · cases e
        rename_i k hk
        have hk2 := namP_lt2 hk
        split at e
        · cases e
          exact ⟨hw2, hp2, fun _ => hk2, fun q => absurd hw3 q, Nat.zero_le _⟩
        · split at e
          · cases e
          rename_i v hv
          cases e
          exact ⟨hw2, hp2, fun _ => hk2, fun q => absurd hw3 q, (numP_le hv).2⟩
      · rename_i hw3
        unfold botP at e
        split at e
        · cases e
        rename_i q hq
        have hq2 := namP_lt2 hq
        split at e
        · cases e
        rename_i hne
        cases e
        exact ⟨hw2, hp2, fun z => absurd z hw3, fun _ => ⟨hq2, hne⟩, Nat.zero_le _⟩
    · cases h
  · cases h
theorem blnP_k (h : blnP tx n most N i s = .inl f) : okK f := by
  unfold blnP at h
  split at h
  · cases h; exact okK_1
  split at h
  · split at h
    · cases h; exact okK_4
    unfold bndP at h
    split at h
    · rename_i g e
      cases h
      unfold bpaP at e
      split at e
      · rename_i g2 e2; cases e; exact namP_k e2
      split at e
      · unfold bkyP at e
        split at e
        · rename_i g2 e2; cases e; exact namP_k e2
        split at e
        · cases e
        split at e
        · rename_i g2 e2; cases e; exact numP_k e2
        · cases e
      · unfold botP at e
        split at e
        · rename_i g2 e2; cases e; exact namP_k e2
        split at e
        · cases e; exact okK_3
        · cases e
    · split at h
      · cases h
      · cases h; exact okK_1
  · cases h; exact okK_1
theorem blsP_k : ∀ (fu i : Nat) (bs : List zBk) (s : zPs) {j : Nat}, blsP tx n most N fu i bs s = .inl (f, j) → okK f
  | 0, i, bs, s, j, h => by
    unfold blsP at h
    cases h
    exact okK_1
  | fu + 1, i, bs, s, j, h => by
    unfold blsP at h
    split at h
    · cases h
    · split at h
      · rename_i g hg
        cases h
        exact blnP_k hg
      · exact blsP_k fu (i + 1) _ _ h
/-- the lines in the class's rows -/
def rwsC (M : zMem) (bs : List zBk) : Prop := M.1 222 6 = nI bs.length ∧ bs.length ≤ 40 ∧ ∀ i b, bs[i]? = some b → rwC M i b ∧ okB N b
def BkS (M M2 : zMem) : Prop := Same (fun z => z = 220 ∨ (222 ≤ z ∧ z ≤ 226)) M M2 ∧ ∀ j, j ≠ 6 → M2.1 222 j = M.1 222 j
theorem BkS.trans (h : BkS M M2) (h2 : BkS M2 M3) : BkS M M3 := ⟨h.1.trans h2.1, fun j a => (h2.2 j a).trans (h.2 j a)⟩
theorem BrS.bk (h : BrS i M M2) : BkS M M2 := ⟨h.1, h.2.1⟩
theorem b_read {Q : Bool → zMem → Prop} (hN : okN N) (hd : hdC M 3 N) (hT : TC M tx n 400 (nextT tx n 400 0)) (h10 : M.1 220 10 = 0) (h11 : M.1 220 11 = 0)
    (hf : ∀ f j, rdB N tx n = .inl (f, j) → ∀ M2, ftC M2 f → M2.1 220 10 = nI j → BkS M M2 → Q false M2)
    (hs : ∀ bs, rdB N tx n = .inr bs → ∀ M2, rwsC (N := N) M2 bs → M2.1 220 10 = nI bs.length → M2.1 220 11 = 0 → BkS M M2 → Q true M2) : S_X0_read (d + 8) M (zB Q) := by
  refine t_X0_read (fun M1 e1 => ?_)
  have hT1 : TC M1 tx n 400 (nextT tx n 400 0) := e1 ▸ TC_w hT (by omega)
  have b1 : BkS M M1 := (e1 ▸ BrS.six (i := 0)).bk
  have fin : ∀ (i : Nat) (bs : List zBk) (s : zPs) (M2 : zMem), bs.length = i → (s.1.1 = 0 ∨ (s.1.1 = 1 ∧ M2.1 220 4 = 0)) → rdB N tx n = blsP tx n 400 N (41 - i) i bs s → BkS M M2 → TC M2 tx n 400 s → rwsC (N := N) M2 bs → M2.1 220 10 = nI i → M2.1 220 11 = 0 → S_X6_isWhole (d + 7) M2 (zB (fun r22 M23 => zB Q (some (.int (bi r22))) M23)) := by
    intro i bs s M2 hl hk hrd hS hT2 hr k10 k11
    have hi : i ≤ 40 := by rw [← hl]; exact hr.2.1
    rw [show 41 - i = (40 - i) + 1 by omega] at hrd
    refine e_X6_isWhole hT2 (fun hlt N3 g1 g2 => zbr (hf (1, plS s) i ?_ N3 g1 ?_ (hS.trans (Fl_br (i := 0) g2).bk))) (fun hle => zbr (hs bs ?_ M2 hr (by rw [hl]; exact k10) k11 hS))
    · rw [hrd]
      have k1 : s.1.1 = 1 := by
        rcases hk with q | q
        · have := (hT2.2.2.2.2.1 q).1.2
          omega
        · exact q.1
      unfold blsP
      rw [if_neg (by omega)]
      unfold blnP
      have : wdS s = none := by unfold wdS; rw [if_neg (by omega)]
      rw [this]
    · rw [g2.2 10 (by omega) (by omega)]; exact k10
    · rw [hrd]
      have k0 : s.1.1 = 0 := by
        rcases hk with q | q
        · exact q
        · rcases (hT2.2.2.2.2.2.1 q.1).1 with w | w
          · omega
          · rw [w] at q; exact absurd q.2 (by decide)
      unfold blsP
      rw [if_pos k0]
  have key : ∀ (f i : Nat) (bs : List zBk) (s : zPs) (M2 : zMem), i + f = 40 → bs.length = i → rdB N tx n = blsP tx n 400 N (f + 1) i bs s → BkS M M2 → TC M2 tx n 400 s → rwsC (N := N) M2 bs → M2.1 220 10 = nI i → M2.1 220 11 = 0 → S_X0_read_7 (d + 8) (nI i) M2 (zB Q) := by
    intro f
    induction f with
    | zero =>
      intro i bs s M2 hi hl hrd hS hT2 hr k10 k11
      refine t_X0_read_7 ⟨fun q => absurd q (by rw [show (940 : Int32) = nI 940 from rfl]; exact nI_ge (by omega) (by omega)), fun _ => ⟨fun q => fin i bs s M2 hl ((TC_0 hT2).mp q) (by rw [hrd, show 41 - i = 0 + 1 by omega]) hS hT2 hr k10 k11, fun q => ?_⟩⟩
      have hk0 : ¬ s.1.1 = 0 := fun w => q ((TC_0 hT2).mpr (Or.inl w))
      unfold blsP at hrd
      rw [if_neg hk0] at hrd
      refine b_readLine (d := d + 1) (i := i) (k := i) hN (hdC_same hd (hS.1.1 3 (by omega)) (fun z hz => hS.1.2 z (by omega))) hT2 (by rw [hr.1, hl]) (by omega) k10 (fun e he M4 g1 g2 g3 => ⟨fun w => (by cases w), fun _ => zbf (hf e i (by rw [hrd, he]) M4 g1 g3 (hS.trans g2.bk))⟩) (fun r hr2 M4 g1 g2 g3 g4 g5 g6 => ?_)
      have := (blnP_ok hr2).2
      omega
    | succ f ih =>
      intro i bs s M2 hi hl hrd hS hT2 hr k10 k11
      refine t_X0_read_7 ⟨fun q => absurd q (by rw [show (940 : Int32) = nI 940 from rfl]; exact nI_ge (by omega) (by omega)), fun _ => ⟨fun q => fin i bs s M2 hl ((TC_0 hT2).mp q) (by rw [hrd, show 41 - i = f + 1 + 1 by omega]) hS hT2 hr k10 k11, fun q => ?_⟩⟩
      have hk0 : ¬ s.1.1 = 0 := fun w => q ((TC_0 hT2).mpr (Or.inl w))
      unfold blsP at hrd
      rw [if_neg hk0] at hrd
      refine b_readLine (d := d + 1) (i := i) (k := i) hN (hdC_same hd (hS.1.1 3 (by omega)) (fun z hz => hS.1.2 z (by omega))) hT2 (by rw [hr.1, hl]) (by omega) k10 (fun e he M4 g1 g2 g3 => ⟨fun w => (by cases w), fun _ => zbf (hf e i (by rw [hrd, he]) M4 g1 g3 (hS.trans g2.bk))⟩) (fun r hr2 M4 g1 g2 g3 g4 g5 g6 => ⟨fun _ => ?_, fun w => (by cases w)⟩)
      rw [nI_1]
      have hlen : (bs ++ [r.1]).length = i + 1 := by rw [List.length_append, hl]; rfl
      refine ih (i + 1) (bs ++ [r.1]) r.2 M4 (by omega) hlen (by rw [hrd, hr2]) (hS.trans g6.bk) g1 ⟨by rw [hlen]; exact g3, by omega, fun j b hj => ?_⟩ g4 (g5.trans k11)
      by_cases ej : j < i
      · rw [List.getElem?_append_left (by omega)] at hj
        obtain ⟨⟨q1, q2, q3, q4⟩, q5⟩ := hr.2.2 j b hj
        exact ⟨⟨(g6.2.2 223 (by omega) (by omega) j (by omega)).trans q1, (g6.2.2 224 (by omega) (by omega) j (by omega)).trans q2, (g6.2.2 225 (by omega) (by omega) j (by omega)).trans q3, fun z => (g6.2.2 226 (by omega) (by omega) j (by omega)).trans (q4 z)⟩, q5⟩
      · rw [List.getElem?_append_right (by omega)] at hj
        have e0 : j - bs.length = 0 := by
          have := (List.getElem?_eq_some_iff.mp hj).1
          simp at this
          omega
        rw [e0] at hj
        cases hj
        have ej2 : j = i := by omega
        rw [ej2]
        exact ⟨g2, (blnP_ok hr2).1⟩
  exact key 40 0 [] (nextT tx n 400 0) M1 (by omega) rfl rfl b1 hT1 ⟨by rw [e1, wI_1, if_pos ⟨rfl, rfl⟩]; rfl, Nat.zero_le _, fun i b hi => by cases hi⟩ (by rw [e1, wI_ne _ (by omega)]; exact h10) (by rw [e1, wI_ne _ (by omega)]; exact h11)
end
