-- ===== a CLUSTER's text: what stays so, and how far =====
section
variable {n most B : Nat} {tx : Nat → Nat} {s : zPs} {c : zCl}
theorem nextT_wd {a : Nat} (h : (nextT tx n most a).1.1 = 2) : wdOK (nextT tx n most a).1.2.2.1 := by
  have h1 := far_ge isW tx (min n most - a) a
  unfold nextT at h ⊢
  generalize far isW tx (min n most - a) a = b at h1 h ⊢
  simp only [] at h ⊢
  split at h
  · have h : (if n ≤ most then 0 else 1) = 2 := h
    split at h <;> omega
  · rename_i hlt
    rw [if_neg hlt]
    split at h
    · rename_i hA
      rw [if_pos hA]
      have h3 : b < far isA tx (n - b) b := by
        obtain ⟨c, hc⟩ : ∃ c, n - b = c + 1 := ⟨n - b - 1, by omega⟩
        rw [hc, far_s hA]
        have := far_ge isA tx c (b + 1)
        omega
      obtain ⟨cs, hcs⟩ := seg_head (tx := tx) h3
      have h : (runT b (seg tx b (far isA tx (n - b) b))).1 = 2 := h
      show wdOK (runT b (seg tx b (far isA tx (n - b) b))).2.2.1
      unfold runT at h ⊢
      split at h
      · rename_i q
        rw [if_pos q]
        exact wd_of (by rw [hcs]; simp) q.1 q.2
      · split at h
        · exact absurd h (by show ¬ (3 = 2); omega)
        · exact absurd h (by show ¬ (1 = 2); omega)
    · split at h
      · exact absurd h (by show ¬ (4 = 2); omega)
      · exact absurd h (by show ¬ (1 = 2); omega)
theorem nmS_wd {l : List Nat} (h : nmS (nx tx n most s) = some l) : wdOK l := by
  unfold nmS at h
  split at h
  · rename_i q
    cases h
    exact nextT_wd q.1
  · cases h
theorem val_ok {v : Nat} (h : v ≤ 999) : -1 ≤ (nI v).toInt ∧ (nI v).toInt ≤ 999 := by
  rw [nI_toInt (by omega)]
  omega
theorem cl_F {F G : Nat → Int32} (h : cl F = F) (hg : cl G = G) : cl F = F := h
theorem lneP_ok {r : zCl × zPs} (hc : okCl B c) (h : lneP tx n most c s = .inr r) : okCl (B + 1) r.1 := by
  obtain ⟨⟨k1, k2, k3, k4, k5, k6, k7⟩, hcl, hb⟩ := hc
  unfold lneP at h
  split at h
  · unfold setP at h
    split at h
    · cases h
    · cases hn : numP 1 (if 0 = 0 then 4 else 12) (nx tx n most s) with
      | inl f => rw [hn] at h; cases h
      | inr v =>
        rw [hn] at h
        have hv := numP_lt hn
        cases h
        exact ⟨okN_of ⟨hv.1, hv.2⟩ k2 k3 k4 k5 k6 k7, hcl, bdG_mono hb (by omega) (Nat.le_refl _)⟩
  split at h
  · unfold setP at h
    split at h
    · cases h
    · cases hn : numP 1 (if 1 = 0 then 4 else 12) (nx tx n most s) with
      | inl f => rw [hn] at h; cases h
      | inr v =>
        rw [hn] at h
        have hv := numP_lt hn
        cases h
        exact ⟨okN_of k1 ⟨hv.1, hv.2⟩ k3 k4 k5 k6 k7, hcl, bdG_mono hb (by omega) (Nat.le_refl _)⟩
  split at h
  · unfold rulP at h
    split at h
    · cases h
    · cases hw : wdS (nx tx n most s) with
      | none => rw [hw] at h; cases h
      | some w =>
        rw [hw] at h
        simp only [] at h
        split at h
        · cases h
          exact ⟨okN_of k1 k2 (by omega) k4 k5 k6 k7, hcl, bdG_mono hb (by omega) (Nat.le_refl _)⟩
        · cases h
  split at h
  · unfold keyP at h
    split at h
    · cases h
    · cases hn : newP c (nx tx n most s) with
      | inl f => rw [hn] at h; cases h
      | inr l =>
        rw [hn] at h
        obtain ⟨e1, e2, e3⟩ := newP_ok hn
        have hw := nmS_wd e1
        have n1 := ixN_none e2
        have n2 := ixN_none e3
        cases h
        refine ⟨okN_of k1 k2 k3 (by rw [List.length_append, List.length_singleton]; omega) k5 (fun x hx => ?_) ?_, hcl, bdG_mono hb (by omega) (Nat.le_refl _)⟩
        · rcases List.mem_append.mp hx with q | q
          · rcases List.mem_append.mp q with q | q
            · exact k6 x (List.mem_append_left _ q)
            · rw [List.mem_singleton.mp q]; exact hw
          · exact k6 x (List.mem_append_right _ q)
        · have h7 := List.nodup_append.mp k7
          refine List.nodup_append.mpr ⟨List.nodup_append.mpr ⟨h7.1, by simp, fun a ha b hb2 => ?_⟩, h7.2.1, fun a ha b hb2 => ?_⟩
          · rw [List.mem_singleton.mp hb2]; exact fun q => n1 (by rw [← q]; exact ha)
          · rcases List.mem_append.mp ha with q | q
            · exact h7.2.2 a q b hb2
            · rw [List.mem_singleton.mp q]; exact fun q2 => n2 (by rw [q2]; exact hb2)
  split at h
  · unfold perP at h
    split at h
    · cases h
    · cases hn : newP c (nx tx n most s) with
      | inl f => rw [hn] at h; cases h
      | inr l =>
        rw [hn] at h
        obtain ⟨e1, e2, e3⟩ := newP_ok hn
        have hw := nmS_wd e1
        have n1 := ixN_none e2
        have n2 := ixN_none e3
        cases h
        refine ⟨okN_of k1 k2 k3 k4 (by rw [List.length_append, List.length_singleton]; omega) (fun x hx => ?_) ?_, hcl, bdG_mono hb (by omega) ?_⟩
        · rcases List.mem_append.mp hx with q | q
          · exact k6 x (List.mem_append_left _ q)
          · rcases List.mem_append.mp q with q | q
            · exact k6 x (List.mem_append_right _ q)
            · rw [List.mem_singleton.mp q]; exact hw
        · have h7 := List.nodup_append.mp k7
          refine List.nodup_append.mpr ⟨h7.1, List.nodup_append.mpr ⟨h7.2.1, by simp, fun a ha b hb2 => ?_⟩, fun a ha b hb2 => ?_⟩
          · rw [List.mem_singleton.mp hb2]; exact fun q => n2 (by rw [← q]; exact ha)
          · rcases List.mem_append.mp hb2 with q | q
            · exact h7.2.2 a ha b q
            · rw [List.mem_singleton.mp q]; exact fun q2 => n1 (by rw [← q2]; exact ha)
        · show (prN c.2.1).length ≤ (prN c.2.1 ++ [l]).length
          rw [List.length_append]; omega
  have k4 : (kyN c.2.1).length ≤ 24 := k4
  have k5 : (prN c.2.1).length ≤ 4 := k5
  split at h
  · unfold hasP at h
    cases h1 : namP (prN c.2.1) (nx tx n most s) with
    | inl f => rw [h1] at h; cases h
    | inr p =>
      rw [h1] at h
      simp only [] at h
      cases h2 : namP (kyN c.2.1) (nx tx n most (nx tx n most s)) with
      | inl f => rw [h2] at h; cases h
      | inr k =>
        rw [h2] at h
        simp only [] at h
        split at h
        · cases h
        · cases h3 : numP 0 999 (nx tx n most (nx tx n most (nx tx n most s))) with
          | inl f => rw [h3] at h; cases h
          | inr v =>
            rw [h3] at h
            have p1 := namP_lt h1
            have p2 := namP_lt h2
            have p3 := numP_lt h3
            cases h
            exact ⟨⟨k1, k2, k3, k4, k5, k6, k7⟩, by rw [writeF_cl (by omega) (by omega), hcl], bdG_write hb (by omega) (by omega) (val_ok p3.2)⟩
  split at h
  · unfold cutP at h
    cases h1 : namP (prN c.2.1) (nx tx n most s) with
    | inl f => rw [h1] at h; cases h
    | inr p =>
      rw [h1] at h
      simp only [] at h
      cases h2 : namP (prN c.2.1) (nx tx n most (nx tx n most s)) with
      | inl f => rw [h2] at h; cases h
      | inr q =>
        rw [h2] at h
        simp only [] at h
        split at h
        · cases h
        · rename_i hne
          have p1 := namP_lt h1
          have p2 := namP_lt h2
          cases h
          exact ⟨⟨k1, k2, k3, k4, k5, k6, k7⟩, by rw [turnF_cl (by omega) (by omega), hcl], bdG_mono (bdG_turn hb k5 p1 p2 (fun w => hne (Or.inl w))) (by omega) (Nat.le_refl _)⟩
  cases h
/-- a line goes on at least a token -/
theorem nx_ge (s : zPs) : s.2 ≤ (nx tx n most s).2 := by
  have h1 := far_ge isW tx (min n most - s.2) s.2
  unfold nx nextT
  generalize far isW tx (min n most - s.2) s.2 = b at h1
  simp only []
  split
  · exact h1.1
  · split
    · have := far_ge isA tx (n - b) b
      show s.2 ≤ far isA tx (n - b) b
      omega
    · split
      · show s.2 ≤ b + 1; omega
      · show s.2 ≤ b + 1; omega
theorem nx_gt (h : 2 ≤ (nx tx n most s).1.1) : s.2 < (nx tx n most s).2 := by
  have := okS_next tx n most s.2 h
  show s.2 < (nextT tx n most s.2).2
  omega
theorem lneP_nx {r : zCl × zPs} (h : lneP tx n most c s = .inr r) : ∃ s1, r.2 = nx tx n most s1 ∧ s.2 ≤ s1.2 := by
  have g1 := nx_ge (tx := tx) (n := n) (most := most) s
  have g2 := nx_ge (tx := tx) (n := n) (most := most) (nx tx n most s)
  have g3 := nx_ge (tx := tx) (n := n) (most := most) (nx tx n most (nx tx n most s))
  unfold lneP at h
  split at h
  · unfold setP at h
    split at h
    · cases h
    · cases hn : numP 1 (if 0 = 0 then 4 else 12) (nx tx n most s) with
      | inl f => rw [hn] at h; cases h
      | inr v => rw [hn] at h; cases h; exact ⟨_, rfl, g1⟩
  split at h
  · unfold setP at h
    split at h
    · cases h
    · cases hn : numP 1 (if 1 = 0 then 4 else 12) (nx tx n most s) with
      | inl f => rw [hn] at h; cases h
      | inr v => rw [hn] at h; cases h; exact ⟨_, rfl, g1⟩
  split at h
  · unfold rulP at h
    split at h
    · cases h
    · cases hw : wdS (nx tx n most s) with
      | none => rw [hw] at h; cases h
      | some w =>
        rw [hw] at h
        simp only [] at h
        split at h
        · cases h; exact ⟨_, rfl, g1⟩
        · cases h
  split at h
  · unfold keyP at h
    split at h
    · cases h
    · cases hn : newP c (nx tx n most s) with
      | inl f => rw [hn] at h; cases h
      | inr l => rw [hn] at h; cases h; exact ⟨_, rfl, g1⟩
  split at h
  · unfold perP at h
    split at h
    · cases h
    · cases hn : newP c (nx tx n most s) with
      | inl f => rw [hn] at h; cases h
      | inr l => rw [hn] at h; cases h; exact ⟨_, rfl, g1⟩
  split at h
  · unfold hasP at h
    cases h1 : namP (prN c.2.1) (nx tx n most s) with
    | inl f => rw [h1] at h; cases h
    | inr p =>
      rw [h1] at h
      simp only [] at h
      cases h2 : namP (kyN c.2.1) (nx tx n most (nx tx n most s)) with
      | inl f => rw [h2] at h; cases h
      | inr k =>
        rw [h2] at h
        simp only [] at h
        split at h
        · cases h
        · cases h3 : numP 0 999 (nx tx n most (nx tx n most (nx tx n most s))) with
          | inl f => rw [h3] at h; cases h
          | inr v => rw [h3] at h; cases h; exact ⟨_, rfl, by omega⟩
  split at h
  · unfold cutP at h
    cases h1 : namP (prN c.2.1) (nx tx n most s) with
    | inl f => rw [h1] at h; cases h
    | inr p =>
      rw [h1] at h
      simp only [] at h
      cases h2 : namP (prN c.2.1) (nx tx n most (nx tx n most s)) with
      | inl f => rw [h2] at h; cases h
      | inr q =>
        rw [h2] at h
        simp only [] at h
        split at h
        · cases h
        · cases h; exact ⟨_, rfl, by omega⟩
  cases h
theorem linP_ok {r : zCl × zPs} (hc : okCl B c) (h : linP tx n most c s = .inr r) : okCl (B + 1) r.1 ∧ ∃ s1, r.2 = nx tx n most s1 ∧ s.2 < s1.2 := by
  unfold linP at h
  cases hl : lneP tx n most c s with
  | inl f => rw [hl] at h; cases h
  | inr x =>
    rw [hl] at h
    simp only [] at h
    split at h
    · rename_i q
      cases h
      obtain ⟨s1, e1, e2⟩ := lneP_nx hl
      have ho : okCl (B + 1) x.1 := lneP_ok hc hl
      refine ⟨ho, x.2, rfl, ?_⟩
      have h4 : x.2.1.1 = 4 := (of_decide_eq_true q).1
      rw [e1] at h4 ⊢
      have := nx_gt (tx := tx) (n := n) (most := most) (s := s1) (by omega)
      omega
    · cases h
end
section
variable {d n most B : Nat} {M : zMem} {tx : Nat → Nat} {s : zPs} {c : zCl}
theorem p_readLine {Q : Bool → zMem → Prop} {k : Nat} (hc : okCl B c) (hC : ClC M c) (hT : TC M tx n most s) (hk : M.1 220 10 = nI k) (hf : ∀ f, linP tx n most c s = .inl f → ∀ M2, ftC M2 f → CrS M M2 → M2.1 220 10 = nI k → Q false M2)
    (hs : ∀ r, linP tx n most c s = .inr r → ∀ M2, TC M2 tx n most r.2 → ClC M2 r.1 → M2.1 220 10 = nI (k + 1) → M2.1 220 11 = M.1 220 11 → CrS M M2 → Q true M2) : S_X1_readLine (d + 5) M (zB Q) := by
  have h6 := TkC_6 hT.2
  -- behind a piece: its end
  have cont : FPost tx n most (fun r M' => (r = false → zB Q (some (.int 0)) M') ∧ (r = true → S_X6_passLineEnd (d + 4) M' (zB (fun r2 M2 => (r2 = false → zB Q (some (.int 0)) M2) ∧ (r2 = true → zB Q (some (.int 1)) M2))))) M (lneP tx n most c s) := by
    refine ⟨fun f ho M2 h1 h2 h3 => ⟨fun _ => zbf (hf f ?_ M2 h1 h2 (h3.trans hk)), fun q => (by cases q)⟩, fun r ho M2 h1 h2 h3 => ⟨fun q => (by cases q), fun _ => ?_⟩⟩
    · unfold linP; rw [ho]
    · refine e_X6_passLineEnd (k := k) h1 ((h3.2 10 (by omega)).trans hk) (fun q M3 g1 g2 => ⟨fun _ => zbf (hf (1, plS r.2) ?_ M3 g1 (h3.1.trans (g2.1.mono (fun i hi => Or.inl hi))) ?_), fun w => (by cases w)⟩) (fun q M3 g1 g2 g3 g4 => ⟨fun w => (by cases w), fun _ => zbt (hs (r.1, nx tx n most r.2) ?_ M3 g1 (ClC_nx h2 g4) g2 (g3.trans (h3.2 11 (by omega))) (h3.1.trans (g4.mono (fun i hi => Or.inl hi))))⟩)
      · unfold linP; rw [ho]; simp only []; rw [if_neg (by rw [q]; decide)]
      · rw [g2.2 10 (by omega) (by omega), h3.2 10 (by omega)]; exact hk
      · unfold linP; rw [ho]; simp only []; rw [if_pos q]
  have wi : ∀ i : Nat, i < 24 → M.1 220 6 = nI i → wdS s = some i := by
    intro i hi e
    rw [h6] at e
    cases hw : wdS s with
    | none => rw [hw] at e; exact absurd e.symm (nI_m1 (by omega))
    | some w =>
      rw [hw] at e
      have := wdS_lt hw
      have e : nI w = nI i := e
      rw [(nI_eq (by omega) (by omega)).mp e]
  have ne : ∀ i j : Nat, i ≠ j → (some i : Option Nat) ≠ some j := fun i j h q => h (Option.some.inj q)
  refine t_X1_readLine ⟨fun e => ?_, fun e => ?_, fun e => ?_, fun e => ?_, fun e => ?_, fun e => ?_, fun e => ?_, fun e0 e1 e2 e6 e7 e8 e9 => ?_⟩
  · have w := wi 0 (by omega) e
    rw [e]
    refine p_readSetting (w := 0) (Or.inl rfl) hc hC hT ?_
    have eo : lneP tx n most c s = setP tx n most 0 c s := by unfold lneP; rw [if_pos w]
    rw [← eo]; exact cont
  · have w := wi 1 (by omega) e
    rw [e]
    refine p_readSetting (w := 1) (Or.inr rfl) hc hC hT ?_
    have eo : lneP tx n most c s = setP tx n most 1 c s := by unfold lneP; rw [w, if_neg (ne _ _ (by omega)), if_pos rfl]
    rw [← eo]; exact cont
  · have w := wi 2 (by omega) e
    rw [e]
    refine p_readRule hc hC hT ?_
    have eo : lneP tx n most c s = rulP tx n most c s := by unfold lneP; rw [w, if_neg (ne _ _ (by omega)), if_neg (ne _ _ (by omega)), if_pos rfl]
    rw [← eo]; exact cont
  · have w := wi 6 (by omega) e
    refine p_readKey hc hC hT ?_
    have eo : lneP tx n most c s = keyP tx n most c s := by unfold lneP; rw [w, if_neg (ne _ _ (by omega)), if_neg (ne _ _ (by omega)), if_neg (ne _ _ (by omega)), if_pos rfl]
    rw [← eo]; exact cont
  · have w := wi 7 (by omega) e
    refine p_readPeer hc hC hT ?_
    have eo : lneP tx n most c s = perP tx n most c s := by unfold lneP; rw [w, if_neg (ne _ _ (by omega)), if_neg (ne _ _ (by omega)), if_neg (ne _ _ (by omega)), if_neg (ne _ _ (by omega)), if_pos rfl]
    rw [← eo]; exact cont
  · have w := wi 8 (by omega) e
    refine p_readHas hc hC hT ?_
    have eo : lneP tx n most c s = hasP tx n most c s := by unfold lneP; rw [w, if_neg (ne _ _ (by omega)), if_neg (ne _ _ (by omega)), if_neg (ne _ _ (by omega)), if_neg (ne _ _ (by omega)), if_neg (ne _ _ (by omega)), if_pos rfl]
    rw [← eo]; exact cont
  · have w := wi 9 (by omega) e
    refine p_readCut hc hC hT ?_
    have eo : lneP tx n most c s = cutP tx n most c s := by unfold lneP; rw [w, if_neg (ne _ _ (by omega)), if_neg (ne _ _ (by omega)), if_neg (ne _ _ (by omega)), if_neg (ne _ _ (by omega)), if_neg (ne _ _ (by omega)), if_neg (ne _ _ (by omega)), if_pos rfl]
    rw [← eo]; exact cont
  · have wn : ∀ i : Nat, ¬ M.1 220 6 = nI i → wdS s ≠ some i := fun i e q => e (by rw [h6, q]; rfl)
    have eo : linP tx n most c s = .inl (1, plS s) := by
      unfold linP lneP
      rw [if_neg (wn 0 e0), if_neg (wn 1 e1), if_neg (wn 2 e2), if_neg (wn 6 e6), if_neg (wn 7 e7), if_neg (wn 8 e8), if_neg (wn 9 e9)]
    exact e_X6_fail (k := 1) hT (fun M2 h1 h2 => zbr (hf _ eo M2 h1 (h2.1.mono (fun i hi => Or.inl hi)) ((h2.2 10 (by omega) (by omega)).trans hk)))
end
