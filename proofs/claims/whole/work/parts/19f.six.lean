-- ===== mean and part, both sides =====
section
variable {d B p q k : Nat} {M M2 : zMem} {N : zNm} {P : zPl} {F : Nat → Int32} {us : List (Nat → Int32)} {x y z : Int32} {Q : Int32 → zMem → Prop}
theorem e_entriesOf (h : JA B M N F us) (hp : p < 4) (hQ : Q (nI (ksP (plOf N) F p).length) M) : S_X12_entriesOf (d + 2) (nI p) M (zI Q) := by
  refine c_X12_entriesOf hp h.r0 h.n24 ?_
  rw [cntF_congr (fun k hk => PR_has h.pr hp (Nat.lt_of_lt_of_le hk h.n24)), ← ksP_cnt h.pc.1]
  exact hQ
theorem pop_31 (x : Int32) : pop x < 2 ^ 31 := Nat.lt_of_le_of_lt (pb_le (bt x) 32) (by decide)
theorem ksP_24 (hP : okP P) : (ksP P F p).length ≤ 24 := by
  have h1 : (ksP P F p).length ≤ (List.range (nP P)).length := by
    unfold ksP keysT
    refine Nat.le_trans (List.length_filter_le _ _) ?_
    rw [List.length_map]; exact Nat.le_refl _
  rw [List.length_range] at h1
  exact Nat.le_trans h1 hP.1
theorem tr0 (hP : okP P) : (trP P F p).length = 0 ↔ (ksP P F p).length = 0 := by
  constructor
  · intro e
    cases hk : ksP P F p with
    | nil => rfl
    | cons a l =>
      obtain ⟨n, hn, -⟩ := rootT_head (lvP P) (digF (kdP P) F p) (ks := ksP P F p) (by rw [hk]; exact List.cons_ne_nil _ _)
      have := (List.getElem?_eq_some_iff.mp hn).1
      have e : (treeT (lvP P) (digF (kdP P) F p) (ksP P F p)).length = 0 := e
      omega
  · intro e
    have : (trP P F p).length ≤ (ksP P F p).length := treeT_len (lv := lvP P) (dg := digF (kdP P) F p) (fun k hk => (ksP_mem hP hk).2.1)
    omega
theorem m_mean (h : JA B M N F us) (hp : p < mP (plOf N)) (hz : inN x 2 = true) (hk : 0 < (ksP (plOf N) F p).length) {v : Int32} (hv : frcV (ksP (plOf N) F p).length (trP (plOf N) F p).length x = v) : S_X12_mean (d + 40) (nI p) x (wL M 263 0 v.toInt64) (zI (eR B v)) := by
  have h4 := h.m4
  have hl := trP_len (P := plOf N) (F := F) (p := p) h.pc.1
  have hk2 := ksP_24 (P := plOf N) (F := F) (p := p) h.pc.1
  have ht : 0 < (trP (plOf N) F p).length := by
    have := (tr0 (F := F) (p := p) h.pc.1).mp
    omega
  refine t_X12_mean (fun M1 e1 => c_X12_isPeer (e1 ▸ (h.out _).w0.r1) h4 ⟨fun e2 => (by rw [inN_nI hp (by omega)] at e2; cases e2), fun _ => ?_⟩)
  have hw : JA B M1 N F us := e1 ▸ (h.out _).w0
  refine e_entriesOf (d := d + 37) hw (by omega) ⟨fun e => absurd e (nI_ne0 hk (by omega)), fun _ => c_X12_isIn ?_⟩
  rw [show (decide (¬ x < 0) && decide (¬ (1 : Int32) < x)) = inN x 2 from inN_pred (n := 2) (by omega) x, hz]
  refine ⟨fun _ => e_X12_layTree (d := d + 11) (tt := 0) (by omega) (by omega) hw.pr (fun M2 a1 a2 l => ?_), fun e2 => (by cases e2)⟩
  have lo : LayOnly M1 M2 := l.1
  refine e_entriesOf (d := d + 37) (hw.lay lo) (by omega) ?_
  rw [a1]
  refine c_fraction (d := d + 38) (by omega) ht hl (zii ⟨hv, ?_, ?_, (hw.lay lo).j⟩)
  · rw [lo.1 229 (by omega), e1, wI_1, if_pos ⟨rfl, rfl⟩]
  · rw [lo.2 263 (by omega), e1, wI_2, wL_s]
theorem m_meanX (h : JA B M N F us) (hp : p < mP (plOf N)) (hx : inN x 2 = false ∨ (ksP (plOf N) F p).length = 0) : S_X12_mean (d + 40) (nI p) x M (zI (eX B)) := by
  have h4 := h.m4
  refine t_X12_mean (fun M1 e1 => c_X12_isPeer (e1 ▸ h.w0.r1) h4 ⟨fun e2 => (by rw [inN_nI hp (by omega)] at e2; cases e2), fun _ => ?_⟩)
  have hw : JA B M1 N F us := e1 ▸ h.w0
  refine e_entriesOf (d := d + 37) hw (by omega) ⟨fun e => m_refuse hw, fun e => c_X12_isIn ?_⟩
  rw [show (decide (¬ x < 0) && decide (¬ (1 : Int32) < x)) = inN x 2 from inN_pred (n := 2) (by omega) x]
  refine ⟨fun g => ?_, fun _ => m_refuse hw⟩
  rcases hx with q | q
  · rw [g] at q; cases q
  · rw [q] at e; exact absurd rfl e
theorem o_mean (h : JA B M N F us) : zT m_X11_mean (d + 40) 0 [(0, .ref 0), (1, .int x), (2, .int y)] [] M (zI fun r M1 => S_X12_mean (d + 40) x y (wL M1 263 0 r.toInt64) (zI (eR B r))) (fun M1 => S_X12_mean (d + 40) x y M1 (zI (eX B))) := by
  have h4 := h.m4
  refine tq_mean (d := d + 34) (c_X11_isPeer h.c4 ⟨fun e => ?_, fun e => ?_⟩)
  · exact t_X12_mean (fun M1 e1 => c_X12_isPeer (e1 ▸ h.w0.r1) h4 ⟨fun _ => m_refuse (e1 ▸ h.w0), fun e2 => (by rw [e] at e2; cases e2)⟩)
  obtain ⟨p, hp, rfl⟩ := inN_of e (by omega)
  have hl := trP_len (P := plOf N) (F := F) (p := p) h.pc.1
  have hk2 := ksP_24 (P := plOf N) (F := F) (p := p) h.pc.1
  obtain ⟨t1, t2, -⟩ := PC_t63 h.pc (p := p) (by omega)
  refine ⟨fun q => m_meanX h hp (Or.inl (inN_false (Or.inl q))), fun q1 => ⟨fun q => m_meanX h hp (Or.inl (inN_false (Or.inr ((le_in (n := 1) (by omega)).mpr (Int32.not_le.mpr q))))), fun q2 => ?_⟩⟩
  have hz : inN y 2 = true := inN_true q1 (fun e => (le_in (n := 1) (by omega)).mp e (Int32.not_lt.mp q2))
  rw [nI_clamp (by omega), t1, t2]
  have ht : 0 < (ksP (plOf N) F p).length → 0 < (trP (plOf N) F p).length := by
    have := (tr0 (F := F) (p := p) h.pc.1).mp
    omega
  refine ⟨nIin (by omega) (by omega), fun e => ?_, fun e => m_meanX h hp (Or.inr (nI_inj (j := 0) (by omega) (by omega) e))⟩
  have hk : 0 < (ksP (plOf N) F p).length := by
    rcases Nat.eq_zero_or_pos (ksP (plOf N) F p).length with q | q
    · rw [q] at e; exact absurd rfl e
    · exact q
  exact c_termOf (by omega) (ht hk) hl (zii (m_mean h hp hz hk rfl))
theorem m_part (h : JA B M N F us) (hp : p < mP (plOf N)) (hq : q < mP (plOf N)) (h2 : twoN (nI p) (nI q) (mP (plOf N)) = true) (hz : inN x 2 = true) (ht : 0 < (trP (plOf N) F p).length) {v : Int32} (hv : frcV (pop (visT (trP (plOf N) F p) (trP (plOf N) F q))) (trP (plOf N) F p).length x = v) : S_X12_part (d + 40) (nI p) (nI q) x (wL M 263 0 v.toInt64) (zI (eR B v)) := by
  have h4 := h.m4
  have hl := trP_len (P := plOf N) (F := F) (p := p) h.pc.1
  have hk2 := ksP_24 (P := plOf N) (F := F) (p := p) h.pc.1
  have hk : 0 < (ksP (plOf N) F p).length := by
    have := (tr0 (F := F) (p := p) h.pc.1).mpr
    omega
  refine t_X12_part (fun M1 e1 => c_X12_areTwo (e1 ▸ (h.out _).w0.r1) h4 ⟨fun e2 => (by rw [h2] at e2; cases e2), fun _ => ?_⟩)
  have hw : JA B M1 N F us := e1 ▸ (h.out _).w0
  refine e_entriesOf (d := d + 37) hw (by omega) ⟨fun e => absurd e (nI_ne0 hk (by omega)), fun _ => c_X12_isIn ?_⟩
  rw [show (decide (¬ x < 0) && decide (¬ (1 : Int32) < x)) = inN x 2 from inN_pred (n := 2) (by omega) x, hz]
  refine ⟨fun _ => e_X12_visitedOf (d := d + 10) (by omega) (by omega) hw.pr (fun M2 a1 a2 lo => c_X12_bits ?_), fun e2 => (by cases e2)⟩
  rw [a1]
  refine c_fraction (d := d + 38) (pop_31 _) ht hl (zii ⟨hv, ?_, ?_, (hw.lay lo).j⟩)
  · rw [lo.1 229 (by omega), e1, wI_1, if_pos ⟨rfl, rfl⟩]
  · rw [lo.2 263 (by omega), e1, wI_2, wL_s]
theorem m_partX (h : JA B M N F us) (hp : p < mP (plOf N)) (h2 : twoN (nI p) (nI q) (mP (plOf N)) = true) (hx : inN x 2 = false ∨ (ksP (plOf N) F p).length = 0) : S_X12_part (d + 40) (nI p) (nI q) x M (zI (eX B)) := by
  have h4 := h.m4
  refine t_X12_part (fun M1 e1 => c_X12_areTwo (e1 ▸ h.w0.r1) h4 ⟨fun e2 => (by rw [h2] at e2; cases e2), fun _ => ?_⟩)
  have hw : JA B M1 N F us := e1 ▸ h.w0
  refine e_entriesOf (d := d + 37) hw (by omega) ⟨fun e => m_refuse hw, fun e => c_X12_isIn ?_⟩
  rw [show (decide (¬ x < 0) && decide (¬ (1 : Int32) < x)) = inN x 2 from inN_pred (n := 2) (by omega) x]
  refine ⟨fun g => ?_, fun _ => m_refuse hw⟩
  rcases hx with q | q
  · rw [g] at q; cases q
  · rw [q] at e; exact absurd rfl e
theorem o_part (h : JA B M N F us) : zT m_X11_part (d + 40) 0 [(0, .ref 0), (1, .int x), (2, .int y), (3, .int z)] [] M (zI fun r M1 => S_X12_part (d + 40) x y z (wL M1 263 0 r.toInt64) (zI (eR B r))) (fun M1 => S_X12_part (d + 40) x y z M1 (zI (eX B))) := by
  have h4 := h.m4
  refine tq_part (d := d + 34) (c_X11_areTwo h.c4 ⟨fun e => ?_, fun e => ?_⟩)
  · exact t_X12_part (fun M1 e1 => c_X12_areTwo (e1 ▸ h.w0.r1) h4 ⟨fun _ => m_refuse (e1 ▸ h.w0), fun e2 => (by rw [e] at e2; cases e2)⟩)
  obtain ⟨p, q, hp, hq, hne, rfl, rfl⟩ := twoN_of e h4
  have hl := trP_len (P := plOf N) (F := F) (p := p) h.pc.1
  obtain ⟨-, t2, -⟩ := PC_t63 h.pc (p := p) (by omega)
  refine ⟨fun r => m_partX h hp e (Or.inl (inN_false (Or.inl r))), fun q1 => ⟨fun r => m_partX h hp e (Or.inl (inN_false (Or.inr ((le_in (n := 1) (by omega)).mpr (Int32.not_le.mpr r))))), fun q2 => ?_⟩⟩
  have hz : inN z 2 = true := inN_true q1 (fun e => (le_in (n := 1) (by omega)).mp e (Int32.not_lt.mp q2))
  rw [nI_clamp (by omega), t2]
  refine ⟨nIin (by omega) (by omega), fun f => ?_, fun f => m_partX h hp e (Or.inr ((tr0 h.pc.1).mp (nI_inj (j := 0) (by omega) (by omega) f)))⟩
  have ht : 0 < (trP (plOf N) F p).length := by
    rcases Nat.eq_zero_or_pos (trP (plOf N) F p).length with r | r
    · rw [r] at f; exact absurd rfl f
    · exact r
  refine e_X4_visitedBits (by decide) (by omega) (by omega) h.pc (c_bitCount ?_)
  rw [t2]
  exact c_termOf (pop_31 _) ht hl (zii (m_part h hp hq e hz ht rfl))
end
