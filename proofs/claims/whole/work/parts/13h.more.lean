-- ===== fresh, pulls =====
section
variable {d B b p q k m : Nat} {M M2 M3 : zMem} {N : zNm} {F G : Nat → Int32} {P : zPl} {us us2 : List (Nat → Int32)} {Q : Int32 → zMem → Prop} {x y z v : Int32}
theorem nodsR_same {o me : Nat} {ns : List zNode} (h : nodsR M o me ns) (e : ∀ z, 247 ≤ z → z ≤ 254 → M2.1 z = M.1 z) : nodsR M2 o me ns := by
  unfold nodsR nodR at h ⊢
  rw [e 247 (by omega) (by omega), e 248 (by omega) (by omega), e 249 (by omega) (by omega), e 250 (by omega) (by omega), e 251 (by omega) (by omega), e 252 (by omega) (by omega), e 253 (by omega) (by omega), e 254 (by omega) (by omega)]
  exact h
theorem trP_keys (hP : okP P) : ∀ n ∈ trP P F p, ∀ k ∈ n.2.1, k < 24 := by
  intro n hn k hk
  have h1 := treeT_keys (lv := lvP P) (dg := digF (kdP P) F p) (ks := ksP P F p) (fun k hk => (ksP_mem hP hk).2.1) n hn k hk
  have h2 := (ksP_mem hP h1).1
  have h3 := hP.1
  omega
theorem add1_sub1 (a : Int32) : a + 1 - 1 = a := by
  have := Int32.add_sub_cancel a 1
  exact this
def freshS (P : zPl) (F : Nat → Int32) (p k : Nat) (v : Int32) : Int32 := if (putD F p k v).1 = 0 then missN (trP P (putD F p k v).2 p) (trP P F p) else 0
theorem m_fresh (h : JA B M N F us) (hp : p < mP (plOf N)) (hk : k < nP (plOf N)) (g1 : ¬ v < 0) (g2 : v ≤ 999) : S_X12_fresh (d + 64) (nI p) (nI k) v M (zI fun r2 M2 => eqJ B (freshS (plOf N) F p k v) r2 M2) := by
  have h4 := h.m4
  have h24 := h.n24
  refine t_X12_fresh (fun M1 e1 => c_X12_isPeer (e1 ▸ h.w0.r1) h4 ⟨fun e2 => (by rw [inN_nI hp (by omega)] at e2; cases e2), fun _ => c_X12_isKey (e1 ▸ h.w0.r0) h24 ⟨fun e2 => (by rw [inN_nI hk (by omega)] at e2; cases e2), fun _ => c_X12_isIn ⟨fun _ => ?_, fun e2 => (by simp [g1, Int32.not_lt.mpr g2] at e2)⟩⟩⟩)
  have hw : JA B M1 N F us := e1 ▸ h.w0
  refine e_X12_why0 (by omega) (by omega) hw.pr ⟨fun e => ?_, fun e => zii ⟨?_, hw.j⟩⟩
  rotate_left
  · unfold freshS; rw [if_neg e]
  have hD : (putD F p k v).2 = writeF F p k v := by
    unfold putD at e ⊢
    split
    · rename_i w; rw [if_pos w] at e; exact absurd e (show ¬ ((1 : Int32) = 0) by decide)
    · rfl
  have hfs : freshS (plOf N) F p k v = missN (trP (plOf N) (writeF F p k v) p) (trP (plOf N) F p) := by unfold freshS; rw [if_pos e, hD]
  rw [hfs]
  refine e_X12_layTree (tt := 1) (by omega) (by omega) hw.pr (fun M2 a1 a2 a3 => ?_)
  have hw2 : JA B M2 N F us := hw.lay a3.1
  refine c_X12_at ⟨rin (o := 213) rfl (by omega) (by omega), c_X12_at ⟨rin (o := 309) rfl (by omega) (by omega), ?_⟩⟩
  rw [rcl (o := 213) (i := 24 * p + k) (x := 213) rfl (by omega), rcl (o := 309) (i := 24 * p + k) (x := 309) rfl (by omega)]
  refine c_X12_write (by omega) (by omega) (fun M3 f3 s3 => ?_)
  have r3 : PR M3 (plOf N) (writeF F p k v) := ⟨h.pr.1, plnR_same hw2.pr.2.1 (fun j hj => s3.2 j (by omega)) (fun z hz => s3.1.1 z (by omega)), by rw [f3, writeF_cl (by omega) (by omega), hw2.pr.2.2]⟩
  refine e_X12_layTree (tt := 0) (by omega) (by omega) r3 (fun M4 b1 b2 b3 => ?_)
  intro M5 e5
  refine c_X12_at ⟨rin (o := 213) rfl (by omega) (by omega), ?_⟩
  rw [rcl (o := 213) (i := 24 * p + k) (x := 213) rfl (by omega)]
  intro M6 e6
  refine c_X12_at ⟨rin (o := 309) rfl (by omega) (by omega), ?_⟩
  rw [rcl (o := 309) (i := 24 * p + k) (x := 309) rfl (by omega)]
  intro M7 e7
  have row : ∀ j, M7.1 231 j = M2.1 231 j := by
    intro j
    have e4 : M4.1 231 = M3.1 231 := b3.1.1 231 (by omega)
    rw [e7, wI_1]
    by_cases q1 : j = 309 + (24 * p + k)
    · rw [if_pos ⟨rfl, q1⟩, q1]
    rw [if_neg (fun w => q1 w.2), e6, wI_1]
    by_cases q2 : j = 213 + (24 * p + k)
    · rw [if_pos ⟨rfl, q2⟩, q2]
    rw [if_neg (fun w => q2 w.2), e5, wI_1]
    by_cases q3 : j = 204
    · have w2 : fR M3 2 = fR M2 2 + 1 := by rw [f3]; unfold writeF; rw [upd_n _ _ (by omega), upd_n _ _ (by omega), upd_s]
      have w3 : M3.1 231 204 = M2.1 231 204 + 1 := w2
      rw [if_pos ⟨rfl, q3⟩, e4, w3, add1_sub1, q3]
    rw [if_neg (fun w => q3 w.2), e4]
    by_cases q4 : j < 202 ∨ 405 ≤ j
    · exact s3.2 j q4
    · have w2 : fR M3 (j - 202) = fR M2 (j - 202) := by rw [f3]; unfold writeF; rw [upd_n _ _ (by omega), upd_n _ _ (by omega), upd_n _ _ (by omega)]
      unfold fR at w2
      rw [show 202 + (j - 202) = j by omega] at w2
      exact w2
  have s7 : Same (fun z => z = 231 ∨ (246 ≤ z ∧ z ≤ 254)) M1 M7 := by
    rw [e7, e6, e5]
    exact ((((((a3.1.mono (fun z hz => Or.inr hz)).trans (s3.1.mono (fun z hz => Or.inl hz))).trans (b3.1.mono (fun z hz => Or.inr hz))).wI (by omega)).wI (by omega)).wI (by omega))
  have hw7 : JA B M7 N F us := by
    refine hw.ro ⟨s7.mono (fun z hz => by omega), by rw [s7.1 217 (by omega)], fun j _ => by rw [s7.1 222 (by omega)], fun j _ => by rw [s7.1 229 (by omega)], fun j _ => ?_⟩
    rw [row, a3.1.1 231 (by omega)]
  have k7 : ∀ z, z ≠ 231 → M7.1 z = M4.1 z := fun z hz => by rw [e7, wI_ne _ hz, e6, wI_ne _ hz, e5, wI_ne _ hz]
  have hl := trP_len (P := plOf N) (F := F) (p := p) h.pc.1
  have hl2 := trP_len (P := plOf N) (F := writeF F p k v) (p := p) h.pc.1
  have t1 : nodsR M4 24 0 (trP (plOf N) F p) := by
    have t0 : nodsR M3 24 0 (trP (plOf N) F p) := nodsR_same a2 (fun z z1 z2 => s3.1.1 z (by omega))
    have hkk := trP_keys (P := plOf N) (F := F) (p := p) h.pc.1
    intro j n hj
    have hj0 := (List.getElem?_eq_some_iff.mp hj).1
    obtain ⟨⟨w1, w2, w3, w4, w5, w6, w8⟩, w7⟩ := t0 j n hj
    have o : ∀ z, 247 ≤ z → z ≤ 254 → ∀ i, 24 ≤ i → M4.1 z i = M3.1 z i := fun z z1 z2 i hi => b3.2.2 z z1 z2 i (by omega)
    refine ⟨⟨(o 247 (by omega) (by omega) _ (by omega)).trans w1, (o 248 (by omega) (by omega) _ (by omega)).trans w2, (o 249 (by omega) (by omega) _ (by omega)).trans w3, fun k e => (o 250 (by omega) (by omega) _ (by omega)).trans (w4 k e), (o 251 (by omega) (by omega) _ (by omega)).trans w5, (o 252 (by omega) (by omega) _ (by omega)).trans w6, fun k e => (o 254 (by omega) (by omega) _ (by omega)).trans (w8 k e)⟩, (o 253 (by omega) (by omega) _ (by omega)).trans w7⟩
  refine c_X12_fresh_150 (ns := trP (plOf N) (writeF F p k v) p) (ot := trP (plOf N) F p) hl2 hl (by rw [k7 246 (by omega)]; exact b1) (nodsR_same b2 (fun z z1 z2 => k7 z (by omega))) ?_ (nodsR_same t1 (fun z z1 z2 => k7 z (by omega))) ⟨rfl, hw7.j⟩
  rw [k7 246 (by omega), b3.2.1 1 (by omega), s3.1.1 246 (by omega)]
  exact a1
theorem o_fresh (h : JA B M N F us) : S_X11_fresh (d + 64) x y v M (zI fun r M1 => S_X12_fresh (d + 64) x y v M1 (zI fun r2 M2 => eqJ B r r2 M2)) := by
  have h4 := h.m4
  have h24 := h.n24
  refine t_X11_fresh (c_X11_isPeer h.c4 ⟨fun e => zii ?_, fun e => c_X11_isKey h.c3 ⟨fun f => zii ?_, fun f => ⟨fun g => zii ?_, fun g => ⟨fun i => ?_, fun i => zii ?_⟩⟩⟩⟩)
  · exact t_X12_fresh (fun M1 e1 => c_X12_isPeer (e1 ▸ h.w0.r1) h4 ⟨fun _ => zii ⟨rfl, e1 ▸ h.w0.j⟩, fun e2 => (by rw [e] at e2; cases e2)⟩)
  · exact t_X12_fresh (fun M1 e1 => c_X12_isPeer (e1 ▸ h.w0.r1) h4 ⟨fun e2 => (by rw [e] at e2; cases e2), fun _ => c_X12_isKey (e1 ▸ h.w0.r0) h24 ⟨fun _ => zii ⟨rfl, e1 ▸ h.w0.j⟩, fun e2 => (by rw [f] at e2; cases e2)⟩⟩)
  · exact t_X12_fresh (fun M1 e1 => c_X12_isPeer (e1 ▸ h.w0.r1) h4 ⟨fun e2 => (by rw [e] at e2; cases e2), fun _ => c_X12_isKey (e1 ▸ h.w0.r0) h24 ⟨fun e2 => (by rw [f] at e2; cases e2), fun _ => c_X12_isIn ⟨fun e2 => (by simp [g] at e2), fun _ => zii ⟨rfl, e1 ▸ h.w0.j⟩⟩⟩⟩)
  · obtain ⟨p, hp, e1⟩ := inN_of e (by omega)
    obtain ⟨k, hk, e2⟩ := inN_of f (by omega)
    rw [e1, e2, nI_clamp (by omega)]
    refine e_X4_copyFrom (b := 114) (b2 := 63) (by decide) (by decide) (by decide) h.pc (fun M1 p1 q1 s1 => ?_)
    refine e_X4_tryPut (b := 114) (by decide) (by omega) (by omega) p1 (fun M2 p2 s2 => ?_)
    have q2 : PC M2 63 (plOf N) F := PC_other (b := 63) (b2 := 114) (by decide) (by decide) (by decide) q1 s2
    have hw : JA B M2 N F us := h.ro ((RO.trial s1).trans (RO.trial s2))
    have fin : ∀ r, r = freshS (plOf N) F p k v → S_X12_fresh (d + 64) (nI p) (nI k) v M2 (zI fun r2 M3 => eqJ B r r2 M3) := fun r hr => by rw [hr]; exact m_fresh hw hp hk g i
    refine ⟨fun w => ⟨nIin (by omega) (by omega), nIin (by omega) (by omega), ?_⟩, fun w => zii (fin _ ?_)⟩
    · obtain ⟨-, t2, t3⟩ := PC_t114 p2 (show p < 4 by omega)
      obtain ⟨-, w2, w3⟩ := PC_t63 q2 (show p < 4 by omega)
      refine c_X9_countMissing (ids_t114 p (by omega)) (ids_t63 p (by omega)) (trP_len h.pc.1) (trP_len h.pc.1) t2 t3 w2 w3 (zii (fin _ ?_))
      unfold freshS
      rw [if_pos w]
    · unfold freshS
      rw [if_neg w]
  · exact t_X12_fresh (fun M1 e1 => c_X12_isPeer (e1 ▸ h.w0.r1) h4 ⟨fun e2 => (by rw [e] at e2; cases e2), fun _ => c_X12_isKey (e1 ▸ h.w0.r0) h24 ⟨fun e2 => (by rw [f] at e2; cases e2), fun _ => c_X12_isIn ⟨fun e2 => (by simp [Int32.not_le.mp i] at e2), fun _ => zii ⟨rfl, e1 ▸ h.w0.j⟩⟩⟩⟩)
end
