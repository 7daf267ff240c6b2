-- ===== tags: the model; both sides =====
def TgR (M : zMem) (cs : List Nat) : Prop := cs.length ≤ 48 ∧ M.1 229 46 = nI cs.length ∧ ∀ i c, cs[i]? = some c → M.1 257 i = nI c
def TgQ (M M2 : zMem) : Prop := Same (fun z => z = 229 ∨ z = 257) M M2 ∧ (∀ j, j ≠ 46 → M2.1 229 j = M.1 229 j) ∧ M2.2 = M.2
theorem TgQ.refl (M : zMem) : TgQ M M := ⟨Same.refl _ _, fun _ _ => rfl, rfl⟩
theorem TgQ.trans {M M2 M3 : zMem} (h : TgQ M M2) (h2 : TgQ M2 M3) : TgQ M M3 := ⟨h.1.trans h2.1, fun j a => (h2.2.1 j a).trans (h.2.1 j a), h2.2.2.trans h.2.2⟩
theorem TgR.e {M : zMem} {cs l : List Nat} (h : TgR M cs) (e : cs = l) : TgR M l := e ▸ h
section
variable {d B p q k : Nat} {M M2 : zMem} {N : zNm} {F : Nat → Int32} {us : List (Nat → Int32)} {x : Int32} {cs l : List Nat}
theorem c_say {Q : zMem → Prop} {c : Nat} (hl : cs.length < 48) (hT : TgR M cs) (h : ∀ M2, TgR M2 (cs ++ [c]) → TgQ M M2 → Q M2) : S_X12_say d (nI c) M (zU Q) := by
  obtain ⟨h1, h2, h3⟩ := hT
  refine t_X12_say ?_
  rw [h2, nI_clamp (by omega)]
  refine ⟨nIin hl (by omega), fun M1 e1 M3 e3 => zuu (h M3 ⟨?_, ?_, fun i x hi => ?_⟩ ⟨?_, fun j hj => ?_, by rw [e3, e1]; rfl⟩)⟩
  · rw [List.length_append, List.length_singleton]; omega
  · rw [e3, wI_1, if_pos ⟨rfl, rfl⟩, e1, wI_ne _ (by omega), h2, nI_1, List.length_append, List.length_singleton]
  · rw [e3, wI_ne _ (by omega), e1, wI_1]
    rcases snoc_at hi with g | ⟨g1, g2⟩
    · have := (List.getElem?_eq_some_iff.mp g).1
      rw [if_neg (by omega)]; exact h3 i x g
    · rw [if_pos ⟨rfl, g1⟩, g2]
  · rw [e3, e1]; exact ((Same.refl _ M).wI (Or.inr rfl)).wI (Or.inl rfl)
  · rw [e3, wI_1, if_neg (by omega), e1, wI_ne _ (by omega)]
theorem w27 {w : Nat} (hw : w < 2 ^ 60) : (lg_cmp (lN w) 27 < 0 ↔ w < 27) ∧ lN w / 27 = lN (w / 27) ∧ (96 : Int32) + Int64.toInt32 (lN w - lN w / 27 * 27) = nI (96 + w % 27) := by
  have e27 : (27 : Int64) = lN 27 := rfl
  refine ⟨?_, ?_, ?_⟩
  · rw [lg_cmp_lt, e27, pk_lLT (by omega) (by omega)]
  · rw [e27, pk_lDiv (by omega) (by omega) (by omega)]
  · rw [e27, pk_lRem (by omega) (by omega) (by omega), lN_i, show (96 : Int32) = nI 96 from rfl, nI_add]
theorem c_sayWord : ∀ (l : List Nat), (∀ c ∈ l, 97 ≤ c ∧ c ≤ 122) → l ≠ [] → l.length ≤ 7 → ∀ (d : Nat) (cs : List Nat) (M : zMem) (Q : zMem → Prop), cs.length + l.length ≤ 48 → TgR M cs → (∀ M2, TgR M2 (cs ++ l) → TgQ M M2 → Q M2) → S_X12_sayWord (d + l.length) (lN (b27 l)) M (zU Q) := by
  refine snocI (fun _ h => absurd rfl h) (fun s c ih hc _ hl d cs M Q hcs hT h => ?_)
  have hl2 : s.length + 1 ≤ 7 := by rw [List.length_append, List.length_singleton] at hl; exact hl
  have hw : b27 (s ++ [c]) < 2 ^ 60 := by
    have := b27_9 hl hc
    omega
  obtain ⟨w1, w2, w3⟩ := w27 hw
  have hcc := hc c (List.mem_append_right _ (List.mem_singleton.mpr rfl))
  have e := b27_snoc s c
  have em : b27 (s ++ [c]) % 27 = c - 96 := by rw [e]; omega
  have ed : b27 (s ++ [c]) / 27 = b27 s := by rw [e]; omega
  rw [em, show 96 + (c - 96) = c by omega] at w3
  rw [ed] at w2
  rw [List.length_append, List.length_singleton] at hcs
  show S_X12_sayWord (d + (s ++ [c]).length) _ M _
  rw [List.length_append, List.length_singleton]
  refine t_X12_sayWord (d := d + s.length) ?_
  rw [w1, w3, w2]
  by_cases hs : s = []
  · subst hs
    have e0 : b27 ([] ++ [c]) < 27 := by rw [e]; show 27 * 0 + (c - 96) < 27; omega
    refine ⟨fun _ => c_say (by omega) hT (fun M2 a1 a2 => zuu (h M2 a1 a2)), fun q => absurd e0 q⟩
  · have hpos : 1 ≤ b27 s := by
      cases s with
      | nil => exact absurd rfl hs
      | cons a r =>
        have ha := hc a (by simp)
        unfold b27
        rw [List.map_cons, fd_cons]
        have : 1 ≤ (a - 96) * 27 ^ (List.map (fun c => c - 96) r).length := Nat.mul_pos (by omega) (Nat.pow_pos (by omega))
        omega
    have e1 : ¬ b27 (s ++ [c]) < 27 := by rw [e]; omega
    have hsl : s.length ≠ 0 := fun q => hs (List.length_eq_zero_iff.mp q)
    refine ⟨fun q => absurd q e1, fun _ => ih (fun a ha => hc a (List.mem_append_left _ ha)) hs (by omega) d cs M _ (by omega) hT (fun M2 a1 a2 => ?_)⟩
    refine c_say (by rw [List.length_append]; omega) a1 (fun M3 b1 b2 => zuu (h M3 ?_ (a2.trans b2)))
    rw [List.append_assoc] at b1
    exact b1
theorem c_sayNext {Q : zMem → Prop} (hw : wdOK l) (hl : cs.length + 8 ≤ 48) (hT : TgR M cs) (h : ∀ M2, TgR M2 (cs ++ 32 :: l) → TgQ M M2 → Q M2) : S_X12_sayNext (d + 8) (lN (b27 l)) M (zU Q) := by
  obtain ⟨w1, w2, w3⟩ := hw
  refine t_X12_sayNext (c_say (c := 32) (by omega) hT (fun M2 a1 a2 => ?_))
  have g := c_sayWord l w3 (fun q => by rw [q] at w1; exact absurd w1 (by decide)) w2 (d + 7 - l.length) (cs ++ [32]) M2 (fun M3 => zU Q none M3) (by rw [List.length_append, List.length_singleton]; omega) a1 (fun M3 b1 b2 => zuu (h M3 (by rw [List.append_assoc] at b1; exact b1) (a2.trans b2)))
  rw [show d + 7 - l.length + l.length = d + 7 by omega] at g
  exact g
theorem c_sayNumber {Q : zMem → Prop} {n : Nat} (hn : n < 100) (hl : cs.length + 2 ≤ 48) (hT : TgR M cs) (h : ∀ M2, TgR M2 (cs ++ nmT n) → TgQ M M2 → Q M2) : S_X12_sayNumber (d + 2) (nI n) M (zU Q) := by
  unfold nmT at h
  have le9 : ∀ a, a < 100 → (nI a ≤ 9 ↔ a ≤ 9) := fun a ha => nI_leI (b := 9) (by omega) (by omega)
  have e2 : nI n / 10 = nI (n / 10) := pk_div (a := n) (d := 10) (by omega) (by omega) (by omega)
  refine t_X12_sayNumber ?_
  rw [dg10 (n := n) (by omega), e2, le9 n hn]
  refine ⟨fun q => ?_, fun q => ?_⟩
  · rw [if_pos (show n < 10 by omega)] at h
    rw [Nat.mod_eq_of_lt (show n < 10 by omega)]
    exact c_say (by omega) hT (fun M2 a1 a2 => zuu (h M2 a1 a2))
  · rw [if_neg (show ¬ n < 10 by omega)] at h
    refine t_X12_sayNumber ?_
    rw [dg10 (n := n / 10) (by omega), le9 _ (by omega), Nat.mod_eq_of_lt (show n / 10 < 10 by omega)]
    refine ⟨fun _ => c_say (by omega) hT (fun M2 a1 a2 => zuu (c_say (by rw [List.length_append, List.length_singleton]; omega) a1 (fun M3 b1 b2 => zuu (h M3 ?_ (a2.trans b2))))), fun w => absurd (show n / 10 ≤ 9 by omega) w⟩
    rw [List.append_assoc] at b1
    exact b1
theorem in_sp : spN (spN (spN (spN (sp0 105 110) 0) 0) 0) 0 = lN (b27 [105, 110]) := by decide +kernel
theorem m_tag {Q : Int32 → zMem → Prop} (hN : okN N) (hP : okP (plOf N)) (hr : PR M (plOf N) F) (hd : hdR M N) (hbd : bdG B (prN N).length F) (hp : p < mP (plOf N)) (hQ : ∀ M2, TgR M2 (tgL N F p) → Same (fun z => z = 229 ∨ (246 ≤ z ∧ z ≤ 254) ∨ z = 257) M M2 → (∀ j, j ≠ 0 → j ≠ 46 → M2.1 229 j = M.1 229 j) → Q (nI (tgL N F p).length) M2) : S_X12_tag (d + 40) (nI p) M (zI Q) := by
  have h4 : mP (plOf N) ≤ 4 := hP.2.1
  have h24 : nP (plOf N) ≤ 24 := hP.1
  have hks : (ksP (plOf N) F p).length ≤ 24 := Nat.le_trans (keysT_len (odP (plOf N)) F p (nP (plOf N))) hP.1
  have htr : (trP (plOf N) F p).length ≤ 24 := trP_len hP
  have pl : ∀ q, q < mP (plOf N) → wdOK (pAt N q) ∧ (pAt N q).length ≤ 7 ∧ M.2 237 (24 + q) = lN (b27 (pAt N q)) := fun q hq => by
    have w := hN.2.2.2.2.2.1 _ (List.mem_append_right _ (pAt_mem (k := q) hq))
    exact ⟨w, w.2.1, hd.2.2.2.2.2.2 q hq⟩
  have n1 := nmT_len (n := (ksP (plOf N) F p).length)
  have n2 := nmT_len (n := (trP (plOf N) F p).length)
  have p7 := (pl p hp).2.1
  have p4 : p < 4 := by omega
  have n24 : ∀ q, (24 : Int32) + nI q = nI (24 + q) := fun q => by rw [show (24 : Int32) = nI 24 from rfl, nI_add]
  have n205 : (205 : Int32) + nI p = nI (205 + p) := by rw [show (205 : Int32) = nI 205 from rfl, nI_add]
  refine t_X12_tag (fun M1 e1 => c_X12_isPeer (m := mP (plOf N)) (by rw [e1, wI_ne _ (by omega)]; exact hr.2.1.2.1) h4 ⟨fun _ => ?_, fun e2 => (by rw [inN_nI hp (by omega)] at e2; cases e2)⟩)
  have r1 : PR M1 (plOf N) F := by rw [e1]; exact ⟨hr.1, plnR_same hr.2.1 (fun j _ => by rw [wI_ne _ (by omega)]) (fun z hz => wI_ne _ (by omega)), by rw [fR_same (wI_ne _ (by omega))]; exact hr.2.2⟩
  refine e_X12_layTree (d := d + 11) (tt := 0) (by omega) p4 r1 (fun M2 a1 a2 a3 M3 e3 => ?_)
  have S3 : Same (fun z => z = 229 ∨ (246 ≤ z ∧ z ≤ 254) ∨ z = 257) M M3 := by
    rw [e3]
    exact (((e1 ▸ (Same.refl _ M).wI (Or.inl rfl)).trans (a3.1.mono (fun z hz => Or.inr (Or.inl hz)))).wI (Or.inl rfl))
  have t229 : ∀ j, j ≠ 0 → j ≠ 46 → M3.1 229 j = M.1 229 j := fun j j0 j46 => by rw [e3, wI_1, if_neg (by omega), a3.1.1 229 (by omega), e1, wI_1, if_neg (by omega)]
  have T3 : TgR M3 [] := ⟨by decide, by rw [e3, wI_1, if_pos ⟨rfl, rfl⟩]; rfl, fun i c hi => by cases hi⟩
  have L3 : M3.1 246 0 = nI (trP (plOf N) F p).length := by rw [e3, wI_ne _ (by omega)]; exact a1
  have ww : ∀ q, q < mP (plOf N) → M3.2 237 (24 + q) = lN (b27 (pAt N q)) := fun q hq => by rw [S3.2 237 (by omega)]; exact (pl q hq).2.2
  have r3 : PR M3 (plOf N) F := ⟨hr.1, plnR_same hr.2.1 (fun j _ => by rw [S3.1 231 (by omega)]) (fun z hz => S3.1 z (by omega)), by rw [fR_same (S3.1 231 (by omega))]; exact hr.2.2⟩
  rw [n24, nI_clamp (by omega)]
  refine ⟨nIin (by omega) (by omega), ?_⟩
  rw [ww p hp]
  obtain ⟨w1, w2, w3⟩ := (pl p hp).1
  have g := c_sayWord (pAt N p) w3 (fun q => by rw [q] at w1; exact absurd w1 (by decide)) w2 (d + 39 - (pAt N p).length) [] M3
  rw [show d + 39 - (pAt N p).length + (pAt N p).length = d + 39 by omega] at g
  refine g _ (by rw [List.length_nil]; omega) T3 (fun M4 T4 S4 => ?_)
  rw [List.nil_append] at T4
  refine c_X12_wordOf (d := d + 38) (k := 8) (by omega) ?_
  rw [show rw1 (piR 8) = [104, 97, 115] by decide]
  refine c_sayNext (d := d + 31) ⟨by decide, by decide, by decide⟩ (by omega) T4 (fun M5 T5 S5 => ?_)
  refine c_say (c := 32) (by rw [List.length_append]; show _ + 4 < 48; omega) T5 (fun M6 T6 S6 => ?_)
  have T6 : TgR M6 (pAt N p ++ txL 0) := T6.e (by rw [List.append_assoc]; rfl)
  have S36 := S4.trans (S5.trans S6)
  have c6 : M6.1 231 = M3.1 231 := S36.1.1 231 (by omega)
  refine c_X12_entriesOf (d := d + 37) (n := nP (plOf N)) p4 (by rw [c6]; exact r3.2.1.1) h24 ?_
  have ek : cntF (hasF (fR M6) p) (nP (plOf N)) = nI (ksP (plOf N) F p).length := by
    rw [ksP_cnt hP]
    refine cntF_congr (fun k hk => ?_)
    have r6 : PR M6 (plOf N) F := ⟨r3.1, plnR_same r3.2.1 (fun j _ => by rw [c6]) (fun z hz => S36.1.1 z (by omega)), by rw [fR_same c6]; exact r3.2.2⟩
    exact PR_has r6 p4 (by omega)
  rw [ek]
  have x0 : (txL 0).length = 5 := by decide
  have x1 : (txL 1).length = 4 := by decide
  refine c_sayNumber (d := d + 37) (by omega) (by rw [List.length_append]; omega) T6 (fun M7 T7 S7 => ?_)
  refine c_X12_spelt ?_
  rw [in_sp]
  refine c_sayNext (d := d + 31) ⟨by decide, by decide, by decide⟩ (by simp only [List.length_append]; omega) T7 (fun M8 T8 S8 => ?_)
  refine c_say (c := 32) (by simp only [List.length_append, List.length_cons, List.length_nil]; omega) T8 (fun M9 T9 S9 => ?_)
  have T9 : TgR M9 (pAt N p ++ txL 0 ++ nmT (ksP (plOf N) F p).length ++ txL 1) := T9.e (by rw [List.append_assoc]; rfl)
  have S39 := S36.trans (S7.trans (S8.trans S9))
  rw [show M9.1 246 0 = nI (trP (plOf N) F p).length by rw [S39.1.1 246 (by omega)]; exact L3]
  refine c_sayNumber (d := d + 37) (by omega) (by simp only [List.length_append]; omega) T9 (fun Ma Ta Sa => ?_)
  have Ta : TgR Ma (tgA N F p) := Ta
  have S3a := S39.trans Sa
  have ca : Ma.1 231 = M3.1 231 := S3a.1.1 231 (by omega)
  have lA : (tgA N F p).length ≤ 20 := by
    unfold tgA
    simp only [List.length_append]
    omega
  have ra : PR Ma (plOf N) F := ⟨r3.1, plnR_same r3.2.1 (fun j _ => by rw [ca]) (fun z hz => S3a.1.1 z (by omega)), by rw [fR_same ca]; exact r3.2.2⟩
  have fin : ∀ Mb, TgR Mb (tgL N F p) → TgQ M3 Mb → Q (nI (tgL N F p).length) Mb := fun Mb Tb Sb => hQ Mb Tb (S3.trans (Sb.1.mono (fun z hz => by omega))) (fun j j0 j46 => by rw [Sb.2.1 j j46]; exact t229 j j0 j46)
  have v205 : Ma.1 231 (205 + p) = F (3 + p) := by rw [show 205 + p = 202 + (3 + p) by omega]; exact PR_f ra (by omega)
  rw [n205, nI_clamp (by omega), v205]
  refine ⟨nIin (by omega) (by omega), fun hne => ?_, fun h0 => ?_⟩
  rotate_left
  · have hc : fcP F p = none := List.find?_eq_none.mpr (fun q _ => by unfold cutB; rw [h0, b_0]; decide)
    have e : tgL N F p = tgA N F p := by unfold tgL; rw [hc]
    rw [Ta.2.1, ← e]
    exact zii (fin Ma (Ta.e e.symm) S3a)
  have hc : ∃ q, fcP F p = some q := by
    cases hc : fcP F p with
    | some q => exact ⟨q, rfl⟩
    | none =>
      exfalso
      apply hne
      apply b_ext
      intro j hj
      rw [b_0]
      by_cases j4 : j < 4
      · have := List.find?_eq_none.mp hc j (List.mem_range.mpr j4)
        unfold cutB at this
        exact Bool.eq_false_iff.mpr this
      · exact hbd.2.2.1 p p4 j (by show (prN N).length ≤ j; have : (prN N).length = mP (plOf N) := rfl; omega)
  obtain ⟨q0, hq0⟩ := hc
  obtain ⟨q4, qc⟩ := fcP_some hq0
  have qm : q0 < mP (plOf N) := by
    apply Classical.byContradiction
    intro w
    have := hbd.2.2.1 p p4 q0 (by show (prN N).length ≤ q0; exact Nat.not_lt.mp w)
    unfold cutB at qc
    rw [this] at qc
    cases qc
  refine c_X12_wordOf (d := d + 38) (k := 12) (by omega) ?_
  rw [show rw1 (piR 12) = [99, 117, 116] by decide]
  refine c_sayNext (d := d + 31) ⟨by decide, by decide, by decide⟩ (by omega) Ta (fun Mb Tb Sb => ?_)
  have S3b := S3a.trans Sb
  have cb : Mb.1 231 = M3.1 231 := S3b.1.1 231 (by omega)
  have rb : PR Mb (plOf N) F := ⟨r3.1, plnR_same r3.2.1 (fun j _ => by rw [cb]) (fun z hz => S3b.1.1 z (by omega)), by rw [fR_same cb]; exact r3.2.2⟩
  have el : tgL N F p = tgA N F p ++ txL 2 ++ pAt N q0 := by unfold tgL; rw [hq0]
  have loop : ∀ c i, i + c = 4 → (∀ j, j < i → cutB F p j = false) → S_X12_tag_124 (d + 40) (nI p) (nI i) Mb (zI Q) := by
    intro c
    induction c with
    | zero =>
      intro i hi hn
      have := hn q0 (by omega)
      rw [this] at qc
      cases qc
    | succ c ih =>
      intro i hi hn
      refine t_X12_tag_124 (c_X12_areCut (d := d + 38) p4 (by omega) ?_)
      rw [show cutB (fR Mb) p i = cutB F p i by rw [← rb.2.2, cutB_cl p4], nI_1]
      refine ⟨fun e => ?_, fun e => ih (i + 1) (by omega) (fun j hj => if w : j = i then w ▸ e else hn j (by omega))⟩
      have e2 := (find_step (c + 1) i _ hn (show (List.range (i + (c + 1))).find? (fun q => cutB F p q) = fcP F p by rw [hi]; rfl)).2 (by omega) e
      have ei : q0 = i := by rw [hq0] at e2; cases e2; rfl
      subst ei
      rw [n24, nI_clamp (by omega)]
      refine ⟨nIin (by omega) (by omega), ?_⟩
      rw [show Mb.2 237 (24 + q0) = lN (b27 (pAt N q0)) by rw [S3b.2.2]; exact ww q0 qm]
      refine c_sayNext (d := d + 31) (pl q0 qm).1 (by rw [List.length_append]; show _ + 4 + 8 ≤ 48; omega) Tb (fun Mc Tc Sc => ?_)
      have ec : tgA N F p ++ 32 :: [99, 117, 116] ++ 32 :: pAt N q0 = tgL N F p := by
        rw [el, List.append_assoc, List.append_assoc]; rfl
      have Tc := Tc.e ec
      rw [Tc.2.1]
      exact zii (fin Mc Tc (S3b.trans Sc))
  exact loop 4 0 (by omega) (fun j hj => absurd hj (Nat.not_lt_zero j))
/-- all but the tag as it was -/
theorem o_tag (h : JA B M N F us) : zV m_X11_tag (d + 40) 0 [(0, .ref 0), (1, .int x)] [] M (zI fun r M1 => S_X12_tag (d + 40) x M1 (zI fun r2 M2 => eqJ B r r2 M2)) := by
  have h4 := h.m4
  cases e : inN x (mP (plOf N)) with
  | false =>
    refine zr_aload_n dX11_tag_0 rfl 0 rfl ?_
    refine zr_iload_n dX11_tag_1 rfl 1 rfl ?_
    refine zm_callV_b (c := 11) (b := 0) dX11_tag_2 w_X11_isPeer l_X11_179 rfl (by decide) (by decide) s_X11_isPeer [.int x] rfl rfl (Nat.le_of_ble_eq_true rfl) (Nat.le_of_ble_eq_true rfl) ?_
    refine c_X11_isPeer h.c4 ?_
    rw [e]
    refine zm_ifb_ne (tgt := 10) dX11_tag_5 (by decide) (fun q => by cases q) (fun _ => ?_)
    refine zr_iconst (v := -1) dX11_tag_8 (by decide) ?_
    refine zm_iret dX11_tag_9 rfl (zii ?_)
    exact t_X12_tag (fun M1 e1 => c_X12_isPeer (e1 ▸ h.w0.r1) h4 ⟨fun e2 => (by rw [e] at e2; cases e2), fun _ => zii ⟨rfl, e1 ▸ h.w0.j⟩⟩)
  | true =>
    obtain ⟨p, hp, rfl⟩ := inN_of e (by omega)
    refine c_tag (d := d + 30) h hp (fun M2 T2 S2 => ?_)
    have t2 : ∀ z, z ≠ 0 → z ≠ 228 → M2.1 z = M.1 z := fun z a b => S2.1.1 z (by omega)
    have u2 : ∀ z, z ≠ 0 → z ≠ 228 → M2.2 z = M.2 z := fun z a b => S2.1.2 z (by omega)
    have r2 : PR M2 (plOf N) F := ⟨h.pr.1, plnR_same h.pr.2.1 (fun j _ => by rw [t2 231 (by omega) (by omega)]) (fun z hz => t2 z (by omega) (by omega)), by rw [fR_same (t2 231 (by omega) (by omega))]; exact h.pr.2.2⟩
    have hd2 : hdR M2 N := hdR_same h.2.2.2.2.1.1 (fun j _ => by rw [t2 231 (by omega) (by omega)]) (u2 237 (by omega) (by omega))
    refine m_tag h.1 h.pc.1 r2 hd2 h.2.1.2.2 hp (fun M3 T3 S3 t9 => ?_)
    have t : ∀ z, ¬ (z = 0 ∨ z = 228 ∨ z = 229 ∨ (246 ≤ z ∧ z ≤ 254) ∨ z = 257) → M3.1 z = M.1 z := fun z hz => by rw [S3.1 z (by omega), t2 z (by omega) (by omega)]
    have u : ∀ z, ¬ (z = 0 ∨ z = 228 ∨ z = 229 ∨ (246 ≤ z ∧ z ≤ 254) ∨ z = 257) → M3.2 z = M.2 z := fun z hz => by rw [S3.2 z (by omega), u2 z (by omega) (by omega)]
    have t0 : ∀ j, j ≠ 15 → M3.1 0 j = M.1 0 j := fun j hj => by rw [S3.1 0 (by omega)]; exact S2.2 j hj
    have w9 : ∀ j, j ≠ 0 → j ≠ 46 → M3.1 229 j = M.1 229 j := fun j a b => by rw [t9 j a b, t2 229 (by omega) (by omega)]
    obtain ⟨a1, a2, a3, a4, ⟨tx, n, b1, b2, b3, b4, b5⟩, a6, a7, a8, a9, a10⟩ := h.2.2.2
    refine ⟨rfl, N, F, us, h.1, JC_same h.2.1 (fun z hz => t z (by omega)) (fun j _ => by rw [t 231 (by omega)]) (fun z hz => t z (by omega)), JU_same h.2.2.1 (fun z z1 z2 => t z (by omega)) (w9 25 (by omega) (by omega)) (t 234 (by omega)), nmC_same a1 (fun z hz => t z (by omega)) (fun z hz => u z (by omega)), nmR_same a2 (fun j _ => by rw [t 231 (by omega)]) (u 237 (by omega)) (fun z z1 z2 => t z (by omega)), sayJ_same a3 (t 15 (by omega)) (t 16 (by omega)) (fun j _ => by rw [t 231 (by omega)]), imgJ_same a4 (fun z z1 z2 => t z (by omega)) (fun z z1 z2 => u z (by omega)) (t 233 (by omega)) (u 239 (by omega)) (t 240 (by omega)), ⟨tx, n, b1, by rw [t0 1 (by omega)]; exact b2, by rw [w9 2 (by omega) (by omega)]; exact b3, fun i hi => by rw [t 1 (by omega)]; exact b4 i hi, fun i hi => by rw [t 230 (by omega)]; exact b5 i hi⟩, ⟨by rw [t0 16 (by omega), w9 10 (by omega) (by omega)]; exact a6.1, by rw [t0 17 (by omega), w9 27 (by omega) (by omega)]; exact a6.2⟩, ofrJ_same a7 (t0 13 (by omega)) (t 227 (by omega)) (w9 44 (by omega) (by omega)) (t 256 (by omega)), ⟨(tgL N F p).length, T2.1, ?_, T3.2.1, fun i hi => ?_⟩, refJ_same a9 (by rw [t 217 (by omega)]) (t 219 (by omega)) (w9 49 (by omega) (by omega)) (t 259 (by omega)), tldJ_same a10 (fun j _ => by rw [t 222 (by omega)]) (w9 54 (by omega) (by omega)) (t 261 (by omega))⟩
    · rw [S3.1 0 (by omega)]; exact T2.2.1
    · have hi2 : (tgL N F p)[i]? = some ((tgL N F p)[i]) := List.getElem?_eq_getElem hi
      rw [T3.2.2 i _ hi2, S3.1 228 (by omega)]
      exact T2.2.2 i _ hi2
end
