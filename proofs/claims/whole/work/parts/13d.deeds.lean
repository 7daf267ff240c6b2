-- ===== the deeds: put, drop, pull, cut, heal, undo =====
theorem bdG_low {B m : Nat} {F G : Nat → Int32} (h : bdG B m F) (e : ∀ j, j = 2 ∨ (3 ≤ j ∧ j < 7) ∨ 11 ≤ j → G j = F j) : bdG B m G := by
  obtain ⟨⟨g, g1, g2⟩, h2, h3, h4⟩ := h
  refine ⟨⟨g, g1, by rw [e _ (by omega)]; exact g2⟩, fun i hi => ⟨by rw [e _ (by omega)]; exact (h2 i hi).1, ?_⟩, fun p hp q hq => by rw [e _ (by omega)]; exact h3 p hp q hq, fun p q hp hq => ?_⟩
  · rw [e _ (by omega)]; exact (h2 i hi).2
  · unfold cutB
    rw [e _ (by omega), e _ (by omega)]
    exact h4 p q hp hq
theorem bdG_takeF {B m : Nat} {F : Nat → Int32} {p q k : Nat} (h : bdG B m F) (hp : p < 4) (hq : q < 4) (hk : k < 24) : bdG B m (takeF F p q k) := by
  have hw : ∀ j, j ≠ 11 + (24 * p + k) → j ≠ 107 + (24 * p + k) → takeF F p q k j = F j := fun j a b => by unfold takeF; rw [upd_n _ _ b, upd_n _ _ a]
  obtain ⟨⟨g, g1, g2⟩, h2, h3, h4⟩ := h
  refine ⟨⟨g, g1, by rw [hw _ (by omega) (by omega)]; exact g2⟩, fun i hi => ⟨?_, ?_⟩, fun a ha b hb => by rw [hw _ (by omega) (by omega)]; exact h3 a ha b hb, fun a b ha hb => ?_⟩
  · by_cases e : i = 24 * p + k
    · unfold takeF
      rw [upd_n _ _ (by omega), e, upd_s]
      exact (h2 (24 * q + k) (by omega)).1
    · rw [hw _ (by omega) (by omega)]; exact (h2 i hi).1
  · by_cases e : i = 24 * p + k
    · unfold takeF
      rw [e, upd_s]
      exact (h2 (24 * q + k) (by omega)).2
    · rw [hw _ (by omega) (by omega)]; exact (h2 i hi).2
  · unfold cutB
    rw [hw _ (by omega) (by omega), hw _ (by omega) (by omega)]
    exact h4 a b ha hb
theorem bdG_fold {B m : Nat} {p q : Nat} (hp : p < 4) (hq : q < 4) : ∀ (ks : List Nat) (F : Nat → Int32), bdG B m F → (∀ k ∈ ks, k < 24) → bdG B m (ks.foldl (fun F k => takeF F p q k) F)
  | [], F, h, _ => h
  | k :: ks, F, h, hk => bdG_fold hp hq ks _ (bdG_takeF h hp hq (hk k (List.mem_cons_self ..))) (fun j hj => hk j (List.mem_cons_of_mem _ hj))
theorem bdG_come {B m : Nat} {F : Nat → Int32} {p q : Nat} {ks : List Nat} (h : bdG B m F) (hp : p < 4) (hq : q < 4) (hk : ∀ k ∈ ks, k < 24) : bdG B m (comeF F p q ks) := by
  refine bdG_low (bdG_fold hp hq ks F h hk) (fun j hj => ?_)
  unfold comeF
  rw [upd_n _ _ (by omega), upd_n _ _ (by omega), upd_n _ _ (by omega)]
section
variable {d B B2 b p q k m : Nat} {M M2 M3 : zMem} {N : zNm} {F G : Nat → Int32} {P : zPl} {us us2 : List (Nat → Int32)} {Q : Int32 → zMem → Prop} {x y z v : Int32}
theorem bdG_put (h : bdG B m F) (hp : p < 4) (hk : k < 24) (hv : -1 ≤ v.toInt ∧ v.toInt ≤ 999) : bdG (B + 1) m (putD F p k v).2 := by
  unfold putD
  split
  · exact bdG_mono h (by omega) (Nat.le_refl _)
  · exact bdG_write h hp hk hv
theorem bdG_drop (h : bdG B m F) (hp : p < 4) (hk : k < 24) : bdG (B + 1) m (dropD F p k).2 := by
  unfold dropD
  split
  · exact bdG_mono h (by omega) (Nat.le_refl _)
  · exact bdG_write h hp hk (by decide)
theorem bdG_pull (hP : okP P) (h : bdG B m F) (hp : p < 4) (hq : q < 4) : bdG B m (pullD P F p q).2 := by
  unfold pullD
  split
  · exact h
  split
  · exact h
  split
  · exact h
  · exact bdG_come h hp hq (fun k hk => by have := offP_mem hP (List.mem_of_mem_take hk); have := hP.1; omega)
theorem bdG_cut (h : bdG B m F) (hm : m ≤ 4) (hp : p < m) (hq : q < m) (hne : p ≠ q) : bdG B m (cutD F p q).2 := by
  unfold cutD
  split
  · exact h
  · exact bdG_turn h hm hp hq hne
theorem bdG_heal (h : bdG B m F) (hm : m ≤ 4) (hp : p < m) (hq : q < m) (hne : p ≠ q) : bdG B m (healD F p q).2 := by
  unfold healD
  split
  · exact bdG_turn h hm hp hq hne
  · exact h
theorem putD_F (h : ¬ (putD F p k v).1 = 0) : (putD F p k v).2 = F := by
  unfold putD at h ⊢
  split
  · rfl
  · rename_i e; rw [if_neg e] at h; exact absurd rfl h
theorem dropD_F (h : ¬ (dropD F p k).1 = 0) : (dropD F p k).2 = F := by
  unfold dropD at h ⊢
  split
  · rfl
  · rename_i e; rw [if_neg e] at h; exact absurd rfl h
theorem pullD_F (h : ¬ (pullD P F p q).1 = 0) : (pullD P F p q).2 = F := by
  unfold pullD at h ⊢
  split
  · rfl
  rename_i e; rw [if_neg e] at h
  split
  · rfl
  rename_i e; rw [if_neg e] at h
  split
  · rfl
  · rename_i e; rw [if_neg e] at h; exact absurd rfl h
theorem cutD_F (h : ¬ (cutD F p q).1 = 0) : (cutD F p q).2 = F := by
  unfold cutD at h ⊢
  split
  · rfl
  · rename_i e; rw [if_neg e] at h; exact absurd rfl h
theorem healD_F (h : ¬ (healD F p q).1 = 0) : (healD F p q).2 = F := by
  unfold healD at h ⊢
  split
  · rename_i e; rw [if_pos e] at h; exact absurd rfl h
  · rfl
/-- what the class may change in a deed; what the model may -/
def CO (M M2 : zMem) : Prop := Same (fun z => (10 ≤ z ∧ z ≤ 14) ∨ (64 < z ∧ z ≤ 113) ∨ (115 ≤ z ∧ z ≤ 218)) M M2 ∧ M2.1 217 3 = M.1 217 3
def MO (M M2 : zMem) : Prop := Same (fun z => z = 229 ∨ z = 231 ∨ z = 234 ∨ z = 236 ∨ z = 258 ∨ (246 ≤ z ∧ z ≤ 255)) M M2 ∧ (∀ j, j ≠ 0 → j ≠ 25 → j ≠ 43 → j ≠ 50 → M2.1 229 j = M.1 229 j) ∧ ∀ j, j < 202 ∨ 405 ≤ j → M2.1 231 j = M.1 231 j
theorem CO.refl (M : zMem) : CO M M := ⟨Same.refl _ _, rfl⟩
theorem MO.refl (M : zMem) : MO M M := ⟨Same.refl _ _, fun _ _ _ _ _ => rfl, fun _ _ => rfl⟩
theorem CO.trans (h : CO M M2) (h2 : CO M2 M3) : CO M M3 := ⟨h.1.trans h2.1, h2.2.trans h.2⟩
theorem MO.trans (h : MO M M2) (h2 : MO M2 M3) : MO M M3 := ⟨h.1.trans h2.1, fun j a b c e => (h2.2.1 j a b c e).trans (h.2.1 j a b c e), fun j a => (h2.2.2 j a).trans (h.2.2 j a)⟩
theorem CO.so (h : CO M M2) : SO M M2 := ⟨h.1.mono (fun z hz => by omega), h.2, fun j _ => by rw [h.1.1 222 (by omega)], fun j _ => by rw [h.1.1 229 (by omega)], fun j _ => by rw [h.1.1 231 (by omega)]⟩
theorem MO.so (h : MO M M2) : SO M M2 := ⟨h.1.mono (fun z hz => by omega), by rw [h.1.1 217 (by omega)], fun j _ => by rw [h.1.1 222 (by omega)], fun j hj => h.2.1 j (by omega) (by omega) (by omega) (by omega), fun j hj => h.2.2 j (by omega)⟩
theorem LiveOnly.mo (h : LiveOnly M M2) : MO M M2 := ⟨h.1.mono (fun z hz => by omega), fun j _ _ a _ => h.2.1 j a, h.2.2⟩
theorem SnapOnly.mo (h : SnapOnly M M2) : MO M M2 := ⟨h.1.mono (fun z hz => by omega), fun j _ a _ _ => h.2 j a, fun j _ => by rw [h.1.1 231 (by omega)]⟩
theorem OffOnly.mo (h : OffOnly M M2) : MO M M2 := ⟨h.1.mono (fun z hz => by omega), fun j _ _ a _ => h.2 j a, fun j _ => by rw [h.1.1 231 (by omega)]⟩
theorem LayOnly.mo (h : LayOnly M M2) : MO M M2 := (OffOnly.of h).mo
theorem MO.w00 {x : Int32} : MO M (wI M 229 0 x) := ⟨(Same.refl _ M).wI (by omega), fun j a _ _ _ => by rw [wI_1, if_neg (by omega)], fun j _ => by rw [wI_ne _ (by omega)]⟩
theorem PC63_mo (h : PC M 63 P F) (hm : MO M M2) : PC M2 63 P F := PC_same h (fun z hz => hm.1.1 z (by rcases hz with hz | hz; omega; have := inT63 hz; omega))
theorem UC_mo {top : Nat} (h : UC M us top) (hm : MO M M2) : UC M2 us top := UC_same h (fun z z1 z2 => hm.1.1 z (by omega))
theorem PR_co (h : PR M P F) (hc : CO M M2) : PR M2 P F := ⟨h.1, plnR_same h.2.1 (fun j _ => by rw [hc.1.1 231 (by omega)]) (fun z hz => hc.1.1 z (by omega)), by rw [fR_same (hc.1.1 231 (by omega))]; exact h.2.2⟩
theorem UR_co (h : UR M us) (hc : CO M M2) : UR M2 us := UR_same h (by rw [hc.1.1 229 (by omega)]) (hc.1.1 234 (by omega))
theorem JA.deed (h : JA B M N F us) (hc : CO M M2) (hm : MO M2 M3) (hpc : PC M2 63 (plOf N) G) (hpr : PR M3 (plOf N) G) (huc : ∃ top, UC M2 us2 top) (hur : UR M3 us2) (hB : B ≤ B2) (hg : bdG B2 (prN N).length G) (hus : ∀ G ∈ us2, cl G = G ∧ bdG B2 (prN N).length G) : JA B2 M3 N G us2 := by
  obtain ⟨top, ht⟩ := huc
  exact ⟨h.1, ⟨PC63_mo hpc hm, hpr, hg⟩, ⟨⟨top, UC_mo ht hm⟩, hur, hus⟩, JO_mono (JO_same h.2.2.2 (hc.so.trans hm.so)) hB⟩
/-- what can be undone behind a deed -/
def usD (r : Int32) (F : Nat → Int32) (us : List (Nat → Int32)) : List (Nat → Int32) := if r = 0 then (F :: us).take 8 else us
theorem usD_ok (h : JA B M N F us) (hB : B ≤ B2) (r : Int32) : ∀ G ∈ usD r F us, cl G = G ∧ bdG B2 (prN N).length G := by
  intro G hG
  unfold usD at hG
  have hF : cl F = F := by rw [← h.pc.2.2.1, cl_cl]
  split at hG
  · rcases List.mem_cons.mp (List.mem_of_mem_take hG) with e | e
    · rw [e]; exact ⟨hF, bdG_mono h.2.1.2.2 hB (Nat.le_refl _)⟩
    · exact ⟨(h.2.2.1.2.2 G e).1, bdG_mono (h.2.2.1.2.2 G e).2 hB (Nat.le_refl _)⟩
  · exact ⟨(h.2.2.1.2.2 G hG).1, bdG_mono (h.2.2.1.2.2 G hG).2 hB (Nat.le_refl _)⟩
theorem CO.of63 (h : Same (inB 63) M M2) : CO M M2 := ⟨h.mono (fun z hz => by have := inB63 hz; omega), by rw [h.1 217 (fun q => by have := inB63 q; omega)]⟩
theorem CO.undo (h : Same (fun z => 170 ≤ z ∧ z < 217) M M2) : CO M M2 := ⟨h.mono (fun z hz => by omega), by rw [h.1 217 (by omega)]⟩
theorem c_deed {T : zMem → zK → Prop} {D : Int32 × (Nat → Int32)} (h : JA B M N F us) (hT : ∀ (M1 : zMem) (Q : Int32 → zMem → Prop), PC M1 63 (plOf N) F → (∀ M2, PC M2 63 (plOf N) D.2 → Same (inB 63) M1 M2 → Q D.1 M2) → T M1 (zI Q)) (hD : ¬ D.1 = 0 → D.2 = F)
    (hQ : ∀ M2, CO M M2 → PC M2 63 (plOf N) D.2 → (∃ top, UC M2 (usD D.1 F us) top) → Q D.1 M2) : S_X10_note (d + 62) 10 M (zU fun M1 => T M1 (zI fun r M2 => S_X11_keepIfDone (d + 62) r M2 (zI Q))) := by
  obtain ⟨top, ht⟩ := h.2.2.1.1
  refine e_X10_note (by decide) (by omega) ht (fun M1 n1 s1 => ?_)
  have hF : cl (fC M 10) = F := by have := h.pc.2.2.1; rw [pT63.2.1] at this; exact this
  rw [hF] at n1
  have c1 : CO M M1 := CO.undo (s1.mono (fun z hz => by omega))
  have p1 : PC M1 63 (plOf N) F := PC_same h.pc (fun z hz => s1.1 z (by rcases hz with hz | hz; omega; have := inT63 hz; omega))
  refine hT M1 _ p1 (fun M2 p2 s2 => ?_)
  have n2 : UN M2 (us) top F := by
    refine ⟨UC_same n1.1 (fun z z1 z2 => s2.1 z (fun q => by have := inB63 q; omega)), ?_⟩
    rw [← n1.2, fC_same (fun z z1 z2 => s2.1 z (fun q => by have := inB63 q; have := n1.1.1; omega))]
  have c2 : CO M M2 := c1.trans (CO.of63 s2)
  by_cases e : D.1 = 0
  · refine t_X11_keepIfDone ⟨fun q => absurd e q, fun _ => e_X10_keepNoted n2 (fun M3 top2 u3 s3 => zii (hQ M3 (c2.trans (CO.undo (s3.mono (fun z hz => by omega)))) (PC_same p2 (fun z hz => s3.1 z (by rcases hz with hz | hz; omega; have := inT63 hz; omega))) ⟨top2, ?_⟩))⟩
    unfold usD
    rw [if_pos e]
    exact u3
  · refine t_X11_keepIfDone ⟨fun _ => zii (hQ M2 c2 p2 ⟨top, ?_⟩), fun q => absurd q e⟩
    unfold usD
    rw [if_neg e]
    exact n2.1
theorem m_deed {o x y z : Int32} {D : Int32 × (Nat → Int32)} (hR : PR M (plOf N) F) (hU : UR M us)
    (hw : ∀ (M1 : zMem) (Q : Int32 → zMem → Prop), PR M1 (plOf N) F → (∀ M2, OffOnly M1 M2 → Q D.1 M2) → S_X12_why (d + 62) o x y z M1 (zI Q))
    (hl : ∀ (M1 : zMem) (Q : zMem → Prop), D.1 = 0 → PR M1 (plOf N) F → (∀ M2, PR M2 (plOf N) D.2 → LiveOnly M1 M2 → Q M2) → S_X12_live (d + 62) o x y z M1 (zU Q)) (hD : ¬ D.1 = 0 → D.2 = F)
    (hQ : ∀ M2, MO M M2 → PR M2 (plOf N) D.2 → UR M2 (usD D.1 F us) → Q D.1 M2) : S_X12_act (d + 63) o x y z 1 M (zI Q) := by
  refine t_X12_act ⟨fun _ => hw M _ hR (fun M1 o1 => ⟨fun e => ?_, fun e => zii (hQ M1 o1.mo ?_ ?_)⟩), fun q => absurd q (by decide)⟩
  · have u1 : UR M1 us := UR_same hU (o1.2 25 (by omega)) (o1.1.1 234 (by omega))
    have r1 : PR M1 (plOf N) F := PR_off hR o1
    refine e_X12_snap u1 (fun M2 u2 s2 => ?_)
    rw [r1.2.2] at u2
    have r2 : PR M2 (plOf N) F := ⟨r1.1, plnR_same r1.2.1 (fun j _ => by rw [s2.1.1 231 (by omega)]) (fun z hz => s2.1.1 z (by omega)), by rw [fR_same (s2.1.1 231 (by omega))]; exact r1.2.2⟩
    refine hl M2 _ e r2 (fun M3 r3 l3 => zii ?_)
    have := hQ M3 (o1.mo.trans (s2.mo.trans l3.mo)) r3 ?_
    · rw [e] at this; exact this
    · unfold usD
      rw [if_pos e]
      exact UR_same u2 (l3.2.1 25 (by omega)) (l3.1.1 234 (by omega))
  · rw [hD e]; exact PR_off hR o1
  · unfold usD
    rw [if_neg e]
    exact UR_same hU (o1.2 25 (by omega)) (o1.1.1 234 (by omega))
end
