-- ===== the deeds, both sides =====
section
variable {d B b p q k m : Nat} {M M2 M3 : zMem} {N : zNm} {F G : Nat → Int32} {us : List (Nat → Int32)} {x y z v : Int32}
theorem eqJ.mono {B2 : Nat} {r r2 : Int32} (h : eqJ B r r2 M) (hB : B ≤ B2) : eqJ B2 r r2 M := ⟨h.1, J_mono h.2 hB⟩
theorem m_act0 {o : Int32} (h : JA B M N F us) : S_X12_act (d + 63) o x y z 0 M (zI fun r M2 => zI (fun r2 M2 => eqJ (B + 1000) (-1) r2 M2) (some (.int r)) M2) :=
  t_X12_act ⟨fun q => absurd rfl q, fun _ => zii (zii ⟨rfl, J_mono h.j (by omega)⟩)⟩
/-- both do one deed -/
theorem both_deed {T : zMem → zK → Prop} {D : Int32 × (Nat → Int32)} {o x y z : Int32} {C : Int32 → zMem → Prop} (h : JA B M N F us) (hT : ∀ (M1 : zMem) (Q : Int32 → zMem → Prop), PC M1 63 (plOf N) F → (∀ M2, PC M2 63 (plOf N) D.2 → Same (inB 63) M1 M2 → Q D.1 M2) → T M1 (zI Q)) (hD : ¬ D.1 = 0 → D.2 = F)
    (hw : ∀ (M1 : zMem) (Q : Int32 → zMem → Prop), PR M1 (plOf N) F → (∀ M2, OffOnly M1 M2 → Q D.1 M2) → S_X12_why (d + 62) o x y z M1 (zI Q))
    (hl : ∀ (M1 : zMem) (Q : zMem → Prop), D.1 = 0 → PR M1 (plOf N) F → (∀ M2, PR M2 (plOf N) D.2 → LiveOnly M1 M2 → Q M2) → S_X12_live (d + 62) o x y z M1 (zU Q))
    (hg : bdG (B + 1000) (prN N).length D.2)
    (hC : ∀ M2, M2.1 231 = M.1 231 → (∀ M3, M3 = wI M2 229 0 0 → S_X12_act (d + 63) o x y z 1 M3 (zI fun r M4 => zI (fun r2 M5 => eqJ (B + 1000) D.1 r2 M5) (some (.int r)) M4)) → C D.1 M2) : S_X10_note (d + 62) 10 M (zU fun M1 => T M1 (zI fun r M2 => S_X11_keepIfDone (d + 62) r M2 (zI C))) := by
  refine c_deed h hT hD (fun M2 c2 p2 u2 => hC M2 (c2.1.1 231 (by omega)) (fun M3 e3 => ?_))
  have m3 : MO M2 M3 := e3 ▸ MO.w00
  have r2 : PR M2 (plOf N) F := PR_co h.pr c2
  have v2 : UR M2 us := UR_co h.2.2.1.2.1 c2
  have r3 : PR M3 (plOf N) F := by rw [e3]; exact ⟨r2.1, plnR_same r2.2.1 (fun j _ => by rw [wI_ne _ (by omega)]) (fun z hz => wI_ne _ (by omega)), by rw [fR_same (wI_ne _ (by omega))]; exact r2.2.2⟩
  have v3 : UR M3 us := by rw [e3]; exact UR_same v2 (by rw [wI_1, if_neg (by omega)]) (wI_ne _ (by omega))
  exact m_deed r3 v3 hw hl hD (fun M4 m4 r4 u4 => zii ⟨rfl, (h.deed c2 (m3.trans m4) p2 r4 u2 u4 (by omega) hg (usD_ok h (by omega) _)).j⟩)
theorem val_in (h1 : ¬ v < 0) (h2 : v ≤ 999) : -1 ≤ v.toInt ∧ v.toInt ≤ 999 := by
  rw [Int32.lt_iff_toInt_lt] at h1
  rw [Int32.le_iff_toInt_le] at h2
  have a2 : (999 : Int32).toInt = 999 := by decide
  have a3 : (0 : Int32).toInt = 0 := by decide
  omega
theorem o_put (h : JA B M N F us) : S_X11_put (d + 63) x y v M (zI fun r M1 => S_X12_put (d + 64) x y v M1 (zI fun r2 M2 => eqJ (B + 1000) r r2 M2)) := by
  have h4 := h.m4
  have h24 := h.n24
  have r1 : ∀ M1 : zMem, M1.1 231 = M.1 231 → M1.1 231 1 = nI (mP (plOf N)) := fun M1 e => by rw [e]; exact h.r1
  have r0 : ∀ M1 : zMem, M1.1 231 = M.1 231 → M1.1 231 0 = nI (nP (plOf N)) := fun M1 e => by rw [e]; exact h.r0
  have w : ∀ M1 : zMem, (wI M1 229 0 0).1 231 = M1.1 231 := fun M1 => wI_ne _ (by omega)
  refine t_X11_put (c_X11_isPeer h.c4 ⟨fun e => zii ?_, fun e => c_X11_isKey h.c3 ⟨fun f => zii ?_, fun f => ⟨fun g => zii ?_, fun g => ⟨fun i => ?_, fun i => zii ?_⟩⟩⟩⟩)
  · exact t_X12_put (fun M1 e1 => c_X12_isPeer (r1 M1 (e1 ▸ w M)) h4 ⟨fun _ => e1 ▸ m_act0 h.w0, fun e2 => (by rw [e] at e2; cases e2)⟩)
  · exact t_X12_put (fun M1 e1 => c_X12_isPeer (r1 M1 (e1 ▸ w M)) h4 ⟨fun e2 => (by rw [e] at e2; cases e2), fun _ => c_X12_isKey (r0 M1 (e1 ▸ w M)) h24 ⟨fun _ => e1 ▸ m_act0 h.w0, fun e2 => (by rw [f] at e2; cases e2)⟩⟩)
  · exact t_X12_put (fun M1 e1 => c_X12_isPeer (r1 M1 (e1 ▸ w M)) h4 ⟨fun e2 => (by rw [e] at e2; cases e2), fun _ => c_X12_isKey (r0 M1 (e1 ▸ w M)) h24 ⟨fun e2 => (by rw [f] at e2; cases e2), fun _ => c_X12_isIn ⟨fun _ => e1 ▸ m_act0 h.w0, fun e2 => (by simp [g] at e2)⟩⟩⟩)
  · obtain ⟨p, hp, e1⟩ := inN_of e (by omega)
    obtain ⟨k, hk, e2⟩ := inN_of f (by omega)
    rw [e1] at e ⊢
    rw [e2] at f ⊢
    have hv := val_in g i
    refine both_deed (D := putD F p k v) (o := 0) (x := nI p) (y := nI k) (z := v) (T := fun M1 K => S_X4_tryPut (d + 62) 63 (nI p) (nI k) v M1 K) h (fun M1 Q a c => e_X4_tryPut (by decide) (by omega) (by omega) a c) putD_F (fun M1 Q a c => e_X12_why0 (by omega) (by omega) a (c M1 (OffOnly.refl M1))) (fun M1 Q a c e => e_X12_live0 (by omega) (by omega) c a e) (bdG_mono (bdG_put h.2.1.2.2 (by omega) (by omega) hv) (by omega) (Nat.le_refl _)) (fun M2 s2 g2 => zii ?_)
    exact t_X12_put (fun M1 e1 => c_X12_isPeer (r1 M1 (e1 ▸ (w M2).trans s2)) h4 ⟨fun e2 => (by rw [e] at e2; cases e2), fun _ => c_X12_isKey (r0 M1 (e1 ▸ (w M2).trans s2)) h24 ⟨fun e2 => (by rw [f] at e2; cases e2), fun _ => c_X12_isIn ⟨fun e2 => (by simp [g, Int32.not_lt.mpr i] at e2), fun _ => g2 M1 e1⟩⟩⟩)
  · exact t_X12_put (fun M1 e1 => c_X12_isPeer (r1 M1 (e1 ▸ w M)) h4 ⟨fun e2 => (by rw [e] at e2; cases e2), fun _ => c_X12_isKey (r0 M1 (e1 ▸ w M)) h24 ⟨fun e2 => (by rw [f] at e2; cases e2), fun _ => c_X12_isIn ⟨fun _ => e1 ▸ m_act0 h.w0, fun e2 => (by simp [Int32.not_le.mp i] at e2)⟩⟩⟩)
theorem o_drop (h : JA B M N F us) : S_X11_drop (d + 63) x y M (zI fun r M1 => S_X12_drop (d + 64) x y M1 (zI fun r2 M2 => eqJ (B + 1000) r r2 M2)) := by
  have h4 := h.m4
  have h24 := h.n24
  have r1 : ∀ M1 : zMem, M1.1 231 = M.1 231 → M1.1 231 1 = nI (mP (plOf N)) := fun M1 e => by rw [e]; exact h.r1
  have r0 : ∀ M1 : zMem, M1.1 231 = M.1 231 → M1.1 231 0 = nI (nP (plOf N)) := fun M1 e => by rw [e]; exact h.r0
  have w : ∀ M1 : zMem, (wI M1 229 0 0).1 231 = M1.1 231 := fun M1 => wI_ne _ (by omega)
  refine t_X11_drop (c_X11_isPeer h.c4 ⟨fun e => zii ?_, fun e => c_X11_isKey h.c3 ⟨fun f => ?_, fun f => zii ?_⟩⟩)
  · exact t_X12_drop (fun M1 e1 => c_X12_isPeer (r1 M1 (e1 ▸ w M)) h4 ⟨fun _ => e1 ▸ m_act0 h.w0, fun e2 => (by rw [e] at e2; cases e2)⟩)
  · obtain ⟨p, hp, e1⟩ := inN_of e (by omega)
    obtain ⟨k, hk, e2⟩ := inN_of f (by omega)
    rw [e1] at e ⊢
    rw [e2] at f ⊢
    refine both_deed (D := dropD F p k) (o := 1) (x := nI p) (y := nI k) (z := 0) (T := fun M1 K => S_X4_tryDrop (d + 62) 63 (nI p) (nI k) M1 K) h (fun M1 Q a c => e_X4_tryDrop (by decide) (by omega) (by omega) a c) dropD_F (fun M1 Q a c => e_X12_why1 (by omega) (by omega) a (c M1 (OffOnly.refl M1))) (fun M1 Q a c e => e_X12_live1 (by omega) (by omega) c a e) (bdG_mono (bdG_drop h.2.1.2.2 (by omega) (by omega)) (by omega) (Nat.le_refl _)) (fun M2 s2 g2 => zii ?_)
    exact t_X12_drop (fun M1 e1 => c_X12_isPeer (r1 M1 (e1 ▸ (w M2).trans s2)) h4 ⟨fun e2 => (by rw [e] at e2; cases e2), fun _ => c_X12_isKey (r0 M1 (e1 ▸ (w M2).trans s2)) h24 ⟨fun e2 => (by rw [f] at e2; cases e2), fun _ => g2 M1 e1⟩⟩)
  · exact t_X12_drop (fun M1 e1 => c_X12_isPeer (r1 M1 (e1 ▸ w M)) h4 ⟨fun e2 => (by rw [e] at e2; cases e2), fun _ => c_X12_isKey (r0 M1 (e1 ▸ w M)) h24 ⟨fun _ => e1 ▸ m_act0 h.w0, fun e2 => (by rw [f] at e2; cases e2)⟩⟩)
theorem o_pull (h : JA B M N F us) (hB : B ≤ 1000000000) : S_X11_pull (d + 63) x y M (zI fun r M1 => S_X12_pull (d + 64) x y M1 (zI fun r2 M2 => eqJ (B + 1000) r r2 M2)) := by
  have h4 := h.m4
  have r1 : ∀ M1 : zMem, M1.1 231 = M.1 231 → M1.1 231 1 = nI (mP (plOf N)) := fun M1 e => by rw [e]; exact h.r1
  have w : ∀ M1 : zMem, (wI M1 229 0 0).1 231 = M1.1 231 := fun M1 => wI_ne _ (by omega)
  refine t_X11_pull (c_X11_areTwo h.c4 ⟨fun e => ?_, fun e => zii ?_⟩)
  · obtain ⟨p, q, hp, hq, hne, e1, e2⟩ := twoN_of e h4
    rw [e1, e2] at e ⊢
    refine both_deed (D := pullD (plOf N) F p q) (o := 2) (x := nI p) (y := nI q) (z := 0) (T := fun M1 K => S_X4_tryPull (d + 62) 63 (nI p) (nI q) M1 K) h (fun M1 Q a c => e_X4_tryPull (by decide) (by omega) (by omega) hne a c) pullD_F (fun M1 Q a c => e_X12_why2 (by omega) (by omega) a (h.bd hB) c) (fun M1 Q a c e => e_X12_live2 (by omega) (by omega) c (h.bd hB) a e) (bdG_mono (bdG_pull h.pc.1 h.2.1.2.2 (by omega) (by omega)) (by omega) (Nat.le_refl _)) (fun M2 s2 g2 => zii ?_)
    refine t_X12_pull (fun M1 e1 => c_X12_areTwo (r1 M1 (e1 ▸ (w M2).trans s2)) h4 ?_)
    rw [e]
    exact g2 M1 e1
  · refine t_X12_pull (fun M1 e1 => c_X12_areTwo (r1 M1 (e1 ▸ w M)) h4 ?_)
    rw [e]
    exact e1 ▸ m_act0 h.w0
theorem o_cut (h : JA B M N F us) : S_X11_cut (d + 63) x y M (zI fun r M1 => S_X12_cut (d + 64) x y M1 (zI fun r2 M2 => eqJ (B + 1000) r r2 M2)) := by
  have h4 := h.m4
  have r1 : ∀ M1 : zMem, M1.1 231 = M.1 231 → M1.1 231 1 = nI (mP (plOf N)) := fun M1 e => by rw [e]; exact h.r1
  have w : ∀ M1 : zMem, (wI M1 229 0 0).1 231 = M1.1 231 := fun M1 => wI_ne _ (by omega)
  refine t_X11_cut (c_X11_areTwo h.c4 ⟨fun e => ?_, fun e => zii ?_⟩)
  · obtain ⟨p, q, hp, hq, hne, e1, e2⟩ := twoN_of e h4
    rw [e1, e2] at e ⊢
    refine both_deed (D := cutD F p q) (o := 3) (x := nI p) (y := nI q) (z := 0) (T := fun M1 K => S_X4_tryCut (d + 62) 63 (nI p) (nI q) M1 K) h (fun M1 Q a c => e_X4_tryCut (by decide) (by omega) (by omega) a c) cutD_F (fun M1 Q a c => e_X12_why3 (by omega) (by omega) a (c M1 (OffOnly.refl M1))) (fun M1 Q a c e => e_X12_live3 (by omega) (by omega) c a e) (bdG_mono (bdG_cut h.2.1.2.2 h4 hp hq hne) (by omega) (Nat.le_refl _)) (fun M2 s2 g2 => zii ?_)
    refine t_X12_cut (fun M1 e1 => c_X12_areTwo (r1 M1 (e1 ▸ (w M2).trans s2)) h4 ?_)
    rw [e]
    exact g2 M1 e1
  · refine t_X12_cut (fun M1 e1 => c_X12_areTwo (r1 M1 (e1 ▸ w M)) h4 ?_)
    rw [e]
    exact e1 ▸ m_act0 h.w0
theorem o_heal (h : JA B M N F us) : S_X11_heal (d + 63) x y M (zI fun r M1 => S_X12_heal (d + 64) x y M1 (zI fun r2 M2 => eqJ (B + 1000) r r2 M2)) := by
  have h4 := h.m4
  have r1 : ∀ M1 : zMem, M1.1 231 = M.1 231 → M1.1 231 1 = nI (mP (plOf N)) := fun M1 e => by rw [e]; exact h.r1
  have w : ∀ M1 : zMem, (wI M1 229 0 0).1 231 = M1.1 231 := fun M1 => wI_ne _ (by omega)
  refine t_X11_heal (c_X11_areTwo h.c4 ⟨fun e => ?_, fun e => zii ?_⟩)
  · obtain ⟨p, q, hp, hq, hne, e1, e2⟩ := twoN_of e h4
    rw [e1, e2] at e ⊢
    refine both_deed (D := healD F p q) (o := 4) (x := nI p) (y := nI q) (z := 0) (T := fun M1 K => S_X4_tryHeal (d + 62) 63 (nI p) (nI q) M1 K) h (fun M1 Q a c => e_X4_tryHeal (by decide) (by omega) (by omega) a c) healD_F (fun M1 Q a c => e_X12_why4 (by omega) (by omega) a (c M1 (OffOnly.refl M1))) (fun M1 Q a c e => e_X12_live4 (by omega) (by omega) c a e) (bdG_mono (bdG_heal h.2.1.2.2 h4 hp hq hne) (by omega) (Nat.le_refl _)) (fun M2 s2 g2 => zii ?_)
    refine t_X12_heal (fun M1 e1 => c_X12_areTwo (r1 M1 (e1 ▸ (w M2).trans s2)) h4 ?_)
    rw [e]
    exact g2 M1 e1
  · refine t_X12_heal (fun M1 e1 => c_X12_areTwo (r1 M1 (e1 ▸ w M)) h4 ?_)
    rw [e]
    exact e1 ▸ m_act0 h.w0
end
