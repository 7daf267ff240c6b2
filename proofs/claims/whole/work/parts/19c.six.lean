-- ===== the throwing calls, both sides =====
/-- the model answers the same, and the answer still lies in the out row -/
def eR (B : Nat) (r : Int32) : Int32 → zMem → Prop := fun r2 M3 => r2 = r ∧ M3.1 229 0 = 0 ∧ M3.2 263 0 = r.toInt64 ∧ J B M3
/-- the model refuses -/
def eX (B : Nat) : Int32 → zMem → Prop := fun _ M3 => M3.1 229 0 = 1 ∧ J B M3
section
variable {d B p q k : Nat} {M M2 : zMem} {N : zNm} {F : Nat → Int32} {us : List (Nat → Int32)} {x y z : Int32}
theorem wL_n {M : zMem} {i j a : Nat} {v : Int64} (h : a ≠ i) : (wL M i j v).2 a = M.2 a := z_up_n _ _ h
theorem JA.out (h : JA B M N F us) (v : Int64) : JA B (wL M 263 0 v) N F us := by
  obtain ⟨h0, h1, h2, a1, a2, a3, a4, a5⟩ := h
  refine ⟨h0, JC_same h1 (fun _ _ => rfl) (fun _ _ => rfl) (fun _ _ => rfl), JU_same h2 (fun _ _ _ => rfl) rfl rfl, nmC_same a1 (fun _ _ => rfl) (fun z hz => wL_n (by omega)), nmR_same a2 (fun _ _ => rfl) (wL_n (by omega)) (fun _ _ _ => rfl), a3, fun k hk => ?_, a5⟩
  obtain ⟨b1, b2⟩ := a4 k hk
  refine ⟨b1, fun q => ?_⟩
  obtain ⟨N2, G, c1, c2, c3, c4, c5, c6, c7, c8, c9, c10⟩ := b2 q
  exact ⟨N2, G, c1, nmC_same c2 (fun _ _ => rfl) (fun z hz => wL_n (by omega)), c3, c4, c5, c6, c7, fun k hk => by rw [wL_n (by omega)]; exact c8 k hk, fun k hk => by rw [wL_n (by omega)]; exact c9 k hk, c10⟩
theorem wL_s {M : zMem} {i j : Nat} {v : Int64} : (wL M i j v).2 i j = v := by rw [wL_2, if_pos ⟨rfl, rfl⟩]
/-- the model's refusal -/
theorem m_refuse (h : JA B M N F us) : S_X12_refuse d M (zI fun r M1 => zI (eX B) (some (.int r)) M1) :=
  t_X12_refuse (fun M1 e => zii (zii ⟨by rw [e, wI_1, if_pos ⟨rfl, rfl⟩], e ▸ h.w0.j⟩))
-- digest
theorem o_digest (h : JA B M N F us) : zT m_X11_digest (d + 40) 0 [(0, .ref 0), (1, .int x)] [] M (zI fun r M1 => S_X12_digest (d + 40) x (wL M1 263 0 r.toInt64) (zI (eR B r))) (fun M1 => S_X12_digest (d + 40) x M1 (zI (eX B))) := by
  have h24 := h.n24
  refine tq_digest (d := d + 34) (c_X11_isKey h.c3 ⟨fun e => ?_, fun e => ?_⟩)
  · exact t_X12_digest (fun M1 e1 => c_X12_isKey (e1 ▸ h.w0.r0) h24 ⟨fun _ => m_refuse (e1 ▸ h.w0), fun e2 => (by rw [e] at e2; cases e2)⟩)
  · obtain ⟨k, hk, rfl⟩ := inN_of e (by omega)
    rw [nI_clamp (by omega)]
    refine ⟨nIin (by omega) (by omega), zii ?_⟩
    refine t_X12_digest (fun M1 e1 => c_X12_isKey (e1 ▸ (h.out _).w0.r0) h24 ⟨fun e2 => (by rw [e] at e2; cases e2), fun _ => ?_⟩)
    have hw : JA B M1 N F us := e1 ▸ (h.out _).w0
    rw [nI_clamp (by omega)]
    refine ⟨nIin (by omega) (by omega), zii ⟨?_, by rw [e1, wI_1, if_pos ⟨rfl, rfl⟩], by rw [e1, wI_2, wL_s], hw.j⟩⟩
    rw [(plnR_kl hw.pr.2.1 k hk).1]
    exact (plnC_kl h.pc.2.1 k hk).1.symm
-- root
theorem o_root (h : JA B M N F us) : zT m_X11_root (d + 40) 0 [(0, .ref 0), (1, .int x)] [] M (zI fun r M1 => S_X12_root (d + 40) x (wL M1 263 0 r.toInt64) (zI (eR B r))) (fun M1 => S_X12_root (d + 40) x M1 (zI (eX B))) := by
  have h4 := h.m4
  refine tq_root (d := d + 34) (c_X11_isPeer h.c4 ⟨fun e => ?_, fun e => ?_⟩)
  · exact t_X12_root (fun M1 e1 => c_X12_isPeer (e1 ▸ h.w0.r1) h4 ⟨fun _ => m_refuse (e1 ▸ h.w0), fun e2 => (by rw [e] at e2; cases e2)⟩)
  · obtain ⟨p, hp, rfl⟩ := inN_of e (by omega)
    refine e_X4_rootOf (by decide) (by omega) h.pc (zii ?_)
    refine t_X12_root (fun M1 e1 => c_X12_isPeer (e1 ▸ (h.out _).w0.r1) h4 ⟨fun e2 => (by rw [e] at e2; cases e2), fun _ => ?_⟩)
    have hw : JA B M1 N F us := e1 ▸ (h.out _).w0
    refine e_X12_rootOf (d := d + 10) (by omega) hw.pr (fun M2 l => zii ⟨rfl, ?_, ?_, (hw.lay l).j⟩)
    · rw [l.1 229 (by omega), e1, wI_1, if_pos ⟨rfl, rfl⟩]
    · rw [l.2 263 (by omega), e1, wI_2, wL_s]
end
