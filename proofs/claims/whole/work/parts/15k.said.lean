-- ===== said =====
theorem o_said {d B : Nat} {M : zMem} {N : zNm} {F : Nat → Int32} {us : List (Nat → Int32)} {x : Int32} (h : JA B M N F us) : S_X11_said (d + 80) x M (zI fun r M1 => S_X12_said (d + 80) x M1 (zI fun r2 M2 => eqJ B r r2 M2)) := by
  have h4 := h.m4
  have h24 := h.n24
  have e405 : (wI M 229 0 0).1 231 = M.1 231 := wI_ne _ (by omega)
  rcases h.2.2.2.2.2.1 with ⟨s1, s2⟩ | ⟨s1, s2, cs, t, s3, s4, s5, s6, s7, s8⟩
  · refine t_X11_said ⟨fun _ => zii (t_X12_said (fun M1 e1 => ⟨fun q => absurd ?_ q, fun _ => zii ⟨rfl, e1 ▸ h.w0.j⟩⟩)), fun q => absurd s1 q⟩
    rw [e1, e405]; exact s2
  have hval : ∀ i, i < nP (plOf N) → ∃ v, vlOK (plOf N) F (fun j => M.1 231 (405 + (2 + j))) i 60 t cs v := fun i hi => (rel_val (P := plOf N) (F := F) (T := fun j => M.1 231 (405 + (2 + j))) hi h4 60 cs t s8).2
  let vs : Nat → Bool := fun i => if hi : i < nP (plOf N) then Classical.choose (hval i hi) else false
  have hvs : ∀ i, i < nP (plOf N) → vlOK (plOf N) F (fun j => M.1 231 (405 + (2 + j))) i 60 t cs (vs i) := fun i hi => by
    have : vs i = Classical.choose (hval i hi) := dif_pos hi
    rw [this]
    exact Classical.choose_spec (hval i hi)
  have model : ∀ r, (¬ -1 ≤ x → r = -1) → (-1 ≤ x → r = sdS vs x (nP (plOf N)) 0 0) → S_X12_said (d + 80) x M (zI fun r2 M2 => eqJ B r r2 M2) := by
    intro r r1 r2
    refine t_X12_said (fun M1 e1 => ⟨fun _ => ?_, fun q => ?_⟩)
    · have hw : JA B M1 N F us := e1 ▸ h.w0
      have e231 : M1.1 231 = M.1 231 := by rw [e1, e405]
      refine m_said (vs := vs) h24 hw.r0 (fun i hi Q hq => ?_) (nP (plOf N)) 0 0 (by omega) (Nat.le_refl _) ⟨?_, hw.j⟩
      · have e406 : M1.1 231 406 = nI t := by rw [e231]; exact s7
        rw [e406]
        exact (hvs i hi).1 M1 (d + 14) Q hw.pr (fun j hj => by
          rw [e231, show 407 + j = 405 + (2 + j) by omega]) hq
      · by_cases g : -1 ≤ x
        · exact (r2 g).symm
        · rw [r1 g]; exact sdS_m1 g _ _ _ (by omega) (Nat.le_refl _)
    · exfalso
      rw [e1, e405] at q
      have s2 : M.1 231 405 = 1 := s2
      rw [s2] at q
      exact absurd q (by decide)
  refine t_X11_said ⟨fun q => absurd q s1, fun _ => ⟨fun g => ?_, fun g => zii (model _ (fun _ => rfl) (fun q => absurd q g))⟩⟩
  refine c_said (vs := vs) h24 h.c3 (fun i hi Q hq => ?_) (nP (plOf N)) 0 0 (by omega) (Nat.le_refl _) (model _ (fun q => absurd g q) (fun _ => rfl))
  refine t_X7_holdsOf (by decide) (by decide) ?_
  have hv := tn_le1 (vs i)
  have hp := Nat.pow_le_pow_right (n := 2) (by omega) s5
  refine (hvs i hi).2 M (d + 73) Q cs.length 0 0 h.pc s3 s4 (by omega) (fun j c hj => by rw [Nat.zero_add]; exact s6 j c hj) (by omega) ?_
  have ht := sk_top (n := 0) (by omega) (vs i)
  rw [Nat.zero_add cs.length]
  refine t_X7_holdsOf_5 (by decide) (by decide) ⟨fun _ => ⟨fun q => zbf ?_, fun q => zbt ?_⟩, fun q => absurd (leY s3 (by omega)) q⟩
  · have := ht.mp q
    rw [this] at hq; exact hq
  · have : vs i = true := by
      cases w : vs i with
      | true => rfl
      | false => exact absurd (ht.mpr w) q
    rw [this] at hq; exact hq
