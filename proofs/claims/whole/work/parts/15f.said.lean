-- ===== the other leaves, and nodes above: the model =====
section
variable {d k r w v t a b e p : Nat} {M : zMem} {P : zPl} {F : Nat → Int32} {Q : Bool → zMem → Prop} {x y : Bool}
theorem m_torn (hM : PR M P F) (ht : t < 60) (hk : k < nP P) (h0 : M.1 231 (407 + 4 * t) = 67) (h : Q (tnS P F k) M) : S_X12_holds (d + 5) (nI t) (nI k) M (zB Q) := by
  have h24 := hM.1.1
  have h4 := hM.1.2.1
  have a0 : (407 : Int32) + 4 * nI t = nI (407 + 4 * t) := by rw [show (4 : Int32) = nI 4 from rfl, pk_mul, show (407 : Int32) = nI 407 from rfl, nI_add]
  have a1 : nI (407 + 4 * t) + 1 = nI (407 + 4 * t + 1) := nI_1 _
  have a2 : nI (407 + 4 * t) + 2 = nI (407 + 4 * t + 2) := by rw [show (2 : Int32) = nI 2 from rfl, nI_add]
  refine t_X12_holds ?_
  rw [a0, a1, a2, nI_clamp (by omega), nI_clamp (by omega), nI_clamp (by omega), h0]
  refine ⟨nIin (by omega) (by omega), nIin (by omega) (by omega), nIin (by omega) (by omega), fun z => absurd z (by decide), fun z => absurd z (by decide), fun z => absurd z (by decide), fun _ => c_X12_isTorn (by omega) hM.2.1.2.1 h4 (zbr ?_), fun z => absurd z (by decide), fun z => absurd z (by decide), fun _ _ _ z => absurd rfl z⟩
  have : anyF (fun p => !sameF (fR M) 0 p k) (mP P - 1) 1 = tnS P F k := anyF_congr _ _ (fun p p1 p2 => by rw [← hM.2.2, sameF_cl (by omega) (by omega) (by omega)])
  rw [this]
  exact h
theorem goneF_is {p : Nat} (h : hasF F p k = true) : goneF F p k = decide (vlF F p k = -1) := by unfold goneF; rw [h, Bool.true_and]
theorem m_held (hM : PR M P F) (ht : t < 60) (hk : k < nP P) (hp : p < 4) (h0 : M.1 231 (407 + 4 * t) = 68) (h1 : M.1 231 (407 + 4 * t + 1) = nI p) (h : Q (hldS F p k) M) : S_X12_holds (d + 5) (nI t) (nI k) M (zB Q) := by
  have h24 := hM.1.1
  have a0 : (407 : Int32) + 4 * nI t = nI (407 + 4 * t) := by rw [show (4 : Int32) = nI 4 from rfl, pk_mul, show (407 : Int32) = nI 407 from rfl, nI_add]
  have a1 : nI (407 + 4 * t) + 1 = nI (407 + 4 * t + 1) := nI_1 _
  have a2 : nI (407 + 4 * t) + 2 = nI (407 + 4 * t + 2) := by rw [show (2 : Int32) = nI 2 from rfl, nI_add]
  refine t_X12_holds ?_
  rw [a0, a1, a2, nI_clamp (by omega), nI_clamp (by omega), nI_clamp (by omega), h0, h1]
  refine ⟨nIin (by omega) (by omega), nIin (by omega) (by omega), nIin (by omega) (by omega), fun z => absurd z (by decide), fun z => absurd z (by decide), fun z => absurd z (by decide), fun z => absurd z (by decide), fun _ => c_X12_hasEntry hp (by omega) ?_, fun z => absurd z (by decide), fun _ _ _ _ z => absurd rfl z⟩
  rw [PR_has hM hp (by omega)]
  unfold hldS at h
  refine ⟨fun z => zbf ?_, fun z => c_X12_at ⟨rin (o := 213) rfl (by omega) (by omega), ?_⟩⟩
  · rw [z] at h; exact h
  · rw [z, Bool.true_and, goneF_is z] at h
    rw [rcl (o := 213) (i := 24 * p + k) (x := 213) rfl (by omega), show 213 + (24 * p + k) = 202 + (11 + (24 * p + k)) by omega, PR_f hM (by omega)]
    refine ⟨fun z2 => zbf ?_, fun z2 => zbt ?_⟩
    · rw [decide_eq_true (show vlF F p k = -1 from z2)] at h; exact h
    · rw [decide_eq_false (show ¬ vlF F p k = -1 from z2)] at h; exact h
theorem m_gone (hM : PR M P F) (ht : t < 60) (hk : k < nP P) (hp : p < 4) (h0 : M.1 231 (407 + 4 * t) = 69) (h1 : M.1 231 (407 + 4 * t + 1) = nI p) (h : Q (goneF F p k) M) : S_X12_holds (d + 5) (nI t) (nI k) M (zB Q) := by
  have h24 := hM.1.1
  have a0 : (407 : Int32) + 4 * nI t = nI (407 + 4 * t) := by rw [show (4 : Int32) = nI 4 from rfl, pk_mul, show (407 : Int32) = nI 407 from rfl, nI_add]
  have a1 : nI (407 + 4 * t) + 1 = nI (407 + 4 * t + 1) := nI_1 _
  have a2 : nI (407 + 4 * t) + 2 = nI (407 + 4 * t + 2) := by rw [show (2 : Int32) = nI 2 from rfl, nI_add]
  refine t_X12_holds ?_
  rw [a0, a1, a2, nI_clamp (by omega), nI_clamp (by omega), nI_clamp (by omega), h0, h1]
  refine ⟨nIin (by omega) (by omega), nIin (by omega) (by omega), nIin (by omega) (by omega), fun z => absurd z (by decide), fun z => absurd z (by decide), fun z => absurd z (by decide), fun z => absurd z (by decide), fun z => absurd z (by decide), fun _ => c_X12_hasEntry hp (by omega) ?_, fun _ _ _ _ _ z => absurd rfl z⟩
  rw [PR_has hM hp (by omega)]
  refine ⟨fun z => zbf ?_, fun z => c_X12_at ⟨rin (o := 213) rfl (by omega) (by omega), ?_⟩⟩
  · unfold goneF at h; rw [z] at h; exact h
  · rw [goneF_is z] at h
    rw [rcl (o := 213) (i := 24 * p + k) (x := 213) rfl (by omega), show 213 + (24 * p + k) = 202 + (11 + (24 * p + k)) by omega, PR_f hM (by omega)]
    refine ⟨fun z2 => zbf ?_, fun z2 => zbt ?_⟩
    · rw [decide_eq_false (show ¬ vlF F p k = -1 from z2)] at h; exact h
    · rw [decide_eq_true (show vlF F p k = -1 from z2)] at h; exact h
theorem m_node (ht : t < 60) (he : e = 1 ∨ e = 2 ∨ e = 3) (h0 : M.1 231 (407 + 4 * t) = nI e) (h1 : M.1 231 (407 + 4 * t + 1) = nI a) (h2 : ¬ e = 1 → M.1 231 (407 + 4 * t + 2) = nI b)
    (hx : ∀ Q, Q x M → S_X12_holds d (nI a) (nI k) M (zB Q)) (hy : ¬ e = 1 → ∀ Q, Q y M → S_X12_holds d (nI b) (nI k) M (zB Q)) (h : Q (if e = 1 then !x else if e = 2 then x && y else x || y) M) : S_X12_holds (d + 1) (nI t) (nI k) M (zB Q) := by
  have a0 : (407 : Int32) + 4 * nI t = nI (407 + 4 * t) := by rw [show (4 : Int32) = nI 4 from rfl, pk_mul, show (407 : Int32) = nI 407 from rfl, nI_add]
  have a1 : nI (407 + 4 * t) + 1 = nI (407 + 4 * t + 1) := nI_1 _
  have a2 : nI (407 + 4 * t) + 2 = nI (407 + 4 * t + 2) := by rw [show (2 : Int32) = nI 2 from rfl, nI_add]
  refine t_X12_holds ?_
  rw [a0, a1, a2, nI_clamp (by omega), nI_clamp (by omega), nI_clamp (by omega), h0, h1]
  refine ⟨nIin (by omega) (by omega), nIin (by omega) (by omega), nIin (by omega) (by omega), fun z => ?_, fun z => ?_, fun z => ?_, fun z => ?_, fun z => ?_, fun z => ?_, fun z1 z2 z3 => ?_⟩
  · have e1 : e = 1 := nI_inj (by omega) (by omega) z
    rw [if_pos e1] at h
    refine hx _ ⟨fun q => zbf ?_, fun q => zbt ?_⟩
    · rw [q] at h; exact h
    · rw [q] at h; exact h
  · have e1 : e = 2 := nI_inj (by omega) (by omega) z
    rw [if_neg (by omega), if_pos e1] at h
    refine hx _ ⟨fun q => zbf ?_, fun q => ?_⟩
    · rw [q] at h; exact h
    · rw [q, Bool.true_and] at h
      rw [h2 (by omega)]
      refine hy (by omega) _ ⟨fun q2 => zbf ?_, fun q2 => zbt ?_⟩
      · rw [q2] at h; exact h
      · rw [q2] at h; exact h
  · have e1 : e = 3 := nI_inj (by omega) (by omega) z
    rw [if_neg (by omega), if_neg (by omega)] at h
    refine hx _ ⟨fun q => zbt ?_, fun q => ?_⟩
    · rw [q] at h; exact h
    · rw [q, Bool.false_or] at h
      rw [h2 (by omega)]
      refine hy (by omega) _ ⟨fun q2 => zbf ?_, fun q2 => zbt ?_⟩
      · rw [q2] at h; exact h
      · rw [q2] at h; exact h
  · have := nI_inj (i := e) (j := 67) (by omega) (by omega) z
    omega
  · have := nI_inj (i := e) (j := 68) (by omega) (by omega) z
    omega
  · have := nI_inj (i := e) (j := 69) (by omega) (by omega) z
    omega
  · exfalso
    rcases he with q | q | q
    · exact z1 (by rw [q]; rfl)
    · exact z2 (by rw [q]; rfl)
    · exact z3 (by rw [q]; rfl)
end
