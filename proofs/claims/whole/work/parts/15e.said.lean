-- ===== a leaf holds: the model =====
section
variable {d k r w v t : Nat} {M : zMem} {P : zPl} {F : Nat → Int32} {Q : Bool → zMem → Prop}
theorem m_cmp {V : Prop} (hV : V) (hr : r = 60 ∨ r = 61 ∨ r = 62) {x y : Int32} (h : Q (cmpS r x y) M) : (¬ nI r = 60 → V ∧ ((¬ nI r = 61 → (x ≤ y → zB Q (some (.int 0)) M) ∧ (¬ (x ≤ y) → zB Q (some (.int 1)) M)) ∧ (nI r = 61 → (¬ x = y → zB Q (some (.int 0)) M) ∧ (x = y → zB Q (some (.int 1)) M)))) ∧ (nI r = 60 → (y ≤ x → zB Q (some (.int 0)) M) ∧ (¬ (y ≤ x) → zB Q (some (.int 1)) M)) := by
  unfold cmpS at h
  rw [show (60 : Int32) = nI 60 from rfl, nI_eq (by omega) (by omega), show (61 : Int32) = nI 61 from rfl, nI_eq (by omega) (by omega)]
  refine ⟨fun e => ⟨hV, fun e2 => ⟨fun e3 => zbf ?_, fun e3 => zbt ?_⟩, fun e2 => ⟨fun e3 => zbf ?_, fun e3 => zbt ?_⟩⟩, fun e => ⟨fun e3 => zbf ?_, fun e3 => zbt ?_⟩⟩
  · rw [if_neg e, if_pos (by omega), decide_eq_false (Int32.not_lt.mpr e3)] at h; exact h
  · rw [if_neg e, if_pos (by omega), decide_eq_true (Int32.not_le.mp e3)] at h; exact h
  · rw [if_neg e, if_neg (by omega), decide_eq_false e3] at h; exact h
  · rw [if_neg e, if_neg (by omega), decide_eq_true e3] at h; exact h
  · rw [if_pos e, decide_eq_false (Int32.not_lt.mpr e3)] at h; exact h
  · rw [if_pos e, decide_eq_true (Int32.not_le.mp e3)] at h; exact h
theorem m_compared (hM : PR M P F) (ht : t < 60) (hw : 20 ≤ w ∧ w ≤ 23) (hr : r = 60 ∨ r = 61 ∨ r = 62) (hk : k < nP P) (h0 : M.1 231 (407 + 4 * t) = nI (50 + w)) (h2 : M.1 231 (407 + 4 * t + 2) = nI v) (h3 : M.1 231 (407 + 4 * t + 3) = nI r) (h : Q (cmpW P F k w r v) M) : S_X12_holds (d + 5) (nI t) (nI k) M (zB Q) := by
  have h24 := hM.1.1
  have h4 := hM.1.2.1
  have a0 : (407 : Int32) + 4 * nI t = nI (407 + 4 * t) := by rw [show (4 : Int32) = nI 4 from rfl, pk_mul, show (407 : Int32) = nI 407 from rfl, nI_add]
  have a1 : nI (407 + 4 * t) + 1 = nI (407 + 4 * t + 1) := nI_1 _
  have a2 : nI (407 + 4 * t) + 2 = nI (407 + 4 * t + 2) := by rw [show (2 : Int32) = nI 2 from rfl, nI_add]
  have a3 : nI (407 + 4 * t) + 3 = nI (407 + 4 * t + 3) := by rw [show (3 : Int32) = nI 3 from rfl, nI_add]
  refine t_X12_holds ?_
  rw [a0, a1, a2, a3, nI_clamp (by omega), nI_clamp (by omega), nI_clamp (by omega), nI_clamp (by omega), nI_clamp (by omega)]
  rw [h0, h2]
  have v3 : vp_in (nI (407 + 4 * t + 3)) 647 := nIin (by omega) (by omega)
  have v0 : vp_in (nI (407 + 4 * t)) 647 := nIin (by omega) (by omega)
  have s50 : nI (50 + w) - 50 = nI w := by rw [show (50 : Int32) = nI 50 from rfl, pk_sub (by omega), Nat.add_sub_cancel_left]
  rw [s50]
  rw [show (1 : Int32) = nI 1 from rfl, nI_eq (by omega) (by omega), show (2 : Int32) = nI 2 from rfl, nI_eq (by omega) (by omega), show (3 : Int32) = nI 3 from rfl, nI_eq (by omega) (by omega), show (67 : Int32) = nI 67 from rfl, nI_eq (by omega) (by omega), show (68 : Int32) = nI 68 from rfl, nI_eq (by omega) (by omega), show (69 : Int32) = nI 69 from rfl, nI_eq (by omega) (by omega), show (20 : Int32) = nI 20 from rfl, nI_eq (by omega) (by omega), show (21 : Int32) = nI 21 from rfl, nI_eq (by omega) (by omega), show (22 : Int32) = nI 22 from rfl, nI_eq (by omega) (by omega)]
  unfold cmpW at h
  refine ⟨nIin (by omega) (by omega), nIin (by omega) (by omega), v0, fun e => absurd e (by omega), fun e => absurd e (by omega), fun e => absurd e (by omega), fun e => absurd e (by omega), fun e => absurd e (by omega), fun e => absurd e (by omega), fun _ _ _ _ _ _ => ⟨v0, ?_⟩⟩
  refine ⟨fun e => ⟨fun e2 => ⟨fun e3 => ⟨v3, ?_⟩, fun e3 => ?_⟩, fun e2 => ?_⟩, fun e => ?_⟩
  · rw [if_neg e, if_neg e2, if_neg e3] at h
    rw [h3]
    exact m_cmp v3 hr h
  · rw [if_neg e, if_neg e2, if_pos e3] at h
    refine c_X12_latestOf (by omega) hM.2.1.2.1 h4 ⟨v3, ?_⟩
    rw [h3]
    refine m_cmp v3 hr ?_
    have : forS (fun p s => if s < smF (fR M) p k then smF (fR M) p k else s) (mP P) 0 0 = latS P F k := forS_congr _ _ _ (fun p s p1 p2 => by rw [PR_sm hM (by omega) (by omega)])
    rw [this]
    exact h
  · rw [if_neg e, if_pos e2] at h
    refine c_X12_copiesOf (by omega) hM.2.1.2.1 h4 ⟨v3, ?_⟩
    rw [h3]
    refine m_cmp v3 hr ?_
    have : cntF (fun p => hasF (fR M) p k) (mP P) = copS P F k := cntF_congr (fun p hp => PR_has hM (by omega) (by omega))
    rw [this]
    exact h
  · rw [if_pos e] at h
    refine ⟨nIin (by omega) (by omega), v3, ?_⟩
    rw [h3, (plnR_kl hM.2.1 k hk).2]
    exact m_cmp v3 hr h
end
