-- ===== the memory when all is made =====
def M1 : zMem := wI (wI M0 231 2 2) 231 3 4
def N0 : zNm := (2, 4, 0, [], [])
theorem M0_at {i j : Nat} (h : m0L.all (fun q => q.1 != i) = true) : M0.1 i j = 0 := by rw [M0_row h]
theorem M1_at {i j : Nat} (h : m0L.all (fun q => q.1 != i) = true) (h2 : i ≠ 231) : M1.1 i j = 0 := by
  unfold M1
  rw [wI_1, if_neg (fun q => h2 q.1), wI_1, if_neg (fun q => h2 q.1)]
  exact M0_at h
theorem M1_231 {j : Nat} (h2 : j ≠ 2) (h3 : j ≠ 3) : M1.1 231 j = 0 := by
  unfold M1
  rw [wI_1, if_neg (fun q => h3 q.2), wI_1, if_neg (fun q => h2 q.2)]
  exact M0_at (by decide)
theorem cl_0 : cl (fun _ => 0) = fun _ => (0 : Int32) := by
  funext j; unfold cl; split <;> rfl
theorem fC_M1 {b : Nat} (h : ∀ k, k < 5 → m0L.all (fun q => q.1 != b + k) = true ∧ b + k ≠ 231) : fC M1 b = fun _ => 0 := by
  funext j
  have z : ∀ k, k < 5 → ∀ j, M1.1 (b + k) j = 0 := fun k hk j => M1_at (h k hk).1 (h k hk).2
  unfold fC
  split
  · exact z 0 (by omega) _
  · split
    · exact z 3 (by omega) _
    · split
      · exact z 4 (by omega) _
      · split
        · exact z 1 (by omega) _
        · exact z 2 (by omega) _
theorem fR_M1 : fR M1 = fun _ => 0 := by
  funext j
  exact M1_231 (by omega) (by omega)
theorem J_start : J 0 M1 := by
  have hfc : cl (fC M1 10) = fun _ => 0 := by rw [fC_M1 (by decide), cl_0]
  have ok : okP (plOf N0) := by
    refine ⟨by decide, by decide, by decide, Or.inl rfl, ?_, ?_, ?_⟩
    · intro i hi; exact absurd hi (Nat.not_lt_zero i)
    · intro i j hi; exact absurd hi (Nat.not_lt_zero i)
    · intro i hi; exact absurd hi (Nat.not_lt_zero i)
  refine ⟨N0, fun _ => 0, [], ?_, ⟨⟨ok, ?_, ?_⟩, ⟨ok, ?_, ?_⟩, ?_⟩, ⟨⟨0, ?_⟩, ?_, ?_⟩, ?_, ?_, ?_, ?_, ?_, ?_, ?_, ?_, ?_, ?_⟩
  · exact ⟨by decide, by decide, by decide, by decide, by decide, fun l hl => (by cases hl), List.nodup_nil⟩
  · exact ⟨rfl, rfl, rfl, rfl, fun k hk => absurd hk (Nat.not_lt_zero k)⟩
  · refine ⟨?_, fun p hp => ?_⟩
    · rw [pT63.2.1]; exact hfc
    · rw [pT63.1]
      have e : ksP (plOf N0) (fun _ => 0) p = [] := rfl
      rw [e]
      have hp2 : p = 0 ∨ p = 1 ∨ p = 2 ∨ p = 3 := by omega
      have z : M1.1 (65 + 12 * p) 3 = 0 ∧ M1.1 (65 + 12 * p) 12 = 0 := by
        rcases hp2 with rfl | rfl | rfl | rfl <;> exact ⟨rfl, rfl⟩
      exact ⟨z.1, fun i k hk => (by simp at hk), z.2, fun j n hj => (by simp [gT_nil] at hj)⟩
  · exact ⟨rfl, rfl, rfl, rfl, fun k hk => absurd hk (Nat.not_lt_zero k)⟩
  · rw [fR_M1, cl_0]
  · refine ⟨⟨0, Nat.le_refl _, rfl⟩, fun i hi => ⟨⟨show (-1 : Int) ≤ (0 : Int32).toInt by decide, show (0 : Int32).toInt ≤ (999 : Int) by decide⟩, 0, Nat.le_refl _, rfl⟩, fun p hp q hq => ?_, fun p q hp hq => ?_⟩
    rotate_left
    · show bt 0 q = bt 0 p
      simp [bt, tn]
    show bt 0 q = false
    simp [bt, tn]
  · exact ⟨by decide, rfl, rfl, by decide, fun i F h => by cases h⟩
  · exact ⟨rfl, by decide, fun i F h => by cases h⟩
  · intro G hG; cases hG
  · exact ⟨⟨rfl, rfl, rfl, rfl, rfl, fun k hk => absurd hk (Nat.not_lt_zero k), fun k hk => absurd hk (Nat.not_lt_zero k)⟩, fun k hk => absurd hk (Nat.not_lt_zero k)⟩
  · exact ⟨⟨rfl, rfl, rfl, rfl, rfl, fun k hk => absurd hk (Nat.not_lt_zero k), fun k hk => absurd hk (Nat.not_lt_zero k)⟩, fun k hk => absurd hk (Nat.not_lt_zero k)⟩
  · exact Or.inl ⟨rfl, rfl⟩
  · intro k hk
    have hk2 : k = 0 ∨ k = 1 := by omega
    rcases hk2 with rfl | rfl
    · exact ⟨rfl, fun q => absurd rfl q⟩
    · exact ⟨rfl, fun q => absurd rfl q⟩
  · exact ⟨fun _ => 0, 0, ⟨by decide, fun i hi => absurd hi (Nat.not_lt_zero i)⟩, rfl, rfl, fun i hi => absurd hi (Nat.not_lt_zero i), fun i hi => absurd hi (Nat.not_lt_zero i)⟩
  · exact ⟨rfl, rfl⟩
  · exact ⟨0, by decide, rfl, rfl, fun i hi => absurd hi (Nat.not_lt_zero i)⟩
  · exact ⟨0, by decide, rfl, rfl, fun i hi => absurd hi (Nat.not_lt_zero i)⟩
  · refine ⟨rfl, fun w hw => ?_⟩
    have : w = 0 ∨ w = 1 ∨ w = 2 ∨ w = 3 := by omega
    rcases this with rfl | rfl | rfl | rfl <;> rfl
  · exact ⟨rfl, rfl, rfl, rfl, rfl⟩
/-- the objects as the constructors leave them -/
theorem M1_E {G : Nat → va_E} (h : ∀ i, i < 264 → i ≠ 231 → G i = zE M0 i) (h2 : G 231 = .inl (0, 647, .inl (upd (upd (fun _ => 0) ((2 : Int32).toNatClampNeg) 2) ((3 : Int32).toNatClampNeg) 4))) : ∀ i, i < 264 → G i = zE M1 i := by
  intro i hi
  by_cases e : i = 231
  · subst e
    rw [h2, zE_i (by decide)]
    show _ = Sum.inl (0, 647, Sum.inl (M1.1 231))
    unfold M1 wI
    simp only [z_up_s, M0_row (i := 231) (by decide)]
    rfl
  · rw [h i hi e]
    refine zE_eq ?_ rfl
    unfold M1 wI
    simp only [z_up_n _ _ e]
