-- ===== the model's offers =====
/-- who wins, by the model's words -/
def winR (rule v s v2 s2 : Int32) : Bool :=
  let w : Int32 → Int32 := fun x => if x = -1 then 1000 else x
  let x := if rule = 0 then s - s2 else if rule = 1 then v - v2 else w v2 - w v
  let y := if rule = 0 then v - v2 else s - s2
  decide (0 < x) || (decide (x = 0) && decide (¬ y ≤ 0))
theorem sub_toInt {a b : Int32} (ha : -2000 ≤ a.toInt ∧ a.toInt ≤ 1000000000) (hb : -2000 ≤ b.toInt ∧ b.toInt ≤ 1000000000) : (a - b).toInt = a.toInt - b.toInt := by
  rw [Int32.toInt_sub]
  exact Int.bmod_eq_of_le (by omega) (by omega)
theorem i32_eq {a b : Int32} : a = b ↔ a.toInt = b.toInt := Int32.toInt_inj.symm
/-- both ways of telling who wins are the same, of values from -1 to 999 and stamps from 0 on -/
theorem win_eq {rule v s v2 s2 : Int32} (hr : rule = 0 ∨ rule = 1 ∨ rule = 2) (hv : -1 ≤ v.toInt ∧ v.toInt ≤ 999) (hv2 : -1 ≤ v2.toInt ∧ v2.toInt ≤ 999) (hs : 0 ≤ s.toInt ∧ s.toInt ≤ 1000000000) (hs2 : 0 ≤ s2.toInt ∧ s2.toInt ≤ 1000000000) : winR rule v s v2 s2 = winF rule v s v2 s2 := by
  have e1 := sub_toInt (a := v) (b := v2) (by omega) (by omega)
  have e2 := sub_toInt (a := s) (b := s2) (by omega) (by omega)
  have z0 : (0 : Int32).toInt = 0 := by decide
  have zm : (-1 : Int32).toInt = -1 := by decide
  have zk : (1000 : Int32).toInt = 1000 := by decide
  unfold winR winF
  rcases hr with rfl | rfl | rfl
  · simp only [if_true]
    by_cases h : s = s2
    · rw [if_pos h]
      have h' : s - s2 = 0 := by rw [i32_eq, e2, h, z0]; omega
      have e3 : (¬ (v - v2) ≤ 0) ↔ ¬ v ≤ v2 := by rw [Int32.le_iff_toInt_le, Int32.le_iff_toInt_le, e1, z0]; omega
      rw [h']
      simp [e3]
    · rw [if_neg h]
      have e3 : (0 < s - s2) ↔ ¬ s ≤ s2 := by rw [Int32.lt_iff_toInt_lt, Int32.le_iff_toInt_le, e2, z0]; omega
      have e4 : ¬ s - s2 = 0 := by rw [i32_eq] at h ⊢; rw [e2, z0]; omega
      simp only [e3, e4, decide_false, Bool.false_and, Bool.or_false]
  · simp only [show ((1 : Int32) = 0) = False from eq_false (by decide), if_false, if_true]
    by_cases h : v = v2
    · rw [if_pos h]
      have h' : v - v2 = 0 := by rw [i32_eq, e1, h, z0]; omega
      have e3 : (¬ (s - s2) ≤ 0) ↔ ¬ s ≤ s2 := by rw [Int32.le_iff_toInt_le, Int32.le_iff_toInt_le, e2, z0]; omega
      rw [h']
      simp [e3]
    · rw [if_neg h]
      have e3 : (0 < v - v2) ↔ ¬ v ≤ v2 := by rw [Int32.lt_iff_toInt_lt, Int32.le_iff_toInt_le, e1, z0]; omega
      have e4 : ¬ v - v2 = 0 := by rw [i32_eq] at h ⊢; rw [e1, z0]; omega
      simp only [e3, e4, decide_false, Bool.false_and, Bool.or_false]
  · simp only [show ((2 : Int32) = 0) = False from eq_false (by decide), show ((2 : Int32) = 1) = False from eq_false (by decide), if_false]
    have hw : ∀ x : Int32, (-1 ≤ x.toInt ∧ x.toInt ≤ 999) → (if x = -1 then (1000 : Int32) else x).toInt = if x.toInt = -1 then 1000 else x.toInt := by
      intro x hx
      by_cases q : x = -1
      · rw [if_pos q, if_pos (by rw [q]; exact zm), zk]
      · rw [if_neg q, if_neg (fun w => q (by rw [i32_eq, zm]; exact w))]
    have g1 := hw v hv
    have g2 := hw v2 hv2
    have e3 := sub_toInt (a := if v2 = -1 then 1000 else v2) (b := if v = -1 then 1000 else v) (by rw [g2]; split <;> omega) (by rw [g1]; split <;> omega)
    rw [g1, g2] at e3
    generalize (if v2 = -1 then (1000 : Int32) else v2) - (if v = -1 then (1000 : Int32) else v) = X at e3
    by_cases h : v = v2
    · rw [if_pos h]
      have h' : X = 0 := by rw [i32_eq, e3, h, z0]; omega
      have e4 : (¬ (s - s2) ≤ 0) ↔ ¬ s ≤ s2 := by rw [Int32.le_iff_toInt_le, Int32.le_iff_toInt_le, e2, z0]; omega
      rw [h']
      simp [e4]
    · rw [if_neg h]
      rw [i32_eq] at h
      have e4 : ¬ X = 0 := by
        rw [i32_eq, e3, z0]
        split <;> split <;> omega
      have e5 : (0 < X) ↔ (¬ v = -1 ∧ (v2 = -1 ∨ ¬ v2 ≤ v)) := by
        rw [Int32.lt_iff_toInt_lt, i32_eq, i32_eq, Int32.le_iff_toInt_le, e3, z0, zm]
        split <;> split <;> omega
      simp only [e4, decide_false, Bool.false_and, Bool.or_false]
      rw [← Bool.decide_or, ← Bool.decide_and]
      exact decide_eq_decide.mpr e5
theorem c_X12_worthLeast {d : Nat} {M : zMem} {Q : Int32 → zMem → Prop} {x : Int32} (h : Q (if x = -1 then 1000 else x) M) : S_X12_worthLeast d x M (zI Q) := by
  refine t_X12_worthLeast ⟨fun e => zii ?_, fun e => zii ?_⟩
  · rw [if_neg e] at h; exact h
  · rw [if_pos e] at h; exact h
theorem c_X12_wins {d : Nat} {M : zMem} {Q : Bool → zMem → Prop} {v s v2 s2 : Int32} (h : Q (winR (M.1 231 4) v s v2 s2) M) : S_X12_wins (d + 1) v s v2 s2 M (zB Q) := by
  have h1 : ∀ x y : Int32, x = (if M.1 231 4 = 0 then s - s2 else if M.1 231 4 = 1 then v - v2 else (if v2 = -1 then 1000 else v2) - (if v = -1 then 1000 else v)) → y = (if M.1 231 4 = 0 then v - v2 else s - s2) → ((0 < x → zB Q (some (.int 1)) M) ∧ (¬ (0 < x) → (¬ x = 0 → zB Q (some (.int 0)) M) ∧ (x = 0 → (y ≤ 0 → zB Q (some (.int 0)) M) ∧ (¬ (y ≤ 0) → zB Q (some (.int 1)) M)))) := by
    intro x y ex ey
    unfold winR at h
    simp only [] at h
    rw [← ex, ← ey] at h
    refine ⟨fun e => zbt ?_, fun e => ⟨fun e2 => zbf ?_, fun e2 => ⟨fun e3 => zbf ?_, fun e3 => zbt ?_⟩⟩⟩
    · simpa [e] using h
    · simpa [e, e2] using h
    · simpa [e, e2, e3] using h
    · simpa [e, e2, e3] using h
  refine t_X12_wins ⟨fun e => ⟨fun e1 => c_X12_worthLeast (c_X12_worthLeast ⟨fun _ => h1 _ _ (by rw [if_neg e, if_neg e1]) (by rw [if_neg e]), fun q => absurd q e⟩), fun e1 => ⟨fun _ => h1 _ _ (by rw [if_neg e, if_pos e1]) (by rw [if_neg e]), fun q => absurd q e⟩⟩, fun e => ⟨fun q => absurd e q, fun _ => h1 _ _ (by rw [if_pos e]) (by rw [if_pos e])⟩⟩
theorem c_X12_isOffer {d p q k : Nat} {M : zMem} {Q : Bool → zMem → Prop} (hp : p < 4) (hq : q < 4) (hk : k < 24) (h : Q (!hasF (fR M) p k || winR (M.1 231 4) (vlF (fR M) q k) (smF (fR M) q k) (vlF (fR M) p k) (smF (fR M) p k)) M) : S_X12_isOffer (d + 2) (nI p) (nI q) (nI k) M (zB Q) := by
  have h1 := ixL hp hk
  have h2 := ixL hq hk
  refine t_X12_isOffer (c_X12_hasEntry hp hk ⟨fun e => zbt ?_, fun e => c_X12_at ⟨vin h2, c_X12_at ⟨sin h2, c_X12_at ⟨vin h1, c_X12_at ⟨sin h1, c_X12_wins ?_⟩⟩⟩⟩⟩)
  · simpa [e] using h
  · rw [vcl h2, scl h2, vcl h1, scl h1, fR_v, fR_s, fR_v, fR_s]
    have h : Q (winR (M.1 231 4) (fR M (11 + (24 * q + k))) (fR M (107 + (24 * q + k))) (fR M (11 + (24 * p + k))) (fR M (107 + (24 * p + k)))) M := by
      have := h
      simp only [e, Bool.not_true, Bool.false_or] at this
      exact this
    refine ⟨fun e2 => zbf ?_, fun e2 => zbt ?_⟩
    · rw [e2] at h; exact h
    · rw [e2] at h; exact h
