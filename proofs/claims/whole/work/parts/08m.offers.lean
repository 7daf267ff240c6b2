-- ===== the model's offers =====
/-- who wins, by the model's words -/
def winR (rule v s v2 s2 : Int32) : Bool :=
  let w : Int32 → Int32 := fun x => if x = -1 then 1000 else x
  let x := if rule = 0 then s - s2 else if rule = 1 then v - v2 else w v2 - w v
  let y := if rule = 0 then v - v2 else s - s2
  decide (0 < x) || (decide (x = 0) && decide (¬ y ≤ 0))
theorem sub_toInt {a b : Int32} (ha : -2000 ≤ a.toInt ∧ a.toInt ≤ 1000000000) (hb : -2000 ≤ b.toInt ∧ b.toInt ≤ 1000000000) : (a - b).toInt = a.toInt - b.toInt := by
  rw [Int32.toInt_sub]
  exact Int.bmod_eq_of_le (by omega) (by omega)
theorem i32_eq {a b : Int32} : a = b ↔ a.toInt = b.toInt := Int32.toInt_inj.symm
/-- both ways of telling who wins are the same, of values from -1 to 999 and stamps from 0 on -/
theorem win_eq {rule v s v2 s2 : Int32} (hr : rule = 0 ∨ rule = 1 ∨ rule = 2) (hv : -1 ≤ v.toInt ∧ v.toInt ≤ 999) (hv2 : -1 ≤ v2.toInt ∧ v2.toInt ≤ 999) (hs : 0 ≤ s.toInt ∧ s.toInt ≤ 1000000000) (hs2 : 0 ≤ s2.toInt ∧ s2.toInt ≤ 1000000000) : winR rule v s v2 s2 = winF rule v s v2 s2 := by
  have e1 := sub_toInt (a := v) (b := v2) (by omega) (by omega)
  have e2 := sub_toInt (a := s) (b := s2) (by omega) (by omega)
  have z0 : (0 : Int32).toInt = 0 := by decide
  have zm : (-1 : Int32).toInt = -1 := by decide
  have zk : (1000 : Int32).toInt = 1000 := by decide
  unfold winR winF
  rcases hr with rfl | rfl | rfl
  · simp only [if_true]
    by_cases h : s = s2
    · rw [if_pos h]
      have h' : s - s2 = 0 := by rw [i32_eq, e2, h, z0]; omega
      have e3 : (¬ (v - v2) ≤ 0) ↔ ¬ v ≤ v2 := by rw [Int32.le_iff_toInt_le, Int32.le_iff_toInt_le, e1, z0]; omega
      rw [h']
      simp [e3]
    · rw [if_neg h]
      have e3 : (0 < s - s2) ↔ ¬ s ≤ s2 := by rw [Int32.lt_iff_toInt_lt, Int32.le_iff_toInt_le, e2, z0]; omega
      have e4 : ¬ s - s2 = 0 := by rw [i32_eq] at h ⊢; rw [e2, z0]; omega
      simp only [e3, e4, decide_false, Bool.false_and, Bool.or_false]
  · rw [if_neg (by decide), if_neg (by decide), if_neg (by decide), if_pos rfl, if_pos rfl]
    by_cases h : v = v2
    · rw [if_pos h]
      have h' : v - v2 = 0 := by rw [i32_eq, e1, h, z0]; omega
      have e3 : (¬ (s - s2) ≤ 0) ↔ ¬ s ≤ s2 := by rw [Int32.le_iff_toInt_le, Int32.le_iff_toInt_le, e2, z0]; omega
      rw [h']
      simp [e3]
    · rw [if_neg h]
      have e3 : (0 < v - v2) ↔ ¬ v ≤ v2 := by rw [Int32.lt_iff_toInt_lt, Int32.le_iff_toInt_le, e1, z0]; omega
      have e4 : ¬ v - v2 = 0 := by rw [i32_eq] at h ⊢; rw [e1, z0]; omega
      simp only [e3, e4, decide_false, Bool.false_and, Bool.or_false]
  · rw [if_neg (by decide), if_neg (by decide), if_neg (by decide), if_neg (by decide), if_neg (by decide)]
    have hw : ∀ x : Int32, (-1 ≤ x.toInt ∧ x.toInt ≤ 999) → (if x = -1 then (1000 : Int32) else x).toInt = if x.toInt = -1 then 1000 else x.toInt := by
      intro x hx
      by_cases q : x = -1
      · rw [if_pos q, if_pos (by rw [q]; exact zm), zk]
      · rw [if_neg q, if_neg (fun w => q (by rw [i32_eq, zm]; exact w))]
    have g1 := hw v hv
    have g2 := hw v2 hv2
    have e3 := sub_toInt (a := if v2 = -1 then 1000 else v2) (b := if v = -1 then 1000 else v) (by rw [g2]; split <;> omega) (by rw [g1]; split <;> omega)
    rw [g1, g2] at e3
    generalize (if v2 = -1 then (1000 : Int32) else v2) - (if v = -1 then (1000 : Int32) else v) = X at e3
    by_cases h : v = v2
    · rw [if_pos h]
      have h' : X = 0 := by rw [i32_eq, e3, h, z0]; omega
      have e4 : (¬ (s - s2) ≤ 0) ↔ ¬ s ≤ s2 := by rw [Int32.le_iff_toInt_le, Int32.le_iff_toInt_le, e2, z0]; omega
      rw [h']
      simp [e4]
    · rw [if_neg h]
      rw [i32_eq] at h
      have e4 : ¬ X = 0 := by
        rw [i32_eq, e3, z0]
        split <;> split <;> omega
      have e5 : (0 < X) ↔ (¬ v = -1 ∧ (v2 = -1 ∨ ¬ v2 ≤ v)) := by
        rw [Int32.lt_iff_toInt_lt, i32_eq, i32_eq, Int32.le_iff_toInt_le, e3, z0, zm]
        split <;> split <;> omega
      simp only [e4, decide_false, Bool.false_and, Bool.or_false]
      rw [← Bool.decide_or, ← Bool.decide_and]
      exact decide_eq_decide.mpr e5
