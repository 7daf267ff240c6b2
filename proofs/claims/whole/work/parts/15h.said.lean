-- ===== and, or; every sentence has a value =====
section
variable {k m : Nat} {P : zPl} {F T : Nat → Int32}
theorem vl_bin {f t a b e o : Nat} {c1 c2 : List Int32} {v1 v2 : Bool} (ht : t < 60) (h1 : 1 ≤ lvS c1) (h2 : 1 ≤ lvS c2) (hv1 : vlOK P F T k f a c1 v1) (hv2 : vlOK P F T k f b c2 v2) (he : (e = 2 ∧ o = 15) ∨ (e = 3 ∧ o = 14)) (t0 : T (4 * t) = nI e) (t1 : T (4 * t + 1) = nI a) (t2 : T (4 * t + 2) = nI b) : vlOK P F T k (f + 1) t (c1 ++ c2 ++ [nI o]) (if e = 2 then v1 && v2 else v1 || v2) := by
  refine ⟨fun M d Q hM hT hq => ?_, fun M d Q sz i n hM hz h60 hi hc hn hh => ?_⟩
  · have g0 := hT (4 * t) (by omega)
    have g1 := hT (4 * t + 1) (by omega)
    have g2 := hT (4 * t + 2) (by omega)
    rw [t0] at g0
    rw [t1, ← Nat.add_assoc] at g1
    rw [t2, ← Nat.add_assoc] at g2
    rw [show d + (f + 1) + 5 = d + f + 5 + 1 by omega]
    refine m_node (e := e) (x := v1) (y := v2) ht (by omega) g0 g1 (fun _ => g2) (fun Q hq => hv1.1 M d Q hM hT hq) (fun _ Q hq => hv2.1 M d Q hM hT hq) ?_
    rw [if_neg (by omega)]
    exact hq
  · rw [List.length_append, List.length_append] at hi hh
    have hi : i + (c1.length + c2.length + 1) ≤ sz := hi
    have hh : S_X7_holdsOf_5 (d + 6) 15 63 (nI k) (nI (2 * n + (if e = 2 then v1 && v2 else v1 || v2).toNat)) (nI (i + (c1.length + c2.length + 1))) M (zB Q) := hh
    have e9 : lvS (c1 ++ c2 ++ [nI o]) = lvS c1 + lvS c2 := by
      rw [lvS_app, lvS_app, lvS_op (by rcases he with w | w <;> rw [w.2] <;> decide)]
      rfl
    rw [e9, Nat.pow_add] at hn
    have p1 := Nat.pow_le_pow_right (n := 2) (by omega) h1
    have p2 := Nat.pow_le_pow_right (n := 2) (by omega) h2
    have m1 : (n + 1) * 2 ^ lvS c1 ≤ 2 ^ 28 := Nat.le_trans (Nat.mul_le_mul_left _ (Nat.le_mul_of_pos_right _ (by omega))) hn
    have m2 : (2 * n + v1.toNat + 1) * 2 ^ lvS c2 ≤ 2 ^ 28 := by
      have hx := tn_le1 v1
      have q1 : (2 * n + v1.toNat + 1) ≤ (n + 1) * 2 ^ lvS c1 := by
        have : (n + 1) * 2 ≤ (n + 1) * 2 ^ lvS c1 := Nat.mul_le_mul_left _ (by omega)
        omega
      have q2 := Nat.mul_le_mul_right (2 ^ lvS c2) q1
      rw [Nat.mul_assoc] at q2
      exact Nat.le_trans q2 hn
    have n26 : n < 2 ^ 28 := by
      have : (n + 1) * 1 ≤ (n + 1) * 2 ^ lvS c1 := Nat.mul_le_mul_left _ (by omega)
      omega
    refine hv1.2 M d Q sz i n hM hz h60 (by omega) (fun j c hj => ?_) m1 (hv2.2 M d Q sz (i + c1.length) (2 * n + v1.toNat) hM hz h60 (by omega) (fun j c hj => ?_) m2 ?_)
    · have hl := (List.getElem?_eq_some_iff.mp hj).1
      exact hc j c (by rw [List.append_assoc, List.getElem?_append_left hl]; exact hj)
    · have hl := (List.getElem?_eq_some_iff.mp hj).1
      have := hc (c1.length + j) c (by rw [List.append_assoc, List.getElem?_append_right (by omega), Nat.add_sub_cancel_left, List.getElem?_append_left hl]; exact hj)
      rw [show i + c1.length + j = i + (c1.length + j) by omega]
      exact this
    · have hlast : M.1 16 (i + c1.length + c2.length) = nI o := by
        have := hc (c1.length + c2.length) (nI o) (by rw [List.getElem?_append_right (by rw [List.length_append]; omega), List.length_append, Nat.sub_self]; rfl)
        rw [show i + c1.length + c2.length = i + (c1.length + c2.length) by omega]
        exact this
      refine h_op hz (by omega) h60 (o := o) (by omega) hlast n26 ?_
      rw [if_neg (by omega)]
      rw [show i + c1.length + c2.length + 1 = i + (c1.length + c2.length + 1) by omega]
      rcases he with w | w
      · rw [if_pos w.1] at hh
        rw [if_neg (by omega)]
        exact hh
      · rw [if_neg (by omega)] at hh
        rw [if_pos w.2]
        exact hh
end
