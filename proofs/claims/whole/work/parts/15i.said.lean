-- ===== every sentence has a value =====
section
variable {k m : Nat} {P : zPl} {F T : Nat → Int32}
theorem lf_67 {f t : Nat} (hk : k < nP P) (ht : t < 60) (h0 : T (4 * t) = 67) : 1 ≤ lvS [17] ∧ ∃ v, vlOK P F T k f t [17] v := by
  have := vl_leaf (P := P) (F := F) (T := T) (k := k) (f := f) (t := t) (w := 17) (r := 0) (b := 0) hk (by omega) (by omega) (by omega) (by omega) (fun M d Q hM hT hq => by
    have g0 := hT (4 * t) (by omega)
    rw [h0] at g0
    exact m_torn (d := d + f) hM ht hk g0 hq)
  exact this
theorem rel_val (hk : k < nP P) (h4 : m ≤ 4) : ∀ (f : Nat) (cs : List Int32) (t : Nat), relS m f cs T t → 1 ≤ lvS cs ∧ ∃ v, vlOK P F T k f t cs v
  | 0, _, _, h => h.elim
  | f + 1, cs, t, ⟨ht, h⟩ => by
    rcases h with ⟨a1, a2⟩ | ⟨w, p, a1, a2, a3, a4, a5⟩ | ⟨w, r, b, a1, a2, a3, a4, a5, a6, a7, a8, a9⟩ | ⟨cs1, x, a1, a2, a3, a4⟩ | ⟨cs1, cs2, x, y, a1, a2, a3, a4, a5, a6⟩ | ⟨cs1, cs2, x, y, a1, a2, a3, a4, a5, a6⟩
    · rw [a1]; exact lf_67 hk ht a2
    · rw [a3]
      have := vl_leaf (P := P) (F := F) (T := T) (k := k) (f := f + 1) (t := t) (w := w) (r := 0) (b := p) hk (by omega) (by omega) (by omega) (by omega) (fun M d Q hM hT hq => by
        have g0 := hT (4 * t) (by omega)
        have g1 := hT (4 * t + 1) (by omega)
        rw [a5, ← Nat.add_assoc] at g1
        rcases a1 with e | e
        · rw [a4, e] at g0
          unfold leafS at hq
          rw [if_neg (by omega), if_pos e] at hq
          exact m_held (d := d + (f + 1)) hM ht hk (by omega) g0 g1 hq
        · rw [a4, e] at g0
          unfold leafS at hq
          rw [if_neg (by omega), if_neg (by omega), if_pos e] at hq
          exact m_gone (d := d + (f + 1)) hM ht hk (by omega) g0 g1 hq)
      exact this
    · rw [a6]
      exact vl_leaf (P := P) (F := F) (T := T) (k := k) (f := f + 1) (t := t) (w := w) (r := r) (b := b) hk (by omega) (by omega) (by omega) (by omega) (fun M d Q hM hT hq => by
        have g0 := hT (4 * t) (by omega)
        have g2 := hT (4 * t + 2) (by omega)
        have g3 := hT (4 * t + 3) (by omega)
        rw [a7] at g0
        rw [a8, ← Nat.add_assoc] at g2
        rw [a9, ← Nat.add_assoc] at g3
        unfold leafS at hq
        rw [if_neg (by omega), if_neg (by omega), if_neg (by omega)] at hq
        exact m_compared (d := d + (f + 1)) hM ht (by omega) (by omega) hk g0 g2 g3 hq)
    · obtain ⟨l1, v, hv⟩ := rel_val hk h4 f cs1 x a4
      rw [a1]
      refine ⟨?_, !v, vl_not ht l1 hv a2 a3⟩
      rw [lvS_app]
      omega
    · obtain ⟨l1, v1, hv1⟩ := rel_val hk h4 f cs1 x a5
      obtain ⟨l2, v2, hv2⟩ := rel_val hk h4 f cs2 y a6
      rw [a1]
      refine ⟨?_, _, vl_bin (e := 2) (o := 15) ht l1 l2 hv1 hv2 (Or.inl ⟨rfl, rfl⟩) a2 a3 a4⟩
      rw [lvS_app, lvS_app]
      omega
    · obtain ⟨l1, v1, hv1⟩ := rel_val hk h4 f cs1 x a5
      obtain ⟨l2, v2, hv2⟩ := rel_val hk h4 f cs2 y a6
      rw [a1]
      refine ⟨?_, _, vl_bin (e := 3) (o := 14) ht l1 l2 hv1 hv2 (Or.inr ⟨rfl, rfl⟩) a2 a3 a4⟩
      rw [lvS_app, lvS_app]
      omega
end
