-- ===== said, both sides =====
def sdS (vs : Nat → Bool) (x : Int32) : Nat → Nat → Nat → Int32
  | 0, _, a => if x = -1 then nI a else -1
  | c + 1, i, a => if vs i = true then (if nI a = x then nI i else sdS vs x c (i + 1) (a + 1)) else sdS vs x c (i + 1) a
theorem sdS_m1 {vs : Nat → Bool} {x : Int32} (h : ¬ -1 ≤ x) : ∀ (c i a : Nat), i + c ≤ 24 → a ≤ i → sdS vs x c i a = -1
  | 0, i, a, _, _ => if_neg (fun e => h (by rw [e]; exact Int32.le_refl _))
  | c + 1, i, a, hi, ha => by
    have hne : ¬ nI a = x := fun e => h (by
      rw [← e, Int32.le_iff_toInt_le, nI_toInt (by omega)]
      have : (-1 : Int32).toInt = -1 := by decide
      omega)
    show (if vs i = true then (if nI a = x then nI i else sdS vs x c (i + 1) (a + 1)) else sdS vs x c (i + 1) a) = -1
    rw [if_neg hne, sdS_m1 h c (i + 1) (a + 1) (by omega) (by omega), sdS_m1 h c (i + 1) a (by omega) (by omega)]
    exact ite_self _
section
variable {d B : Nat} {M M2 : zMem} {N : zNm} {F : Nat → Int32} {us : List (Nat → Int32)} {x : Int32} {vs : Nat → Bool} {Q : Int32 → zMem → Prop}
theorem c_said (h24 : nP (plOf N) ≤ 24) (h3 : M.1 3 3 = nI (nP (plOf N))) (hv : ∀ i, i < nP (plOf N) → ∀ Q : Bool → zMem → Prop, Q (vs i) M → S_X7_holdsOf (d + 79) 15 63 (nI i) M (zB Q)) : ∀ (c i a : Nat), i + c = nP (plOf N) → a ≤ i → Q (sdS vs x c i a) M → S_X11_said_24 (d + 80) x (nI a) (nI i) M (zI Q)
  | 0, i, a, hi, ha, h => by
    have e : i = nP (plOf N) := hi
    subst e
    unfold sdS at h
    refine t_X11_said_24 ⟨fun _ => ⟨fun q => zii ?_, fun q => zii ?_⟩, fun q => absurd (leY h3 (by omega)) q⟩
    · rw [if_neg q] at h; exact h
    · rw [if_pos q] at h; exact h
  | c + 1, i, a, hi, ha, h => by
    unfold sdS at h
    refine t_X11_said_24 ⟨fun q => absurd q (leN h3 (by omega) (by omega)), fun _ => hv i (by omega) _ ⟨fun q => ?_, fun q => ⟨fun q2 => ?_, fun q2 => zii ?_⟩⟩⟩
    · rw [if_neg (by rw [q]; decide)] at h
      rw [nI_1]
      exact c_said h24 h3 hv c (i + 1) a (by omega) (by omega) h
    · rw [if_pos q, if_neg q2] at h
      rw [nI_1, nI_1]
      exact c_said h24 h3 hv c (i + 1) (a + 1) (by omega) (by omega) h
    · rw [if_pos q, if_pos q2] at h
      exact h
theorem m_said (h24 : nP (plOf N) ≤ 24) (h3 : M.1 231 0 = nI (nP (plOf N))) (hv : ∀ i, i < nP (plOf N) → ∀ Q : Bool → zMem → Prop, Q (vs i) M → S_X12_holds (d + 79) (M.1 231 406) (nI i) M (zB Q)) : ∀ (c i a : Nat), i + c = nP (plOf N) → a ≤ i → Q (sdS vs x c i a) M → S_X12_said_22 (d + 80) x (nI a) (nI i) M (zI Q)
  | 0, i, a, hi, ha, h => by
    have e : i = nP (plOf N) := hi
    subst e
    unfold sdS at h
    refine t_X12_said_22 ⟨fun _ => ⟨fun q => zii ?_, fun q => zii ?_⟩, fun q => absurd (leY h3 (by omega)) q⟩
    · rw [if_neg q] at h; exact h
    · rw [if_pos q] at h; exact h
  | c + 1, i, a, hi, ha, h => by
    unfold sdS at h
    refine t_X12_said_22 ⟨fun q => absurd q (leN h3 (by omega) (by omega)), fun _ => hv i (by omega) _ ⟨fun q => ⟨fun q2 => ?_, fun q2 => zii ?_⟩, fun q => ?_⟩⟩
    · rw [if_pos q, if_neg q2] at h
      rw [nI_1, nI_1]
      exact m_said h24 h3 hv c (i + 1) (a + 1) (by omega) (by omega) h
    · rw [if_pos q, if_pos q2] at h
      exact h
    · rw [if_neg (by rw [q]; decide)] at h
      rw [nI_1]
      exact m_said h24 h3 hv c (i + 1) a (by omega) (by omega) h
end
