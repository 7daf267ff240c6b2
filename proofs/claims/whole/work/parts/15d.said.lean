-- ===== the class's steps over codes =====
section
variable {d i k m r w v n sz : Nat} {M : zMem} {P : zPl} {F : Nat → Int32} {Q : Bool → zMem → Prop}
theorem h_leaf (hM : PC M 63 P F) (hz : M.1 15 1 = nI sz) (hi : i < sz) (h60 : sz ≤ 60) (hc : M.1 16 i = nI (w + 256 * r + 65536 * v)) (hw : 17 ≤ w ∧ w ≤ 23) (hr : r < 256) (hv : v < 32768) (hp : w = 18 ∨ w = 19 → v < 4) (hk : k < nP P) (hn : n < 2 ^ 28)
    (h : S_X7_holdsOf_5 (d + 6) 15 63 (nI k) (nI (2 * n + (leafS P F k w r v).toNat)) (nI (i + 1)) M (zB Q)) : S_X7_holdsOf_5 (d + 6) 15 63 (nI k) (nI n) (nI i) M (zB Q) := by
  refine t_X7_holdsOf_5 (by decide) (by decide) ⟨fun q => absurd q (leN hz hi (by omega)), fun _ => ⟨nIin (by omega) (by omega), ?_⟩⟩
  rw [nI_clamp (by omega), hc, cd_w (by omega) hr hv, show (16 : Int32) = nI 16 from rfl, nI_eq (by omega) (by omega), show (14 : Int32) = nI 14 from rfl, nI_eq (by omega) (by omega), show (15 : Int32) = nI 15 from rfl, nI_eq (by omega) (by omega)]
  refine ⟨fun _ => ⟨fun _ => ⟨fun _ => ⟨nIin (by omega) (by omega), c_oneHolds hM hw hr hv hp hk ?_⟩, fun q => absurd q (by omega)⟩, fun q => absurd q (by omega)⟩, fun q => absurd q (by omega)⟩
  rw [nI_1]
  have hs := sk_push (show n < 2 ^ 30 by omega) (leafS P F k w r v)
  refine ⟨fun q => ?_, fun q => ?_⟩
  · rw [q] at h hs
    rw [show (0 : Int32) = bi false from rfl, hs]
    exact h
  · rw [q] at h hs
    rw [show (nI n <<< ((1 : Int32) &&& 31)) ||| 1 = (nI n <<< ((1 : Int32) &&& 31)) ||| bi true from rfl, hs]
    exact h
theorem h_op (hz : M.1 15 1 = nI sz) (hi : i < sz) (h60 : sz ≤ 60) {o : Nat} (ho : o = 14 ∨ o = 15 ∨ o = 16) (hc : M.1 16 i = nI o) {x y : Bool} (hn : n < 2 ^ 28)
    (h : S_X7_holdsOf_5 (d + 6) 15 63 (nI k) (if o = 16 then nI (2 * (2 * n + x.toNat) + (!y).toNat) else if o = 14 then nI (2 * n + (x || y).toNat) else nI (2 * n + (x && y).toNat)) (nI (i + 1)) M (zB Q)) : S_X7_holdsOf_5 (d + 6) 15 63 (nI k) (nI (2 * (2 * n + x.toNat) + y.toNat)) (nI i) M (zB Q) := by
  have hx := tn_le1 x
  have hcw := cd_w (w := o) (r := 0) (b := 0) (by omega) (by omega) (by omega)
  rw [show o + 256 * 0 + 65536 * 0 = o by omega] at hcw
  refine t_X7_holdsOf_5 (by decide) (by decide) ⟨fun q => absurd q (leN hz hi (by omega)), fun _ => ⟨nIin (by omega) (by omega), ?_⟩⟩
  rw [nI_clamp (by omega), hc, hcw, show (16 : Int32) = nI 16 from rfl, nI_eq (by omega) (by omega), show (14 : Int32) = nI 14 from rfl, nI_eq (by omega) (by omega), show (15 : Int32) = nI 15 from rfl, nI_eq (by omega) (by omega), nI_1]
  refine ⟨fun q => ⟨fun q2 => ⟨fun q3 => absurd ho (by omega), fun q3 => ?_⟩, fun q2 => ?_⟩, fun q => ?_⟩
  · rw [if_neg q, if_neg q2] at h
    have hs := sk_and hn x y
    have ht := sk_top (n := 2 * n + x.toNat) (by omega) y
    refine ⟨fun z => ?_, fun z => ?_⟩
    · have ey : y = true := by
        cases y with
        | true => rfl
        | false => exact absurd (ht.mpr rfl) z
      rw [ey, if_pos rfl] at hs
      rw [ey] at h ⊢
      rw [hs]
      exact h
    · have ey : y = false := ht.mp z
      rw [ey, if_neg (by decide)] at hs
      rw [ey] at h ⊢
      rw [hs]
      exact h
  · rw [if_neg q, if_pos q2] at h
    rw [sk_or hn x y]
    exact h
  · rw [if_pos q] at h
    rw [sk_not (by omega) y]
    exact h
end
