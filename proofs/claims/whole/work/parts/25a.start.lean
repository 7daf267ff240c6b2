-- ===== the start: classes =====
theorem zl9_0 : Cond.instantiable RX11 18 ∈ z_good := z_int1 26 (by decide +kernel) (by decide +kernel)
theorem zl9_1 : Cond.instantiable RX12 60 ∈ z_good := z_int6 144 (by decide +kernel) (by decide +kernel)
theorem w_Kn {s : State} {args : Array Value} (hts : ∀ w ∈ z_good, w.before args s = true) : ∃ D : va_G, ∀ (c : Nat) (q : vw_C), vwCl[c]? = some q → u_Kn s q.1 q.2.1 q.2.2 (D.1 c) (D.2 c) := by
  have h : ∀ c : Nat, ∃ x : ClassId × (Nat → Nat), ∀ q : vw_C, vwCl[c]? = some q → u_Kn s q.1 q.2.1 q.2.2 x.1 x.2 := by
    intro c
    have ex : ∀ (q0 : vw_C), vwCl[c]? = some q0 → (∃ (cC : ClassId) (iS : Nat → Nat), u_Kn s q0.1 q0.2.1 q0.2.2 cC iS) → ∃ x : ClassId × (Nat → Nat), ∀ q : vw_C, vwCl[c]? = some q → u_Kn s q.1 q.2.1 q.2.2 x.1 x.2 := by
      rintro q0 h0 ⟨cC, iS, hk⟩
      exact ⟨(cC, iS), fun q hq => by rw [h0] at hq; cases hq; exact hk⟩
    by_cases hc : c < 13
    · rcases (show c = 0 ∨ c = 1 ∨ c = 2 ∨ c = 3 ∨ c = 4 ∨ c = 5 ∨ c = 6 ∨ c = 7 ∨ c = 8 ∨ c = 9 ∨ c = 10 ∨ c = 11 ∨ c = 12 by omega) with rfl | rfl | rfl | rfl | rfl | rfl | rfl | rfl | rfl | rfl | rfl | rfl | rfl
      · exact ex _ rfl (u_known hts uX0 (hts _ zy_33))
      · exact ex _ rfl (u_known hts uX1 (hts _ zy_30))
      · exact ex _ rfl (u_known hts uX2 (hts _ zy_25))
      · exact ex _ rfl (u_known hts uX3 (hts _ zx_29))
      · exact ex _ rfl (u_known hts uX4 (hts _ zy_18))
      · exact ex _ rfl (u_known hts uX5 (hts _ zx_27))
      · exact ex _ rfl (u_known hts uX6 (hts _ zy_27))
      · exact ex _ rfl (u_known hts uX7 (hts _ zx_31))
      · exact ex _ rfl (u_known hts uX8 (hts _ zy_16))
      · exact ex _ rfl (u_known hts uX9 (hts _ zy_5))
      · exact ex _ rfl (u_known hts uX10 (hts _ zy_22))
      · exact ex _ rfl (u_known hts uX11 (hts _ zl9_0))
      · exact ex _ rfl (u_known hts uX12 (hts _ zl9_1))
    · obtain ⟨cC, iS, -⟩ := u_known (C := RX3) (T := TX3) (N := 7) hts uX3 (hts _ zx_29)
      refine ⟨(cC, iS), fun q hq => ?_⟩
      have : vwCl[c]? = none := List.getElem?_eq_none (by show 13 ≤ c; omega)
      rw [this] at hq; cases hq
  exact ⟨(fun c => (Classical.choose (h c)).1, fun c => (Classical.choose (h c)).2), fun c q hq => Classical.choose_spec (h c) q hq⟩
theorem w_tys {s : State} {args : Array Value} (hts : ∀ w ∈ lw_tbl, w.before args s = true) : ∃ cA : Nat → ClassId, ∀ (k : Nat) (q : ClassId × FieldType), (z_tys cA)[k]? = some q → ArrOfT s q.1 q.2 ∧ va_RA s q.1 q.2 := by
  have g : ∀ w ∈ z_good, w.before args s = true := fun w hw => hts w (z_tb hw)
  have pr : ∀ ty : FieldType, Cond.arrayClass ty ∈ z_good → ∃ c : ClassId, ArrOfT s c ty ∧ s.vm.findClass ("[" ++ ty.toString) = some c := by
    intro ty h
    obtain ⟨c, kA, comp, h1, h2, h3⟩ := Cond.arrayClass_spec (g _ h)
    exact ⟨c, fun n z => ⟨(fun k h => by cases h), kA, h2, comp, h3⟩, h1⟩
  have ob : ∀ E : String, Cond.arrayOver (.object E) ∈ lw_tbl → ∃ c : ClassId, ArrOfT s c (.object E) ∧ va_RA s c (.object E) := by
    intro E h
    obtain ⟨comp, c, kA, h1, -, h3, h4, h5⟩ := Cond.arrayOver_spec (hts _ h)
    exact ⟨c, fun n z => ⟨(fun k h => by cases h), kA, h3, comp, h4⟩, kA, comp, h3, h4, h1, h5⟩
  obtain ⟨c0, a0, b0⟩ := pr .int zx_int
  obtain ⟨c1, a1, b1⟩ := pr .long zx_long
  obtain ⟨c2, a2, b2⟩ := pr .byte zx_byte
  obtain ⟨c3, a3, b3⟩ := pr .boolean zx_bool
  obtain ⟨c4, a4, b4⟩ := ob RX9 zao_0
  obtain ⟨c5, a5, b5⟩ := ob RX8 zao_2
  obtain ⟨c6, a6, b6⟩ := ob RX3 zao_1
  refine ⟨fun k => [c0, c1, c2, c3, c4, c5, c6].getD k c0, fun k q hq => ?_⟩
  have hk : k < 7 := (List.getElem?_eq_some_iff.mp hq).1
  rcases (show k = 0 ∨ k = 1 ∨ k = 2 ∨ k = 3 ∨ k = 4 ∨ k = 5 ∨ k = 6 by omega) with rfl | rfl | rfl | rfl | rfl | rfl | rfl <;> cases hq
  · exact ⟨a0, b0⟩
  · exact ⟨a1, b1⟩
  · exact ⟨a2, b2⟩
  · exact ⟨a3, b3⟩
  · exact ⟨a4, b4⟩
  · exact ⟨a5, b5⟩
  · exact ⟨a6, b6⟩
