theorem fl_T : ((List.range 9).all fun i => flN.contains (.exactly (tmX i) "java/lang/String") && flN.contains (.eq (.field (tmX i) "java/lang/String" "coder" "B") (.int 0)) && flN.contains (.arrayOf (.field (tmX i) "java/lang/String" "value" "[B") .byte) && flN.contains (.eq (.length (.field (tmX i) "java/lang/String" "value" "[B")) (.int (Int32.ofNat (z_txN.getD i 0)))) && (List.range (z_txN.getD i 0)).all fun j => flN.contains (.eq (.elem (.field (tmX i) "java/lang/String" "value" "[B") (.int (Int32.ofNat j))) (.int ((z_txB.getD i []).getD j 0)))) = true := by decide +kernel
theorem fl_D : ((List.range 9).all fun i => (List.range 9).all fun j => i == j || flN.contains (.not (.eq (tmX i) (tmX j))) || flN.contains (.not (.eq (tmX j) (tmX i)))) = true := by decide +kernel
theorem w_texts {s : State} {args : Array Value} {A : Nat → Prop} (hn : (Jvm.Cond.and given_1 narrow_1).before args s = true) (hA : ∀ a : Nat, a < s.heap.size → ¬ A a) : ∃ adK adV : Nat → Nat, vk_S 9 z_txN z_txB adK adV A s s.heap ∧ ∀ i : Nat, i < 9 → (tmX i).eval args s none [] s = some (.ref (adK i)) := by
  have h := flat_of_before _ hn
  have m : ∀ c, flN.contains c = true → c.before args s = true := fun c hc => h c (List.contains_iff_mem.mp hc)
  have t : ∀ i, i < 9 → _ := fun i hi => List.all_eq_true.mp fl_T i (List.mem_range.mpr hi)
  simp only [Bool.and_eq_true] at t
  refine vk_Sof (by decide) (fun i hi => m _ (t i hi).1.1.1.1) (fun i hi => m _ (t i hi).1.1.1.2) (fun i hi => m _ (t i hi).1.1.2) (fun i hi => m _ (t i hi).1.2) (fun i hi j hj => m _ (List.all_eq_true.mp (t i hi).2 j (List.mem_range.mpr hj))) (fun i j hi hj hne => ?_) hA
  have d := List.all_eq_true.mp (List.all_eq_true.mp fl_D i (List.mem_range.mpr hi)) j (List.mem_range.mpr hj)
  simp only [Bool.or_eq_true, beq_iff_eq] at d
  rcases d with (d | d) | d
  · exact absurd d hne
  · exact Or.inl (m _ d)
  · exact Or.inr (m _ d)
