-- ===== the start: WORDS and the texts =====
def tmW : Term := .static "TreePeers" "WORDS" "[J"
def tmX (i : Nat) : Term := .string "TreePeers" (z_txK.getD i 0)
def flN : List Cond := flatC (Jvm.Cond.and given_1 narrow_1)
theorem fl_W : flN.contains (.arrayOf tmW .long) = true ∧ flN.contains (.eq (.length tmW) (.int 24)) = true ∧ ((List.range 24).all fun j => flN.contains (.eq (.elem tmW (.int (Int32.ofNat j))) (.long (z_wd.getD j 0)))) = true := by decide +kernel
theorem w_WORDS {s : State} {args : Array Value} {A : Nat → Prop} (hn : (Jvm.Cond.and given_1 narrow_1).before args s = true) (hA : ∀ a : Nat, a < s.heap.size → ¬ A a) : ∃ t : Nat, tmW.eval args s none [] s = some (.ref t) ∧ va_T .long t 24 (fun j => .long (z_wd.getD j 0)) A s s.heap := by
  have h := flat_of_before _ hn
  have m : ∀ c, flN.contains c = true → c.before args s = true := fun c hc => h c (List.contains_iff_mem.mp hc)
  refine va_Tof (by decide) (m _ fl_W.1) (va_eqt (m _ fl_W.2.1)) (fun j hj => va_eqtl (m _ ?_)) hA
  exact List.all_eq_true.mp fl_W.2.2 j (List.mem_range.mpr hj)
