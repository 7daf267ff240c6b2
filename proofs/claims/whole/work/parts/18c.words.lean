-- ===== the words of an exception made in TreePeers =====
def z_nse : String := "java/util/NoSuchElementException"
def z_rte : String := "java/lang/RuntimeException"
def z_n13 : ByteArray := ⟨#[0x2a, 0x2b, 0xb7, 0x00, 0x0d, 0xb1]⟩
theorem n13_0 : decode z_n13 0 = .ok (.aload_n 0, 1) := by decide +kernel
theorem n13_1 : decode z_n13 1 = .ok (.aload_n 1, 1) := by decide +kernel
theorem n13_2 : decode z_n13 2 = .ok (.invokespecial 13, 3) := by decide +kernel
theorem n13_5 : decode z_n13 5 = .ok (.return_, 1) := by decide +kernel
def z_ew : List Cond := z_eat RX11 173 z_nse 13 z_n13 z_rte ["java/lang/Exception"]
def z_dc : Cond → Bool
  | .declares _ => true
  | .castable _ _ => true
  | _ => false
theorem ew_ok : z_ew.all (fun w => goodWord w || z_dc w) = true := by decide +kernel
theorem ew_in : z_ew.all (fun w => lw_tbl.any (fun v => decide (v = w))) = true := by decide +kernel
theorem ew_ot : (Cond.classLink RX11 169 z_nse :: Cond.initialized z_nse :: z_ew).all vx_ot = true := by decide +kernel
theorem i6_in {w : Cond} (i : Nat) (h : tables_1_6[i]? = some w) : w ∈ lw_tbl := by
  have h2 : w ∈ tables_1_6 := List.mem_of_getElem? h
  unfold lw_tbl tables_1
  simp only [List.mem_append]
  exact Or.inr (Or.inr (Or.inr (Or.inr (Or.inr (Or.inr (Or.inl h2))))))
section
variable {y : z_MD} {d : Nat} {p : Program} {l : Launch} {R : Room} {s : State} {m : MethodId} {args : Array Value} {meth : Method} {c : Code} {D : va_G} {sA : Nat → Nat} {cA : Nat → ClassId} {Hb : Heap} {N : Nat} {G : Nat → va_E} {H : Heap} {locs : List Loc}
/-- a word of the tables, moved from the start to here -/
theorem z_word (C : z_Cx y d p l R s m args meth c D sA cA Hb) {w : Cond} (hw : w ∈ lw_tbl) (hg : (goodWord w || z_dc w) = true) : w.before args s = true := by
  cases g : goodWord w with
  | true => exact C.2.2.2.2.2.2.1 w (List.mem_filter.mpr ⟨hw, g⟩)
  | false =>
    rw [g, Bool.false_or] at hg
    obtain ⟨hZ, U0, u1, u2, b, h1, h2, h3, h4, h5⟩ := C.2.2.2.2.2.2.2.1.2.2.2
    have h0 := h1 w hw
    cases w with
    | declares x => exact va_Nw.use rfl (va_Nw.warmD u2 (va_Nw.of rfl h0))
    | castable a b => exact va_Nw.use rfl (va_Nw.warmC u2 (va_Nw.of rfl h0))
    | _ => cases hg
theorem z_ew_at (C : z_Cx y d p l R s m args meth c D sA cA Hb) : ∀ w ∈ z_ew, w.before args s = true := by
  intro w hw
  have h1 := List.all_eq_true.mp ew_in w hw
  obtain ⟨v, hv, e⟩ := List.any_eq_true.mp h1
  have e := of_decide_eq_true e
  subst e
  exact z_word C hv (List.all_eq_true.mp ew_ok _ hw)
theorem z_thr (C : z_Cx y d p l R s m args meth c D sA cA Hb) (hw : z_Wd D sA cA Hb N G H) (hS : va_S (z_A Hb.size) s.heap H locs) : vx_Zq Bundle.tN "UNASSIGNED_STACK" Bundle.steD (z_A Hb.size) s s.heap ∧ vx_Zq Bundle.tN "SUPPRESSED_SENTINEL" Bundle.listD (z_A Hb.size) s s.heap := by
  have ho : ∀ q : Nat, q < Hb.size → s.heap[q]? = Hb[q]? := fun q hq => (hS.2.1 q (Nat.lt_of_lt_of_le hq C.2.2.2.2.2.2.2.2.1) (Nat.not_le.mpr hq)).symm.trans (hw.2.2 q hq)
  obtain ⟨hZ, U0, u1, u2, b, h1, h2, h3, h4, h5⟩ := C.2.2.2.2.2.2.2.1.2.2.2
  subst u1
  have k : ∀ a : Nat, a < U0.heap.size → ¬ z_A U0.heap.size a → s.heap[a]? = U0.heap[a]? := fun a ha _ => ho a ha
  have hA : ∀ a : Nat, a < U0.heap.size → ¬ z_A U0.heap.size a := fun a ha q => Nat.not_le.mpr ha q
  have hn := flat_of_before _ h2
  have hini := h1 _ (z_inL1 (w := .initialized Bundle.tN) 16 (by decide +kernel))
  constructor
  · have z := vx_Zqof (A := z_A U0.heap.size) (h1 _ (i6_in (w := .laysStatic Bundle.tN "UNASSIGNED_STACK" Bundle.steD) 45 (by decide +kernel))) hini (hn (.isRef (.static Bundle.tN "UNASSIGNED_STACK" Bundle.steD)) (by decide +kernel)) hA
    exact (z.moved u2.alike).kept k
  · have z := vx_Zqof (A := z_A U0.heap.size) (h1 _ (i6_in (w := .laysStatic Bundle.tN "SUPPRESSED_SENTINEL" Bundle.listD) 47 (by decide +kernel))) hini (hn (.isRef (.static Bundle.tN "SUPPRESSED_SENTINEL" Bundle.listD)) (by decide +kernel)) hA
    exact (z.moved u2.alike).kept k
end
