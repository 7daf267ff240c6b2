-- ===== the law's call of a method with a handler =====
def z_wsH (hp : Nat) (y : z_MD) : List Cond := Cond.codeWith y.1 y.2.1 y.2.2.1 y.2.2.2 [(0, hp - 3, hp, 13)] :: z_good
theorem z_goodAll {ws : List Cond} (h : ∀ w ∈ ws, w ∈ z_good) : GoodIn z_good ws := fun w hw => ⟨h w hw, good_of_word (z_gw (h w hw))⟩
theorem z_MetH {hp : Nat} {l : Launch} {y : z_MD} {d mc ms N : Nat} {G : Nat → va_E} {K : z_K} {As : List Value} {D : va_G} {sA : Nat → Nat} {cA : Nat → ClassId} {Hb : Heap} (hfl : l.stackTraces = false) (hy : plainName y.1.cls = true) (hsl : (lg_sl As).length ≤ y.2.2.1) (hV : z_H hp y d mc ms 0 0 0 (lv_args 0 As) [] N G K) : Met l y.1 (z_wsH hp y) (z_rm d mc ms) (z_Pc D sA cA Hb N G As) (z_Qc y D sA cA Hb K) mc ms (z_A Hb.size) := by
  refine va_MetW (cc := y.2.1) (maxL := y.2.2.1) (ret := y.2.2.2) (hh := [(0, hp - 3, hp, 13)]) hy rfl ?_
  intro p e s m args below meth c s₁ B hml hv
  obtain ⟨rfl, hw, hE, hsz⟩ := hv
  have hts := atoms_spec (ws := z_wsH hp y) B.pre
  have hl := lv_entry (As.map (z_v Hb.size sA)) (n := y.2.2.1) (by rw [z_slen]; exact hsl)
  rw [lg_entry_eq]
  generalize (lg_sl (As.map (z_v Hb.size sA)) ++ List.replicate (y.2.2.1 - (lg_sl (As.map (z_v Hb.size sA))).length) Slot.unset).toArray = ls at hl ⊢
  rw [z_args] at hl
  refine hV p l e _ s m _ below meth c D sA cA Hb _ s.heap [] ls ⟨B.exec, B.bytes, B.returns, hml, ⟨B.notSynchronized, hfl⟩, findClass_of_methodNamed B.named, fun w hw => hts w (List.mem_cons_of_mem _ hw), hE, hsz, Nat.le_refl _, Nat.le_refl _, (name_of_methodNamed B.named B.method).1⟩ (vx_table (x := y.1) B (hts _ List.mem_cons_self)) ?_ (Nat.le_refl _) (Nat.le_refl _) hl hw va_S.rf
  intro v N' G' H locs pc ls hk ho hr hw hS
  have fin : ∀ (v' : Option Value), v'.map (z_v Hb.size sA) = v' → K v' N' G' → z_ok y v' → ∀ t : State, t.heap = H → s.WarmedH t.vm → z_Qc y D sA cA Hb K (As.map (z_v Hb.size sA)).toArray s (.returned v') t := fun v' e1 hk ho t ht hW => ⟨v', N', G', by rw [e1], hk, ho, by rw [ht]; exact hw, hS.F ht⟩
  match v, hk, ho, hr with
  | none, hk, ho, hr => exact W.vret B.exec B.bytes (B.returns.trans ho) (fin none rfl hk ho) hS.2.2 hr B.notSynchronized
  | some (.int x), hk, ho, hr =>
    obtain ⟨ty, h1, h2⟩ := id ho
    exact W.zret B.exec B.bytes (B.returns.trans h1) h2 (fin (some (.int x)) rfl hk ho) hS.2.2 hr B.notSynchronized
  | some (.long x), hk, ho, hr => exact W.lret B.exec B.bytes (B.returns.trans ho) (fin (some (.long x)) rfl hk ho) hS.2.2 hr B.notSynchronized
theorem zu_callH {sn hp d mc ms cells slots pc index n : Nat} {xs : Nat → Int32} {y y2 : z_MD} {L : List (Nat × Value)} {st As : List Value} {N : Nat} {G : Nat → va_E} {K : z_K} (hd : decode y.2.1 pc = .ok (.invokestatic index, 3)) (hpl : plainName y2.1.cls = true) (hws : ∀ w ∈ va_wsS y.1.cls index y2.1 (z_wsH hp y2), w ∈ z_good) (hn : y2.1.cls ≠ "java/lang/invoke/MethodHandle" ∧ y2.1.cls ≠ "java/lang/invoke/VarHandle" ∧ (parseMethodDescriptor y2.1.desc).map (fun d => d.parameters.length) = some n) (h40 : y2.2.2.1 ≤ 40) (hA : As.length = n) (hsl : (lg_sl As).length ≤ y2.2.2.1) (hst : (st.map fun v => v.category).sum ≤ 8) (hcc : cells + 1 ≤ mc) (hss : slots + 6 ≤ ms) (k : z_H hp y2 d 1 6 0 0 0 (lv_args 0 As) [] N G (fun v N' G' => z_U sn xs y (d + 1) mc ms (cells + 1) (slots + 6) (pc + 3) L (v.toList ++ st) N' G' K)) : z_U sn xs y (d + 1) mc ms cells slots pc L (As.reverse ++ st) N G K := by
  intro p l e R s m args below meth c D sA cA Hb Q H locs ls C hX r hc hs hl hw hS
  have hM := z_MetH (l := l) (D := D) (sA := sA) (cA := cA) (Hb := Hb) C.2.2.2.2.1.2 hpl hsl k
  have f1 := C.2.2.2.2.2.2.2.2.2.1
  have f2 := C.2.2.2.2.2.2.2.2.2.2.1
  refine z_run (vx_runSW (As := As.map (z_v Hb.size sA)) (rest := st.map (z_v Hb.size sA)) ⟨C.1, C.2.1, C.2.2.2.1, C.2.2.2.2.2.1, C.2.2.2.2.2.2.1⟩ hM (vx_cwSW n C.2.2.2.2.2.2.1 (z_goodAll hws) rfl rfl rfl hn ⟨f1, by show 8 + (y2.2.2.1 + 11) + 60 * d ≤ R.locals; omega⟩) ⟨z_blind, fun U hU hW => ⟨rfl, by rw [hU]; exact hw, C.2.2.2.2.2.2.2.1.warm hW, by rw [hU]; exact Nat.le_trans C.2.2.2.2.2.2.2.2.1 hS.1⟩⟩ rfl (by rw [List.length_map]; exact hA) hl.1 (by rw [List.map_append, List.map_reverse]) (z_stk hst) hd ⟨Nat.le_trans hcc hc, Nat.le_trans hss hs⟩) hS (fun v N' G' H1 locs1 hk ho hw hS => by
    have h := hk p l e R s m args below meth c D sA cA Hb Q H1 locs1 ls C hX r hc hs hl hw hS
    rw [List.map_append, show v.toList.map (z_v Hb.size sA) = v.toList by rw [← Option.toList_map, z_v_ok ho]] at h
    exact h)
