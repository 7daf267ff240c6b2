-- ===== z_U: the law's own frame: the script is the launch object 19 =====
/-- the frame of the law: as z_Cx, but for the method's name -/
def z_Cu (y : z_MD) (d : Nat) (p : Program) (l : Launch) (R : Room) (s : State) (m : MethodId) (args : Array Value) (meth : Method) (c : Code) (D : va_G) (sA : Nat → Nat) (cA : Nat → ClassId) (Hb : Heap) : Prop :=
  p.tables.exec = Jvm.exec ∧ c.code = y.2.1 ∧ meth.sig.returnType = y.2.2.2 ∧ c.maxLocals = y.2.2.1 ∧ (meth.locks = false ∧ l.stackTraces = false) ∧ s.vm.findClass y.1.cls = some m.cls ∧ (∀ w ∈ z_good, w.before args s = true) ∧ z_En D sA cA Hb s ∧ Hb.size ≤ s.heap.size ∧ d ≤ R.frames ∧ 60 * d ≤ R.locals ∧ True
def z_U (sn : Nat) (xs : Nat → Int32) (y : z_MD) (d mc ms cells slots pc : Nat) (L : List (Nat × Value)) (st : List Value) (N : Nat) (G : Nat → va_E) (K : z_K) : Prop :=
  ∀ (p : Program) (l : Launch) (e : Env) (R : Room) (s : State) (m : MethodId) (args : Array Value) (below : List Frame) (meth : Method) (c : Code) (D : va_G) (sA : Nat → Nat) (cA : Nat → ClassId) (Hb : Heap) (Q : State → Prop) (H : Heap) (locs : List Loc) (ls : Array Slot),
    z_Cu y d p l R s m args meth c D sA cA Hb → (va_X (sA 19) sn xs s s.heap ∧ sA 19 < Hb.size) →
    (∀ (v : Option Value) (N' : Nat) (G' : Nat → va_E) (H : Heap) (locs : List Loc) (pc : Nat) (ls : Array Slot), K v N' G' → z_ok y v → z_rt y pc v → z_Wd D sA cA Hb N' G' H → va_S (z_A Hb.size) s.heap H locs → W p l e R s m args below meth c H locs mc ms Q (F0 m pc ls (v.toList.map (z_v Hb.size sA)))) →
    mc ≤ R.cells → ms ≤ R.slots → lv_has ls y.2.2.1 (z_L Hb.size sA L) → z_Wd D sA cA Hb N G H → va_S (z_A Hb.size) s.heap H locs →
    W p l e R s m args below meth c H locs cells slots Q (F0 m pc ls (st.map (z_v Hb.size sA)))
section
variable {sn : Nat} {xs : Nat → Int32} {y y2 : z_MD} {d mc ms cells slots pc index n mc2 ms2 b ci : Nat} {L : List (Nat × Value)} {st As fs : List Value} {N : Nat} {G : Nat → va_E} {K : z_K}
theorem zu_iconst {n : Int} {v : Int32} (hd : decode y.2.1 pc = .ok (.iconst n, 1)) (hv : Int32.ofInt n = v) (k : z_U sn xs y d mc ms cells slots (pc + 1) L (.int v :: st) N G K) : z_U sn xs y d mc ms cells slots pc L st N G K := by
  intro p l e R s m args below meth c D sA cA Hb Q H locs ls C hX r hc hs hl hw hS
  exact lv_iconst C.1 C.2.1 hd hv (k p l e R s m args below meth c D sA cA Hb Q H locs ls C hX r hc hs hl hw hS)
theorem zu_bipush {n : Int} {v : Int32} (hd : decode y.2.1 pc = .ok (.bipush n, 2)) (hv : (Int8.ofInt n).toInt32 = v) (k : z_U sn xs y d mc ms cells slots (pc + 2) L (.int v :: st) N G K) : z_U sn xs y d mc ms cells slots pc L st N G K := by
  intro p l e R s m args below meth c D sA cA Hb Q H locs ls C hX r hc hs hl hw hS
  exact lv_bipush C.1 C.2.1 hd hv (k p l e R s m args below meth c D sA cA Hb Q H locs ls C hX r hc hs hl hw hS)
theorem zu_aload_n {j : Fin 4} {i : Nat} {x : Nat} (hd : decode y.2.1 pc = .ok (.aload_n j, 1)) (hi : (j : Nat) = i) (n : Nat) (hk : L[n]? = some (i, .ref x)) (k : z_U sn xs y d mc ms cells slots (pc + 1) L (.ref x :: st) N G K) : z_U sn xs y d mc ms cells slots pc L st N G K := by
  intro p l e R s m args below meth c D sA cA Hb Q H locs ls C hX r hc hs hl hw hS
  exact lv_aload_n C.1 C.2.1 hd hi (z_at hl n hk) (k p l e R s m args below meth c D sA cA Hb Q H locs ls C hX r hc hs hl hw hS)
theorem zu_aloadT_n {j : Fin 4} {i x : Nat} (hd : decode y.2.1 pc = .ok (.aload_n j, 1)) (hi : (j : Nat) = i) (n : Nat) (hk : L[n]? = some (i, .retAddr x)) (k : z_U sn xs y d mc ms cells slots (pc + 1) L (.retAddr x :: st) N G K) : z_U sn xs y d mc ms cells slots pc L st N G K := by
  intro p l e R s m args below meth c D sA cA Hb Q H locs ls C hX r hc hs hl hw hS
  exact lv_aload_n C.1 C.2.1 hd hi (z_at hl n hk) (k p l e R s m args below meth c D sA cA Hb Q H locs ls C hX r hc hs hl hw hS)
theorem zu_iload {i : Nat} {x : Int32} (hd : decode y.2.1 pc = .ok (.iload i, 2)) (n : Nat) (hk : L[n]? = some (i, .int x)) (k : z_U sn xs y d mc ms cells slots (pc + 2) L (.int x :: st) N G K) : z_U sn xs y d mc ms cells slots pc L st N G K := by
  intro p l e R s m args below meth c D sA cA Hb Q H locs ls C hX r hc hs hl hw hS
  exact lv_iload C.1 C.2.1 hd (z_at hl n hk) (k p l e R s m args below meth c D sA cA Hb Q H locs ls C hX r hc hs hl hw hS)
theorem zu_istore {i : Nat} {x : Int32} {L2 : List (Nat × Value)} (hd : decode y.2.1 pc = .ok (.istore i, 2)) (hn : i < y.2.2.1) (hL : z_st1 i (.int x) L = L2) (k : z_U sn xs y d mc ms cells slots (pc + 2) L2 st N G K) : z_U sn xs y d mc ms cells slots pc L (.int x :: st) N G K := by
  intro p l e R s m args below meth c D sA cA Hb Q H locs ls C hX r hc hs hl hw hS
  subst hL
  exact lv_istore C.1 C.2.1 hd hl hn (z_L_st1 (v := .int x)) (fun ls hl => k p l e R s m args below meth c D sA cA Hb Q H locs ls C hX r hc hs hl hw hS)
theorem zu_iinc {i n : Nat} {a : Int} {x v : Int32} {L2 : List (Nat × Value)} (hd : decode y.2.1 pc = .ok (.iinc i a, 3)) (hk : L[n]? = some (i, .int x)) (hv : x + Int32.ofInt a = v) (hn : i < y.2.2.1) (hL : z_st1 i (.int v) L = L2) (k : z_U sn xs y d mc ms cells slots (pc + 3) L2 st N G K) : z_U sn xs y d mc ms cells slots pc L st N G K := by
  intro p l e R s m args below meth c D sA cA Hb Q H locs ls C hX r hc hs hl hw hS
  subst hL
  exact lv_iinc (v := v) C.1 C.2.1 hd hl (k := n) (by simp [z_L, hk, z_v]) hv hn (z_L_st1 (v := .int v)) (fun ls hl => k p l e R s m args below meth c D sA cA Hb Q H locs ls C hX r hc hs hl hw hS)
theorem zu_iadd {x z : Int32} (hd : decode y.2.1 pc = .ok (.iadd, 1)) (k : z_U sn xs y d mc ms cells slots (pc + 1) L (.int (x + z) :: st) N G K) : z_U sn xs y d mc ms cells slots pc L (.int z :: .int x :: st) N G K := by
  intro p l e R s m args below meth c D sA cA Hb Q H locs ls C hX r hc hs hl hw hS
  exact lv_iadd C.1 C.2.1 hd (k p l e R s m args below meth c D sA cA Hb Q H locs ls C hX r hc hs hl hw hS)
theorem zu_isub {x z : Int32} (hd : decode y.2.1 pc = .ok (.isub, 1)) (k : z_U sn xs y d mc ms cells slots (pc + 1) L (.int (x - z) :: st) N G K) : z_U sn xs y d mc ms cells slots pc L (.int z :: .int x :: st) N G K := by
  intro p l e R s m args below meth c D sA cA Hb Q H locs ls C hX r hc hs hl hw hS
  exact lv_isub C.1 C.2.1 hd (k p l e R s m args below meth c D sA cA Hb Q H locs ls C hX r hc hs hl hw hS)
theorem zu_iand {x z : Int32} (hd : decode y.2.1 pc = .ok (.iand, 1)) (k : z_U sn xs y d mc ms cells slots (pc + 1) L (.int (x &&& z) :: st) N G K) : z_U sn xs y d mc ms cells slots pc L (.int z :: .int x :: st) N G K := by
  intro p l e R s m args below meth c D sA cA Hb Q H locs ls C hX r hc hs hl hw hS
  exact lv_iand C.1 C.2.1 hd (k p l e R s m args below meth c D sA cA Hb Q H locs ls C hX r hc hs hl hw hS)
theorem zu_goto {off : Int} {tgt : Nat} (hd : decode y.2.1 pc = .ok (.goto off, 3)) (ht : (pc : Int) + off = (tgt : Int)) (k : z_U sn xs y d mc ms cells slots tgt L st N G K) : z_U sn xs y d mc ms cells slots pc L st N G K := by
  intro p l e R s m args below meth c D sA cA Hb Q H locs ls C hX r hc hs hl hw hS
  exact lv_goto C.1 C.2.1 hd ht (k p l e R s m args below meth c D sA cA Hb Q H locs ls C hX r hc hs hl hw hS)
theorem zu_if_ne {x : Int32} {off : Int} {tgt : Nat} (hd : decode y.2.1 pc = .ok (.ifCond .ne off, 3)) (ht : (pc : Int) + off = (tgt : Int)) (kt : ¬ x = 0 → z_U sn xs y d mc ms cells slots tgt L st N G K) (kf : x = 0 → z_U sn xs y d mc ms cells slots (pc + 3) L st N G K) : z_U sn xs y d mc ms cells slots pc L (.int x :: st) N G K := by
  intro p l e R s m args below meth c D sA cA Hb Q H locs ls C hX r hc hs hl hw hS
  exact lv_if_ne C.1 C.2.1 hd ht (fun h => kt h p l e R s m args below meth c D sA cA Hb Q H locs ls C hX r hc hs hl hw hS) (fun h => kf h p l e R s m args below meth c D sA cA Hb Q H locs ls C hX r hc hs hl hw hS)
theorem zu_if_eq {x : Int32} {off : Int} {tgt : Nat} (hd : decode y.2.1 pc = .ok (.ifCond .eq off, 3)) (ht : (pc : Int) + off = (tgt : Int)) (kt : x = 0 → z_U sn xs y d mc ms cells slots tgt L st N G K) (kf : ¬ (x = 0) → z_U sn xs y d mc ms cells slots (pc + 3) L st N G K) : z_U sn xs y d mc ms cells slots pc L (.int x :: st) N G K := by
  intro p l e R s m args below meth c D sA cA Hb Q H locs ls C hX r hc hs hl hw hS
  exact lv_if_eq C.1 C.2.1 hd ht (fun h => kt h p l e R s m args below meth c D sA cA Hb Q H locs ls C hX r hc hs hl hw hS) (fun h => kf h p l e R s m args below meth c D sA cA Hb Q H locs ls C hX r hc hs hl hw hS)
theorem zu_icmp_eq {x z : Int32} {off : Int} {tgt : Nat} (hd : decode y.2.1 pc = .ok (.if_icmp .eq off, 3)) (ht : (pc : Int) + off = (tgt : Int)) (kt : x = z → z_U sn xs y d mc ms cells slots tgt L st N G K) (kf : ¬ (x = z) → z_U sn xs y d mc ms cells slots (pc + 3) L st N G K) : z_U sn xs y d mc ms cells slots pc L (.int z :: .int x :: st) N G K := by
  intro p l e R s m args below meth c D sA cA Hb Q H locs ls C hX r hc hs hl hw hS
  exact lv_icmp_eq C.1 C.2.1 hd ht (fun h => kt h p l e R s m args below meth c D sA cA Hb Q H locs ls C hX r hc hs hl hw hS) (fun h => kf h p l e R s m args below meth c D sA cA Hb Q H locs ls C hX r hc hs hl hw hS)
theorem zu_icmp_gt {x z : Int32} {off : Int} {tgt : Nat} (hd : decode y.2.1 pc = .ok (.if_icmp .gt off, 3)) (ht : (pc : Int) + off = (tgt : Int)) (kt : z < x → z_U sn xs y d mc ms cells slots tgt L st N G K) (kf : ¬ (z < x) → z_U sn xs y d mc ms cells slots (pc + 3) L st N G K) : z_U sn xs y d mc ms cells slots pc L (.int z :: .int x :: st) N G K := by
  intro p l e R s m args below meth c D sA cA Hb Q H locs ls C hX r hc hs hl hw hS
  exact lv_icmp_gt C.1 C.2.1 hd ht (fun h => kt h p l e R s m args below meth c D sA cA Hb Q H locs ls C hX r hc hs hl hw hS) (fun h => kf h p l e R s m args below meth c D sA cA Hb Q H locs ls C hX r hc hs hl hw hS)
theorem zu_tableIn {dflt lo hi : Int} {offs : Array Int} {len : Nat} {x : Int32} {off : Int} {tgt : Nat} (hd : decode y.2.1 pc = .ok (.tableswitch dflt lo hi offs, len)) (h1 : ¬ x.toInt < lo) (h2 : ¬ hi < x.toInt) (ho : offs[(x.toInt - lo).toNat]? = some off) (ht : (pc : Int) + off = (tgt : Int)) (k : z_U sn xs y d mc ms cells slots tgt L st N G K) : z_U sn xs y d mc ms cells slots pc L (.int x :: st) N G K := by
  intro p l e R s m args below meth c D sA cA Hb Q H locs ls C hX r hc hs hl hw hS
  exact lv_tableIn C.1 C.2.1 hd h1 h2 ho ht (k p l e R s m args below meth c D sA cA Hb Q H locs ls C hX r hc hs hl hw hS)
theorem zu_tableOut {dflt lo hi : Int} {offs : Array Int} {len : Nat} {x : Int32} {tgt : Nat} (hd : decode y.2.1 pc = .ok (.tableswitch dflt lo hi offs, len)) (h : x.toInt < lo ∨ hi < x.toInt) (ht : (pc : Int) + dflt = (tgt : Int)) (k : z_U sn xs y d mc ms cells slots tgt L st N G K) : z_U sn xs y d mc ms cells slots pc L (.int x :: st) N G K := by
  intro p l e R s m args below meth c D sA cA Hb Q H locs ls C hX r hc hs hl hw hS
  exact lv_tableOut C.1 C.2.1 hd h ht (k p l e R s m args below meth c D sA cA Hb Q H locs ls C hX r hc hs hl hw hS)
theorem zu_lald {a n : Nat} {f : Nat → Int64} {j : Int32} (hd : decode y.2.1 pc = .ok (.laload, 1)) (ha : a < N) (hG : G a = .inl (1, n, .inr (.inl f))) (hj : vp_in j n) (k : z_U sn xs y d mc ms cells slots (pc + 1) L (.long (f j.toNatClampNeg) :: st) N G K) : z_U sn xs y d mc ms cells slots pc L (.int j :: .ref a :: st) N G K := by
  intro p l e R s m args below meth c D sA cA Hb Q H locs ls C hX r hc hs hl hw hS
  exact va_lald (D := D) C.1 C.2.1 C.2.2.2.2.2.2.2.1.1 hw.1 a 1 (n := n) (f := f) (by rw [z_wl_at ha, hG]; rfl) (by rfl) hj hd (k p l e R s m args below meth c D sA cA Hb Q H locs ls C hX r hc hs hl hw hS)
theorem zu_lcmp {x z : Int64} (hd : decode y.2.1 pc = .ok (.lcmp, 1)) (k : z_U sn xs y d mc ms cells slots (pc + 1) L (.int (lg_cmp x z) :: st) N G K) : z_U sn xs y d mc ms cells slots pc L (.long z :: .long x :: st) N G K := by
  intro p l e R s m args below meth c D sA cA Hb Q H locs ls C hX r hc hs hl hw hS
  exact W.lcmp C.1 C.2.1 hd (k p l e R s m args below meth c D sA cA Hb Q H locs ls C hX r hc hs hl hw hS)
theorem zu_i2l {x : Int32} (hd : decode y.2.1 pc = .ok (.i2l, 1)) (k : z_U sn xs y d mc ms cells slots (pc + 1) L (.long x.toInt64 :: st) N G K) : z_U sn xs y d mc ms cells slots pc L (.int x :: st) N G K := by
  intro p l e R s m args below meth c D sA cA Hb Q H locs ls C hX r hc hs hl hw hS
  exact lv_i2l C.1 C.2.1 hd rfl (k p l e R s m args below meth c D sA cA Hb Q H locs ls C hX r hc hs hl hw hS)
theorem zu_callV (hd : decode y.2.1 pc = .ok (.invokevirtual index, 3)) (hy : z_mth y2 n) (hlk : Cond.methodLink y.1.cls index y2.1 ∈ z_good) (hci0 : (vwCl[ci]?).map (fun q => q.1) = some y2.1.cls) (hb : b < N) (hG : G b = .inr (ci, fs)) (hsel : Cond.instanceMethod y2.1 ∈ z_good ∧ Cond.selects y2.1.cls y2.1 y2.1 ∈ z_good) (hA : As.length = n) (hsl : (lg_sl (.ref b :: As)).length ≤ y2.2.2.1) (hst : (st.map fun v => v.category).sum ≤ 8) (hcc : cells + mc2 ≤ mc) (hss : slots + ms2 ≤ ms) (k : z_V y2 d mc2 ms2 0 0 0 (lv_args 0 (.ref b :: As)) [] N G (fun v N' G' => z_U sn xs y (d + 1) mc ms (cells + mc2) (slots + ms2) (pc + 3) L (v.toList ++ st) N' G' K)) : z_U sn xs y (d + 1) mc ms cells slots pc L (As.reverse ++ .ref b :: st) N G K := by
  intro p l e R s m args below meth c D sA cA Hb Q H locs ls C hX r hc hs hl hw hS
  obtain ⟨T, k0, hci⟩ : ∃ (T : u_T) (k : Nat), vwCl[ci]? = some (y2.1.cls, T, k) := by
    cases h : vwCl[ci]? with
    | none => rw [h] at hci0; cases hci0
    | some q => rw [h] at hci0; exact ⟨q.2.1, q.2.2, by rw [← Option.some.inj hci0]⟩
  have hM := z_Met (l := l) (D := D) (sA := sA) (cA := cA) (Hb := Hb) C.2.2.2.2.1.2 hy.2.2.1 hsl k
  refine z_run (va_runV (As := As.map (z_v Hb.size sA)) (rest := st.map (z_v Hb.size sA)) ⟨C.1, C.2.1, C.2.2.2.1, C.2.2.2.2.2.1, C.2.2.2.2.2.2.1⟩ hM ⟨z_callB C.2.2.2.2.2.2.1 hy hlk C.2.2.2.2.2.2.2.2.2.1 C.2.2.2.2.2.2.2.2.2.2.1, C.2.2.2.2.2.2.1 _ hsel.1, C.2.2.2.2.2.2.1 _ hsel.2⟩ ⟨z_blind, va_recv C.2.2.2.2.2.2.2.1.1 hw.1 (ci := ci) (q0 := b) (q := (y2.1.cls, T, k0)) (fs := fs.map (z_v Hb.size sA)) hci (by rw [z_wl_at hb, hG]; rfl), fun U hU hW => ⟨rfl, by rw [hU]; exact hw, C.2.2.2.2.2.2.2.1.warm hW, by rw [hU]; exact Nat.le_trans C.2.2.2.2.2.2.2.2.1 hS.1⟩⟩ rfl (by rw [List.length_map]; exact hA) hl.1 (by rw [List.map_append, List.map_reverse]; rfl) (z_stk hst) hd ⟨Nat.le_trans hcc hc, Nat.le_trans hss hs⟩) hS (fun v N' G' H1 locs1 hk ho hw hS => by
    have h := hk p l e R s m args below meth c D sA cA Hb Q H1 locs1 ls C hX r hc hs hl hw hS
    rw [List.map_append, show v.toList.map (z_v Hb.size sA) = v.toList by rw [← Option.toList_map, z_v_ok ho]] at h
    exact h)
theorem zu_ret {v : Option Value} (hc : cells ≤ mc) (hs : slots ≤ ms) (hk : K v N G) (ho : z_ok y v) (hr : z_rt y pc v) : z_U sn xs y d mc ms cells slots pc L v.toList N G K := by
  intro p l e R s m args below meth c D sA cA Hb Q H locs ls C hX r _ _ hl hw hS
  exact W.widen hc hs (r v N G H locs pc ls hk ho hr hw hS)
theorem zu_sald {j : Int32} (hd : decode y.2.1 pc = .ok (.iaload, 1)) (hj : vp_in j sn) (k : z_U sn xs y d mc ms cells slots (pc + 1) L (.int (xs j.toNatClampNeg) :: st) N G K) : z_U sn xs y d mc ms cells slots pc L (.int j :: .retAddr 19 :: st) N G K := by
  intro p l e R s m args below meth c D sA cA Hb Q H locs ls C hX r hc hs hl hw hS
  exact va_sld C.1 C.2.1 hX.1 (Nat.lt_of_lt_of_le hX.2 C.2.2.2.2.2.2.2.2.1) (Nat.not_le.mpr hX.2) hS hj hd (k p l e R s m args below meth c D sA cA Hb Q H locs ls C hX r hc hs hl hw hS)
theorem zu_slen (hd : decode y.2.1 pc = .ok (.arraylength, 1)) (k : z_U sn xs y d mc ms cells slots (pc + 1) L (.int (Int32.ofNat sn) :: st) N G K) : z_U sn xs y d mc ms cells slots pc L (.retAddr 19 :: st) N G K := by
  intro p l e R s m args below meth c D sA cA Hb Q H locs ls C hX r hc hs hl hw hS
  exact va_slen C.1 C.2.1 hX.1 (Nat.lt_of_lt_of_le hX.2 C.2.2.2.2.2.2.2.2.1) (Nat.not_le.mpr hX.2) hS hd (k p l e R s m args below meth c D sA cA Hb Q H locs ls C hX r hc hs hl hw hS)
theorem z_U.widen {a b : Nat} (ha : cells ≤ a) (hb : slots ≤ b) (h : z_U sn xs y d mc ms a b pc L st N G K) : z_U sn xs y d mc ms cells slots pc L st N G K := by
  intro p l e R s m args below meth c D sA cA Hb Q H locs ls C hX r hc hs hl hw hS
  exact W.widen (k := a) (n := b) ha hb (h p l e R s m args below meth c D sA cA Hb Q H locs ls C hX r hc hs hl hw hS)
theorem z_U.sub {L2 : List (Nat × Value)} (h : z_U sn xs y d mc ms cells slots pc L2 st N G K) (hL : ∀ q ∈ L2, q ∈ L) : z_U sn xs y d mc ms cells slots pc L st N G K := by
  intro p l e R s m args below meth c D sA cA Hb Q H locs ls C hX r hc hs hl hw hS
  exact h p l e R s m args below meth c D sA cA Hb Q H locs ls C hX r hc hs ⟨hl.1, hl.2.1, fun q hq => hl.2.2 q (List.map_subset _ (fun a ha => hL a ha) hq)⟩ hw hS
end
/-- the law's frame over a memory -/
abbrev yU : z_MD := (yL_law, cL_law, 7, some .boolean)
def KU : z_K := fun v _ _ => v = some (.int 1)
abbrev zUL (sn : Nat) (xs : Nat → Int32) (k pc : Nat) (L : List (Nat × Value)) (st : List Value) (M : zMem) : Prop := z_U sn xs yU 101 601024 7293034 (264 + k) (13600 + 6 * k) pc L st zN (zE M) KU
section
variable {sn k pc index n b c a : Nat} {xs : Nat → Int32} {y2 : z_MD} {L : List (Nat × Value)} {st As : List Value} {M : zMem}
theorem zu_callI {S0 : List Value} (hd : decode cL_law pc = .ok (.invokevirtual index, 3)) (hy : z_mth y2 n) (hlk : Cond.methodLink RL index y2.1 ∈ z_good) (hci : (vwCl[c]?).map (fun q => q.1) = some y2.1.cls) (hb : zc b = c ∧ b < zN) (h9 : c < 100) (hsel : Cond.instanceMethod y2.1 ∈ z_good ∧ Cond.selects y2.1.cls y2.1 y2.1 ∈ z_good) (As : List Value) (hS0 : S0 = As.reverse ++ .ref b :: st) (hA : As.length = n) (hsl : (lg_sl (.ref b :: As)).length ≤ y2.2.2.1) (hst : (st.map fun v => v.category).sum ≤ 8) (kk : zV y2 100 0 (lv_args 0 (.ref b :: As)) [] M (zI (fun r M' => zUL sn xs k (pc + 3) L (.int r :: st) M'))) (hk : k ≤ 512) : zUL sn xs k pc L S0 M := by
  subst hS0
  refine zu_callV (y := yU) hd hy hlk hci hb.2 (zE_o hb.1 h9) hsel hA hsl hst (mc2 := 0) (ms2 := 0) (by omega) (by omega) (z_V.post kk ?_)
  rintro v N' G' ⟨rfl, M', rfl, r, rfl, h⟩ _
  exact h
theorem zu_end (hd : decode cL_law pc = .ok (.ireturn, 1)) (hk : k ≤ 512) : zUL sn xs k pc L [.int 1] M := by
  have h1 : 264 + k ≤ 601024 := by omega
  have h2 : 13600 + 6 * k ≤ 7293034 := by omega
  exact zu_ret (v := some (.int 1)) h1 h2 rfl ⟨.boolean, rfl, rfl⟩ hd
end
