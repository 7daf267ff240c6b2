-- ===== z_T: a method that returns or throws NoSuchElementException =====
def z_XC (D : va_G) (sA : Nat → Nat) (cA : Nat → ClassId) (Hb : Heap) (X : Nat → (Nat → va_E) → Prop) : String → State → State → Prop :=
  fun E st t => E = z_nse ∧ va_F (z_A Hb.size) st t ∧ ∃ (N : Nat) (G : Nat → va_E), X N G ∧ z_Wd D sA cA Hb N G t.heap
def z_T (y : z_MD) (d mc ms cells slots pc : Nat) (L : List (Nat × Value)) (st : List Value) (N : Nat) (G : Nat → va_E) (K : z_K) (X : Nat → (Nat → va_E) → Prop) : Prop :=
  ∀ (p : Program) (l : Launch) (e : Env) (R : Room) (s : State) (m : MethodId) (args : Array Value) (below : List Frame) (meth : Method) (c : Code) (D : va_G) (sA : Nat → Nat) (cA : Nat → ClassId) (Hb : Heap) (H : Heap) (locs : List Loc) (ls : Array Slot),
    z_Cx y d p l R s m args meth c D sA cA Hb → (∀ x ∈ c.exceptionTable.toList, False) → mc ≤ R.cells → ms ≤ R.slots → lv_has ls y.2.2.1 (z_L Hb.size sA L) → z_Wd D sA cA Hb N G H → va_S (z_A Hb.size) s.heap H locs →
    W p l e R s m args below meth c H locs cells slots (vx_MQ below (z_Qc y D sA cA Hb K) (z_XC D sA cA Hb X) args s mc ms (z_A Hb.size)) (F0 m pc ls (st.map (z_v Hb.size sA)))
section
variable {y y2 : z_MD} {d mc ms cells slots pc index n mc2 ms2 b ci : Nat} {L : List (Nat × Value)} {st As fs : List Value} {N : Nat} {G : Nat → va_E} {K : z_K} {X : Nat → (Nat → va_E) → Prop}
/-- what returns, returns -/
theorem z_T.of (h : z_V y d mc ms cells slots pc L st N G K) : z_T y d mc ms cells slots pc L st N G K X := by
  intro p l e R s m args below meth c D sA cA Hb H locs ls C hx hc hs hl hw hS
  refine h p l e R s m args below meth c D sA cA Hb _ H locs ls C ?_ hc hs hl hw hS
  intro v N' G' H locs pc ls hk ho hr hw hS
  refine vx_ret ?_
  have fin : ∀ (v' : Option Value), v'.map (z_v Hb.size sA) = v' → K v' N' G' → z_ok y v' → ∀ t : State, t.heap = H → s.WarmedH t.vm → z_Qc y D sA cA Hb K args s (.returned v') t := fun v' e1 hk ho t ht _ => ⟨v', N', G', by rw [e1], hk, ho, by rw [ht]; exact hw, by rw [va_F, ht]; exact ⟨hS.1, hS.2.1⟩⟩
  match v, hk, ho, hr with
  | none, hk, ho, hr => exact W.vret C.1 C.2.1 (C.2.2.1.trans ho) (fin none rfl hk ho) hS.2.2 hr C.2.2.2.2.1.1
  | some (.int x), hk, ho, hr =>
    obtain ⟨ty, h1, h2⟩ := id ho
    exact W.zret C.1 C.2.1 (C.2.2.1.trans h1) h2 (fin (some (.int x)) rfl hk ho) hS.2.2 hr C.2.2.2.2.1.1
  | some (.long x), hk, ho, hr => exact W.lret C.1 C.2.1 (C.2.2.1.trans ho) (fin (some (.long x)) rfl hk ho) hS.2.2 hr C.2.2.2.2.1.1
theorem z_T.widen {a b : Nat} (ha : cells ≤ a) (hb : slots ≤ b) (h : z_T y d mc ms a b pc L st N G K X) : z_T y d mc ms cells slots pc L st N G K X := by
  intro p l e R s m args below meth c D sA cA Hb H locs ls C hx hc hs hl hw hS
  exact W.widen (k := a) (n := b) ha hb (h p l e R s m args below meth c D sA cA Hb H locs ls C hx hc hs hl hw hS)
theorem zt_iconst {n : Int} {v : Int32} (hd : decode y.2.1 pc = .ok (.iconst n, 1)) (hv : Int32.ofInt n = v) (k : z_T y d mc ms cells slots (pc + 1) L (.int v :: st) N G K X) : z_T y d mc ms cells slots pc L st N G K X := by
  intro p l e R s m args below meth c D sA cA Hb H locs ls C hx hc hs hl hw hS
  exact lv_iconst C.1 C.2.1 hd hv (k p l e R s m args below meth c D sA cA Hb H locs ls C hx hc hs hl hw hS)
theorem zt_bipush {n : Int} {v : Int32} (hd : decode y.2.1 pc = .ok (.bipush n, 2)) (hv : (Int8.ofInt n).toInt32 = v) (k : z_T y d mc ms cells slots (pc + 2) L (.int v :: st) N G K X) : z_T y d mc ms cells slots pc L st N G K X := by
  intro p l e R s m args below meth c D sA cA Hb H locs ls C hx hc hs hl hw hS
  exact lv_bipush C.1 C.2.1 hd hv (k p l e R s m args below meth c D sA cA Hb H locs ls C hx hc hs hl hw hS)
theorem zt_iload_n {j : Fin 4} {i : Nat} {x : Int32} (hd : decode y.2.1 pc = .ok (.iload_n j, 1)) (hi : (j : Nat) = i) (n : Nat) (hk : L[n]? = some (i, .int x)) (k : z_T y d mc ms cells slots (pc + 1) L (.int x :: st) N G K X) : z_T y d mc ms cells slots pc L st N G K X := by
  intro p l e R s m args below meth c D sA cA Hb H locs ls C hx hc hs hl hw hS
  exact lv_iload_n C.1 C.2.1 hd hi (z_at hl n hk) (k p l e R s m args below meth c D sA cA Hb H locs ls C hx hc hs hl hw hS)
theorem zt_aload_n {j : Fin 4} {i : Nat} {x : Nat} (hd : decode y.2.1 pc = .ok (.aload_n j, 1)) (hi : (j : Nat) = i) (n : Nat) (hk : L[n]? = some (i, .ref x)) (k : z_T y d mc ms cells slots (pc + 1) L (.ref x :: st) N G K X) : z_T y d mc ms cells slots pc L st N G K X := by
  intro p l e R s m args below meth c D sA cA Hb H locs ls C hx hc hs hl hw hS
  exact lv_aload_n C.1 C.2.1 hd hi (z_at hl n hk) (k p l e R s m args below meth c D sA cA Hb H locs ls C hx hc hs hl hw hS)
theorem zt_if_eq {x : Int32} {off : Int} {tgt : Nat} (hd : decode y.2.1 pc = .ok (.ifCond .eq off, 3)) (ht : (pc : Int) + off = (tgt : Int)) (kt : x = 0 → z_T y d mc ms cells slots tgt L st N G K X) (kf : ¬ (x = 0) → z_T y d mc ms cells slots (pc + 3) L st N G K X) : z_T y d mc ms cells slots pc L (.int x :: st) N G K X := by
  intro p l e R s m args below meth c D sA cA Hb H locs ls C hx hc hs hl hw hS
  exact lv_if_eq C.1 C.2.1 hd ht (fun h => kt h p l e R s m args below meth c D sA cA Hb H locs ls C hx hc hs hl hw hS) (fun h => kf h p l e R s m args below meth c D sA cA Hb H locs ls C hx hc hs hl hw hS)
theorem zt_if_ne {x : Int32} {off : Int} {tgt : Nat} (hd : decode y.2.1 pc = .ok (.ifCond .ne off, 3)) (ht : (pc : Int) + off = (tgt : Int)) (kt : ¬ x = 0 → z_T y d mc ms cells slots tgt L st N G K X) (kf : x = 0 → z_T y d mc ms cells slots (pc + 3) L st N G K X) : z_T y d mc ms cells slots pc L (.int x :: st) N G K X := by
  intro p l e R s m args below meth c D sA cA Hb H locs ls C hx hc hs hl hw hS
  exact lv_if_ne C.1 C.2.1 hd ht (fun h => kt h p l e R s m args below meth c D sA cA Hb H locs ls C hx hc hs hl hw hS) (fun h => kf h p l e R s m args below meth c D sA cA Hb H locs ls C hx hc hs hl hw hS)
theorem zt_if_lt {x : Int32} {off : Int} {tgt : Nat} (hd : decode y.2.1 pc = .ok (.ifCond .lt off, 3)) (ht : (pc : Int) + off = (tgt : Int)) (kt : x < 0 → z_T y d mc ms cells slots tgt L st N G K X) (kf : ¬ (x < 0) → z_T y d mc ms cells slots (pc + 3) L st N G K X) : z_T y d mc ms cells slots pc L (.int x :: st) N G K X := by
  intro p l e R s m args below meth c D sA cA Hb H locs ls C hx hc hs hl hw hS
  exact lv_if_lt C.1 C.2.1 hd ht (fun h => kt h p l e R s m args below meth c D sA cA Hb H locs ls C hx hc hs hl hw hS) (fun h => kf h p l e R s m args below meth c D sA cA Hb H locs ls C hx hc hs hl hw hS)
theorem zt_icmp_gt {x z : Int32} {off : Int} {tgt : Nat} (hd : decode y.2.1 pc = .ok (.if_icmp .gt off, 3)) (ht : (pc : Int) + off = (tgt : Int)) (kt : z < x → z_T y d mc ms cells slots tgt L st N G K X) (kf : ¬ (z < x) → z_T y d mc ms cells slots (pc + 3) L st N G K X) : z_T y d mc ms cells slots pc L (.int z :: .int x :: st) N G K X := by
  intro p l e R s m args below meth c D sA cA Hb H locs ls C hx hc hs hl hw hS
  exact lv_icmp_gt C.1 C.2.1 hd ht (fun h => kt h p l e R s m args below meth c D sA cA Hb H locs ls C hx hc hs hl hw hS) (fun h => kf h p l e R s m args below meth c D sA cA Hb H locs ls C hx hc hs hl hw hS)
theorem zt_icmp_ge {x z : Int32} {off : Int} {tgt : Nat} (hd : decode y.2.1 pc = .ok (.if_icmp .ge off, 3)) (ht : (pc : Int) + off = (tgt : Int)) (kt : z ≤ x → z_T y d mc ms cells slots tgt L st N G K X) (kf : ¬ (z ≤ x) → z_T y d mc ms cells slots (pc + 3) L st N G K X) : z_T y d mc ms cells slots pc L (.int z :: .int x :: st) N G K X := by
  intro p l e R s m args below meth c D sA cA Hb H locs ls C hx hc hs hl hw hS
  exact lv_icmp_ge C.1 C.2.1 hd ht (fun h => kt h p l e R s m args below meth c D sA cA Hb H locs ls C hx hc hs hl hw hS) (fun h => kf h p l e R s m args below meth c D sA cA Hb H locs ls C hx hc hs hl hw hS)
theorem zt_icmp_le {x z : Int32} {off : Int} {tgt : Nat} (hd : decode y.2.1 pc = .ok (.if_icmp .le off, 3)) (ht : (pc : Int) + off = (tgt : Int)) (kt : x ≤ z → z_T y d mc ms cells slots tgt L st N G K X) (kf : ¬ (x ≤ z) → z_T y d mc ms cells slots (pc + 3) L st N G K X) : z_T y d mc ms cells slots pc L (.int z :: .int x :: st) N G K X := by
  intro p l e R s m args below meth c D sA cA Hb H locs ls C hx hc hs hl hw hS
  exact lv_icmp_le C.1 C.2.1 hd ht (fun h => kt h p l e R s m args below meth c D sA cA Hb H locs ls C hx hc hs hl hw hS) (fun h => kf h p l e R s m args below meth c D sA cA Hb H locs ls C hx hc hs hl hw hS)
theorem zt_get {b ci i index : Nat} {fin : Bool} {ty : FieldType} {fs : List Value} {v : Value} (hd : decode y.2.1 pc = .ok (.getfield index, 3)) (hf : z_fld y.1.cls index ci i fin ty) (hb : b < N) (hG : G b = .inr (ci, fs)) (hv : fs[i]? = some v) (k : z_T y d mc ms cells slots (pc + 3) L (v :: st) N G K X) : z_T y d mc ms cells slots pc L (.ref b :: st) N G K X := by
  intro p l e R s m args below meth c D sA cA Hb H locs ls C hx hc hs hl hw hS
  obtain ⟨Cn, T, n, ty0, h1, h2, h3, h4, h5, h6, h7, h8, h9⟩ := hf
  exact va_get (D := D) (ci := ci) C.1 C.2.1 C.2.2.2.2.2.2.1 h2 C.2.2.2.2.2.1 C.2.2.2.2.2.2.2.1.1 hw.1 b (fs := fs.map (z_v Hb.size sA)) (by rw [z_wl_at hb, hG]; rfl) h1 i h5 (C.2.2.2.2.2.2.1 _ h6) (fun _ h => h) (by rw [List.getElem?_map, hv]; rfl) hd (k p l e R s m args below meth c D sA cA Hb H locs ls C hx hc hs hl hw hS)
theorem zt_aald {a n t o : Nat} {Cn : String} {f : Nat → Option Nat} {j : Int32} (hd : decode y.2.1 pc = .ok (.aaload, 1)) (ha : a < N) (hG : G a = .inl (t, n, .inr (.inr (.inr (.inr f))))) (ht : ∀ cA : Nat → ClassId, (z_tys cA)[t]? = some (cA t, .object Cn)) (hj : vp_in j n) (ho : f j.toNatClampNeg = some o) (k : z_T y d mc ms cells slots (pc + 1) L (.ref o :: st) N G K X) : z_T y d mc ms cells slots pc L (.int j :: .ref a :: st) N G K X := by
  intro p l e R s m args below meth c D sA cA Hb H locs ls C hx hc hs hl hw hS
  refine va_aldq (D := D) C.1 C.2.1 C.2.2.2.2.2.2.2.1.1 hw.1 a t (n := n) (f := fun j => (f j).map (fun i => Hb.size + i)) (by rw [z_wl_at ha, hG]; rfl) (ht cA) hj hd ?_
  simp only [ho, Option.map_some]
  exact k p l e R s m args below meth c D sA cA Hb H locs ls C hx hc hs hl hw hS
theorem zt_callV (hd : decode y.2.1 pc = .ok (.invokevirtual index, 3)) (hy : z_mth y2 n) (hlk : Cond.methodLink y.1.cls index y2.1 ∈ z_good) (hci0 : (vwCl[ci]?).map (fun q => q.1) = some y2.1.cls) (hb : b < N) (hG : G b = .inr (ci, fs)) (hsel : Cond.instanceMethod y2.1 ∈ z_good ∧ Cond.selects y2.1.cls y2.1 y2.1 ∈ z_good) (hA : As.length = n) (hsl : (lg_sl (.ref b :: As)).length ≤ y2.2.2.1) (hst : (st.map fun v => v.category).sum ≤ 8) (hcc : cells + mc2 ≤ mc) (hss : slots + ms2 ≤ ms) (k : z_V y2 d mc2 ms2 0 0 0 (lv_args 0 (.ref b :: As)) [] N G (fun v N' G' => z_T y (d + 1) mc ms (cells + mc2) (slots + ms2) (pc + 3) L (v.toList ++ st) N' G' K X)) : z_T y (d + 1) mc ms cells slots pc L (As.reverse ++ .ref b :: st) N G K X := by
  intro p l e R s m args below meth c D sA cA Hb H locs ls C hx hc hs hl hw hS
  obtain ⟨T, k0, hci⟩ : ∃ (T : u_T) (k : Nat), vwCl[ci]? = some (y2.1.cls, T, k) := by
    cases h : vwCl[ci]? with
    | none => rw [h] at hci0; cases hci0
    | some q => rw [h] at hci0; exact ⟨q.2.1, q.2.2, by rw [← Option.some.inj hci0]⟩
  have hM := z_Met (l := l) (D := D) (sA := sA) (cA := cA) (Hb := Hb) C.2.2.2.2.1.2 hy.2.2.1 hsl k
  refine z_run (va_runV (As := As.map (z_v Hb.size sA)) (rest := st.map (z_v Hb.size sA)) ⟨C.1, C.2.1, C.2.2.2.1, C.2.2.2.2.2.1, C.2.2.2.2.2.2.1⟩ hM ⟨z_callB C.2.2.2.2.2.2.1 hy hlk C.2.2.2.2.2.2.2.2.2.1 C.2.2.2.2.2.2.2.2.2.2.1, C.2.2.2.2.2.2.1 _ hsel.1, C.2.2.2.2.2.2.1 _ hsel.2⟩ ⟨z_blind, va_recv C.2.2.2.2.2.2.2.1.1 hw.1 (ci := ci) (q0 := b) (q := (y2.1.cls, T, k0)) (fs := fs.map (z_v Hb.size sA)) hci (by rw [z_wl_at hb, hG]; rfl), fun U hU hW => ⟨rfl, by rw [hU]; exact hw, C.2.2.2.2.2.2.2.1.warm hW, by rw [hU]; exact Nat.le_trans C.2.2.2.2.2.2.2.2.1 hS.1⟩⟩ rfl (by rw [List.length_map]; exact hA) hl.1 (by rw [List.map_append, List.map_reverse]; rfl) (z_stk hst) hd ⟨Nat.le_trans hcc hc, Nat.le_trans hss hs⟩) hS (fun v N' G' H1 locs1 hk ho hw hS => by
    have h := hk p l e R s m args below meth c D sA cA Hb H1 locs1 ls C hx hc hs hl hw hS
    rw [List.map_append, show v.toList.map (z_v Hb.size sA) = v.toList by rw [← Option.toList_map, z_v_ok ho]] at h
    exact h)
/-- the world, with one object more behind it -/
theorem z_Wd.push {D : va_G} {sA : Nat → Nat} {cA : Nat → ClassId} {Hb H H1 : Heap} (h : z_Wd D sA cA Hb N G H) (h1 : H.size ≤ H1.size) (h2 : ∀ q : Nat, q < H.size → H1[q]? = H[q]?) : z_Wd D sA cA Hb N G H1 :=
  ⟨h.1.kept (fun k x hx => h2 _ ((h.1 k x hx).lt)), Nat.le_trans h.2.1 h1, fun q hq => by rw [h2 q (by have := h.2.1; omega)]; exact h.2.2 q hq⟩
theorem zt_throw {i : Nat} (hi : i < 9) (hy : y.1.cls = RX11) (d0 : decode y.2.1 pc = .ok (.new 169, 3)) (d3 : decode y.2.1 (pc + 3) = .ok (.dup, 1)) (d4 : decode y.2.1 (pc + 4) = .ok (.ldc (z_txK.getD i 0), 2)) (d6 : decode y.2.1 (pc + 6) = .ok (.invokespecial 173, 3)) (d9 : decode y.2.1 (pc + 9) = .ok (.athrow, 1)) (hcc : cells + 1 ≤ mc) (hss : slots + 6 ≤ ms) (k : X N G) : z_T y (d + 6) mc ms cells slots pc L [] N G K X := by
  intro p l e R s m args below meth c D sA cA Hb H locs ls C hx hc hs hl hw hS
  obtain ⟨hU, hN⟩ := z_thr C hw hS
  have g1 : (Cond.classLink RX11 169 z_nse).before args s = true := C.2.2.2.2.2.2.1 _ (z_int6 18 (by decide +kernel) (by decide +kernel))
  have g2 : (Cond.initialized z_nse).before args s = true := C.2.2.2.2.2.2.1 _ (z_int1 19 (by decide +kernel) (by decide +kernel))
  have hR := (z_lau C hw hS).2.2.2.1 i hi
  have f1 := C.2.2.2.2.2.2.2.2.2.1
  have f2 := C.2.2.2.2.2.2.2.2.2.2.1
  refine z_make (own := RX11) (cls := z_nse) (text := z_txT.getD i "") (names := ["java/lang/Exception"]) (ik := 169) (is := z_txK.getD i 0) (ic := 173) (ix := 13) (sa := sA (1 + i)) (b0 := z_n13) (Yc := z_rte) (A := z_A Hb.size) C.1 C.2.1 C.2.2.2.2.1.2 (hy ▸ C.2.2.2.2.2.1) (by decide +kernel) (by decide +kernel) n13_0 n13_1 n13_2 n13_5 (by decide +kernel) g1 g2 hR (z_ew_at C) (fun w hw => List.all_eq_true.mp ew_ot w hw) hU hN hS (hl.1.trans C.2.2.2.1.symm) d0 d3 d4 d6 ?_ ?_ (Nat.le_trans hcc hc) (Nat.le_trans hss hs) (fun H1 ce h1 h2 h3 h4 h5 => ?_)
  · show 1 + 4 < R.frames; omega
  · show 0 + (13 * (1 + 2) + 43) ≤ R.locals; omega
  refine vx_athrow C.1 C.2.1 d9 ?_
  refine vx_out (fun x hx2 => (hx x hx2).elim) C.2.2.2.2.1.1 h1 h2 h3 (fun t ht _ => ⟨rfl, ?_, N, G, k, ?_⟩) hS.2.2 hcc hss
  · exact ⟨by rw [ht]; exact Nat.le_trans hS.1 h4, fun q h6 h7 => by rw [ht, h5 q (Nat.lt_of_lt_of_le h6 hS.1)]; exact hS.2.1 q h6 h7⟩
  · rw [ht]; exact hw.push h4 h5
theorem zt_throwW {i : Nat} (hi : i < 9) (hy : y.1.cls = RX11) (d0 : decode y.2.1 pc = .ok (.new 169, 3)) (d3 : decode y.2.1 (pc + 3) = .ok (.dup, 1)) (d4 : decode y.2.1 (pc + 4) = .ok (.ldc_w (z_txK.getD i 0), 3)) (d6 : decode y.2.1 (pc + 7) = .ok (.invokespecial 173, 3)) (d9 : decode y.2.1 (pc + 10) = .ok (.athrow, 1)) (hcc : cells + 1 ≤ mc) (hss : slots + 6 ≤ ms) (k : X N G) : z_T y (d + 6) mc ms cells slots pc L [] N G K X := by
  intro p l e R s m args below meth c D sA cA Hb H locs ls C hx hc hs hl hw hS
  obtain ⟨hU, hN⟩ := z_thr C hw hS
  have g1 : (Cond.classLink RX11 169 z_nse).before args s = true := C.2.2.2.2.2.2.1 _ (z_int6 18 (by decide +kernel) (by decide +kernel))
  have g2 : (Cond.initialized z_nse).before args s = true := C.2.2.2.2.2.2.1 _ (z_int1 19 (by decide +kernel) (by decide +kernel))
  have hR := (z_lau C hw hS).2.2.2.1 i hi
  have f1 := C.2.2.2.2.2.2.2.2.2.1
  have f2 := C.2.2.2.2.2.2.2.2.2.2.1
  refine z_makeW (own := RX11) (cls := z_nse) (text := z_txT.getD i "") (names := ["java/lang/Exception"]) (ik := 169) (is := z_txK.getD i 0) (ic := 173) (ix := 13) (sa := sA (1 + i)) (b0 := z_n13) (Yc := z_rte) (A := z_A Hb.size) C.1 C.2.1 C.2.2.2.2.1.2 (hy ▸ C.2.2.2.2.2.1) (by decide +kernel) (by decide +kernel) n13_0 n13_1 n13_2 n13_5 (by decide +kernel) g1 g2 hR (z_ew_at C) (fun w hw => List.all_eq_true.mp ew_ot w hw) hU hN hS (hl.1.trans C.2.2.2.1.symm) d0 d3 d4 d6 ?_ ?_ (Nat.le_trans hcc hc) (Nat.le_trans hss hs) (fun H1 ce h1 h2 h3 h4 h5 => ?_)
  · show 1 + 4 < R.frames; omega
  · show 0 + (13 * (1 + 2) + 43) ≤ R.locals; omega
  refine vx_athrow C.1 C.2.1 d9 ?_
  refine vx_out (fun x hx2 => (hx x hx2).elim) C.2.2.2.2.1.1 h1 h2 h3 (fun t ht _ => ⟨rfl, ?_, N, G, k, ?_⟩) hS.2.2 hcc hss
  · exact ⟨by rw [ht]; exact Nat.le_trans hS.1 h4, fun q h6 h7 => by rw [ht, h5 q (Nat.lt_of_lt_of_le h6 hS.1)]; exact hS.2.1 q h6 h7⟩
  · rw [ht]; exact hw.push h4 h5
/-- the contract -/
theorem z_xMet {l : Launch} {D : va_G} {sA : Nat → Nat} {cA : Nat → ClassId} {Hb : Heap} (hfl : l.stackTraces = false) (hy : plainName y.1.cls = true) (hsl : (lg_sl As).length ≤ y.2.2.1) (hT : z_T y d mc ms 0 0 0 (lv_args 0 As) [] N G K X) : vx_Met l y.1 (z_ws y) (z_rm d mc ms) (z_Pc D sA cA Hb N G As) (z_Qc y D sA cA Hb K) (z_XC D sA cA Hb X) mc ms (z_A Hb.size) := by
  refine vx_ofW (cc := y.2.1) (maxL := y.2.2.1) (ret := y.2.2.2) hy rfl ?_
  intro p e s m args below meth c s₁ B hml hnx hv
  obtain ⟨rfl, hw, hE, hsz⟩ := hv
  have hts := atoms_spec (ws := z_ws y) B.pre
  have hl := lv_entry (As.map (z_v Hb.size sA)) (n := y.2.2.1) (by rw [z_slen]; exact hsl)
  rw [lg_entry_eq]
  generalize (lg_sl (As.map (z_v Hb.size sA)) ++ List.replicate (y.2.2.1 - (lg_sl (As.map (z_v Hb.size sA))).length) Slot.unset).toArray = ls at hl ⊢
  rw [z_args] at hl
  exact hT p l e _ s m _ below meth c D sA cA Hb s.heap [] ls ⟨B.exec, B.bytes, B.returns, hml, ⟨B.notSynchronized, hfl⟩, findClass_of_methodNamed B.named, fun w hw => hts w (List.mem_cons_of_mem _ hw), hE, hsz, Nat.le_refl _, Nat.le_refl _, (name_of_methodNamed B.named B.method).1⟩ hnx (Nat.le_refl _) (Nat.le_refl _) hl hw ⟨Nat.le_refl _, fun _ _ _ => rfl, fun _ h => (List.not_mem_nil h).elim⟩
end
