-- ===== z_M: the law's frame while objects are made =====
def z_M (sn : Nat) (xs : Nat → Int32) (y : z_MD) (d mc ms cells slots pc : Nat) (L : List (Nat × Value)) (st : List Value) (N : Nat) (G : Nat → va_E) (K : z_K) : Prop :=
  ∀ (p : Program) (l : Launch) (e : Env) (R : Room) (s : State) (m : MethodId) (args : Array Value) (below : List Frame) (meth : Method) (c : Code) (D : va_G) (sA : Nat → Nat) (cA : Nat → ClassId) (Hb : Heap) (Q : State → Prop) (H : Heap) (locs : List Loc) (ls : Array Slot),
    z_Cu y d p l R s m args meth c D sA cA Hb → (va_X (sA 19) sn xs s s.heap ∧ sA 19 < Hb.size) → s.heap.size + cells ≤ Hb.size + N →
    (∀ (v : Option Value) (N' : Nat) (G' : Nat → va_E) (H : Heap) (locs : List Loc) (pc : Nat) (ls : Array Slot), K v N' G' → z_ok y v → z_rt y pc v → z_Wd D sA cA Hb N' G' H → va_S (z_A Hb.size) s.heap H locs → W p l e R s m args below meth c H locs mc ms Q (F0 m pc ls (v.toList.map (z_v Hb.size sA)))) →
    mc ≤ R.cells → ms ≤ R.slots → lv_has ls y.2.2.1 (z_L Hb.size sA L) → z_Wd D sA cA Hb N G H → va_S (z_A Hb.size) s.heap H locs →
    W p l e R s m args below meth c H locs cells slots Q (F0 m pc ls (st.map (z_v Hb.size sA)))
section
variable {sn : Nat} {xs : Nat → Int32} {y y2 : z_MD} {d mc ms cells slots pc index n mc2 ms2 b ci : Nat} {L : List (Nat × Value)} {st As fs : List Value} {N : Nat} {G : Nat → va_E} {K : z_K}
theorem zm9_iconst {n : Int} {v : Int32} (hd : decode y.2.1 pc = .ok (.iconst n, 1)) (hv : Int32.ofInt n = v) (k : z_M sn xs y d mc ms cells slots (pc + 1) L (.int v :: st) N G K) : z_M sn xs y d mc ms cells slots pc L st N G K := by
  intro p l e R s m args below meth c D sA cA Hb Q H locs ls C hX hnE r hc hs hl hw hS
  exact lv_iconst C.1 C.2.1 hd hv (k p l e R s m args below meth c D sA cA Hb Q H locs ls C hX hnE r hc hs hl hw hS)
theorem zm9_astore_n {j : Fin 4} {i : Nat} {x : Nat} {L2 : List (Nat × Value)} (hd : decode y.2.1 pc = .ok (.astore_n j, 1)) (hi : (j : Nat) = i) (hn : i < y.2.2.1) (hL : z_st1 i (.ref x) L = L2) (k : z_M sn xs y d mc ms cells slots (pc + 1) L2 st N G K) : z_M sn xs y d mc ms cells slots pc L (.ref x :: st) N G K := by
  intro p l e R s m args below meth c D sA cA Hb Q H locs ls C hX hnE r hc hs hl hw hS
  subst hL
  exact lv_astore_n C.1 C.2.1 hd hi hl hn (z_L_st1 (v := .ref x)) (fun ls hl => k p l e R s m args below meth c D sA cA Hb Q H locs ls C hX hnE r hc hs hl hw hS)
theorem zm9_istore {i : Nat} {x : Int32} {L2 : List (Nat × Value)} (hd : decode y.2.1 pc = .ok (.istore i, 2)) (hn : i < y.2.2.1) (hL : z_st1 i (.int x) L = L2) (k : z_M sn xs y d mc ms cells slots (pc + 2) L2 st N G K) : z_M sn xs y d mc ms cells slots pc L (.int x :: st) N G K := by
  intro p l e R s m args below meth c D sA cA Hb Q H locs ls C hX hnE r hc hs hl hw hS
  subst hL
  exact lv_istore C.1 C.2.1 hd hl hn (z_L_st1 (v := .int x)) (fun ls hl => k p l e R s m args below meth c D sA cA Hb Q H locs ls C hX hnE r hc hs hl hw hS)
theorem zm9_dup {v : Value} (hd : decode y.2.1 pc = .ok (.dup, 1)) (hv : v.category = 1) (k : z_M sn xs y d mc ms cells slots (pc + 1) L (v :: v :: st) N G K) : z_M sn xs y d mc ms cells slots pc L (v :: st) N G K := by
  intro p l e R s m args below meth c D sA cA Hb Q H locs ls C hX hnE r hc hs hl hw hS
  exact lv_dup C.1 C.2.1 hd ((z_cat _ _ v).trans hv) (k p l e R s m args below meth c D sA cA Hb Q H locs ls C hX hnE r hc hs hl hw hS)
theorem zm9_newa {atype : ArrayType} {t : Nat} {x : Int32} {a0 : vp_A} (hd : decode y.2.1 pc = .ok (.newarray atype, 2)) (harr : Cond.arrayClass (newarray.typeOf atype) ∈ z_good) (ht : ∀ cA : Nat → ClassId, (z_tys cA)[t]? = some (cA t, newarray.typeOf atype)) (ha : ∀ q : ClassId, vp_cell q a0 = arrV q n (fun _ => defaultValue (newarray.typeOf atype))) (hz : ∀ B, z_a B a0.2 = a0.2) (hx : ¬ x < 0) (hn0 : x.toNatClampNeg = n) (hby : n * componentBytes (newarray.typeOf atype) ≤ 536870912) (hcc : cells + 1 ≤ mc) (hss : slots + n ≤ ms) (k : z_M sn xs y d mc ms (cells + 1) (slots + n) (pc + 2) L (.ref N :: st) (N + 1) (z_up G N (.inl (t, a0))) K) : z_M sn xs y d mc ms cells slots pc L (.int x :: st) N G K := by
  intro p l e R s m args below meth c D sA cA Hb Q H locs ls C hX hnE r hc hs hl hw hS
  refine W_size hnE hw.2.1 (fun hsz => ?_)
  refine va_newaK C.1 C.2.1 (C.2.2.2.2.2.2.1 _ harr) rfl hd rfl hx hn0 hby (Nat.le_trans hcc hc) (Nat.le_trans hss hs) hsz (fun H1 cA' e1 z1 o1 hAr hNm => ?_)
  have hcA : cA' = cA t := by
    have q := (C.2.2.2.2.2.2.2.1.1.2 t _ (ht cA)).2
    cases atype <;> exact Option.some.inj (hNm.symm.trans q)
  subst hcA
  have z1 : H1.size = H.size + 1 := by omega
  have o1 : ∀ q : Nat, q < H.size → H1[q]? = H[q]? := fun q hq => o1 q (by omega)
  refine k p l e R s m args below meth c D sA cA Hb Q H1 locs ls C hX (by omega) r hc hs hl (hw.new hsz ?_ z1 o1) (hS.new z1 o1)
  show H1[Hb.size + N]? = some (vp_cell (cA t) (a0.1, z_a Hb.size a0.2))
  rw [hz]
  show _ = some (vp_cell (cA t) a0)
  rw [ha]
  exact e1
theorem zm9_new {C0 : String} {T0 : u_T} {Nf : Nat} {fs : List Value} (hd : decode y.2.1 pc = .ok (.new index, 3)) (hcl : Cond.classLink y.1.cls index C0 ∈ z_good) (hins : Cond.instantiable C0 Nf ∈ z_good) (hini : Cond.initialized C0 ∈ z_good) (hv : vwCl[ci]? = some (C0, T0, Nf)) (hin : ∀ w ∈ u_ws C0 T0 Nf, w ∈ z_good) (ty : Nat → FieldType) (hty : ∀ k, k < Nf → parseFieldDescriptor (T0 k).2.2.1 = some (ty k)) (hfs : ∀ j, j < Nf → defaultValue (ty j) = vp_V fs j) (hz : ∀ B sA, fs.map (z_v B sA) = fs) (hcc : cells + 1 ≤ mc) (hss : slots + Nf ≤ ms) (k : z_M sn xs y d mc ms (cells + 1) (slots + Nf) (pc + 3) L (.ref N :: st) (N + 1) (z_up G N (.inr (ci, fs))) K) : z_M sn xs y d mc ms cells slots pc L st N G K := by
  intro p l e R s m args below meth c D sA cA Hb Q H locs ls C hX hnE r hc hs hl hw hS
  refine W_size hnE hw.2.1 (fun hsz => ?_)
  have hKn := C.2.2.2.2.2.2.2.1.1.1 ci _ hv
  refine W.newcK C.1 C.2.1 C.2.2.2.2.2.1 (C.2.2.2.2.2.2.1 _ hcl) (C.2.2.2.2.2.2.1 _ hins) (C.2.2.2.2.2.2.1 _ hini) rfl hd (Nat.le_trans hcc hc) (Nat.le_trans hss hs) hKn.2.1 hsz (fun H1 kC hkC e1 z1 o1 => ?_)
  have z1 : H1.size = H.size + 1 := by omega
  have o1 : ∀ q : Nat, q < H.size → H1[q]? = H[q]? := fun q hq => o1 q (by omega)
  refine k p l e R s m args below meth c D sA cA Hb Q H1 locs ls C hX (by omega) r hc hs hl (hw.new hsz ?_ z1 o1) (hS.new z1 o1)
  refine ⟨_, hv, ?_⟩
  show t_OB _ _ _ _ _ (vp_V (fs.map (z_v Hb.size sA)))
  rw [hz]
  exact (u_born ty (fun w hw => C.2.2.2.2.2.2.1 w (hin w hw)) (fun w hw => hw) hKn hkC e1 hty).to hfs
theorem zm9_callI (hd : decode y.2.1 pc = .ok (.invokespecial index, 3)) (hy : z_mth y2 n) (hlk : Cond.methodLink y.1.cls index y2.1 ∈ z_good) (hnm : y2.1.name = "<init>") (hrt : y2.2.2.2 = none) (hsel : Cond.instanceMethod y2.1 ∈ z_good) (hA : As.length = n) (hsl : (lg_sl (.ref b :: As)).length ≤ y2.2.2.1) (hst : (st.map fun v => v.category).sum ≤ 8) (hcc : cells + mc2 ≤ mc) (hss : slots + ms2 ≤ ms) (k : z_N y2 d mc2 ms2 0 0 0 (lv_args 0 (.ref b :: As)) [] N G (fun v N' G' => N' = N + mc2 ∧ z_M sn xs y (d + 1) mc ms (cells + mc2) (slots + ms2) (pc + 3) L (v.toList ++ st) N' G' K)) : z_M sn xs y (d + 1) mc ms cells slots pc L (As.reverse ++ .ref b :: st) N G K := by
  intro p l e R s m args below meth c D sA cA Hb Q H locs ls C hX hnE r hc hs hl hw hS
  refine W_size hnE hw.2.1 (fun hz => ?_)
  have hcB := (z_callB C.2.2.2.2.2.2.1 hy hlk C.2.2.2.2.2.2.2.2.2.1 C.2.2.2.2.2.2.2.2.2.2.1  : CallB R s args y.1.cls index y2.1 y2.2.1 y2.2.2.1 y2.2.2.2 (z_ws y2) (z_rm d mc2 ms2) mc2 ms2 n)
  rw [hrt] at hcB
  have hM := z_MetN (l := l) (D := D) (sA := sA) (cA := cA) (Hb := Hb) C.2.2.2.2.1.2 hy.2.2.1 hsl k
  refine z_run (va_runI (As := As.map (z_v Hb.size sA)) (rest := st.map (z_v Hb.size sA)) ⟨C.1, C.2.1, C.2.2.2.1, C.2.2.2.2.2.1, C.2.2.2.2.2.2.1⟩ hM ⟨hcB, hnm, C.2.2.2.2.2.2.1 _ hsel⟩ ⟨z_blindN, fun U hU hW => ⟨rfl, ⟨by rw [hU]; exact hw, C.2.2.2.2.2.2.2.1.warm hW, by rw [hU]; exact Nat.le_trans C.2.2.2.2.2.2.2.2.1 hS.1⟩, by rw [hU]; omega⟩⟩ rfl (by rw [List.length_map]; exact hA) hl.1 (by rw [List.map_append, List.map_reverse]; rfl) (z_stk hst) hd ⟨Nat.le_trans hcc hc, Nat.le_trans hss hs⟩) hS (fun v N' G' H1 locs1 hk ho hw hS => by
    have h := hk.2 p l e R s m args below meth c D sA cA Hb Q H1 locs1 ls C hX (by have := hk.1; omega) r hc hs hl hw hS
    rw [List.map_append, show v.toList.map (z_v Hb.size sA) = v.toList by rw [← Option.toList_map, z_v_ok ho]] at h
    exact h)
theorem z_Wd.congr {D : va_G} {sA : Nat → Nat} {cA : Nat → ClassId} {Hb H : Heap} {G2 : Nat → va_E} (h : z_Wd D sA cA Hb N G H) (e : ∀ i, i < N → G i = G2 i) : z_Wd D sA cA Hb N G2 H := by
  have : z_wl Hb.size sA cA N G2 = z_wl Hb.size sA cA N G := by
    unfold z_wl
    exact List.map_congr_left (fun i hi => by rw [e i (List.mem_range.mp hi)])
  exact ⟨by rw [this]; exact h.1, h.2⟩
theorem z_M.of {G2 : Nat → va_E} {a b : Nat} (ha : cells ≤ a) (hb : slots ≤ b) (e : ∀ i, i < N → G i = G2 i) (h : z_U sn xs y d mc ms a b pc L st N G2 K) : z_M sn xs y d mc ms cells slots pc L st N G K := by
  intro p l e2 R s m args below meth c D sA cA Hb Q H locs ls C hX hnE r hc hs hl hw hS
  exact W.widen (k := a) (n := b) ha hb (h p l e2 R s m args below meth c D sA cA Hb Q H locs ls C hX r hc hs hl (hw.congr e) hS)
end
