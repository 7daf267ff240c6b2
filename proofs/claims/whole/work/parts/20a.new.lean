theorem W_size {p : Program} {l : Launch} {e : Env} {R : Room} {s : State} {m : MethodId} {args : Array Value} {below : List Frame} {meth : Method} {c : Code} {H : Heap} {locs : List Loc} {cells slots B N : Nat} {Q : State → Prop} {g : JFrame} (h1 : s.heap.size + cells ≤ B + N) (h2 : B + N ≤ H.size) (hW : H.size = B + N → W p l e R s m args below meth c H locs cells slots Q g) : W p l e R s m args below meth c H locs cells slots Q g := by
  intro T hT X
  have h3 := X.heapSize
  rw [hT] at h3
  exact hW (by omega) T hT X
-- ===== z_N: the judgement while objects are made: the heap is as large as the world =====
def z_N (y : z_MD) (d mc ms cells slots pc : Nat) (L : List (Nat × Value)) (st : List Value) (N : Nat) (G : Nat → va_E) (K : z_K) : Prop :=
  ∀ (p : Program) (l : Launch) (e : Env) (R : Room) (s : State) (m : MethodId) (args : Array Value) (below : List Frame) (meth : Method) (c : Code) (D : va_G) (sA : Nat → Nat) (cA : Nat → ClassId) (Hb : Heap) (Q : State → Prop) (H : Heap) (locs : List Loc) (ls : Array Slot),
    z_Cx y d p l R s m args meth c D sA cA Hb → s.heap.size + cells ≤ Hb.size + N →
    (∀ (v : Option Value) (N' : Nat) (G' : Nat → va_E) (H : Heap) (locs : List Loc) (pc : Nat) (ls : Array Slot), K v N' G' → z_ok y v → z_rt y pc v → z_Wd D sA cA Hb N' G' H → va_S (z_A Hb.size) s.heap H locs → W p l e R s m args below meth c H locs mc ms Q (F0 m pc ls (v.toList.map (z_v Hb.size sA)))) →
    mc ≤ R.cells → ms ≤ R.slots → lv_has ls y.2.2.1 (z_L Hb.size sA L) → z_Wd D sA cA Hb N G H → va_S (z_A Hb.size) s.heap H locs →
    W p l e R s m args below meth c H locs cells slots Q (F0 m pc ls (st.map (z_v Hb.size sA)))
section
variable {y y2 : z_MD} {d mc ms cells slots pc index n mc2 ms2 b ci : Nat} {L : List (Nat × Value)} {st As : List Value} {N : Nat} {G : Nat → va_E} {K : z_K}
theorem zo_iconst {n : Int} {v : Int32} (hd : decode y.2.1 pc = .ok (.iconst n, 1)) (hv : Int32.ofInt n = v) (k : z_N y d mc ms cells slots (pc + 1) L (.int v :: st) N G K) : z_N y d mc ms cells slots pc L st N G K := by
  intro p l e R s m args below meth c D sA cA Hb Q H locs ls C hnE r hc hs hl hw hS
  exact lv_iconst C.1 C.2.1 hd hv (k p l e R s m args below meth c D sA cA Hb Q H locs ls C hnE r hc hs hl hw hS)
theorem zo_bipush {n : Int} {v : Int32} (hd : decode y.2.1 pc = .ok (.bipush n, 2)) (hv : (Int8.ofInt n).toInt32 = v) (k : z_N y d mc ms cells slots (pc + 2) L (.int v :: st) N G K) : z_N y d mc ms cells slots pc L st N G K := by
  intro p l e R s m args below meth c D sA cA Hb Q H locs ls C hnE r hc hs hl hw hS
  exact lv_bipush C.1 C.2.1 hd hv (k p l e R s m args below meth c D sA cA Hb Q H locs ls C hnE r hc hs hl hw hS)
theorem zo_sipush {n : Int} {v : Int32} (hd : decode y.2.1 pc = .ok (.sipush n, 3)) (hv : (Int16.ofInt n).toInt32 = v) (k : z_N y d mc ms cells slots (pc + 3) L (.int v :: st) N G K) : z_N y d mc ms cells slots pc L st N G K := by
  intro p l e R s m args below meth c D sA cA Hb Q H locs ls C hnE r hc hs hl hw hS
  exact lv_sipush C.1 C.2.1 hd hv (k p l e R s m args below meth c D sA cA Hb Q H locs ls C hnE r hc hs hl hw hS)
theorem zo_lconst {n : Fin 2} {v : Int64} (hd : decode y.2.1 pc = .ok (.lconst n, 1)) (hv : Int64.ofNat (n : Nat) = v) (k : z_N y d mc ms cells slots (pc + 1) L (.long v :: st) N G K) : z_N y d mc ms cells slots pc L st N G K := by
  intro p l e R s m args below meth c D sA cA Hb Q H locs ls C hnE r hc hs hl hw hS
  exact lv_lconst C.1 C.2.1 hd hv (k p l e R s m args below meth c D sA cA Hb Q H locs ls C hnE r hc hs hl hw hS)
theorem zo_aload_n {j : Fin 4} {i : Nat} {x : Nat} (hd : decode y.2.1 pc = .ok (.aload_n j, 1)) (hi : (j : Nat) = i) (n : Nat) (hk : L[n]? = some (i, .ref x)) (k : z_N y d mc ms cells slots (pc + 1) L (.ref x :: st) N G K) : z_N y d mc ms cells slots pc L st N G K := by
  intro p l e R s m args below meth c D sA cA Hb Q H locs ls C hnE r hc hs hl hw hS
  exact lv_aload_n C.1 C.2.1 hd hi (z_at hl n hk) (k p l e R s m args below meth c D sA cA Hb Q H locs ls C hnE r hc hs hl hw hS)
theorem zo_iload_n {j : Fin 4} {i : Nat} {x : Int32} (hd : decode y.2.1 pc = .ok (.iload_n j, 1)) (hi : (j : Nat) = i) (n : Nat) (hk : L[n]? = some (i, .int x)) (k : z_N y d mc ms cells slots (pc + 1) L (.int x :: st) N G K) : z_N y d mc ms cells slots pc L st N G K := by
  intro p l e R s m args below meth c D sA cA Hb Q H locs ls C hnE r hc hs hl hw hS
  exact lv_iload_n C.1 C.2.1 hd hi (z_at hl n hk) (k p l e R s m args below meth c D sA cA Hb Q H locs ls C hnE r hc hs hl hw hS)
theorem zo_istore_n {j : Fin 4} {i : Nat} {x : Int32} {L2 : List (Nat × Value)} (hd : decode y.2.1 pc = .ok (.istore_n j, 1)) (hi : (j : Nat) = i) (hn : i < y.2.2.1) (hL : z_st1 i (.int x) L = L2) (k : z_N y d mc ms cells slots (pc + 1) L2 st N G K) : z_N y d mc ms cells slots pc L (.int x :: st) N G K := by
  intro p l e R s m args below meth c D sA cA Hb Q H locs ls C hnE r hc hs hl hw hS
  subst hL
  exact lv_istore_n C.1 C.2.1 hd hi hl hn (z_L_st1 (v := .int x)) (fun ls hl => k p l e R s m args below meth c D sA cA Hb Q H locs ls C hnE r hc hs hl hw hS)
theorem zo_iinc {i n : Nat} {a : Int} {x v : Int32} {L2 : List (Nat × Value)} (hd : decode y.2.1 pc = .ok (.iinc i a, 3)) (hk : L[n]? = some (i, .int x)) (hv : x + Int32.ofInt a = v) (hn : i < y.2.2.1) (hL : z_st1 i (.int v) L = L2) (k : z_N y d mc ms cells slots (pc + 3) L2 st N G K) : z_N y d mc ms cells slots pc L st N G K := by
  intro p l e R s m args below meth c D sA cA Hb Q H locs ls C hnE r hc hs hl hw hS
  subst hL
  exact lv_iinc (v := v) C.1 C.2.1 hd hl (k := n) (by simp [z_L, hk, z_v]) hv hn (z_L_st1 (v := .int v)) (fun ls hl => k p l e R s m args below meth c D sA cA Hb Q H locs ls C hnE r hc hs hl hw hS)
theorem zo_goto {off : Int} {tgt : Nat} (hd : decode y.2.1 pc = .ok (.goto off, 3)) (ht : (pc : Int) + off = (tgt : Int)) (k : z_N y d mc ms cells slots tgt L st N G K) : z_N y d mc ms cells slots pc L st N G K := by
  intro p l e R s m args below meth c D sA cA Hb Q H locs ls C hnE r hc hs hl hw hS
  exact lv_goto C.1 C.2.1 hd ht (k p l e R s m args below meth c D sA cA Hb Q H locs ls C hnE r hc hs hl hw hS)
theorem zo_icmp_ge {x z : Int32} {off : Int} {tgt : Nat} (hd : decode y.2.1 pc = .ok (.if_icmp .ge off, 3)) (ht : (pc : Int) + off = (tgt : Int)) (kt : z ≤ x → z_N y d mc ms cells slots tgt L st N G K) (kf : ¬ (z ≤ x) → z_N y d mc ms cells slots (pc + 3) L st N G K) : z_N y d mc ms cells slots pc L (.int z :: .int x :: st) N G K := by
  intro p l e R s m args below meth c D sA cA Hb Q H locs ls C hnE r hc hs hl hw hS
  exact lv_icmp_ge C.1 C.2.1 hd ht (fun h => kt h p l e R s m args below meth c D sA cA Hb Q H locs ls C hnE r hc hs hl hw hS) (fun h => kf h p l e R s m args below meth c D sA cA Hb Q H locs ls C hnE r hc hs hl hw hS)
theorem zo_dup {v : Value} (hd : decode y.2.1 pc = .ok (.dup, 1)) (hv : v.category = 1) (k : z_N y d mc ms cells slots (pc + 1) L (v :: v :: st) N G K) : z_N y d mc ms cells slots pc L (v :: st) N G K := by
  intro p l e R s m args below meth c D sA cA Hb Q H locs ls C hnE r hc hs hl hw hS
  exact lv_dup C.1 C.2.1 hd ((z_cat _ _ v).trans hv) (k p l e R s m args below meth c D sA cA Hb Q H locs ls C hnE r hc hs hl hw hS)
theorem zo_get {b ci i index : Nat} {fin : Bool} {ty : FieldType} {fs : List Value} {v : Value} (hd : decode y.2.1 pc = .ok (.getfield index, 3)) (hf : z_fld y.1.cls index ci i fin ty) (hb : b < N) (hG : G b = .inr (ci, fs)) (hv : fs[i]? = some v) (k : z_N y d mc ms cells slots (pc + 3) L (v :: st) N G K) : z_N y d mc ms cells slots pc L (.ref b :: st) N G K := by
  intro p l e R s m args below meth c D sA cA Hb Q H locs ls C hnE r hc hs hl hw hS
  obtain ⟨Cn, T, n, ty0, h1, h2, h3, h4, h5, h6, h7, h8, h9⟩ := hf
  exact va_get (D := D) (ci := ci) C.1 C.2.1 C.2.2.2.2.2.2.1 h2 C.2.2.2.2.2.1 C.2.2.2.2.2.2.2.1.1 hw.1 b (fs := fs.map (z_v Hb.size sA)) (by rw [z_wl_at hb, hG]; rfl) h1 i h5 (C.2.2.2.2.2.2.1 _ h6) (fun _ h => h) (by rw [List.getElem?_map, hv]; rfl) hd (k p l e R s m args below meth c D sA cA Hb Q H locs ls C hnE r hc hs hl hw hS)
theorem zo_put {b ci i index : Nat} {ty : FieldType} {fs : List Value} {v : Value} (hd : decode y.2.1 pc = .ok (.putfield index, 3)) (hf : z_fld y.1.cls index ci i false ty) (hb : b < N) (hG : G b = .inr (ci, fs)) (hi : i < fs.length) (hn : ∀ B sA, narrow ty (z_v B sA v) = z_v B sA v ∧ fits ty (z_v B sA v) = true) (k : z_N y d mc ms cells slots (pc + 3) L st N (z_up G b (.inr (ci, fs.set i v))) K) : z_N y d mc ms cells slots pc L (v :: .ref b :: st) N G K := by
  intro p l e R s m args below meth c D sA cA Hb Q H locs ls C hnE r hc hs hl hw hS
  obtain ⟨Cn, T, n, ty0, h1, h2, h3, h4, h5, h6, h7, h8, h9⟩ := hf
  refine va_put (D := D) (ci := ci) C.1 C.2.1 C.2.2.2.2.2.2.1 h2 ty0 h3 h4 C.2.2.2.2.2.1 C.2.2.2.2.2.2.2.1.1 hw.1 z_D hS b (fs := fs.map (z_v Hb.size sA)) (by rw [z_wl_at hb, hG]; rfl) h1 i h5 (C.2.2.2.2.2.2.1 _ h6) (fun _ h => h) h7 h8 (hn _ _).1 (hn _ _).2 (by simpa using hi) hd (fun H1 locs1 hP1 _ hS1 => ?_)
  have e1 : (fs.map (z_v Hb.size sA)).set i (z_v Hb.size sA v) = (fs.set i v).map (z_v Hb.size sA) := by rw [List.map_set]
  rw [e1] at hP1
  exact k p l e R s m args below meth c D sA cA Hb Q H1 locs1 ls C hnE r hc hs hl (hw.to (x := .inr (ci, fs.set i v)) C.2.2.2.2.2.2.2.2.1 hb hP1 hS1 hS) hS1
theorem zo_putF {b ci i index : Nat} {ty : FieldType} {fs : List Value} {v : Value} (hd : decode y.2.1 pc = .ok (.putfield index, 3)) (hf : z_fld y.1.cls index ci i true ty) (hnm : y.1.name = "<init>") (hcl : (vwCl[ci]?).map (fun q => q.1) = some y.1.cls) (hb : b < N) (hG : G b = .inr (ci, fs)) (hi : i < fs.length) (hn : ∀ B sA, narrow ty (z_v B sA v) = z_v B sA v ∧ fits ty (z_v B sA v) = true) (k : z_N y d mc ms cells slots (pc + 3) L st N (z_up G b (.inr (ci, fs.set i v))) K) : z_N y d mc ms cells slots pc L (v :: .ref b :: st) N G K := by
  intro p l e R s m args below meth c D sA cA Hb Q H locs ls C hnE r hc hs hl hw hS
  obtain ⟨Cn, T, n, ty0, h1, h2, h3, h4, h5, h6, h7, h8, h9⟩ := hf
  have hcn : Cn = y.1.cls := by rw [h1] at hcl; exact Option.some.inj hcl
  refine va_putF (D := D) (ci := ci) C.1 C.2.1 C.2.2.2.2.2.2.1 h2 ty0 h3 h4 C.2.2.2.2.2.1 C.2.2.2.2.2.2.2.1.1 hw.1 z_D hS b (fs := fs.map (z_v Hb.size sA)) (by rw [z_wl_at hb, hG]; rfl) h1 i h5 (C.2.2.2.2.2.2.1 _ h6) (fun _ h => h) h7 (C.2.2.2.2.2.2.2.2.2.2.2.trans hnm) (h9.trans hcn) h8 (hn _ _).1 (hn _ _).2 (by simpa using hi) hd (fun H1 locs1 hP1 _ hS1 => ?_)
  have e1 : (fs.map (z_v Hb.size sA)).set i (z_v Hb.size sA v) = (fs.set i v).map (z_v Hb.size sA) := by rw [List.map_set]
  rw [e1] at hP1
  exact k p l e R s m args below meth c D sA cA Hb Q H1 locs1 ls C hnE r hc hs hl (hw.to (x := .inr (ci, fs.set i v)) C.2.2.2.2.2.2.2.2.1 hb hP1 hS1 hS) hS1
theorem zo_alen {a n t : Nat} {f : _} {ty : FieldType} {v : Int32} (hd : decode y.2.1 pc = .ok (.arraylength, 1)) (ha : a < N) (hG : G a = .inl (t, n, f)) (ht : ∀ cA : Nat → ClassId, (z_tys cA)[t]? = some (cA t, ty)) (hv : Int32.ofNat n = v) (k : z_N y d mc ms cells slots (pc + 1) L (.int v :: st) N G K) : z_N y d mc ms cells slots pc L (.ref a :: st) N G K := by
  intro p l e R s m args below meth c D sA cA Hb Q H locs ls C hnE r hc hs hl hw hS
  exact va_alen (D := D) C.1 C.2.1 C.2.2.2.2.2.2.2.1.1 hw.1 a t (by rw [z_wl_at ha, hG]; rfl) (ht cA) hv hd (k p l e R s m args below meth c D sA cA Hb Q H locs ls C hnE r hc hs hl hw hS)
theorem zo_iast {a n : Nat} {f : Nat → Int32} {j : Int32} {x : Int32} (hd : decode y.2.1 pc = .ok (.iastore, 1)) (ha : a < N) (hG : G a = .inl (0, n, .inl f)) (hj : vp_in j n) (k : z_N y d mc ms cells slots (pc + 1) L st N (z_up G a (.inl (0, n, .inl (upd f j.toNatClampNeg x)))) K) : z_N y d mc ms cells slots pc L (.int x :: .int j :: .ref a :: st) N G K := by
  intro p l e R s m args below meth c D sA cA Hb Q H locs ls C hnE r hc hs hl hw hS
  exact va_iast (D := D) C.1 C.2.1 C.2.2.2.2.2.2.2.1.1 hw.1 z_D hS a 0 (n := n) (f := f) (by rw [z_wl_at ha, hG]; rfl) (by rfl) hj hd (fun H1 locs1 hP1 _ hS1 => k p l e R s m args below meth c D sA cA Hb Q H1 locs1 ls C hnE r hc hs hl (hw.to (x := .inl (0, n, .inl (upd f j.toNatClampNeg x))) C.2.2.2.2.2.2.2.2.1 ha hP1 hS1 hS) hS1)
theorem zo_ret {v : Option Value} (hk : K v N G) (ho : z_ok y v) (hr : z_rt y pc v) : z_N y d mc ms mc ms pc L v.toList N G K := by
  intro p l e R s m args below meth c D sA cA Hb Q H locs ls C hnE r hc hs hl hw hS
  exact r v N G H locs pc ls hk ho hr hw hS
theorem z_N.post {K2 : z_K} (h : z_N y d mc ms cells slots pc L st N G K) (hk : ∀ v N' G', K v N' G' → z_ok y v → K2 v N' G') : z_N y d mc ms cells slots pc L st N G K2 := by
  intro p l e R s m args below meth c D sA cA Hb Q H locs ls C hnE r hc hs hl hw hS
  exact h p l e R s m args below meth c D sA cA Hb Q H locs ls C hnE (fun v N' G' H locs pc ls k1 k2 => r v N' G' H locs pc ls (hk v N' G' k1 k2) k2) hc hs hl hw hS
/-- an object more -/
theorem z_Wd.new {D : va_G} {sA : Nat → Nat} {cA : Nat → ClassId} {Hb H H1 : Heap} {x : va_E} (h : z_Wd D sA cA Hb N G H) (hsz : H.size = Hb.size + N) (hat : va_at D vwCl (Hb.size + N, z_e Hb.size sA cA x) H1) (z1 : H1.size = H.size + 1) (o1 : ∀ q : Nat, q < H.size → H1[q]? = H[q]?) : z_Wd D sA cA Hb (N + 1) (z_up G N x) H1 := by
  have e : z_wl Hb.size sA cA (N + 1) (z_up G N x) = z_wl Hb.size sA cA N G ++ [(Hb.size + N, z_e Hb.size sA cA x)] := by
    unfold z_wl
    rw [List.range_succ, List.map_append]
    congr 1
    · refine List.map_congr_left (fun i hi => ?_)
      have := List.mem_range.mp hi
      rw [z_up_n _ _ (by omega)]
    · simp [z_up_s]
  refine ⟨?_, by omega, fun q hq => ?_⟩
  · rw [e]
    refine (h.1.kept (fun k x hx => o1 _ ((h.1 k x hx).lt))).app (fun k x hx => ?_)
    have hz : k < 1 := (List.getElem?_eq_some_iff.mp hx).1
    rw [show k = 0 by omega] at hx
    cases hx
    exact hat
  · rw [o1 q (by omega)]; exact h.2.2 q hq
theorem va_S.new {A : Nat → Prop} {H0 H H1 : Heap} {locs : List Loc} (hS : va_S A H0 H locs) (z1 : H1.size = H.size + 1) (o1 : ∀ q : Nat, q < H.size → H1[q]? = H[q]?) : va_S A H0 H1 locs :=
  ⟨Nat.le_trans hS.1 (by omega), fun x h1 h2 => (o1 x (Nat.lt_of_lt_of_le h1 hS.1)).trans (hS.2.1 x h1 h2), hS.2.2⟩
theorem zo_newa {atype : ArrayType} {t : Nat} {x : Int32} {a0 : vp_A} (hd : decode y.2.1 pc = .ok (.newarray atype, 2)) (harr : Cond.arrayClass (newarray.typeOf atype) ∈ z_good) (ht : ∀ cA : Nat → ClassId, (z_tys cA)[t]? = some (cA t, newarray.typeOf atype)) (ha : ∀ q : ClassId, vp_cell q a0 = arrV q n (fun _ => defaultValue (newarray.typeOf atype))) (hz : ∀ B, z_a B a0.2 = a0.2) (hx : ¬ x < 0) (hn0 : x.toNatClampNeg = n) (hby : n * componentBytes (newarray.typeOf atype) ≤ 536870912) (hcc : cells + 1 ≤ mc) (hss : slots + n ≤ ms) (k : z_N y d mc ms (cells + 1) (slots + n) (pc + 2) L (.ref N :: st) (N + 1) (z_up G N (.inl (t, a0))) K) : z_N y d mc ms cells slots pc L (.int x :: st) N G K := by
  intro p l e R s m args below meth c D sA cA Hb Q H locs ls C hnE r hc hs hl hw hS
  refine W_size hnE hw.2.1 (fun hsz => ?_)
  refine va_newaK C.1 C.2.1 (C.2.2.2.2.2.2.1 _ harr) rfl hd rfl hx hn0 hby (Nat.le_trans hcc hc) (Nat.le_trans hss hs) hsz (fun H1 cA' e1 z1 o1 hAr hNm => ?_)
  have hcA : cA' = cA t := by
    have q := (C.2.2.2.2.2.2.2.1.1.2 t _ (ht cA)).2
    cases atype <;> exact Option.some.inj (hNm.symm.trans q)
  subst hcA
  have z1 : H1.size = H.size + 1 := by omega
  have o1 : ∀ q : Nat, q < H.size → H1[q]? = H[q]? := fun q hq => o1 q (by omega)
  refine k p l e R s m args below meth c D sA cA Hb Q H1 locs ls C (by omega) r hc hs hl (hw.new hsz ?_ z1 o1) (hS.new z1 o1)
  show H1[Hb.size + N]? = some (vp_cell (cA t) (a0.1, z_a Hb.size a0.2))
  rw [hz]
  show _ = some (vp_cell (cA t) a0)
  rw [ha]
  exact e1
theorem zo_new {C0 : String} {T0 : u_T} {Nf : Nat} {fs : List Value} (hd : decode y.2.1 pc = .ok (.new index, 3)) (hcl : Cond.classLink y.1.cls index C0 ∈ z_good) (hins : Cond.instantiable C0 Nf ∈ z_good) (hini : Cond.initialized C0 ∈ z_good) (hv : vwCl[ci]? = some (C0, T0, Nf)) (hin : ∀ w ∈ u_ws C0 T0 Nf, w ∈ z_good) (ty : Nat → FieldType) (hty : ∀ k, k < Nf → parseFieldDescriptor (T0 k).2.2.1 = some (ty k)) (hfs : ∀ j, j < Nf → defaultValue (ty j) = vp_V fs j) (hz : ∀ B sA, fs.map (z_v B sA) = fs) (hcc : cells + 1 ≤ mc) (hss : slots + Nf ≤ ms) (k : z_N y d mc ms (cells + 1) (slots + Nf) (pc + 3) L (.ref N :: st) (N + 1) (z_up G N (.inr (ci, fs))) K) : z_N y d mc ms cells slots pc L st N G K := by
  intro p l e R s m args below meth c D sA cA Hb Q H locs ls C hnE r hc hs hl hw hS
  refine W_size hnE hw.2.1 (fun hsz => ?_)
  have hKn := C.2.2.2.2.2.2.2.1.1.1 ci _ hv
  refine W.newcK C.1 C.2.1 C.2.2.2.2.2.1 (C.2.2.2.2.2.2.1 _ hcl) (C.2.2.2.2.2.2.1 _ hins) (C.2.2.2.2.2.2.1 _ hini) rfl hd (Nat.le_trans hcc hc) (Nat.le_trans hss hs) hKn.2.1 hsz (fun H1 kC hkC e1 z1 o1 => ?_)
  have z1 : H1.size = H.size + 1 := by omega
  have o1 : ∀ q : Nat, q < H.size → H1[q]? = H[q]? := fun q hq => o1 q (by omega)
  refine k p l e R s m args below meth c D sA cA Hb Q H1 locs ls C (by omega) r hc hs hl (hw.new hsz ?_ z1 o1) (hS.new z1 o1)
  refine ⟨_, hv, ?_⟩
  show t_OB _ _ _ _ _ (vp_V (fs.map (z_v Hb.size sA)))
  rw [hz]
  exact (u_born ty (fun w hw => C.2.2.2.2.2.2.1 w (hin w hw)) (fun w hw => hw) hKn hkC e1 hty).to hfs
theorem z_ao {p : Program} {l : Launch} {R : Room} {s : State} {m : MethodId} {args : Array Value} {meth : Method} {c : Code} {D : va_G} {sA : Nat → Nat} {cA : Nat → ClassId} {Hb : Heap} (C : z_Cx y d p l R s m args meth c D sA cA Hb) {E : String} (hw : Cond.arrayOver (.object E) ∈ lw_tbl) : va_AO E s := by
  obtain ⟨hZ, U0, u1, u2, b, h1, h2, h3, h4, h5⟩ := C.2.2.2.2.2.2.2.1.2.2.2
  exact va_AO.moved u2.alike (va_AO.of (h1 _ hw))
theorem zo_anew {E : String} {t : Nat} {x : Int32} (hd : decode y.2.1 pc = .ok (.anewarray index, 3)) (hcl : Cond.classLink y.1.cls index E ∈ z_good) (hao : Cond.arrayOver (.object E) ∈ lw_tbl) (ht : ∀ cA : Nat → ClassId, (z_tys cA)[t]? = some (cA t, .object E)) (hx : ¬ x < 0) (hn0 : x.toNatClampNeg = n) (hby : n * 4 ≤ 536870912) (hcc : cells + 1 ≤ mc) (hss : slots + n ≤ ms) (k : z_N y d mc ms (cells + 1) (slots + n) (pc + 3) L (.ref N :: st) (N + 1) (z_up G N (.inl (t, n, .inr (.inr (.inr (.inr (fun _ => none))))))) K) : z_N y d mc ms cells slots pc L (.int x :: st) N G K := by
  intro p l e R s m args below meth c D sA cA Hb Q H locs ls C hnE r hc hs hl hw hS
  refine W_size hnE hw.2.1 (fun hsz => ?_)
  subst hn0
  refine W.anew C.1 C.2.1 C.2.2.2.2.2.1 (C.2.2.2.2.2.2.1 _ hcl) (va_AO.use (z_ao C hao)) rfl hd rfl hx hby (Nat.le_trans hcc hc) (Nat.le_trans hss hs) (fun cA' kA comp f1 f2 f3 f4 => ?_)
  have hcA : cA' = cA t := by
    obtain ⟨kA, comp, q1, q2, q3, q4⟩ := (C.2.2.2.2.2.2.2.1.1.2 t _ (ht cA)).2
    exact Option.some.inj (f1.symm.trans q4)
  subst hcA
  generalize hH1 : H.push ({ cls := cA t, slots := Array.replicate x.toNatClampNeg .null, vm := .none } : Cell) = H1
  have z1 : H1.size = H.size + 1 := by rw [← hH1, Array.size_push]
  have e1 : H1[H.size]? = some (arrV (cA t) x.toNatClampNeg (fun _ => .null)) := by rw [← hH1, Array.getElem?_push_size, ← arrV_new]
  have o1 : ∀ q : Nat, q < H.size → H1[q]? = H[q]? := fun q hq => by rw [← hH1, Array.getElem?_push, if_neg (Nat.ne_of_lt hq)]
  have := k p l e R s m args below meth c D sA cA Hb Q H1 locs ls C (by omega) r hc hs hl (hw.new hsz (by
    show H1[Hb.size + N]? = some (vp_cell (cA t) (x.toNatClampNeg, .inr (.inr (.inr (.inr (fun _ => none))))))
    rw [← hsz, vp_cell_q]
    exact e1) z1 o1) (hS.new z1 o1)
  rw [hsz]
  exact this
theorem zo_aast {a o t : Nat} {r0 : vw_C} {vs : List Value} {f : Nat → Option Nat} {i : Int32} (hd : decode y.2.1 pc = .ok (.aastore, 1)) (ha : a < N) (hG : G a = .inl (t, n, .inr (.inr (.inr (.inr f))))) (ho : o < N) (hO : G o = .inr (ci, vs)) (hv : vwCl[ci]? = some r0) (ht : ∀ cA : Nat → ClassId, (z_tys cA)[t]? = some (cA t, .object r0.1)) (hi : vp_in i n) (k : z_N y d mc ms cells slots (pc + 1) L st N (z_up G a (.inl (t, n, .inr (.inr (.inr (.inr (z_up f i.toNatClampNeg (some o)))))))) K) : z_N y d mc ms cells slots pc L (.ref o :: .int i :: .ref a :: st) N G K := by
  intro p l e R s m args below meth c D sA cA Hb Q H locs ls C hnE r hc hs hl hw hS
  refine va_astq C.1 C.2.1 C.2.2.2.2.2.2.2.1.1 hw.1 z_D hS a t o ci (f := fun j => (f j).map (fun i => Hb.size + i)) (vs := vs.map (z_v Hb.size sA)) (by rw [z_wl_at ha, hG]; rfl) (ht cA) (by rw [z_wl_at ho, hO]; rfl) hv hi hd (fun H1 locs1 hP1 _ hS1 => ?_)
  have eu : va_up (fun j => (f j).map (fun i => Hb.size + i)) i.toNatClampNeg (some (Hb.size + o)) = fun j => (z_up f i.toNatClampNeg (some o) j).map (fun i => Hb.size + i) := by
    funext j
    by_cases hj : j = i.toNatClampNeg
    · subst hj; simp [va_up, z_up]
    · simp [va_up, z_up, hj]
  rw [eu] at hP1
  exact k p l e R s m args below meth c D sA cA Hb Q H1 locs1 ls C hnE r hc hs hl (hw.to (x := .inl (t, n, .inr (.inr (.inr (.inr (z_up f i.toNatClampNeg (some o))))))) C.2.2.2.2.2.2.2.2.1 ha hP1 hS1 hS) hS1
theorem zo_objInit {b : Nat} (hd : decode y.2.1 pc = .ok (.invokespecial index, 3)) (hlk : Cond.methodLink y.1.cls index Lib.objectInit ∈ z_good) (h1 : Cond.instanceMethod Lib.objectInit ∈ z_good) (h2 : Cond.code Lib.objectInit ⟨#[0xb1]⟩ 1 none ∈ z_good) (hst : (st.map fun v => v.category).sum ≤ 8) (k : z_N y (d + 1) mc ms cells slots (pc + 3) L st N G K) : z_N y (d + 1) mc ms cells slots pc L (.ref b :: st) N G K := by
  intro p l e R s m args below meth c D sA cA Hb Q H locs ls C hnE r hc hs hl hw hS
  have hcat : ((st.map (z_v Hb.size sA)).map fun v => v.category).sum ≤ 8 := by
    rw [List.map_map, show ((fun v => v.category) ∘ z_v Hb.size sA) = (fun v => v.category) from funext fun v => z_cat _ _ v]; exact hst
  have f1 := C.2.2.2.2.2.2.2.2.2.1
  have f2 := C.2.2.2.2.2.2.2.2.2.2.1
  refine W.objInit C.1 C.2.1 C.2.2.2.2.2.1 (C.2.2.2.2.2.2.1 _ hlk) (C.2.2.2.2.2.2.1 _ h1) (C.2.2.2.2.2.2.1 _ h2) rfl (hl.1.trans C.2.2.2.1.symm) rfl hd (by omega) ?_ (k p l e R s m args below meth c D sA cA Hb Q H locs ls C hnE r hc hs hl hw hS)
  show 0 + ((st.map (z_v Hb.size sA)).map fun v => v.category).sum + 12 ≤ R.locals
  omega
/-- contracts -/
def z_PcN (D : va_G) (sA : Nat → Nat) (cA : Nat → ClassId) (Hb : Heap) (N : Nat) (G : Nat → va_E) (As : List Value) : Array Value → State → Prop :=
  va_Pc (As.map (z_v Hb.size sA)) (fun U => (z_Wd D sA cA Hb N G U.heap ∧ z_En D sA cA Hb U ∧ Hb.size ≤ U.heap.size) ∧ U.heap.size ≤ Hb.size + N)
theorem z_blindN {D : va_G} {sA : Nat → Nat} {cA : Nat → ClassId} {Hb : Heap} : FrameBlind (z_PcN D sA cA Hb N G As) := by
  intro a U g mk h
  obtain ⟨h1, ⟨h2, h3, h4⟩, h5⟩ := h
  exact ⟨h1, ⟨h2, h3.same rfl, h4⟩, h5⟩
theorem z_MetN {l : Launch} {y : z_MD} {d mc ms N : Nat} {G : Nat → va_E} {K : z_K} {As : List Value} {D : va_G} {sA : Nat → Nat} {cA : Nat → ClassId} {Hb : Heap} (hfl : l.stackTraces = false) (hy : plainName y.1.cls = true) (hsl : (lg_sl As).length ≤ y.2.2.1) (hV : z_N y d mc ms 0 0 0 (lv_args 0 As) [] N G K) : Met l y.1 (z_ws y) (z_rm d mc ms) (z_PcN D sA cA Hb N G As) (z_Qc y D sA cA Hb K) mc ms (z_A Hb.size) := by
  refine Met.ofW (cc := y.2.1) (maxL := y.2.2.1) (ret := y.2.2.2) hy rfl ?_
  intro p e s m args below meth c s₁ B hml hv
  obtain ⟨rfl, ⟨hw, hE, hsz⟩, hnn⟩ := hv
  have hts := atoms_spec (ws := z_ws y) B.pre
  have hl := lv_entry (As.map (z_v Hb.size sA)) (n := y.2.2.1) (by rw [z_slen]; exact hsl)
  rw [lg_entry_eq]
  generalize (lg_sl (As.map (z_v Hb.size sA)) ++ List.replicate (y.2.2.1 - (lg_sl (As.map (z_v Hb.size sA))).length) Slot.unset).toArray = ls at hl ⊢
  rw [z_args] at hl
  refine hV p l e _ s m _ below meth c D sA cA Hb _ s.heap [] ls ⟨B.exec, B.bytes, B.returns, hml, ⟨B.notSynchronized, hfl⟩, findClass_of_methodNamed B.named, fun w hw => hts w (List.mem_cons_of_mem _ hw), hE, hsz, Nat.le_refl _, Nat.le_refl _, (name_of_methodNamed B.named B.method).1⟩ (Nat.add_zero _ ▸ hnn) ?_ (Nat.le_refl _) (Nat.le_refl _) hl hw va_S.rf
  intro v N' G' H locs pc ls hk ho hr hw hS
  have fin : ∀ (v' : Option Value), v'.map (z_v Hb.size sA) = v' → K v' N' G' → z_ok y v' → ∀ t : State, t.heap = H → s.WarmedH t.vm → z_Qc y D sA cA Hb K (As.map (z_v Hb.size sA)).toArray s (.returned v') t := fun v' e1 hk ho t ht hW => ⟨v', N', G', by rw [e1], hk, ho, by rw [ht]; exact hw, hS.F ht⟩
  match v, hk, ho, hr with
  | none, hk, ho, hr => exact W.vret B.exec B.bytes (B.returns.trans ho) (fin none rfl hk ho) hS.2.2 hr B.notSynchronized
  | some (.int x), hk, ho, hr =>
    obtain ⟨ty, h1, h2⟩ := id ho
    exact W.zret B.exec B.bytes (B.returns.trans h1) h2 (fin (some (.int x)) rfl hk ho) hS.2.2 hr B.notSynchronized
  | some (.long x), hk, ho, hr => exact W.lret B.exec B.bytes (B.returns.trans ho) (fin (some (.long x)) rfl hk ho) hS.2.2 hr B.notSynchronized
theorem zo_callI (hd : decode y.2.1 pc = .ok (.invokespecial index, 3)) (hy : z_mth y2 n) (hlk : Cond.methodLink y.1.cls index y2.1 ∈ z_good) (hnm : y2.1.name = "<init>") (hrt : y2.2.2.2 = none) (hsel : Cond.instanceMethod y2.1 ∈ z_good) (hA : As.length = n) (hsl : (lg_sl (.ref b :: As)).length ≤ y2.2.2.1) (hst : (st.map fun v => v.category).sum ≤ 8) (hcc : cells + mc2 ≤ mc) (hss : slots + ms2 ≤ ms) (k : z_N y2 d mc2 ms2 0 0 0 (lv_args 0 (.ref b :: As)) [] N G (fun v N' G' => N' = N + mc2 ∧ z_N y (d + 1) mc ms (cells + mc2) (slots + ms2) (pc + 3) L (v.toList ++ st) N' G' K)) : z_N y (d + 1) mc ms cells slots pc L (As.reverse ++ .ref b :: st) N G K := by
  intro p l e R s m args below meth c D sA cA Hb Q H locs ls C hnE r hc hs hl hw hS
  refine W_size hnE hw.2.1 (fun hz => ?_)
  have hcB := (z_callB C.2.2.2.2.2.2.1 hy hlk C.2.2.2.2.2.2.2.2.2.1 C.2.2.2.2.2.2.2.2.2.2.1  : CallB R s args y.1.cls index y2.1 y2.2.1 y2.2.2.1 y2.2.2.2 (z_ws y2) (z_rm d mc2 ms2) mc2 ms2 n)
  rw [hrt] at hcB
  have hM := z_MetN (l := l) (D := D) (sA := sA) (cA := cA) (Hb := Hb) C.2.2.2.2.1.2 hy.2.2.1 hsl k
  refine z_run (va_runI (As := As.map (z_v Hb.size sA)) (rest := st.map (z_v Hb.size sA)) ⟨C.1, C.2.1, C.2.2.2.1, C.2.2.2.2.2.1, C.2.2.2.2.2.2.1⟩ hM ⟨hcB, hnm, C.2.2.2.2.2.2.1 _ hsel⟩ ⟨z_blindN, fun U hU hW => ⟨rfl, ⟨by rw [hU]; exact hw, C.2.2.2.2.2.2.2.1.warm hW, by rw [hU]; exact Nat.le_trans C.2.2.2.2.2.2.2.2.1 hS.1⟩, by rw [hU]; omega⟩⟩ rfl (by rw [List.length_map]; exact hA) hl.1 (by rw [List.map_append, List.map_reverse]; rfl) (z_stk hst) hd ⟨Nat.le_trans hcc hc, Nat.le_trans hss hs⟩) hS (fun v N' G' H1 locs1 hk ho hw hS => by
    have h := hk.2 p l e R s m args below meth c D sA cA Hb Q H1 locs1 ls C (by have := hk.1; omega) r hc hs hl hw hS
    rw [List.map_append, show v.toList.map (z_v Hb.size sA) = v.toList by rw [← Option.toList_map, z_v_ok ho]] at h
    exact h)
theorem zo_callIN {host : String} (hd : decode y.2.1 pc = .ok (.invokespecial index, 3)) (hy : z_mth y2 n) (hlk : (y.1.cls, index, y2.1, host) ∈ z_nest) (hnm : y2.1.name = "<init>") (hrt : y2.2.2.2 = none) (hsel : Cond.instanceMethod y2.1 ∈ z_good) (hA : As.length = n) (hsl : (lg_sl (.ref b :: As)).length ≤ y2.2.2.1) (hst : (st.map fun v => v.category).sum ≤ 8) (hcc : cells + mc2 ≤ mc) (hss : slots + ms2 ≤ ms) (k : z_N y2 d mc2 ms2 0 0 0 (lv_args 0 (.ref b :: As)) [] N G (fun v N' G' => N' = N + mc2 ∧ z_N y (d + 1) mc ms (cells + mc2) (slots + ms2) (pc + 3) L (v.toList ++ st) N' G' K)) : z_N y (d + 1) mc ms cells slots pc L (As.reverse ++ .ref b :: st) N G K := by
  intro p l e R s m args below meth c D sA cA Hb Q H locs ls C hnE r hc hs hl hw hS
  refine W_size hnE hw.2.1 (fun hz => ?_)
  have hcB := (z_callN C.2.2.2.2.2.2.1 hy (C.2.2.2.2.2.2.2.1.2.1 _ hlk) C.2.2.2.2.2.2.2.2.2.1 C.2.2.2.2.2.2.2.2.2.2.1  : va_CN R s args y.1.cls index y2.1 host y2.2.1 y2.2.2.1 y2.2.2.2 (z_ws y2) (z_rm d mc2 ms2) mc2 ms2 n)
  rw [hrt] at hcB
  have hM := z_MetN (l := l) (D := D) (sA := sA) (cA := cA) (Hb := Hb) C.2.2.2.2.1.2 hy.2.2.1 hsl k
  refine z_run (va_runIN (As := As.map (z_v Hb.size sA)) (rest := st.map (z_v Hb.size sA)) ⟨C.1, C.2.1, C.2.2.2.1, C.2.2.2.2.2.1, C.2.2.2.2.2.2.1⟩ hM ⟨hcB, hnm, C.2.2.2.2.2.2.1 _ hsel⟩ ⟨z_blindN, fun U hU hW => ⟨rfl, ⟨by rw [hU]; exact hw, C.2.2.2.2.2.2.2.1.warm hW, by rw [hU]; exact Nat.le_trans C.2.2.2.2.2.2.2.2.1 hS.1⟩, by rw [hU]; omega⟩⟩ rfl (by rw [List.length_map]; exact hA) hl.1 (by rw [List.map_append, List.map_reverse]; rfl) (z_stk hst) hd ⟨Nat.le_trans hcc hc, Nat.le_trans hss hs⟩) hS (fun v N' G' H1 locs1 hk ho hw hS => by
    have h := hk.2 p l e R s m args below meth c D sA cA Hb Q H1 locs1 ls C (by have := hk.1; omega) r hc hs hl hw hS
    rw [List.map_append, show v.toList.map (z_v Hb.size sA) = v.toList by rw [← Option.toList_map, z_v_ok ho]] at h
    exact h)
end
