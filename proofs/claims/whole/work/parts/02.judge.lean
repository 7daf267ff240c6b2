-- ===== the layer of objects by numbers: z_V (a method at a place, abstract locals, stack and memory), and a row an instruction =====
def z_good : List Cond := lw_tbl.filter goodWord
theorem z_in {w : Cond} (i : Nat) (h : lw_tbl[i]? = some w) (hg : goodWord w = true) : w ∈ z_good := List.mem_filter.mpr ⟨List.mem_of_getElem? h, hg⟩
theorem z_gw {w : Cond} (h : w ∈ z_good) : goodWord w = true := (List.mem_filter.mp h).2
theorem z_tb {w : Cond} (h : w ∈ z_good) : w ∈ lw_tbl := (List.mem_filter.mp h).1
/-- a method: its name, code, locals, what it returns -/
abbrev z_MD : Type := MethodName × ByteArray × Nat × Option FieldType
def z_ws (y : z_MD) : List Cond := Cond.code y.1 y.2.1 y.2.2.1 y.2.2.2 :: z_good
/-- what a number of an object means: the objects of the world are at B, B + 1 ..; retAddr k stands for an object of the launch (a text) -/
def z_v (B : Nat) (sA : Nat → Nat) : Value → Value
  | .ref i => .ref (B + i)
  | .retAddr k => .ref (sA k)
  | v => v
def z_a (B : Nat) : ((Nat → Int32) ⊕ (Nat → Int64) ⊕ (Nat → UInt32) ⊕ (Nat → UInt64) ⊕ (Nat → Option Nat)) → ((Nat → Int32) ⊕ (Nat → Int64) ⊕ (Nat → UInt32) ⊕ (Nat → UInt64) ⊕ (Nat → Option Nat))
  | .inr (.inr (.inr (.inr f))) => .inr (.inr (.inr (.inr (fun j => (f j).map (fun i => B + i)))))
  | a => a
def z_e (B : Nat) (sA : Nat → Nat) (cA : Nat → ClassId) : va_E → va_E
  | .inl (k, n, a) => .inl (cA k, n, z_a B a)
  | .inr (ci, fs) => .inr (ci, fs.map (z_v B sA))
def z_wl (B : Nat) (sA : Nat → Nat) (cA : Nat → ClassId) (N : Nat) (G : Nat → va_E) : va_W := (List.range N).map fun i => (B + i, z_e B sA cA (G i))
def z_up {α : Type} (f : Nat → α) (k : Nat) (v : α) : Nat → α := fun j => if j = k then v else f j
theorem z_up_s {α : Type} (f : Nat → α) (k : Nat) (v : α) : z_up f k v k = v := if_pos rfl
theorem z_up_n {α : Type} (f : Nat → α) (v : α) {k j : Nat} (h : j ≠ k) : z_up f k v j = f j := if_neg h
theorem z_wl_at {B : Nat} {sA : Nat → Nat} {cA : Nat → ClassId} {N : Nat} {G : Nat → va_E} {i : Nat} (h : i < N) : (z_wl B sA cA N G)[i]? = some (B + i, z_e B sA cA (G i)) := by
  simp [z_wl, h]
theorem z_wl_set {B : Nat} {sA : Nat → Nat} {cA : Nat → ClassId} {N : Nat} {G : Nat → va_E} {i : Nat} (x : va_E) : (z_wl B sA cA N G).set i (B + i, z_e B sA cA x) = z_wl B sA cA N (z_up G i x) := by
  apply List.ext_getElem?
  intro j
  rw [List.getElem?_set]
  by_cases hj : i = j
  · subst hj
    by_cases hN : i < N
    · rw [z_wl_at hN (G := z_up G i x), z_up_s]; simp [z_wl, hN]
    · simp [z_wl, hN]
  · rw [if_neg hj]
    by_cases hN : j < N
    · rw [z_wl_at hN, z_wl_at hN, z_up_n _ _ (fun e => hj e.symm)]
    · simp [z_wl, hN]
def z_A (B : Nat) : Nat → Prop := fun q => B ≤ q
theorem z_D {B : Nat} {sA : Nat → Nat} {cA : Nat → ClassId} {N : Nat} {G : Nat → va_E} : va_D (z_A B) (z_wl B sA cA N G) := by
  have key : ∀ (k : Nat) (q : Nat × va_E), (z_wl B sA cA N G)[k]? = some q → q.1 = B + k := by
    intro k q h
    by_cases hN : k < N
    · rw [z_wl_at hN] at h; cases h; rfl
    · simp [z_wl, hN] at h
  refine ⟨fun i j p q hi hj e => ?_, fun k q h => ?_⟩
  · have h1 := key i p hi
    have h2 := key j q hj
    omega
  · have h1 := key k q h
    show B ≤ q.1
    omega
/-- the heap holds the world: the objects by their numbers, and what was there ahead of it is as it was -/
def z_Wd (D : va_G) (sA : Nat → Nat) (cA : Nat → ClassId) (Hb : Heap) (N : Nat) (G : Nat → va_E) (H : Heap) : Prop :=
  va_P D vwCl (z_wl Hb.size sA cA N G) H ∧ Hb.size + N ≤ H.size ∧ ∀ q : Nat, q < Hb.size → H[q]? = Hb[q]?
def z_tys (cA : Nat → ClassId) : List (ClassId × FieldType) := [(cA 0, .int), (cA 1, .long), (cA 2, .byte), (cA 3, .boolean), (cA 4, .object RX9), (cA 5, .object RX8), (cA 6, .object RX3)]
/-- the calls and fields of nest mates -/
def z_nest : List (String × Nat × MethodName × String) := [(RX11, 19, yX8_init, RX11), (RX8, 9, yX5_init, RX11), (RX8, 18, yX3_init, RX11), (RX8, 25, yX7_init, RX11), (RX4, 11, yX9_init, RX11), (RX11, 50, yX3_init, RX11), (RX10, 24, yX3_init, RX11), (RX11, 63, yX2_init, RX11), (RX5, 70, yX11_mix, RX11), (RX3, 56, yX11_mix, RX11), (RX9, 94, yX11_mix, RX11)]
/-- the launch's own: the row WORDS, the texts (places in the pool, texts, lengths, bytes) -/
def z_wd : List Int64 := [27700496584146944, 31632294095618048, 32217255756431360, 30506450023350272, 30803314119540736, 30510766707965952, 30229392873488384, 31636683770298368, 29380544127041536, 27995163771011072, 31654338468249600, 28273320617050112, 31654305920450560, 29384866676080640, 31369066740449280, 27424448516718592, 31084791445061632, 32773634560884736, 29384913786503168, 29114442532782080, 30510856666873856, 27988551289631488, 32497584118431744, 31091360100872704]
def z_txK : List Nat := [338, 346, 351, 171, 209, 218, 231, 323, 328]
def z_txT : List String := [" has ", " in ", " cut ", "no such key", "no such peer", "no such entry", "no such node", "no mean", "no part"]
def z_txN : List Nat := [5, 4, 5, 11, 12, 13, 12, 7, 7]
def z_txB : List (List Int32) := [[32, 104, 97, 115, 32], [32, 105, 110, 32], [32, 99, 117, 116, 32], [110, 111, 32, 115, 117, 99, 104, 32, 107, 101, 121], [110, 111, 32, 115, 117, 99, 104, 32, 112, 101, 101, 114], [110, 111, 32, 115, 117, 99, 104, 32, 101, 110, 116, 114, 121], [110, 111, 32, 115, 117, 99, 104, 32, 110, 111, 100, 101], [110, 111, 32, 109, 101, 97, 110], [110, 111, 32, 112, 97, 114, 116]]
/-- the state when the law begins: what the Statement gives; where the launch's objects are (0 WORDS; 1 to 9 the texts; 10 to 18 their bytes) -/
def z_Or (sA : Nat → Nat) (U0 : State) : Prop := ∃ b : Nat, (∀ w ∈ lw_tbl, w.before #[Value.ref b] U0 = true) ∧ (Jvm.Cond.and given_1 narrow_1).before #[Value.ref b] U0 = true ∧ va_T .long (sA 0) 24 (fun j => .long (z_wd.getD j 0)) (z_A U0.heap.size) U0 U0.heap ∧ vk_S 9 z_txN z_txB (fun i => sA (1 + i)) (fun i => sA (10 + i)) (z_A U0.heap.size) U0 U0.heap ∧ ∀ i, i < 9 → vk_R RX11 (z_txK.getD i 0) (z_txT.getD i "") (sA (1 + i)) U0
/-- what the launch gives beside the words: classes, array classes, nest mates; the static row WORDS and the texts -/
def z_St (sA : Nat → Nat) (Hb : Heap) (U : State) : Prop :=
  va_Nw (.fieldLinkNest RX6 80 RX11 "WORDS" "[J" RX11) U ∧ va_Z RX11 "WORDS" "[J" (.ref (sA 0)) (z_A Hb.size) U Hb ∧ ∃ U0 : State, U0.heap = Hb ∧ U0.WarmedH U.vm ∧ z_Or sA U0
def z_En (D : va_G) (sA : Nat → Nat) (cA : Nat → ClassId) (Hb : Heap) (U : State) : Prop :=
  va_K D vwCl (z_tys cA) U ∧ (∀ q ∈ z_nest, va_Nw (.methodLinkNest q.1 q.2.1 q.2.2.1 q.2.2.2) U) ∧ z_St sA Hb U
theorem z_En.warm {D : va_G} {sA : Nat → Nat} {cA : Nat → ClassId} {Hb : Heap} {s U : State} (hW : s.WarmedH U.vm) (h : z_En D sA cA Hb s) : z_En D sA cA Hb U :=
  ⟨va_K.moved hW.alike h.1, fun q hq => va_Nw.warmM hW (h.2.1 q hq), va_Nw.warmF hW h.2.2.1, va_Z.moved hW.alike h.2.2.2.1, by obtain ⟨U0, u1, u2, u3⟩ := h.2.2.2.2; exact ⟨U0, u1, State.WarmedH.trans u2 hW, u3⟩⟩
theorem z_En.same {D : va_G} {sA : Nat → Nat} {cA : Nat → ClassId} {Hb : Heap} {s U : State} (hv : s.vm = U.vm) (h : z_En D sA cA Hb s) : z_En D sA cA Hb U :=
  ⟨va_K.moved (by rw [hv]; exact Vm.Alike.refl _) h.1, fun q hq => va_Nw.same rfl hv (h.2.1 q hq), va_Nw.same rfl hv h.2.2.1, va_Z.moved (by rw [hv]; exact Vm.Alike.refl _) h.2.2.2.1, by obtain ⟨U0, u1, u2, u3⟩ := h.2.2.2.2; exact ⟨U0, u1, hv ▸ u2, u3⟩⟩
/-- the frame that a method stands in -/
def z_Cx (y : z_MD) (d : Nat) (p : Program) (l : Launch) (R : Room) (s : State) (m : MethodId) (args : Array Value) (meth : Method) (c : Code) (D : va_G) (sA : Nat → Nat) (cA : Nat → ClassId) (Hb : Heap) : Prop :=
  p.tables.exec = Jvm.exec ∧ c.code = y.2.1 ∧ meth.sig.returnType = y.2.2.2 ∧ c.maxLocals = y.2.2.1 ∧ (meth.locks = false ∧ l.stackTraces = false) ∧ s.vm.findClass y.1.cls = some m.cls ∧ (∀ w ∈ z_good, w.before args s = true) ∧ z_En D sA cA Hb s ∧ Hb.size ≤ s.heap.size ∧ d ≤ R.frames ∧ 60 * d ≤ R.locals ∧ meth.name = y.1.name
/-- an answer fits the method's type, and the instruction at pc returns it -/
def z_ok (y : z_MD) : Option Value → Prop
  | none => y.2.2.2 = none
  | some (.int x) => ∃ ty, y.2.2.2 = some ty ∧ narrow ty (.int x) = .int x
  | some (.long _) => y.2.2.2 = some .long
  | _ => False
def z_rt (y : z_MD) (pc : Nat) : Option Value → Prop
  | none => decode y.2.1 pc = .ok (.return_, 1)
  | some (.int _) => decode y.2.1 pc = .ok (.ireturn, 1)
  | some (.long _) => decode y.2.1 pc = .ok (.lreturn, 1)
  | _ => False
abbrev z_K : Type := Option Value → Nat → (Nat → va_E) → Prop
def z_L (B : Nat) (sA : Nat → Nat) (L : List (Nat × Value)) : List (Nat × Value) := L.map fun q => (q.1, z_v B sA q.2)
/-- THE JUDGEMENT: method y, d frames left, mc cells and ms slots in all (cells, slots so far), at pc, with locals L, stack st, the first N objects as G says: it comes to its end, and there K holds of the answer and of the world -/
def z_V (y : z_MD) (d mc ms cells slots pc : Nat) (L : List (Nat × Value)) (st : List Value) (N : Nat) (G : Nat → va_E) (K : z_K) : Prop :=
  ∀ (p : Program) (l : Launch) (e : Env) (R : Room) (s : State) (m : MethodId) (args : Array Value) (below : List Frame) (meth : Method) (c : Code) (D : va_G) (sA : Nat → Nat) (cA : Nat → ClassId) (Hb : Heap) (Q : State → Prop) (H : Heap) (locs : List Loc) (ls : Array Slot),
    z_Cx y d p l R s m args meth c D sA cA Hb →
    (∀ (v : Option Value) (N' : Nat) (G' : Nat → va_E) (H : Heap) (locs : List Loc) (pc : Nat) (ls : Array Slot), K v N' G' → z_ok y v → z_rt y pc v → z_Wd D sA cA Hb N' G' H → va_S (z_A Hb.size) s.heap H locs → W p l e R s m args below meth c H locs mc ms Q (F0 m pc ls (v.toList.map (z_v Hb.size sA)))) →
    mc ≤ R.cells → ms ≤ R.slots → lv_has ls y.2.2.1 (z_L Hb.size sA L) → z_Wd D sA cA Hb N G H → va_S (z_A Hb.size) s.heap H locs →
    W p l e R s m args below meth c H locs cells slots Q (F0 m pc ls (st.map (z_v Hb.size sA)))

section
variable {y : z_MD} {d mc ms cells slots pc : Nat} {L : List (Nat × Value)} {st : List Value} {N : Nat} {G : Nat → va_E} {K : z_K}

theorem zr_iconst {n : Int} {v : Int32} (hd : decode y.2.1 pc = .ok (.iconst n, 1)) (hv : Int32.ofInt n = v) (k : z_V y d mc ms cells slots (pc + 1) L (.int v :: st) N G K) : z_V y d mc ms cells slots pc L st N G K := by
  intro p l e R s m args below meth c D sA cA Hb Q H locs ls C r hc hs hl hw hS
  exact lv_iconst C.1 C.2.1 hd hv (k p l e R s m args below meth c D sA cA Hb Q H locs ls C r hc hs hl hw hS)
theorem zr_bipush {n : Int} {v : Int32} (hd : decode y.2.1 pc = .ok (.bipush n, 2)) (hv : (Int8.ofInt n).toInt32 = v) (k : z_V y d mc ms cells slots (pc + 2) L (.int v :: st) N G K) : z_V y d mc ms cells slots pc L st N G K := by
  intro p l e R s m args below meth c D sA cA Hb Q H locs ls C r hc hs hl hw hS
  exact lv_bipush C.1 C.2.1 hd hv (k p l e R s m args below meth c D sA cA Hb Q H locs ls C r hc hs hl hw hS)
theorem zr_sipush {n : Int} {v : Int32} (hd : decode y.2.1 pc = .ok (.sipush n, 3)) (hv : (Int16.ofInt n).toInt32 = v) (k : z_V y d mc ms cells slots (pc + 3) L (.int v :: st) N G K) : z_V y d mc ms cells slots pc L st N G K := by
  intro p l e R s m args below meth c D sA cA Hb Q H locs ls C r hc hs hl hw hS
  exact lv_sipush C.1 C.2.1 hd hv (k p l e R s m args below meth c D sA cA Hb Q H locs ls C r hc hs hl hw hS)
theorem zr_lconst {n : Fin 2} {v : Int64} (hd : decode y.2.1 pc = .ok (.lconst n, 1)) (hv : Int64.ofNat (n : Nat) = v) (k : z_V y d mc ms cells slots (pc + 1) L (.long v :: st) N G K) : z_V y d mc ms cells slots pc L st N G K := by
  intro p l e R s m args below meth c D sA cA Hb Q H locs ls C r hc hs hl hw hS
  exact lv_lconst C.1 C.2.1 hd hv (k p l e R s m args below meth c D sA cA Hb Q H locs ls C r hc hs hl hw hS)
theorem zr_ldc {index : Nat} {v : Int32} (hd : decode y.2.1 pc = .ok (.ldc index, 2)) (hv : Cond.constant y.1.cls index v ∈ z_good) (k : z_V y d mc ms cells slots (pc + 2) L (.int v :: st) N G K) : z_V y d mc ms cells slots pc L st N G K := by
  intro p l e R s m args below meth c D sA cA Hb Q H locs ls C r hc hs hl hw hS
  exact lv_ldc C.1 C.2.1 C.2.2.2.2.2.1 (C.2.2.2.2.2.2.1 _ hv) hd (k p l e R s m args below meth c D sA cA Hb Q H locs ls C r hc hs hl hw hS)
theorem zr_ldcw {index : Nat} {v : Int32} (hd : decode y.2.1 pc = .ok (.ldc_w index, 3)) (hv : Cond.constant y.1.cls index v ∈ z_good) (k : z_V y d mc ms cells slots (pc + 3) L (.int v :: st) N G K) : z_V y d mc ms cells slots pc L st N G K := by
  intro p l e R s m args below meth c D sA cA Hb Q H locs ls C r hc hs hl hw hS
  exact lv_ldcw C.1 C.2.1 C.2.2.2.2.2.1 (C.2.2.2.2.2.2.1 _ hv) hd (k p l e R s m args below meth c D sA cA Hb Q H locs ls C r hc hs hl hw hS)
theorem zr_ldc2 {index : Nat} {v : Int64} (hd : decode y.2.1 pc = .ok (.ldc2_w index, 3)) (hv : Cond.constantLong y.1.cls index v ∈ z_good) (k : z_V y d mc ms cells slots (pc + 3) L (.long v :: st) N G K) : z_V y d mc ms cells slots pc L st N G K := by
  intro p l e R s m args below meth c D sA cA Hb Q H locs ls C r hc hs hl hw hS
  exact lv_ldc2 C.1 C.2.1 C.2.2.2.2.2.1 (C.2.2.2.2.2.2.1 _ hv) hd (k p l e R s m args below meth c D sA cA Hb Q H locs ls C r hc hs hl hw hS)
theorem z_at {B : Nat} {sA : Nat → Nat} {ls : Array Slot} {nL : Nat} {L : List (Nat × Value)} (h : lv_has ls nL (z_L B sA L)) (k : Nat) {i : Nat} {v : Value} (hk : L[k]? = some (i, v)) : ls[i]? = some (.val (z_v B sA v)) := by
  refine lv_at h k (i := i) ?_
  simp [z_L, hk]
theorem zr_iload_n {j : Fin 4} {i : Nat} {x : Int32} (hd : decode y.2.1 pc = .ok (.iload_n j, 1)) (hi : (j : Nat) = i) (n : Nat) (hk : L[n]? = some (i, .int x)) (k : z_V y d mc ms cells slots (pc + 1) L (.int x :: st) N G K) : z_V y d mc ms cells slots pc L st N G K := by
  intro p l e R s m args below meth c D sA cA Hb Q H locs ls C r hc hs hl hw hS
  exact lv_iload_n C.1 C.2.1 hd hi (z_at hl n hk) (k p l e R s m args below meth c D sA cA Hb Q H locs ls C r hc hs hl hw hS)
theorem zr_iload {i : Nat} {x : Int32} (hd : decode y.2.1 pc = .ok (.iload i, 2)) (n : Nat) (hk : L[n]? = some (i, .int x)) (k : z_V y d mc ms cells slots (pc + 2) L (.int x :: st) N G K) : z_V y d mc ms cells slots pc L st N G K := by
  intro p l e R s m args below meth c D sA cA Hb Q H locs ls C r hc hs hl hw hS
  exact lv_iload C.1 C.2.1 hd (z_at hl n hk) (k p l e R s m args below meth c D sA cA Hb Q H locs ls C r hc hs hl hw hS)
theorem zr_lload_n {j : Fin 4} {i : Nat} {x : Int64} (hd : decode y.2.1 pc = .ok (.lload_n j, 1)) (hi : (j : Nat) = i) (n : Nat) (hk : L[n]? = some (i, .long x)) (k : z_V y d mc ms cells slots (pc + 1) L (.long x :: st) N G K) : z_V y d mc ms cells slots pc L st N G K := by
  intro p l e R s m args below meth c D sA cA Hb Q H locs ls C r hc hs hl hw hS
  exact lv_lload_n C.1 C.2.1 hd hi (z_at hl n hk) (k p l e R s m args below meth c D sA cA Hb Q H locs ls C r hc hs hl hw hS)
theorem zr_lload {i : Nat} {x : Int64} (hd : decode y.2.1 pc = .ok (.lload i, 2)) (n : Nat) (hk : L[n]? = some (i, .long x)) (k : z_V y d mc ms cells slots (pc + 2) L (.long x :: st) N G K) : z_V y d mc ms cells slots pc L st N G K := by
  intro p l e R s m args below meth c D sA cA Hb Q H locs ls C r hc hs hl hw hS
  exact lv_lload C.1 C.2.1 hd (z_at hl n hk) (k p l e R s m args below meth c D sA cA Hb Q H locs ls C r hc hs hl hw hS)
theorem zr_aload_n {j : Fin 4} {i : Nat} {x : Nat} (hd : decode y.2.1 pc = .ok (.aload_n j, 1)) (hi : (j : Nat) = i) (n : Nat) (hk : L[n]? = some (i, .ref x)) (k : z_V y d mc ms cells slots (pc + 1) L (.ref x :: st) N G K) : z_V y d mc ms cells slots pc L st N G K := by
  intro p l e R s m args below meth c D sA cA Hb Q H locs ls C r hc hs hl hw hS
  exact lv_aload_n C.1 C.2.1 hd hi (z_at hl n hk) (k p l e R s m args below meth c D sA cA Hb Q H locs ls C r hc hs hl hw hS)
theorem zr_aload {i : Nat} {x : Nat} (hd : decode y.2.1 pc = .ok (.aload i, 2)) (n : Nat) (hk : L[n]? = some (i, .ref x)) (k : z_V y d mc ms cells slots (pc + 2) L (.ref x :: st) N G K) : z_V y d mc ms cells slots pc L st N G K := by
  intro p l e R s m args below meth c D sA cA Hb Q H locs ls C r hc hs hl hw hS
  exact lv_aload C.1 C.2.1 hd (z_at hl n hk) (k p l e R s m args below meth c D sA cA Hb Q H locs ls C r hc hs hl hw hS)
def z_st1 (i : Nat) (v : Value) (L : List (Nat × Value)) : List (Nat × Value) := (i, v) :: L.filter (fun q => !(q.1 == i) && !(q.1 + 1 == i && q.2.category == 2))
def z_st2 (i : Nat) (v : Value) (L : List (Nat × Value)) : List (Nat × Value) := (i, v) :: L.filter (fun q => !(q.1 == i) && (!(q.1 == i + 1) && !(q.1 + 1 == i && q.2.category == 2)))
theorem z_cat (B : Nat) (sA : Nat → Nat) (v : Value) : (z_v B sA v).category = v.category := by cases v <;> rfl
theorem z_L_st1 {B : Nat} {sA : Nat → Nat} {i : Nat} {v : Value} {L : List (Nat × Value)} : (i, z_v B sA v) :: (z_L B sA L).filter (fun q => !(q.1 == i) && !(q.1 + 1 == i && q.2.category == 2)) = z_L B sA (z_st1 i v L) := by
  simp only [z_L, z_st1, List.map_cons, List.filter_map]
  congr 2
  apply List.filter_congr
  intro q _
  simp [z_cat]
theorem z_L_st2 {B : Nat} {sA : Nat → Nat} {i : Nat} {v : Value} {L : List (Nat × Value)} : (i, z_v B sA v) :: (z_L B sA L).filter (fun q => !(q.1 == i) && (!(q.1 == i + 1) && !(q.1 + 1 == i && q.2.category == 2))) = z_L B sA (z_st2 i v L) := by
  simp only [z_L, z_st2, List.map_cons, List.filter_map]
  congr 2
  apply List.filter_congr
  intro q _
  simp [z_cat]
theorem zr_istore_n {j : Fin 4} {i : Nat} {x : Int32} {L2 : List (Nat × Value)} (hd : decode y.2.1 pc = .ok (.istore_n j, 1)) (hi : (j : Nat) = i) (hn : i < y.2.2.1) (hL : z_st1 i (.int x) L = L2) (k : z_V y d mc ms cells slots (pc + 1) L2 st N G K) : z_V y d mc ms cells slots pc L (.int x :: st) N G K := by
  intro p l e R s m args below meth c D sA cA Hb Q H locs ls C r hc hs hl hw hS
  subst hL
  exact lv_istore_n C.1 C.2.1 hd hi hl hn (z_L_st1 (v := .int x)) (fun ls hl => k p l e R s m args below meth c D sA cA Hb Q H locs ls C r hc hs hl hw hS)
theorem zr_istore {i : Nat} {x : Int32} {L2 : List (Nat × Value)} (hd : decode y.2.1 pc = .ok (.istore i, 2)) (hn : i < y.2.2.1) (hL : z_st1 i (.int x) L = L2) (k : z_V y d mc ms cells slots (pc + 2) L2 st N G K) : z_V y d mc ms cells slots pc L (.int x :: st) N G K := by
  intro p l e R s m args below meth c D sA cA Hb Q H locs ls C r hc hs hl hw hS
  subst hL
  exact lv_istore C.1 C.2.1 hd hl hn (z_L_st1 (v := .int x)) (fun ls hl => k p l e R s m args below meth c D sA cA Hb Q H locs ls C r hc hs hl hw hS)
theorem zr_astore_n {j : Fin 4} {i : Nat} {x : Nat} {L2 : List (Nat × Value)} (hd : decode y.2.1 pc = .ok (.astore_n j, 1)) (hi : (j : Nat) = i) (hn : i < y.2.2.1) (hL : z_st1 i (.ref x) L = L2) (k : z_V y d mc ms cells slots (pc + 1) L2 st N G K) : z_V y d mc ms cells slots pc L (.ref x :: st) N G K := by
  intro p l e R s m args below meth c D sA cA Hb Q H locs ls C r hc hs hl hw hS
  subst hL
  exact lv_astore_n C.1 C.2.1 hd hi hl hn (z_L_st1 (v := .ref x)) (fun ls hl => k p l e R s m args below meth c D sA cA Hb Q H locs ls C r hc hs hl hw hS)
theorem zr_astore {i : Nat} {x : Nat} {L2 : List (Nat × Value)} (hd : decode y.2.1 pc = .ok (.astore i, 2)) (hn : i < y.2.2.1) (hL : z_st1 i (.ref x) L = L2) (k : z_V y d mc ms cells slots (pc + 2) L2 st N G K) : z_V y d mc ms cells slots pc L (.ref x :: st) N G K := by
  intro p l e R s m args below meth c D sA cA Hb Q H locs ls C r hc hs hl hw hS
  subst hL
  exact lv_astore C.1 C.2.1 hd hl hn (z_L_st1 (v := .ref x)) (fun ls hl => k p l e R s m args below meth c D sA cA Hb Q H locs ls C r hc hs hl hw hS)
theorem zr_lstore_n {j : Fin 4} {i : Nat} {x : Int64} {L2 : List (Nat × Value)} (hd : decode y.2.1 pc = .ok (.lstore_n j, 1)) (hi : (j : Nat) = i) (hn : i + 1 < y.2.2.1) (hL : z_st2 i (.long x) L = L2) (k : z_V y d mc ms cells slots (pc + 1) L2 st N G K) : z_V y d mc ms cells slots pc L (.long x :: st) N G K := by
  intro p l e R s m args below meth c D sA cA Hb Q H locs ls C r hc hs hl hw hS
  subst hL
  exact lv_lstore_n C.1 C.2.1 hd hi hl hn (z_L_st2 (v := .long x)) (fun ls hl => k p l e R s m args below meth c D sA cA Hb Q H locs ls C r hc hs hl hw hS)
theorem zr_lstore {i : Nat} {x : Int64} {L2 : List (Nat × Value)} (hd : decode y.2.1 pc = .ok (.lstore i, 2)) (hn : i + 1 < y.2.2.1) (hL : z_st2 i (.long x) L = L2) (k : z_V y d mc ms cells slots (pc + 2) L2 st N G K) : z_V y d mc ms cells slots pc L (.long x :: st) N G K := by
  intro p l e R s m args below meth c D sA cA Hb Q H locs ls C r hc hs hl hw hS
  subst hL
  exact lv_lstore C.1 C.2.1 hd hl hn (z_L_st2 (v := .long x)) (fun ls hl => k p l e R s m args below meth c D sA cA Hb Q H locs ls C r hc hs hl hw hS)
theorem zr_iinc {i n : Nat} {a : Int} {x v : Int32} {L2 : List (Nat × Value)} (hd : decode y.2.1 pc = .ok (.iinc i a, 3)) (hk : L[n]? = some (i, .int x)) (hv : x + Int32.ofInt a = v) (hn : i < y.2.2.1) (hL : z_st1 i (.int v) L = L2) (k : z_V y d mc ms cells slots (pc + 3) L2 st N G K) : z_V y d mc ms cells slots pc L st N G K := by
  intro p l e R s m args below meth c D sA cA Hb Q H locs ls C r hc hs hl hw hS
  subst hL
  exact lv_iinc (v := v) C.1 C.2.1 hd hl (k := n) (by simp [z_L, hk, z_v]) hv hn (z_L_st1 (v := .int v)) (fun ls hl => k p l e R s m args below meth c D sA cA Hb Q H locs ls C r hc hs hl hw hS)
theorem zr_iadd {x z : Int32} (hd : decode y.2.1 pc = .ok (.iadd, 1)) (k : z_V y d mc ms cells slots (pc + 1) L (.int (x + z) :: st) N G K) : z_V y d mc ms cells slots pc L (.int z :: .int x :: st) N G K := by
  intro p l e R s m args below meth c D sA cA Hb Q H locs ls C r hc hs hl hw hS
  exact lv_iadd C.1 C.2.1 hd (k p l e R s m args below meth c D sA cA Hb Q H locs ls C r hc hs hl hw hS)
theorem zr_isub {x z : Int32} (hd : decode y.2.1 pc = .ok (.isub, 1)) (k : z_V y d mc ms cells slots (pc + 1) L (.int (x - z) :: st) N G K) : z_V y d mc ms cells slots pc L (.int z :: .int x :: st) N G K := by
  intro p l e R s m args below meth c D sA cA Hb Q H locs ls C r hc hs hl hw hS
  exact lv_isub C.1 C.2.1 hd (k p l e R s m args below meth c D sA cA Hb Q H locs ls C r hc hs hl hw hS)
theorem zr_imul {x z : Int32} (hd : decode y.2.1 pc = .ok (.imul, 1)) (k : z_V y d mc ms cells slots (pc + 1) L (.int (x * z) :: st) N G K) : z_V y d mc ms cells slots pc L (.int z :: .int x :: st) N G K := by
  intro p l e R s m args below meth c D sA cA Hb Q H locs ls C r hc hs hl hw hS
  exact lv_imul C.1 C.2.1 hd (k p l e R s m args below meth c D sA cA Hb Q H locs ls C r hc hs hl hw hS)
theorem zr_iand {x z : Int32} (hd : decode y.2.1 pc = .ok (.iand, 1)) (k : z_V y d mc ms cells slots (pc + 1) L (.int (x &&& z) :: st) N G K) : z_V y d mc ms cells slots pc L (.int z :: .int x :: st) N G K := by
  intro p l e R s m args below meth c D sA cA Hb Q H locs ls C r hc hs hl hw hS
  exact lv_iand C.1 C.2.1 hd (k p l e R s m args below meth c D sA cA Hb Q H locs ls C r hc hs hl hw hS)
theorem zr_ior {x z : Int32} (hd : decode y.2.1 pc = .ok (.ior, 1)) (k : z_V y d mc ms cells slots (pc + 1) L (.int (x ||| z) :: st) N G K) : z_V y d mc ms cells slots pc L (.int z :: .int x :: st) N G K := by
  intro p l e R s m args below meth c D sA cA Hb Q H locs ls C r hc hs hl hw hS
  exact lv_ior C.1 C.2.1 hd (k p l e R s m args below meth c D sA cA Hb Q H locs ls C r hc hs hl hw hS)
theorem zr_ixor {x z : Int32} (hd : decode y.2.1 pc = .ok (.ixor, 1)) (k : z_V y d mc ms cells slots (pc + 1) L (.int (x ^^^ z) :: st) N G K) : z_V y d mc ms cells slots pc L (.int z :: .int x :: st) N G K := by
  intro p l e R s m args below meth c D sA cA Hb Q H locs ls C r hc hs hl hw hS
  exact lv_ixor C.1 C.2.1 hd (k p l e R s m args below meth c D sA cA Hb Q H locs ls C r hc hs hl hw hS)
theorem zr_ladd {x z : Int64} (hd : decode y.2.1 pc = .ok (.ladd, 1)) (k : z_V y d mc ms cells slots (pc + 1) L (.long (x + z) :: st) N G K) : z_V y d mc ms cells slots pc L (.long z :: .long x :: st) N G K := by
  intro p l e R s m args below meth c D sA cA Hb Q H locs ls C r hc hs hl hw hS
  exact lv_ladd C.1 C.2.1 hd (k p l e R s m args below meth c D sA cA Hb Q H locs ls C r hc hs hl hw hS)
theorem zr_lsub {x z : Int64} (hd : decode y.2.1 pc = .ok (.lsub, 1)) (k : z_V y d mc ms cells slots (pc + 1) L (.long (x - z) :: st) N G K) : z_V y d mc ms cells slots pc L (.long z :: .long x :: st) N G K := by
  intro p l e R s m args below meth c D sA cA Hb Q H locs ls C r hc hs hl hw hS
  exact lv_lsub C.1 C.2.1 hd (k p l e R s m args below meth c D sA cA Hb Q H locs ls C r hc hs hl hw hS)
theorem zr_lmul {x z : Int64} (hd : decode y.2.1 pc = .ok (.lmul, 1)) (k : z_V y d mc ms cells slots (pc + 1) L (.long (x * z) :: st) N G K) : z_V y d mc ms cells slots pc L (.long z :: .long x :: st) N G K := by
  intro p l e R s m args below meth c D sA cA Hb Q H locs ls C r hc hs hl hw hS
  exact lv_lmul C.1 C.2.1 hd (k p l e R s m args below meth c D sA cA Hb Q H locs ls C r hc hs hl hw hS)
theorem zr_lor {x z : Int64} (hd : decode y.2.1 pc = .ok (.lor, 1)) (k : z_V y d mc ms cells slots (pc + 1) L (.long (x ||| z) :: st) N G K) : z_V y d mc ms cells slots pc L (.long z :: .long x :: st) N G K := by
  intro p l e R s m args below meth c D sA cA Hb Q H locs ls C r hc hs hl hw hS
  exact lv_lor C.1 C.2.1 hd (k p l e R s m args below meth c D sA cA Hb Q H locs ls C r hc hs hl hw hS)
theorem zr_ishl {x z : Int32} (hd : decode y.2.1 pc = .ok (.ishl, 1)) (k : z_V y d mc ms cells slots (pc + 1) L (.int (x <<< (z &&& 31)) :: st) N G K) : z_V y d mc ms cells slots pc L (.int z :: .int x :: st) N G K := by
  intro p l e R s m args below meth c D sA cA Hb Q H locs ls C r hc hs hl hw hS
  exact lv_ishl C.1 C.2.1 hd (k p l e R s m args below meth c D sA cA Hb Q H locs ls C r hc hs hl hw hS)
theorem zr_ishr {x z : Int32} (hd : decode y.2.1 pc = .ok (.ishr, 1)) (k : z_V y d mc ms cells slots (pc + 1) L (.int (x >>> (z &&& 31)) :: st) N G K) : z_V y d mc ms cells slots pc L (.int z :: .int x :: st) N G K := by
  intro p l e R s m args below meth c D sA cA Hb Q H locs ls C r hc hs hl hw hS
  exact lv_ishr C.1 C.2.1 hd (k p l e R s m args below meth c D sA cA Hb Q H locs ls C r hc hs hl hw hS)
theorem zr_idiv {x z : Int32} (hd : decode y.2.1 pc = .ok (.idiv, 1)) (hz : ¬ z = 0) (k : z_V y d mc ms cells slots (pc + 1) L (.int (x / z) :: st) N G K) : z_V y d mc ms cells slots pc L (.int z :: .int x :: st) N G K := by
  intro p l e R s m args below meth c D sA cA Hb Q H locs ls C r hc hs hl hw hS
  exact lv_idiv C.1 C.2.1 hd hz (k p l e R s m args below meth c D sA cA Hb Q H locs ls C r hc hs hl hw hS)
theorem zr_irem {x z : Int32} (hd : decode y.2.1 pc = .ok (.irem, 1)) (hz : ¬ z = 0) (k : z_V y d mc ms cells slots (pc + 1) L (.int (x - x / z * z) :: st) N G K) : z_V y d mc ms cells slots pc L (.int z :: .int x :: st) N G K := by
  intro p l e R s m args below meth c D sA cA Hb Q H locs ls C r hc hs hl hw hS
  exact lv_irem C.1 C.2.1 hd hz (k p l e R s m args below meth c D sA cA Hb Q H locs ls C r hc hs hl hw hS)
theorem zr_ldiv {x z : Int64} (hd : decode y.2.1 pc = .ok (.ldiv, 1)) (hz : ¬ z = 0) (k : z_V y d mc ms cells slots (pc + 1) L (.long (x / z) :: st) N G K) : z_V y d mc ms cells slots pc L (.long z :: .long x :: st) N G K := by
  intro p l e R s m args below meth c D sA cA Hb Q H locs ls C r hc hs hl hw hS
  exact lv_ldiv C.1 C.2.1 hd hz (k p l e R s m args below meth c D sA cA Hb Q H locs ls C r hc hs hl hw hS)
theorem zr_lrem {x z : Int64} (hd : decode y.2.1 pc = .ok (.lrem, 1)) (hz : ¬ z = 0) (k : z_V y d mc ms cells slots (pc + 1) L (.long (x - x / z * z) :: st) N G K) : z_V y d mc ms cells slots pc L (.long z :: .long x :: st) N G K := by
  intro p l e R s m args below meth c D sA cA Hb Q H locs ls C r hc hs hl hw hS
  exact lv_lrem C.1 C.2.1 hd hz (k p l e R s m args below meth c D sA cA Hb Q H locs ls C r hc hs hl hw hS)
theorem zr_iushr {x z : Int32} (hd : decode y.2.1 pc = .ok (.iushr, 1)) (k : z_V y d mc ms cells slots (pc + 1) L (.int ((x.toUInt32 >>> (z.toUInt32 &&& Int32.toUInt32 31)).toInt32) :: st) N G K) : z_V y d mc ms cells slots pc L (.int z :: .int x :: st) N G K := by
  intro p l e R s m args below meth c D sA cA Hb Q H locs ls C r hc hs hl hw hS
  exact lv_iushr C.1 C.2.1 hd rfl (k p l e R s m args below meth c D sA cA Hb Q H locs ls C r hc hs hl hw hS)
theorem zr_lushr {x : Int64} {z : Int32} (hd : decode y.2.1 pc = .ok (.lushr, 1)) (k : z_V y d mc ms cells slots (pc + 1) L (.long ((x.toUInt64 >>> (z.toInt64.toUInt64 &&& Int64.toUInt64 63)).toInt64) :: st) N G K) : z_V y d mc ms cells slots pc L (.int z :: .long x :: st) N G K := by
  intro p l e R s m args below meth c D sA cA Hb Q H locs ls C r hc hs hl hw hS
  exact lv_lushr C.1 C.2.1 hd rfl (k p l e R s m args below meth c D sA cA Hb Q H locs ls C r hc hs hl hw hS)
theorem zr_lshl {x : Int64} {z : Int32} (hd : decode y.2.1 pc = .ok (.lshl, 1)) (k : z_V y d mc ms cells slots (pc + 1) L (.long (x <<< (z.toInt64 &&& 63)) :: st) N G K) : z_V y d mc ms cells slots pc L (.int z :: .long x :: st) N G K := by
  intro p l e R s m args below meth c D sA cA Hb Q H locs ls C r hc hs hl hw hS
  exact lv_lshl C.1 C.2.1 hd rfl (k p l e R s m args below meth c D sA cA Hb Q H locs ls C r hc hs hl hw hS)
theorem zr_i2l {x : Int32} (hd : decode y.2.1 pc = .ok (.i2l, 1)) (k : z_V y d mc ms cells slots (pc + 1) L (.long x.toInt64 :: st) N G K) : z_V y d mc ms cells slots pc L (.int x :: st) N G K := by
  intro p l e R s m args below meth c D sA cA Hb Q H locs ls C r hc hs hl hw hS
  exact lv_i2l C.1 C.2.1 hd rfl (k p l e R s m args below meth c D sA cA Hb Q H locs ls C r hc hs hl hw hS)
theorem zr_l2i {x : Int64} (hd : decode y.2.1 pc = .ok (.l2i, 1)) (k : z_V y d mc ms cells slots (pc + 1) L (.int x.toInt32 :: st) N G K) : z_V y d mc ms cells slots pc L (.long x :: st) N G K := by
  intro p l e R s m args below meth c D sA cA Hb Q H locs ls C r hc hs hl hw hS
  exact lv_l2i C.1 C.2.1 hd rfl (k p l e R s m args below meth c D sA cA Hb Q H locs ls C r hc hs hl hw hS)
theorem zr_i2b {x : Int32} (hd : decode y.2.1 pc = .ok (.i2b, 1)) (k : z_V y d mc ms cells slots (pc + 1) L (.int x.toInt8.toInt32 :: st) N G K) : z_V y d mc ms cells slots pc L (.int x :: st) N G K := by
  intro p l e R s m args below meth c D sA cA Hb Q H locs ls C r hc hs hl hw hS
  exact lv_i2b C.1 C.2.1 hd rfl (k p l e R s m args below meth c D sA cA Hb Q H locs ls C r hc hs hl hw hS)
theorem zr_lcmp {x z : Int64} (hd : decode y.2.1 pc = .ok (.lcmp, 1)) (k : z_V y d mc ms cells slots (pc + 1) L (.int (lg_cmp x z) :: st) N G K) : z_V y d mc ms cells slots pc L (.long z :: .long x :: st) N G K := by
  intro p l e R s m args below meth c D sA cA Hb Q H locs ls C r hc hs hl hw hS
  exact W.lcmp C.1 C.2.1 hd (k p l e R s m args below meth c D sA cA Hb Q H locs ls C r hc hs hl hw hS)
theorem zr_dup {v : Value} (hd : decode y.2.1 pc = .ok (.dup, 1)) (hv : v.category = 1) (k : z_V y d mc ms cells slots (pc + 1) L (v :: v :: st) N G K) : z_V y d mc ms cells slots pc L (v :: st) N G K := by
  intro p l e R s m args below meth c D sA cA Hb Q H locs ls C r hc hs hl hw hS
  exact lv_dup C.1 C.2.1 hd ((z_cat _ _ v).trans hv) (k p l e R s m args below meth c D sA cA Hb Q H locs ls C r hc hs hl hw hS)
theorem zr_pop {v : Value} (hd : decode y.2.1 pc = .ok (.pop, 1)) (hv : v.category = 1) (k : z_V y d mc ms cells slots (pc + 1) L st N G K) : z_V y d mc ms cells slots pc L (v :: st) N G K := by
  intro p l e R s m args below meth c D sA cA Hb Q H locs ls C r hc hs hl hw hS
  exact lv_pop C.1 C.2.1 hd ((z_cat _ _ v).trans hv) (k p l e R s m args below meth c D sA cA Hb Q H locs ls C r hc hs hl hw hS)
theorem zr_dup2 {v u : Value} (hd : decode y.2.1 pc = .ok (.dup2, 1)) (hv : v.category = 1) (hu : u.category = 1) (k : z_V y d mc ms cells slots (pc + 1) L (v :: u :: v :: u :: st) N G K) : z_V y d mc ms cells slots pc L (v :: u :: st) N G K := by
  intro p l e R s m args below meth c D sA cA Hb Q H locs ls C r hc hs hl hw hS
  exact lv_dup2_11 C.1 C.2.1 hd ((z_cat _ _ v).trans hv) ((z_cat _ _ u).trans hu) (k p l e R s m args below meth c D sA cA Hb Q H locs ls C r hc hs hl hw hS)
theorem zr_if_eq {x : Int32} {off : Int} {tgt : Nat} (hd : decode y.2.1 pc = .ok (.ifCond .eq off, 3)) (ht : (pc : Int) + off = (tgt : Int)) (kt : x = 0 → z_V y d mc ms cells slots tgt L st N G K) (kf : ¬ (x = 0) → z_V y d mc ms cells slots (pc + 3) L st N G K) : z_V y d mc ms cells slots pc L (.int x :: st) N G K := by
  intro p l e R s m args below meth c D sA cA Hb Q H locs ls C r hc hs hl hw hS
  exact lv_if_eq C.1 C.2.1 hd ht (fun h => kt h p l e R s m args below meth c D sA cA Hb Q H locs ls C r hc hs hl hw hS) (fun h => kf h p l e R s m args below meth c D sA cA Hb Q H locs ls C r hc hs hl hw hS)
theorem zr_icmp_eq {x z : Int32} {off : Int} {tgt : Nat} (hd : decode y.2.1 pc = .ok (.if_icmp .eq off, 3)) (ht : (pc : Int) + off = (tgt : Int)) (kt : x = z → z_V y d mc ms cells slots tgt L st N G K) (kf : ¬ (x = z) → z_V y d mc ms cells slots (pc + 3) L st N G K) : z_V y d mc ms cells slots pc L (.int z :: .int x :: st) N G K := by
  intro p l e R s m args below meth c D sA cA Hb Q H locs ls C r hc hs hl hw hS
  exact lv_icmp_eq C.1 C.2.1 hd ht (fun h => kt h p l e R s m args below meth c D sA cA Hb Q H locs ls C r hc hs hl hw hS) (fun h => kf h p l e R s m args below meth c D sA cA Hb Q H locs ls C r hc hs hl hw hS)
theorem zr_if_ne {x : Int32} {off : Int} {tgt : Nat} (hd : decode y.2.1 pc = .ok (.ifCond .ne off, 3)) (ht : (pc : Int) + off = (tgt : Int)) (kt : ¬ x = 0 → z_V y d mc ms cells slots tgt L st N G K) (kf : x = 0 → z_V y d mc ms cells slots (pc + 3) L st N G K) : z_V y d mc ms cells slots pc L (.int x :: st) N G K := by
  intro p l e R s m args below meth c D sA cA Hb Q H locs ls C r hc hs hl hw hS
  exact lv_if_ne C.1 C.2.1 hd ht (fun h => kt h p l e R s m args below meth c D sA cA Hb Q H locs ls C r hc hs hl hw hS) (fun h => kf h p l e R s m args below meth c D sA cA Hb Q H locs ls C r hc hs hl hw hS)
theorem zr_icmp_ne {x z : Int32} {off : Int} {tgt : Nat} (hd : decode y.2.1 pc = .ok (.if_icmp .ne off, 3)) (ht : (pc : Int) + off = (tgt : Int)) (kt : ¬ x = z → z_V y d mc ms cells slots tgt L st N G K) (kf : x = z → z_V y d mc ms cells slots (pc + 3) L st N G K) : z_V y d mc ms cells slots pc L (.int z :: .int x :: st) N G K := by
  intro p l e R s m args below meth c D sA cA Hb Q H locs ls C r hc hs hl hw hS
  exact lv_icmp_ne C.1 C.2.1 hd ht (fun h => kt h p l e R s m args below meth c D sA cA Hb Q H locs ls C r hc hs hl hw hS) (fun h => kf h p l e R s m args below meth c D sA cA Hb Q H locs ls C r hc hs hl hw hS)
theorem zr_if_lt {x : Int32} {off : Int} {tgt : Nat} (hd : decode y.2.1 pc = .ok (.ifCond .lt off, 3)) (ht : (pc : Int) + off = (tgt : Int)) (kt : x < 0 → z_V y d mc ms cells slots tgt L st N G K) (kf : ¬ (x < 0) → z_V y d mc ms cells slots (pc + 3) L st N G K) : z_V y d mc ms cells slots pc L (.int x :: st) N G K := by
  intro p l e R s m args below meth c D sA cA Hb Q H locs ls C r hc hs hl hw hS
  exact lv_if_lt C.1 C.2.1 hd ht (fun h => kt h p l e R s m args below meth c D sA cA Hb Q H locs ls C r hc hs hl hw hS) (fun h => kf h p l e R s m args below meth c D sA cA Hb Q H locs ls C r hc hs hl hw hS)
theorem zr_icmp_lt {x z : Int32} {off : Int} {tgt : Nat} (hd : decode y.2.1 pc = .ok (.if_icmp .lt off, 3)) (ht : (pc : Int) + off = (tgt : Int)) (kt : x < z → z_V y d mc ms cells slots tgt L st N G K) (kf : ¬ (x < z) → z_V y d mc ms cells slots (pc + 3) L st N G K) : z_V y d mc ms cells slots pc L (.int z :: .int x :: st) N G K := by
  intro p l e R s m args below meth c D sA cA Hb Q H locs ls C r hc hs hl hw hS
  exact lv_icmp_lt C.1 C.2.1 hd ht (fun h => kt h p l e R s m args below meth c D sA cA Hb Q H locs ls C r hc hs hl hw hS) (fun h => kf h p l e R s m args below meth c D sA cA Hb Q H locs ls C r hc hs hl hw hS)
theorem zr_if_ge {x : Int32} {off : Int} {tgt : Nat} (hd : decode y.2.1 pc = .ok (.ifCond .ge off, 3)) (ht : (pc : Int) + off = (tgt : Int)) (kt : 0 ≤ x → z_V y d mc ms cells slots tgt L st N G K) (kf : ¬ (0 ≤ x) → z_V y d mc ms cells slots (pc + 3) L st N G K) : z_V y d mc ms cells slots pc L (.int x :: st) N G K := by
  intro p l e R s m args below meth c D sA cA Hb Q H locs ls C r hc hs hl hw hS
  exact lv_if_ge C.1 C.2.1 hd ht (fun h => kt h p l e R s m args below meth c D sA cA Hb Q H locs ls C r hc hs hl hw hS) (fun h => kf h p l e R s m args below meth c D sA cA Hb Q H locs ls C r hc hs hl hw hS)
theorem zr_icmp_ge {x z : Int32} {off : Int} {tgt : Nat} (hd : decode y.2.1 pc = .ok (.if_icmp .ge off, 3)) (ht : (pc : Int) + off = (tgt : Int)) (kt : z ≤ x → z_V y d mc ms cells slots tgt L st N G K) (kf : ¬ (z ≤ x) → z_V y d mc ms cells slots (pc + 3) L st N G K) : z_V y d mc ms cells slots pc L (.int z :: .int x :: st) N G K := by
  intro p l e R s m args below meth c D sA cA Hb Q H locs ls C r hc hs hl hw hS
  exact lv_icmp_ge C.1 C.2.1 hd ht (fun h => kt h p l e R s m args below meth c D sA cA Hb Q H locs ls C r hc hs hl hw hS) (fun h => kf h p l e R s m args below meth c D sA cA Hb Q H locs ls C r hc hs hl hw hS)
theorem zr_if_gt {x : Int32} {off : Int} {tgt : Nat} (hd : decode y.2.1 pc = .ok (.ifCond .gt off, 3)) (ht : (pc : Int) + off = (tgt : Int)) (kt : 0 < x → z_V y d mc ms cells slots tgt L st N G K) (kf : ¬ (0 < x) → z_V y d mc ms cells slots (pc + 3) L st N G K) : z_V y d mc ms cells slots pc L (.int x :: st) N G K := by
  intro p l e R s m args below meth c D sA cA Hb Q H locs ls C r hc hs hl hw hS
  exact lv_if_gt C.1 C.2.1 hd ht (fun h => kt h p l e R s m args below meth c D sA cA Hb Q H locs ls C r hc hs hl hw hS) (fun h => kf h p l e R s m args below meth c D sA cA Hb Q H locs ls C r hc hs hl hw hS)
theorem zr_icmp_gt {x z : Int32} {off : Int} {tgt : Nat} (hd : decode y.2.1 pc = .ok (.if_icmp .gt off, 3)) (ht : (pc : Int) + off = (tgt : Int)) (kt : z < x → z_V y d mc ms cells slots tgt L st N G K) (kf : ¬ (z < x) → z_V y d mc ms cells slots (pc + 3) L st N G K) : z_V y d mc ms cells slots pc L (.int z :: .int x :: st) N G K := by
  intro p l e R s m args below meth c D sA cA Hb Q H locs ls C r hc hs hl hw hS
  exact lv_icmp_gt C.1 C.2.1 hd ht (fun h => kt h p l e R s m args below meth c D sA cA Hb Q H locs ls C r hc hs hl hw hS) (fun h => kf h p l e R s m args below meth c D sA cA Hb Q H locs ls C r hc hs hl hw hS)
theorem zr_if_le {x : Int32} {off : Int} {tgt : Nat} (hd : decode y.2.1 pc = .ok (.ifCond .le off, 3)) (ht : (pc : Int) + off = (tgt : Int)) (kt : x ≤ 0 → z_V y d mc ms cells slots tgt L st N G K) (kf : ¬ (x ≤ 0) → z_V y d mc ms cells slots (pc + 3) L st N G K) : z_V y d mc ms cells slots pc L (.int x :: st) N G K := by
  intro p l e R s m args below meth c D sA cA Hb Q H locs ls C r hc hs hl hw hS
  exact lv_if_le C.1 C.2.1 hd ht (fun h => kt h p l e R s m args below meth c D sA cA Hb Q H locs ls C r hc hs hl hw hS) (fun h => kf h p l e R s m args below meth c D sA cA Hb Q H locs ls C r hc hs hl hw hS)
theorem zr_icmp_le {x z : Int32} {off : Int} {tgt : Nat} (hd : decode y.2.1 pc = .ok (.if_icmp .le off, 3)) (ht : (pc : Int) + off = (tgt : Int)) (kt : x ≤ z → z_V y d mc ms cells slots tgt L st N G K) (kf : ¬ (x ≤ z) → z_V y d mc ms cells slots (pc + 3) L st N G K) : z_V y d mc ms cells slots pc L (.int z :: .int x :: st) N G K := by
  intro p l e R s m args below meth c D sA cA Hb Q H locs ls C r hc hs hl hw hS
  exact lv_icmp_le C.1 C.2.1 hd ht (fun h => kt h p l e R s m args below meth c D sA cA Hb Q H locs ls C r hc hs hl hw hS) (fun h => kf h p l e R s m args below meth c D sA cA Hb Q H locs ls C r hc hs hl hw hS)
theorem zr_goto {off : Int} {tgt : Nat} (hd : decode y.2.1 pc = .ok (.goto off, 3)) (ht : (pc : Int) + off = (tgt : Int)) (k : z_V y d mc ms cells slots tgt L st N G K) : z_V y d mc ms cells slots pc L st N G K := by
  intro p l e R s m args below meth c D sA cA Hb Q H locs ls C r hc hs hl hw hS
  exact lv_goto C.1 C.2.1 hd ht (k p l e R s m args below meth c D sA cA Hb Q H locs ls C r hc hs hl hw hS)
theorem zr_tableOut {dflt lo hi : Int} {offs : Array Int} {len : Nat} {x : Int32} {tgt : Nat} (hd : decode y.2.1 pc = .ok (.tableswitch dflt lo hi offs, len)) (h : x.toInt < lo ∨ hi < x.toInt) (ht : (pc : Int) + dflt = (tgt : Int)) (k : z_V y d mc ms cells slots tgt L st N G K) : z_V y d mc ms cells slots pc L (.int x :: st) N G K := by
  intro p l e R s m args below meth c D sA cA Hb Q H locs ls C r hc hs hl hw hS
  exact lv_tableOut C.1 C.2.1 hd h ht (k p l e R s m args below meth c D sA cA Hb Q H locs ls C r hc hs hl hw hS)
theorem zr_tableIn {dflt lo hi : Int} {offs : Array Int} {len : Nat} {x : Int32} {off : Int} {tgt : Nat} (hd : decode y.2.1 pc = .ok (.tableswitch dflt lo hi offs, len)) (h1 : ¬ x.toInt < lo) (h2 : ¬ hi < x.toInt) (ho : offs[(x.toInt - lo).toNat]? = some off) (ht : (pc : Int) + off = (tgt : Int)) (k : z_V y d mc ms cells slots tgt L st N G K) : z_V y d mc ms cells slots pc L (.int x :: st) N G K := by
  intro p l e R s m args below meth c D sA cA Hb Q H locs ls C r hc hs hl hw hS
  exact lv_tableIn C.1 C.2.1 hd h1 h2 ho ht (k p l e R s m args below meth c D sA cA Hb Q H locs ls C r hc hs hl hw hS)
theorem zr_lookup {dflt : Int} {ps : Array (Int × Int)} {len : Nat} {x : Int32} {off : Int} {tgt : Nat} (hd : decode y.2.1 pc = .ok (.lookupswitch dflt ps, len)) (hp : (ps.toList.zip (ps.toList.drop 1)).all (fun (a, next) => a.1 < next.1) = true) (ho : Op.lookupswitch.offset ps.toList dflt x.toInt = off) (ht : (pc : Int) + off = (tgt : Int)) (k : z_V y d mc ms cells slots tgt L st N G K) : z_V y d mc ms cells slots pc L (.int x :: st) N G K := by
  intro p l e R s m args below meth c D sA cA Hb Q H locs ls C r hc hs hl hw hS
  exact lv_lookup C.1 C.2.1 hd hp ho ht (k p l e R s m args below meth c D sA cA Hb Q H locs ls C r hc hs hl hw hS)
theorem zr_ret {v : Option Value} (hk : K v N G) (ho : z_ok y v) (hr : z_rt y pc v) : z_V y d mc ms mc ms pc L v.toList N G K := by
  intro p l e R s m args below meth c D sA cA Hb Q H locs ls C r hc hs hl hw hS
  exact r v N G H locs pc ls hk ho hr hw hS
theorem z_V.post {K2 : z_K} (h : z_V y d mc ms cells slots pc L st N G K) (hk : ∀ v N' G', K v N' G' → z_ok y v → K2 v N' G') : z_V y d mc ms cells slots pc L st N G K2 := by
  intro p l e R s m args below meth c D sA cA Hb Q H locs ls C r hc hs hl hw hS
  exact h p l e R s m args below meth c D sA cA Hb Q H locs ls C (fun v N' G' H locs pc ls k1 k2 => r v N' G' H locs pc ls (hk v N' G' k1 k2) k2) hc hs hl hw hS
theorem z_V.sub {L2 : List (Nat × Value)} (h : z_V y d mc ms cells slots pc L2 st N G K) (hL : ∀ q ∈ L2, q ∈ L) : z_V y d mc ms cells slots pc L st N G K := by
  intro p l e R s m args below meth c D sA cA Hb Q H locs ls C r hc hs hl hw hS
  exact h p l e R s m args below meth c D sA cA Hb Q H locs ls C r hc hs ⟨hl.1, hl.2.1, fun q hq => hl.2.2 q (List.map_subset _ (fun a ha => hL a ha) hq)⟩ hw hS
theorem z_V.widen {a b : Nat} (ha : cells ≤ a) (hb : slots ≤ b) (h : z_V y d mc ms a b pc L st N G K) : z_V y d mc ms cells slots pc L st N G K := by
  intro p l e R s m args below meth c D sA cA Hb Q H locs ls C r hc hs hl hw hS
  exact W.widen (k := a) (n := b) ha hb (h p l e R s m args below meth c D sA cA Hb Q H locs ls C r hc hs hl hw hS)
end
