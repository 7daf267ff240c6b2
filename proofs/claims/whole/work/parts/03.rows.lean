/-- a field by its number in the constant pool of 'own': field k of the class ci -/
def z_fld (own : String) (index ci k : Nat) (fin : Bool) (ty : FieldType) : Prop :=
  ∃ (Cn : String) (T : u_T) (n : Nat) (ty0 : Nat → FieldType), vwCl[ci]? = some (Cn, T, n) ∧ (∀ w ∈ u_ws Cn T n, w ∈ z_good) ∧ (∀ k, k < n → parseFieldDescriptor (T k).2.2.1 = some (ty0 k)) ∧ (∀ a, a < n → ∀ b, b < n → a ≠ b → (T a).2.1 ≠ (T b).2.1) ∧ k < n ∧ Cond.fieldLink own index (T k).1 (T k).2.1 (T k).2.2.1 ∈ z_good ∧ (T k).2.2.2 = fin ∧ parseFieldDescriptor (T k).2.2.1 = some ty ∧ (T k).1 = Cn
theorem z_Wd.set {D : va_G} {sA : Nat → Nat} {cA : Nat → ClassId} {Hb : Heap} {N : Nat} {G : Nat → va_E} {H H1 : Heap} {i : Nat} {x : va_E} {locs : List Loc} {s : State} (h : z_Wd D sA cA Hb N G H) (hsz : Hb.size ≤ s.heap.size) (hS0 : va_S (z_A Hb.size) s.heap H locs) {locs1 : List Loc} (hP : va_P D vwCl ((z_wl Hb.size sA cA N G).set i (Hb.size + i, z_e Hb.size sA cA x)) H1) (hS : va_S (z_A Hb.size) s.heap H1 locs1) (hi : i < N) (hz : H.size ≤ H1.size) : z_Wd D sA cA Hb N (z_up G i x) H1 := by
  refine ⟨by rw [← z_wl_set]; exact hP, Nat.le_trans h.2.1 hz, fun q hq => ?_⟩
  have h1 := hS.2.1 q (Nat.lt_of_lt_of_le hq hsz) (Nat.not_le.mpr hq)
  have h2 := hS0.2.1 q (Nat.lt_of_lt_of_le hq hsz) (Nat.not_le.mpr hq)
  rw [h1, ← h2]
  exact h.2.2 q hq
theorem z_size {D : va_G} {sA : Nat → Nat} {cA : Nat → ClassId} {B N : Nat} {G : Nat → va_E} {H1 : Heap} (hP : va_P D vwCl (z_wl B sA cA N G) H1) (hi : 0 < N) : B + N ≤ H1.size := by
  have h := (hP (N - 1) _ (z_wl_at (by omega))).lt
  have h2 : B + (N - 1) < H1.size := h
  omega
/-- a world whose cells, but for their contents, are as they were -/
theorem z_Wd.to {D : va_G} {sA : Nat → Nat} {cA : Nat → ClassId} {Hb : Heap} {N : Nat} {G : Nat → va_E} {H H1 : Heap} {i : Nat} {x : va_E} {locs locs1 : List Loc} {s : State} (h : z_Wd D sA cA Hb N G H) (hsz : Hb.size ≤ s.heap.size) (hi : i < N) (hP : va_P D vwCl ((z_wl Hb.size sA cA N G).set i (Hb.size + i, z_e Hb.size sA cA x)) H1) (hS : va_S (z_A Hb.size) s.heap H1 locs1) (hS0 : va_S (z_A Hb.size) s.heap H locs) : z_Wd D sA cA Hb N (z_up G i x) H1 := by
  have hP' : va_P D vwCl (z_wl Hb.size sA cA N (z_up G i x)) H1 := by rw [← z_wl_set]; exact hP
  refine ⟨hP', z_size hP' (by omega), fun q hq => ?_⟩
  have h1 := hS.2.1 q (Nat.lt_of_lt_of_le hq hsz) (Nat.not_le.mpr hq)
  have h2 := hS0.2.1 q (Nat.lt_of_lt_of_le hq hsz) (Nat.not_le.mpr hq)
  rw [h1, ← h2]
  exact h.2.2 q hq

section
variable {y : z_MD} {d mc ms cells slots pc : Nat} {L : List (Nat × Value)} {st : List Value} {N : Nat} {G : Nat → va_E} {K : z_K}

theorem zr_get {b ci i index : Nat} {fin : Bool} {ty : FieldType} {fs : List Value} {v : Value} (hd : decode y.2.1 pc = .ok (.getfield index, 3)) (hf : z_fld y.1.cls index ci i fin ty) (hb : b < N) (hG : G b = .inr (ci, fs)) (hv : fs[i]? = some v) (k : z_V y d mc ms cells slots (pc + 3) L (v :: st) N G K) : z_V y d mc ms cells slots pc L (.ref b :: st) N G K := by
  intro p l e R s m args below meth c D sA cA Hb Q H locs ls C r hc hs hl hw hS
  obtain ⟨Cn, T, n, ty0, h1, h2, h3, h4, h5, h6, h7, h8, h9⟩ := hf
  exact va_get (D := D) (ci := ci) C.1 C.2.1 C.2.2.2.2.2.2.1 h2 C.2.2.2.2.2.1 C.2.2.2.2.2.2.2.1.1 hw.1 b (fs := fs.map (z_v Hb.size sA)) (by rw [z_wl_at hb, hG]; rfl) h1 i h5 (C.2.2.2.2.2.2.1 _ h6) (fun _ h => h) (by rw [List.getElem?_map, hv]; rfl) hd (k p l e R s m args below meth c D sA cA Hb Q H locs ls C r hc hs hl hw hS)
theorem zr_put {b ci i index : Nat} {ty : FieldType} {fs : List Value} {v : Value} (hd : decode y.2.1 pc = .ok (.putfield index, 3)) (hf : z_fld y.1.cls index ci i false ty) (hb : b < N) (hG : G b = .inr (ci, fs)) (hi : i < fs.length) (hn : ∀ B sA, narrow ty (z_v B sA v) = z_v B sA v ∧ fits ty (z_v B sA v) = true) (k : z_V y d mc ms cells slots (pc + 3) L st N (z_up G b (.inr (ci, fs.set i v))) K) : z_V y d mc ms cells slots pc L (v :: .ref b :: st) N G K := by
  intro p l e R s m args below meth c D sA cA Hb Q H locs ls C r hc hs hl hw hS
  obtain ⟨Cn, T, n, ty0, h1, h2, h3, h4, h5, h6, h7, h8, h9⟩ := hf
  refine va_put (D := D) (ci := ci) C.1 C.2.1 C.2.2.2.2.2.2.1 h2 ty0 h3 h4 C.2.2.2.2.2.1 C.2.2.2.2.2.2.2.1.1 hw.1 z_D hS b (fs := fs.map (z_v Hb.size sA)) (by rw [z_wl_at hb, hG]; rfl) h1 i h5 (C.2.2.2.2.2.2.1 _ h6) (fun _ h => h) h7 h8 (hn _ _).1 (hn _ _).2 (by simpa using hi) hd (fun H1 locs1 hP1 _ hS1 => ?_)
  have e1 : (fs.map (z_v Hb.size sA)).set i (z_v Hb.size sA v) = (fs.set i v).map (z_v Hb.size sA) := by rw [List.map_set]
  rw [e1] at hP1
  exact k p l e R s m args below meth c D sA cA Hb Q H1 locs1 ls C r hc hs hl (hw.to (x := .inr (ci, fs.set i v)) C.2.2.2.2.2.2.2.2.1 hb hP1 hS1 hS) hS1
theorem zr_putF {b ci i index : Nat} {ty : FieldType} {fs : List Value} {v : Value} (hd : decode y.2.1 pc = .ok (.putfield index, 3)) (hf : z_fld y.1.cls index ci i true ty) (hnm : y.1.name = "<init>") (hcl : (vwCl[ci]?).map (fun q => q.1) = some y.1.cls) (hb : b < N) (hG : G b = .inr (ci, fs)) (hi : i < fs.length) (hn : ∀ B sA, narrow ty (z_v B sA v) = z_v B sA v ∧ fits ty (z_v B sA v) = true) (k : z_V y d mc ms cells slots (pc + 3) L st N (z_up G b (.inr (ci, fs.set i v))) K) : z_V y d mc ms cells slots pc L (v :: .ref b :: st) N G K := by
  intro p l e R s m args below meth c D sA cA Hb Q H locs ls C r hc hs hl hw hS
  obtain ⟨Cn, T, n, ty0, h1, h2, h3, h4, h5, h6, h7, h8, h9⟩ := hf
  have hcn : Cn = y.1.cls := by rw [h1] at hcl; exact Option.some.inj hcl
  refine va_putF (D := D) (ci := ci) C.1 C.2.1 C.2.2.2.2.2.2.1 h2 ty0 h3 h4 C.2.2.2.2.2.1 C.2.2.2.2.2.2.2.1.1 hw.1 z_D hS b (fs := fs.map (z_v Hb.size sA)) (by rw [z_wl_at hb, hG]; rfl) h1 i h5 (C.2.2.2.2.2.2.1 _ h6) (fun _ h => h) h7 (C.2.2.2.2.2.2.2.2.2.2.2.trans hnm) (h9.trans hcn) h8 (hn _ _).1 (hn _ _).2 (by simpa using hi) hd (fun H1 locs1 hP1 _ hS1 => ?_)
  have e1 : (fs.map (z_v Hb.size sA)).set i (z_v Hb.size sA v) = (fs.set i v).map (z_v Hb.size sA) := by rw [List.map_set]
  rw [e1] at hP1
  exact k p l e R s m args below meth c D sA cA Hb Q H1 locs1 ls C r hc hs hl (hw.to (x := .inr (ci, fs.set i v)) C.2.2.2.2.2.2.2.2.1 hb hP1 hS1 hS) hS1
theorem zr_iald {a n : Nat} {f : Nat → Int32} {j : Int32} (hd : decode y.2.1 pc = .ok (.iaload, 1)) (ha : a < N) (hG : G a = .inl (0, n, .inl f)) (hj : vp_in j n) (k : z_V y d mc ms cells slots (pc + 1) L (.int (f j.toNatClampNeg) :: st) N G K) : z_V y d mc ms cells slots pc L (.int j :: .ref a :: st) N G K := by
  intro p l e R s m args below meth c D sA cA Hb Q H locs ls C r hc hs hl hw hS
  exact va_iald (D := D) C.1 C.2.1 C.2.2.2.2.2.2.2.1.1 hw.1 a 0 (n := n) (f := f) (by rw [z_wl_at ha, hG]; rfl) (by rfl) hj hd (k p l e R s m args below meth c D sA cA Hb Q H locs ls C r hc hs hl hw hS)
theorem zr_bald {a n : Nat} {f : Nat → Int32} {j : Int32} (hd : decode y.2.1 pc = .ok (.baload, 1)) (ha : a < N) (hG : G a = .inl (2, n, .inl f)) (hj : vp_in j n) (k : z_V y d mc ms cells slots (pc + 1) L (.int (f j.toNatClampNeg) :: st) N G K) : z_V y d mc ms cells slots pc L (.int j :: .ref a :: st) N G K := by
  intro p l e R s m args below meth c D sA cA Hb Q H locs ls C r hc hs hl hw hS
  exact va_bald (D := D) C.1 C.2.1 C.2.2.2.2.2.2.2.1.1 hw.1 a 2 (n := n) (f := f) (by rw [z_wl_at ha, hG]; rfl) (by rfl) hj hd (k p l e R s m args below meth c D sA cA Hb Q H locs ls C r hc hs hl hw hS)
theorem zr_zald {a n : Nat} {f : Nat → Int32} {j : Int32} (hd : decode y.2.1 pc = .ok (.baload, 1)) (ha : a < N) (hG : G a = .inl (3, n, .inl f)) (hj : vp_in j n) (k : z_V y d mc ms cells slots (pc + 1) L (.int (f j.toNatClampNeg) :: st) N G K) : z_V y d mc ms cells slots pc L (.int j :: .ref a :: st) N G K := by
  intro p l e R s m args below meth c D sA cA Hb Q H locs ls C r hc hs hl hw hS
  exact va_zald (D := D) C.1 C.2.1 C.2.2.2.2.2.2.2.1.1 hw.1 a 3 (n := n) (f := f) (by rw [z_wl_at ha, hG]; rfl) (by rfl) hj hd (k p l e R s m args below meth c D sA cA Hb Q H locs ls C r hc hs hl hw hS)
theorem zr_lald {a n : Nat} {f : Nat → Int64} {j : Int32} (hd : decode y.2.1 pc = .ok (.laload, 1)) (ha : a < N) (hG : G a = .inl (1, n, .inr (.inl f))) (hj : vp_in j n) (k : z_V y d mc ms cells slots (pc + 1) L (.long (f j.toNatClampNeg) :: st) N G K) : z_V y d mc ms cells slots pc L (.int j :: .ref a :: st) N G K := by
  intro p l e R s m args below meth c D sA cA Hb Q H locs ls C r hc hs hl hw hS
  exact va_lald (D := D) C.1 C.2.1 C.2.2.2.2.2.2.2.1.1 hw.1 a 1 (n := n) (f := f) (by rw [z_wl_at ha, hG]; rfl) (by rfl) hj hd (k p l e R s m args below meth c D sA cA Hb Q H locs ls C r hc hs hl hw hS)
theorem zr_aald {a n t o : Nat} {Cn : String} {f : Nat → Option Nat} {j : Int32} (hd : decode y.2.1 pc = .ok (.aaload, 1)) (ha : a < N) (hG : G a = .inl (t, n, .inr (.inr (.inr (.inr f))))) (ht : ∀ cA : Nat → ClassId, (z_tys cA)[t]? = some (cA t, .object Cn)) (hj : vp_in j n) (ho : f j.toNatClampNeg = some o) (k : z_V y d mc ms cells slots (pc + 1) L (.ref o :: st) N G K) : z_V y d mc ms cells slots pc L (.int j :: .ref a :: st) N G K := by
  intro p l e R s m args below meth c D sA cA Hb Q H locs ls C r hc hs hl hw hS
  refine va_aldq (D := D) C.1 C.2.1 C.2.2.2.2.2.2.2.1.1 hw.1 a t (n := n) (f := fun j => (f j).map (fun i => Hb.size + i)) (by rw [z_wl_at ha, hG]; rfl) (ht cA) hj hd ?_
  simp only [ho, Option.map_some]
  exact k p l e R s m args below meth c D sA cA Hb Q H locs ls C r hc hs hl hw hS
theorem zr_iast {a n : Nat} {f : Nat → Int32} {j : Int32} {x : Int32} (hd : decode y.2.1 pc = .ok (.iastore, 1)) (ha : a < N) (hG : G a = .inl (0, n, .inl f)) (hj : vp_in j n) (k : z_V y d mc ms cells slots (pc + 1) L st N (z_up G a (.inl (0, n, .inl (upd f j.toNatClampNeg x)))) K) : z_V y d mc ms cells slots pc L (.int x :: .int j :: .ref a :: st) N G K := by
  intro p l e R s m args below meth c D sA cA Hb Q H locs ls C r hc hs hl hw hS
  exact va_iast (D := D) C.1 C.2.1 C.2.2.2.2.2.2.2.1.1 hw.1 z_D hS a 0 (n := n) (f := f) (by rw [z_wl_at ha, hG]; rfl) (by rfl) hj hd (fun H1 locs1 hP1 _ hS1 => k p l e R s m args below meth c D sA cA Hb Q H1 locs1 ls C r hc hs hl (hw.to (x := .inl (0, n, .inl (upd f j.toNatClampNeg x))) C.2.2.2.2.2.2.2.2.1 ha hP1 hS1 hS) hS1)
theorem zr_bast {a n : Nat} {f : Nat → Int32} {j : Int32} {x : Int32} (hd : decode y.2.1 pc = .ok (.bastore, 1)) (ha : a < N) (hG : G a = .inl (2, n, .inl f)) (hj : vp_in j n) (k : z_V y d mc ms cells slots (pc + 1) L st N (z_up G a (.inl (2, n, .inl (upd f j.toNatClampNeg (vp_nar .byte x))))) K) : z_V y d mc ms cells slots pc L (.int x :: .int j :: .ref a :: st) N G K := by
  intro p l e R s m args below meth c D sA cA Hb Q H locs ls C r hc hs hl hw hS
  exact va_bast (D := D) C.1 C.2.1 C.2.2.2.2.2.2.2.1.1 hw.1 z_D hS a 2 (n := n) (f := f) (by rw [z_wl_at ha, hG]; rfl) (by rfl) hj hd (fun H1 locs1 hP1 _ hS1 => k p l e R s m args below meth c D sA cA Hb Q H1 locs1 ls C r hc hs hl (hw.to (x := .inl (2, n, .inl (upd f j.toNatClampNeg (vp_nar .byte x)))) C.2.2.2.2.2.2.2.2.1 ha hP1 hS1 hS) hS1)
theorem zr_zast {a n : Nat} {f : Nat → Int32} {j : Int32} {x : Int32} (hd : decode y.2.1 pc = .ok (.bastore, 1)) (ha : a < N) (hG : G a = .inl (3, n, .inl f)) (hj : vp_in j n) (k : z_V y d mc ms cells slots (pc + 1) L st N (z_up G a (.inl (3, n, .inl (upd f j.toNatClampNeg (vp_nar .boolean x))))) K) : z_V y d mc ms cells slots pc L (.int x :: .int j :: .ref a :: st) N G K := by
  intro p l e R s m args below meth c D sA cA Hb Q H locs ls C r hc hs hl hw hS
  exact va_zast (D := D) C.1 C.2.1 C.2.2.2.2.2.2.2.1.1 hw.1 z_D hS a 3 (n := n) (f := f) (by rw [z_wl_at ha, hG]; rfl) (by rfl) hj hd (fun H1 locs1 hP1 _ hS1 => k p l e R s m args below meth c D sA cA Hb Q H1 locs1 ls C r hc hs hl (hw.to (x := .inl (3, n, .inl (upd f j.toNatClampNeg (vp_nar .boolean x)))) C.2.2.2.2.2.2.2.2.1 ha hP1 hS1 hS) hS1)
theorem zr_last {a n : Nat} {f : Nat → Int64} {j : Int32} {x : Int64} (hd : decode y.2.1 pc = .ok (.lastore, 1)) (ha : a < N) (hG : G a = .inl (1, n, .inr (.inl f))) (hj : vp_in j n) (k : z_V y d mc ms cells slots (pc + 1) L st N (z_up G a (.inl (1, n, .inr (.inl (vp_updL f j.toNatClampNeg x))))) K) : z_V y d mc ms cells slots pc L (.long x :: .int j :: .ref a :: st) N G K := by
  intro p l e R s m args below meth c D sA cA Hb Q H locs ls C r hc hs hl hw hS
  exact va_last (D := D) C.1 C.2.1 C.2.2.2.2.2.2.2.1.1 hw.1 z_D hS a 1 (n := n) (f := f) (by rw [z_wl_at ha, hG]; rfl) (by rfl) hj hd (fun H1 locs1 hP1 _ hS1 => k p l e R s m args below meth c D sA cA Hb Q H1 locs1 ls C r hc hs hl (hw.to (x := .inl (1, n, .inr (.inl (vp_updL f j.toNatClampNeg x)))) C.2.2.2.2.2.2.2.2.1 ha hP1 hS1 hS) hS1)
theorem zr_alen {a n t : Nat} {f : _} {ty : FieldType} {v : Int32} (hd : decode y.2.1 pc = .ok (.arraylength, 1)) (ha : a < N) (hG : G a = .inl (t, n, f)) (ht : ∀ cA : Nat → ClassId, (z_tys cA)[t]? = some (cA t, ty)) (hv : Int32.ofNat n = v) (k : z_V y d mc ms cells slots (pc + 1) L (.int v :: st) N G K) : z_V y d mc ms cells slots pc L (.ref a :: st) N G K := by
  intro p l e R s m args below meth c D sA cA Hb Q H locs ls C r hc hs hl hw hS
  exact va_alen (D := D) C.1 C.2.1 C.2.2.2.2.2.2.2.1.1 hw.1 a t (by rw [z_wl_at ha, hG]; rfl) (ht cA) hv hd (k p l e R s m args below meth c D sA cA Hb Q H locs ls C r hc hs hl hw hS)
theorem zr_copyi {index a0 a n0 n1 : Nat} {f g : Nat → Int32} {sp dp n : Int32} (hd : decode y.2.1 pc = .ok (.invokestatic index, 3)) (hk : Cond.methodLink y.1.cls index arraycopyName ∈ z_good) (hk2 : Cond.native arraycopyName ∈ z_good ∧ Cond.static arraycopyName ∈ z_good ∧ Cond.initialized "java/lang/System" ∈ z_good) (ha0 : a0 < N) (ha : a < N) (hG0 : G a0 = .inl (0, n0, .inl f)) (hG : G a = .inl (0, n1, .inl g)) (h1 : ¬ sp < 0) (h2 : ¬ dp < 0) (h3 : ¬ n < 0) (h4 : sp.toNatClampNeg + n.toNatClampNeg ≤ n0) (h5 : dp.toNatClampNeg + n.toNatClampNeg ≤ n1) (hdd : 1 ≤ d) (hst : (st.map fun v => v.category).sum ≤ 8) (k : z_V y d mc ms cells slots (pc + 3) L st N (z_up G a (.inl (0, n1, .inl (va_cpy f g sp.toNatClampNeg dp.toNatClampNeg n.toNatClampNeg)))) K) : z_V y d mc ms cells slots pc L (.int n :: .int dp :: .ref a :: .int sp :: .ref a0 :: st) N G K := by
  intro p l e R s m args below meth c D sA cA Hb Q H locs ls C r hc hs hl hw hS
  have hcat : ((st.map (z_v Hb.size sA)).map fun v => v.category).sum ≤ 8 := by
    rw [List.map_map, show ((fun v => v.category) ∘ z_v Hb.size sA) = (fun v => v.category) from funext fun v => z_cat _ _ v]; exact hst
  exact va_copyi (D := D) C.1 C.2.1 (C.2.2.2.1.trans hl.1.symm) C.2.2.2.2.2.1 (C.2.2.2.2.2.2.1 _ hk) (C.2.2.2.2.2.2.1 _ hk2.1) (C.2.2.2.2.2.2.1 _ hk2.2.1) (C.2.2.2.2.2.2.1 _ hk2.2.2) C.2.2.2.2.2.2.2.1.1 hw.1 z_D hS a0 a 0 0 (n0 := n0) (n1 := n1) (f := f) (g := g) (ty := .int) (by rw [z_wl_at ha0, hG0]; rfl) (by rw [z_wl_at ha, hG]; rfl) (by rfl) (by rfl) (by rfl) h1 h2 h3 h4 h5 (fun _ _ => rfl) (Nat.le_trans hdd C.2.2.2.2.2.2.2.2.2.1) (Nat.le_trans (Nat.add_le_add_right hcat _) (Nat.le_trans (by decide) (Nat.le_trans (Nat.mul_le_mul_left 60 hdd) C.2.2.2.2.2.2.2.2.2.2.1))) hd (fun H1 locs1 hP1 _ hS1 => k p l e R s m args below meth c D sA cA Hb Q H1 locs1 ls C r hc hs hl (hw.to (x := .inl (0, n1, .inl (va_cpy f g sp.toNatClampNeg dp.toNatClampNeg n.toNatClampNeg))) C.2.2.2.2.2.2.2.2.1 ha hP1 hS1 hS) hS1)
theorem zr_copyl {index a0 a n0 n1 : Nat} {f g : Nat → Int64} {sp dp n : Int32} (hd : decode y.2.1 pc = .ok (.invokestatic index, 3)) (hk : Cond.methodLink y.1.cls index arraycopyName ∈ z_good) (hk2 : Cond.native arraycopyName ∈ z_good ∧ Cond.static arraycopyName ∈ z_good ∧ Cond.initialized "java/lang/System" ∈ z_good) (ha0 : a0 < N) (ha : a < N) (hG0 : G a0 = .inl (1, n0, .inr (.inl f))) (hG : G a = .inl (1, n1, .inr (.inl g))) (h1 : ¬ sp < 0) (h2 : ¬ dp < 0) (h3 : ¬ n < 0) (h4 : sp.toNatClampNeg + n.toNatClampNeg ≤ n0) (h5 : dp.toNatClampNeg + n.toNatClampNeg ≤ n1) (hdd : 1 ≤ d) (hst : (st.map fun v => v.category).sum ≤ 8) (k : z_V y d mc ms cells slots (pc + 3) L st N (z_up G a (.inl (1, n1, .inr (.inl (va_cpy f g sp.toNatClampNeg dp.toNatClampNeg n.toNatClampNeg))))) K) : z_V y d mc ms cells slots pc L (.int n :: .int dp :: .ref a :: .int sp :: .ref a0 :: st) N G K := by
  intro p l e R s m args below meth c D sA cA Hb Q H locs ls C r hc hs hl hw hS
  have hcat : ((st.map (z_v Hb.size sA)).map fun v => v.category).sum ≤ 8 := by
    rw [List.map_map, show ((fun v => v.category) ∘ z_v Hb.size sA) = (fun v => v.category) from funext fun v => z_cat _ _ v]; exact hst
  exact va_copyl (D := D) C.1 C.2.1 (C.2.2.2.1.trans hl.1.symm) C.2.2.2.2.2.1 (C.2.2.2.2.2.2.1 _ hk) (C.2.2.2.2.2.2.1 _ hk2.1) (C.2.2.2.2.2.2.1 _ hk2.2.1) (C.2.2.2.2.2.2.1 _ hk2.2.2) C.2.2.2.2.2.2.2.1.1 hw.1 z_D hS a0 a 1 1 (n0 := n0) (n1 := n1) (f := f) (g := g) (ty := .long) (by rw [z_wl_at ha0, hG0]; rfl) (by rw [z_wl_at ha, hG]; rfl) (by rfl) (by rfl) (by rfl) h1 h2 h3 h4 h5 (fun _ _ => rfl) (Nat.le_trans hdd C.2.2.2.2.2.2.2.2.2.1) (Nat.le_trans (Nat.add_le_add_right hcat _) (Nat.le_trans (by decide) (Nat.le_trans (Nat.mul_le_mul_left 60 hdd) C.2.2.2.2.2.2.2.2.2.2.1))) hd (fun H1 locs1 hP1 _ hS1 => k p l e R s m args below meth c D sA cA Hb Q H1 locs1 ls C r hc hs hl (hw.to (x := .inl (1, n1, .inr (.inl (va_cpy f g sp.toNatClampNeg dp.toNatClampNeg n.toNatClampNeg)))) C.2.2.2.2.2.2.2.2.1 ha hP1 hS1 hS) hS1)
end

-- ===== calls =====
def z_rm (d mc ms : Nat) : Room := { frames := d, cells := mc, slots := ms, locals := 60 * d }
/-- a method's contract, as the kit has it -/
def z_Pc (D : va_G) (sA : Nat → Nat) (cA : Nat → ClassId) (Hb : Heap) (N : Nat) (G : Nat → va_E) (As : List Value) : Array Value → State → Prop :=
  va_Pc (As.map (z_v Hb.size sA)) (fun U => z_Wd D sA cA Hb N G U.heap ∧ z_En D sA cA Hb U ∧ Hb.size ≤ U.heap.size)
def z_Qc (y : z_MD) (D : va_G) (sA : Nat → Nat) (cA : Nat → ClassId) (Hb : Heap) (K : z_K) : Array Value → State → Outcome → State → Prop :=
  fun _ st o t => ∃ (v : Option Value) (N' : Nat) (G' : Nat → va_E), o = .returned (v.map (z_v Hb.size sA)) ∧ K v N' G' ∧ z_ok y v ∧ z_Wd D sA cA Hb N' G' t.heap ∧ va_F (z_A Hb.size) st t
theorem z_v_ok {y : z_MD} {B : Nat} {sA : Nat → Nat} {v : Option Value} (h : z_ok y v) : v.map (z_v B sA) = v := by
  match v, h with
  | none, _ => rfl
  | some (.int x), _ => rfl
  | some (.long x), _ => rfl
theorem z_args (B : Nat) (sA : Nat → Nat) : ∀ (As : List Value) (i : Nat), lv_args i (As.map (z_v B sA)) = z_L B sA (lv_args i As)
  | [], i => rfl
  | v :: vs, i => by
    show (i, z_v B sA v) :: lv_args (if (z_v B sA v).category = 2 then i + 2 else i + 1) (vs.map (z_v B sA)) = _
    rw [z_cat, z_args B sA vs]
    rfl
theorem z_slen (B : Nat) (sA : Nat → Nat) : ∀ (As : List Value), (lg_sl (As.map (z_v B sA))).length = (lg_sl As).length
  | [] => rfl
  | v :: vs => by
    have h := z_slen B sA vs
    simp only [lg_sl, List.map_cons, List.flatMap_cons, List.length_append] at h ⊢
    rw [h, z_cat]
    by_cases hc : v.category = 2
    · rw [if_pos hc, if_pos hc]; rfl
    · rw [if_neg hc, if_neg hc]; rfl
theorem z_Met {l : Launch} {y : z_MD} {d mc ms N : Nat} {G : Nat → va_E} {K : z_K} {As : List Value} {D : va_G} {sA : Nat → Nat} {cA : Nat → ClassId} {Hb : Heap} (hfl : l.stackTraces = false) (hy : plainName y.1.cls = true) (hsl : (lg_sl As).length ≤ y.2.2.1) (hV : z_V y d mc ms 0 0 0 (lv_args 0 As) [] N G K) : Met l y.1 (z_ws y) (z_rm d mc ms) (z_Pc D sA cA Hb N G As) (z_Qc y D sA cA Hb K) mc ms (z_A Hb.size) := by
  refine Met.ofW (cc := y.2.1) (maxL := y.2.2.1) (ret := y.2.2.2) hy rfl ?_
  intro p e s m args below meth c s₁ B hml hv
  obtain ⟨rfl, hw, hE, hsz⟩ := hv
  have hts := atoms_spec (ws := z_ws y) B.pre
  have hl := lv_entry (As.map (z_v Hb.size sA)) (n := y.2.2.1) (by rw [z_slen]; exact hsl)
  rw [lg_entry_eq]
  generalize (lg_sl (As.map (z_v Hb.size sA)) ++ List.replicate (y.2.2.1 - (lg_sl (As.map (z_v Hb.size sA))).length) Slot.unset).toArray = ls at hl ⊢
  rw [z_args] at hl
  refine hV p l e _ s m _ below meth c D sA cA Hb _ s.heap [] ls ⟨B.exec, B.bytes, B.returns, hml, ⟨B.notSynchronized, hfl⟩, findClass_of_methodNamed B.named, fun w hw => hts w (List.mem_cons_of_mem _ hw), hE, hsz, Nat.le_refl _, Nat.le_refl _, (name_of_methodNamed B.named B.method).1⟩ ?_ (Nat.le_refl _) (Nat.le_refl _) hl hw va_S.rf
  intro v N' G' H locs pc ls hk ho hr hw hS
  have fin : ∀ (v' : Option Value), v'.map (z_v Hb.size sA) = v' → K v' N' G' → z_ok y v' → ∀ t : State, t.heap = H → s.WarmedH t.vm → z_Qc y D sA cA Hb K (As.map (z_v Hb.size sA)).toArray s (.returned v') t := fun v' e1 hk ho t ht hW => ⟨v', N', G', by rw [e1], hk, ho, by rw [ht]; exact hw, hS.F ht⟩
  match v, hk, ho, hr with
  | none, hk, ho, hr => exact W.vret B.exec B.bytes (B.returns.trans ho) (fin none rfl hk ho) hS.2.2 hr B.notSynchronized
  | some (.int x), hk, ho, hr =>
    obtain ⟨ty, h1, h2⟩ := id ho
    exact W.zret B.exec B.bytes (B.returns.trans h1) h2 (fin (some (.int x)) rfl hk ho) hS.2.2 hr B.notSynchronized
  | some (.long x), hk, ho, hr => exact W.lret B.exec B.bytes (B.returns.trans ho) (fin (some (.long x)) rfl hk ho) hS.2.2 hr B.notSynchronized
theorem z_blind {D : va_G} {sA : Nat → Nat} {cA : Nat → ClassId} {Hb : Heap} {N : Nat} {G : Nat → va_E} {As : List Value} : FrameBlind (z_Pc D sA cA Hb N G As) := by
  intro a U g mk h
  obtain ⟨h1, h2, h3, h4⟩ := h
  exact ⟨h1, h2, h3.same rfl, h4⟩
theorem z_run {p : Program} {l : Launch} {e : Env} {R : Room} {s : State} {m : MethodId} {args : Array Value} {below : List Frame} {meth : Method} {c : Code} {H : Heap} {locs : List Loc} {cells slots mc ms pc : Nat} {Q : State → Prop} {ls : Array Slot} {st0 rest : List Value} {a : Array Value} {y : z_MD} {D : va_G} {sA : Nat → Nat} {cA : Nat → ClassId} {Hb : Heap} {K : z_K}
    (hr : va_Run p l e R s m args below meth c H locs cells slots mc ms (F0 m pc ls st0) rest (z_Qc y D sA cA Hb K a) (z_A Hb.size)) (hS : va_S (z_A Hb.size) s.heap H locs)
    (kk : ∀ (v : Option Value) (N' : Nat) (G' : Nat → va_E) (H1 : Heap) (locs1 : List Loc), K v N' G' → z_ok y v → z_Wd D sA cA Hb N' G' H1 → va_S (z_A Hb.size) s.heap H1 locs1 → W p l e R s m args below meth c H1 locs1 (cells + mc) (slots + ms) Q (F0 m (pc + 3) ls (v.toList ++ rest))) : W p l e R s m args below meth c H locs cells slots Q (F0 m pc ls st0) := by
  intro T hT X
  obtain ⟨v, st₀, t, T', L, h0, X', hL, e1, e2, ⟨v', N', G', hv, hp, ho, hb, hz, hk⟩, st⟩ := hr T hT X
  have hvv : v = v' := by rw [z_v_ok ho] at hv; exact Option.some.inj (by injection hv with h; rw [h])
  subst hvv
  rw [h0] at hz hk
  obtain ⟨t2, a1, b1⟩ := kk v N' G' T'.heap (locs ++ L) hp ho (by rw [e1]; exact hb)
    ⟨Nat.le_trans hS.1 (by rw [e1]; exact hz), fun q h1 h2 => by rw [e1, hk q (Nat.lt_of_lt_of_le h1 hS.1) h2]; exact hS.2.1 q h1 h2, fun q hq => by
      rcases List.mem_append.mp hq with h | h
      · exact hS.2.2 q h
      · exact hL q h⟩ T' rfl X'
  exact ⟨t2, st t2 a1, b1⟩
theorem z_goodIn {Ts : List Cond} {y : z_MD} (hc : Cond.code y.1 y.2.1 y.2.2.1 y.2.2.2 ∈ z_good) (hT : ∀ w ∈ z_good, w ∈ Ts) : GoodIn Ts (z_ws y) := by
  intro w hw
  rcases List.mem_cons.mp hw with h | h
  · rw [h]; exact ⟨hT _ hc, good_of_word (z_gw hc)⟩
  · exact ⟨hT w h, good_of_word (z_gw h)⟩
/-- a method that can be called: its words, its name plain, how many arguments, its locals few -/
def z_mth (y : z_MD) (n : Nat) : Prop := Cond.code y.1 y.2.1 y.2.2.1 y.2.2.2 ∈ z_good ∧ Cond.initialized y.1.cls ∈ z_good ∧ plainName y.1.cls = true ∧ (y.1.cls ≠ "java/lang/invoke/MethodHandle" ∧ y.1.cls ≠ "java/lang/invoke/VarHandle" ∧ (parseMethodDescriptor y.1.desc).map (fun d => d.parameters.length) = some n) ∧ y.2.2.1 ≤ 41
theorem z_callB {R : Room} {s : State} {args : Array Value} {own : String} {index n d mc ms : Nat} {y : z_MD} (hts : ∀ w ∈ z_good, w.before args s = true) (hy : z_mth y n) (hl : Cond.methodLink own index y.1 ∈ z_good) (hf : d + 1 ≤ R.frames) (hlo : 60 * (d + 1) ≤ R.locals) : CallB R s args own index y.1 y.2.1 y.2.2.1 y.2.2.2 (z_ws y) (z_rm d mc ms) mc ms n :=
  callB_of n hts (z_goodIn hy.1 fun _ h => h) rfl rfl rfl (hts _ hy.2.1) (hts _ hl) hy.2.2.2.1 ⟨hf, by have := hy.2.2.2.2; show 8 + (y.2.2.1 + 11) + 60 * d ≤ R.locals; omega⟩
theorem z_callN {R : Room} {s : State} {args : Array Value} {own host : String} {index n d mc ms : Nat} {y : z_MD} (hts : ∀ w ∈ z_good, w.before args s = true) (hy : z_mth y n) (hl : va_Nw (.methodLinkNest own index y.1 host) s) (hf : d + 1 ≤ R.frames) (hlo : 60 * (d + 1) ≤ R.locals) : va_CN R s args own index y.1 host y.2.1 y.2.2.1 y.2.2.2 (z_ws y) (z_rm d mc ms) mc ms n :=
  va_cnB n hts (z_goodIn hy.1 fun _ h => h) rfl rfl rfl hl (hts _ hy.2.1) hy.2.2.2.1 ⟨hf, by have := hy.2.2.2.2; show 8 + (y.2.2.1 + 11) + 60 * d ≤ R.locals; omega⟩
theorem z_stk {m : MethodId} {pc : Nat} {ls : Array Slot} {st0 st : List Value} {B : Nat} {sA : Nat → Nat} (h : (st.map fun v => v.category).sum ≤ 8) : 2 * (F0 m pc ls st0).monitorRoom + ((st.map (z_v B sA)).map fun v => v.category).sum ≤ 8 := by
  refine lv_room ?_
  rw [List.map_map, show ((fun v => v.category) ∘ z_v B sA) = (fun v => v.category) from funext fun v => z_cat _ _ v]; exact h

section
variable {y y2 : z_MD} {d mc ms cells slots pc index n mc2 ms2 b ci : Nat} {L : List (Nat × Value)} {st As fs : List Value} {N : Nat} {G : Nat → va_E} {K : z_K}

theorem zr_callV (hd : decode y.2.1 pc = .ok (.invokevirtual index, 3)) (hy : z_mth y2 n) (hlk : Cond.methodLink y.1.cls index y2.1 ∈ z_good) (hci0 : (vwCl[ci]?).map (fun q => q.1) = some y2.1.cls) (hb : b < N) (hG : G b = .inr (ci, fs)) (hsel : Cond.instanceMethod y2.1 ∈ z_good ∧ Cond.selects y2.1.cls y2.1 y2.1 ∈ z_good) (hA : As.length = n) (hsl : (lg_sl (.ref b :: As)).length ≤ y2.2.2.1) (hst : (st.map fun v => v.category).sum ≤ 8) (hcc : cells + mc2 ≤ mc) (hss : slots + ms2 ≤ ms) (k : z_V y2 d mc2 ms2 0 0 0 (lv_args 0 (.ref b :: As)) [] N G (fun v N' G' => z_V y (d + 1) mc ms (cells + mc2) (slots + ms2) (pc + 3) L (v.toList ++ st) N' G' K)) : z_V y (d + 1) mc ms cells slots pc L (As.reverse ++ .ref b :: st) N G K := by
  intro p l e R s m args below meth c D sA cA Hb Q H locs ls C r hc hs hl hw hS
  obtain ⟨T, k0, hci⟩ : ∃ (T : u_T) (k : Nat), vwCl[ci]? = some (y2.1.cls, T, k) := by
    cases h : vwCl[ci]? with
    | none => rw [h] at hci0; cases hci0
    | some q => rw [h] at hci0; exact ⟨q.2.1, q.2.2, by rw [← Option.some.inj hci0]⟩
  have hM := z_Met (l := l) (D := D) (sA := sA) (cA := cA) (Hb := Hb) C.2.2.2.2.1.2 hy.2.2.1 hsl k
  refine z_run (va_runV (As := As.map (z_v Hb.size sA)) (rest := st.map (z_v Hb.size sA)) ⟨C.1, C.2.1, C.2.2.2.1, C.2.2.2.2.2.1, C.2.2.2.2.2.2.1⟩ hM ⟨z_callB C.2.2.2.2.2.2.1 hy hlk C.2.2.2.2.2.2.2.2.2.1 C.2.2.2.2.2.2.2.2.2.2.1, C.2.2.2.2.2.2.1 _ hsel.1, C.2.2.2.2.2.2.1 _ hsel.2⟩ ⟨z_blind, va_recv C.2.2.2.2.2.2.2.1.1 hw.1 (ci := ci) (q0 := b) (q := (y2.1.cls, T, k0)) (fs := fs.map (z_v Hb.size sA)) hci (by rw [z_wl_at hb, hG]; rfl), fun U hU hW => ⟨rfl, by rw [hU]; exact hw, C.2.2.2.2.2.2.2.1.warm hW, by rw [hU]; exact Nat.le_trans C.2.2.2.2.2.2.2.2.1 hS.1⟩⟩ rfl (by rw [List.length_map]; exact hA) hl.1 (by rw [List.map_append, List.map_reverse]; rfl) (z_stk hst) hd ⟨Nat.le_trans hcc hc, Nat.le_trans hss hs⟩) hS (fun v N' G' H1 locs1 hk ho hw hS => by
    have h := hk p l e R s m args below meth c D sA cA Hb Q H1 locs1 ls C r hc hs hl hw hS
    rw [List.map_append, show v.toList.map (z_v Hb.size sA) = v.toList by rw [← Option.toList_map, z_v_ok ho]] at h
    exact h)
theorem zr_callS (hd : decode y.2.1 pc = .ok (.invokestatic index, 3)) (hy : z_mth y2 n) (hlk : Cond.methodLink y.1.cls index y2.1 ∈ z_good) (hsel : Cond.static y2.1 ∈ z_good) (hA : As.length = n) (hsl : (lg_sl As).length ≤ y2.2.2.1) (hst : (st.map fun v => v.category).sum ≤ 8) (hcc : cells + mc2 ≤ mc) (hss : slots + ms2 ≤ ms) (k : z_V y2 d mc2 ms2 0 0 0 (lv_args 0 As) [] N G (fun v N' G' => z_V y (d + 1) mc ms (cells + mc2) (slots + ms2) (pc + 3) L (v.toList ++ st) N' G' K)) : z_V y (d + 1) mc ms cells slots pc L (As.reverse ++ st) N G K := by
  intro p l e R s m args below meth c D sA cA Hb Q H locs ls C r hc hs hl hw hS
  have hM := z_Met (l := l) (D := D) (sA := sA) (cA := cA) (Hb := Hb) C.2.2.2.2.1.2 hy.2.2.1 hsl k
  refine z_run (va_runS (As := As.map (z_v Hb.size sA)) (rest := st.map (z_v Hb.size sA)) ⟨C.1, C.2.1, C.2.2.2.1, C.2.2.2.2.2.1, C.2.2.2.2.2.2.1⟩ hM ⟨z_callB C.2.2.2.2.2.2.1 hy hlk C.2.2.2.2.2.2.2.2.2.1 C.2.2.2.2.2.2.2.2.2.2.1, C.2.2.2.2.2.2.1 _ hsel⟩ ⟨z_blind, fun U hU hW => ⟨rfl, by rw [hU]; exact hw, C.2.2.2.2.2.2.2.1.warm hW, by rw [hU]; exact Nat.le_trans C.2.2.2.2.2.2.2.2.1 hS.1⟩⟩ rfl (by rw [List.length_map]; exact hA) hl.1 (by rw [List.map_append, List.map_reverse]) (z_stk hst) hd ⟨Nat.le_trans hcc hc, Nat.le_trans hss hs⟩) hS (fun v N' G' H1 locs1 hk ho hw hS => by
    have h := hk p l e R s m args below meth c D sA cA Hb Q H1 locs1 ls C r hc hs hl hw hS
    rw [List.map_append, show v.toList.map (z_v Hb.size sA) = v.toList by rw [← Option.toList_map, z_v_ok ho]] at h
    exact h)
theorem zr_callI (hd : decode y.2.1 pc = .ok (.invokespecial index, 3)) (hy : z_mth y2 n) (hlk : Cond.methodLink y.1.cls index y2.1 ∈ z_good) (hnm : y2.1.name = "<init>") (hrt : y2.2.2.2 = none) (hsel : Cond.instanceMethod y2.1 ∈ z_good) (hA : As.length = n) (hsl : (lg_sl (.ref b :: As)).length ≤ y2.2.2.1) (hst : (st.map fun v => v.category).sum ≤ 8) (hcc : cells + mc2 ≤ mc) (hss : slots + ms2 ≤ ms) (k : z_V y2 d mc2 ms2 0 0 0 (lv_args 0 (.ref b :: As)) [] N G (fun v N' G' => z_V y (d + 1) mc ms (cells + mc2) (slots + ms2) (pc + 3) L (v.toList ++ st) N' G' K)) : z_V y (d + 1) mc ms cells slots pc L (As.reverse ++ .ref b :: st) N G K := by
  intro p l e R s m args below meth c D sA cA Hb Q H locs ls C r hc hs hl hw hS
  have hcB := (z_callB C.2.2.2.2.2.2.1 hy hlk C.2.2.2.2.2.2.2.2.2.1 C.2.2.2.2.2.2.2.2.2.2.1  : CallB R s args y.1.cls index y2.1 y2.2.1 y2.2.2.1 y2.2.2.2 (z_ws y2) (z_rm d mc2 ms2) mc2 ms2 n)
  rw [hrt] at hcB
  have hM := z_Met (l := l) (D := D) (sA := sA) (cA := cA) (Hb := Hb) C.2.2.2.2.1.2 hy.2.2.1 hsl k
  refine z_run (va_runI (As := As.map (z_v Hb.size sA)) (rest := st.map (z_v Hb.size sA)) ⟨C.1, C.2.1, C.2.2.2.1, C.2.2.2.2.2.1, C.2.2.2.2.2.2.1⟩ hM ⟨hcB, hnm, C.2.2.2.2.2.2.1 _ hsel⟩ ⟨z_blind, fun U hU hW => ⟨rfl, by rw [hU]; exact hw, C.2.2.2.2.2.2.2.1.warm hW, by rw [hU]; exact Nat.le_trans C.2.2.2.2.2.2.2.2.1 hS.1⟩⟩ rfl (by rw [List.length_map]; exact hA) hl.1 (by rw [List.map_append, List.map_reverse]; rfl) (z_stk hst) hd ⟨Nat.le_trans hcc hc, Nat.le_trans hss hs⟩) hS (fun v N' G' H1 locs1 hk ho hw hS => by
    have h := hk p l e R s m args below meth c D sA cA Hb Q H1 locs1 ls C r hc hs hl hw hS
    rw [List.map_append, show v.toList.map (z_v Hb.size sA) = v.toList by rw [← Option.toList_map, z_v_ok ho]] at h
    exact h)
theorem zr_callVN {host : String} (hd : decode y.2.1 pc = .ok (.invokevirtual index, 3)) (hy : z_mth y2 n) (hlk : (y.1.cls, index, y2.1, host) ∈ z_nest) (hci0 : (vwCl[ci]?).map (fun q => q.1) = some y2.1.cls) (hb : b < N) (hG : G b = .inr (ci, fs)) (hsel : Cond.instanceMethod y2.1 ∈ z_good ∧ Cond.selects y2.1.cls y2.1 y2.1 ∈ z_good) (hA : As.length = n) (hsl : (lg_sl (.ref b :: As)).length ≤ y2.2.2.1) (hst : (st.map fun v => v.category).sum ≤ 8) (hcc : cells + mc2 ≤ mc) (hss : slots + ms2 ≤ ms) (k : z_V y2 d mc2 ms2 0 0 0 (lv_args 0 (.ref b :: As)) [] N G (fun v N' G' => z_V y (d + 1) mc ms (cells + mc2) (slots + ms2) (pc + 3) L (v.toList ++ st) N' G' K)) : z_V y (d + 1) mc ms cells slots pc L (As.reverse ++ .ref b :: st) N G K := by
  intro p l e R s m args below meth c D sA cA Hb Q H locs ls C r hc hs hl hw hS
  obtain ⟨T, k0, hci⟩ : ∃ (T : u_T) (k : Nat), vwCl[ci]? = some (y2.1.cls, T, k) := by
    cases h : vwCl[ci]? with
    | none => rw [h] at hci0; cases hci0
    | some q => rw [h] at hci0; exact ⟨q.2.1, q.2.2, by rw [← Option.some.inj hci0]⟩
  have hM := z_Met (l := l) (D := D) (sA := sA) (cA := cA) (Hb := Hb) C.2.2.2.2.1.2 hy.2.2.1 hsl k
  refine z_run (va_runVN (As := As.map (z_v Hb.size sA)) (rest := st.map (z_v Hb.size sA)) ⟨C.1, C.2.1, C.2.2.2.1, C.2.2.2.2.2.1, C.2.2.2.2.2.2.1⟩ hM ⟨z_callN C.2.2.2.2.2.2.1 hy (C.2.2.2.2.2.2.2.1.2.1 _ hlk) C.2.2.2.2.2.2.2.2.2.1 C.2.2.2.2.2.2.2.2.2.2.1, C.2.2.2.2.2.2.1 _ hsel.1, C.2.2.2.2.2.2.1 _ hsel.2⟩ ⟨z_blind, va_recv C.2.2.2.2.2.2.2.1.1 hw.1 (ci := ci) (q0 := b) (q := (y2.1.cls, T, k0)) (fs := fs.map (z_v Hb.size sA)) hci (by rw [z_wl_at hb, hG]; rfl), fun U hU hW => ⟨rfl, by rw [hU]; exact hw, C.2.2.2.2.2.2.2.1.warm hW, by rw [hU]; exact Nat.le_trans C.2.2.2.2.2.2.2.2.1 hS.1⟩⟩ rfl (by rw [List.length_map]; exact hA) hl.1 (by rw [List.map_append, List.map_reverse]; rfl) (z_stk hst) hd ⟨Nat.le_trans hcc hc, Nat.le_trans hss hs⟩) hS (fun v N' G' H1 locs1 hk ho hw hS => by
    have h := hk p l e R s m args below meth c D sA cA Hb Q H1 locs1 ls C r hc hs hl hw hS
    rw [List.map_append, show v.toList.map (z_v Hb.size sA) = v.toList by rw [← Option.toList_map, z_v_ok ho]] at h
    exact h)
theorem zr_callSN {host : String} (hd : decode y.2.1 pc = .ok (.invokestatic index, 3)) (hy : z_mth y2 n) (hlk : (y.1.cls, index, y2.1, host) ∈ z_nest) (hsel : Cond.static y2.1 ∈ z_good) (hA : As.length = n) (hsl : (lg_sl As).length ≤ y2.2.2.1) (hst : (st.map fun v => v.category).sum ≤ 8) (hcc : cells + mc2 ≤ mc) (hss : slots + ms2 ≤ ms) (k : z_V y2 d mc2 ms2 0 0 0 (lv_args 0 As) [] N G (fun v N' G' => z_V y (d + 1) mc ms (cells + mc2) (slots + ms2) (pc + 3) L (v.toList ++ st) N' G' K)) : z_V y (d + 1) mc ms cells slots pc L (As.reverse ++ st) N G K := by
  intro p l e R s m args below meth c D sA cA Hb Q H locs ls C r hc hs hl hw hS
  have hM := z_Met (l := l) (D := D) (sA := sA) (cA := cA) (Hb := Hb) C.2.2.2.2.1.2 hy.2.2.1 hsl k
  refine z_run (va_runSN (As := As.map (z_v Hb.size sA)) (rest := st.map (z_v Hb.size sA)) ⟨C.1, C.2.1, C.2.2.2.1, C.2.2.2.2.2.1, C.2.2.2.2.2.2.1⟩ hM ⟨z_callN C.2.2.2.2.2.2.1 hy (C.2.2.2.2.2.2.2.1.2.1 _ hlk) C.2.2.2.2.2.2.2.2.2.1 C.2.2.2.2.2.2.2.2.2.2.1, C.2.2.2.2.2.2.1 _ hsel, trivial⟩ ⟨z_blind, fun U hU hW => ⟨rfl, by rw [hU]; exact hw, C.2.2.2.2.2.2.2.1.warm hW, by rw [hU]; exact Nat.le_trans C.2.2.2.2.2.2.2.2.1 hS.1⟩⟩ rfl (by rw [List.length_map]; exact hA) hl.1 (by rw [List.map_append, List.map_reverse]) (z_stk hst) hd ⟨Nat.le_trans hcc hc, Nat.le_trans hss hs⟩) hS (fun v N' G' H1 locs1 hk ho hw hS => by
    have h := hk p l e R s m args below meth c D sA cA Hb Q H1 locs1 ls C r hc hs hl hw hS
    rw [List.map_append, show v.toList.map (z_v Hb.size sA) = v.toList by rw [← Option.toList_map, z_v_ok ho]] at h
    exact h)
theorem zr_callIN {host : String} (hd : decode y.2.1 pc = .ok (.invokespecial index, 3)) (hy : z_mth y2 n) (hlk : (y.1.cls, index, y2.1, host) ∈ z_nest) (hnm : y2.1.name = "<init>") (hrt : y2.2.2.2 = none) (hsel : Cond.instanceMethod y2.1 ∈ z_good) (hA : As.length = n) (hsl : (lg_sl (.ref b :: As)).length ≤ y2.2.2.1) (hst : (st.map fun v => v.category).sum ≤ 8) (hcc : cells + mc2 ≤ mc) (hss : slots + ms2 ≤ ms) (k : z_V y2 d mc2 ms2 0 0 0 (lv_args 0 (.ref b :: As)) [] N G (fun v N' G' => z_V y (d + 1) mc ms (cells + mc2) (slots + ms2) (pc + 3) L (v.toList ++ st) N' G' K)) : z_V y (d + 1) mc ms cells slots pc L (As.reverse ++ .ref b :: st) N G K := by
  intro p l e R s m args below meth c D sA cA Hb Q H locs ls C r hc hs hl hw hS
  have hcB := (z_callN C.2.2.2.2.2.2.1 hy (C.2.2.2.2.2.2.2.1.2.1 _ hlk) C.2.2.2.2.2.2.2.2.2.1 C.2.2.2.2.2.2.2.2.2.2.1  : va_CN R s args y.1.cls index y2.1 host y2.2.1 y2.2.2.1 y2.2.2.2 (z_ws y2) (z_rm d mc2 ms2) mc2 ms2 n)
  rw [hrt] at hcB
  have hM := z_Met (l := l) (D := D) (sA := sA) (cA := cA) (Hb := Hb) C.2.2.2.2.1.2 hy.2.2.1 hsl k
  refine z_run (va_runIN (As := As.map (z_v Hb.size sA)) (rest := st.map (z_v Hb.size sA)) ⟨C.1, C.2.1, C.2.2.2.1, C.2.2.2.2.2.1, C.2.2.2.2.2.2.1⟩ hM ⟨hcB, hnm, C.2.2.2.2.2.2.1 _ hsel⟩ ⟨z_blind, fun U hU hW => ⟨rfl, by rw [hU]; exact hw, C.2.2.2.2.2.2.2.1.warm hW, by rw [hU]; exact Nat.le_trans C.2.2.2.2.2.2.2.2.1 hS.1⟩⟩ rfl (by rw [List.length_map]; exact hA) hl.1 (by rw [List.map_append, List.map_reverse]; rfl) (z_stk hst) hd ⟨Nat.le_trans hcc hc, Nat.le_trans hss hs⟩) hS (fun v N' G' H1 locs1 hk ho hw hS => by
    have h := hk p l e R s m args below meth c D sA cA Hb Q H1 locs1 ls C r hc hs hl hw hS
    rw [List.map_append, show v.toList.map (z_v Hb.size sA) = v.toList by rw [← Option.toList_map, z_v_ok ho]] at h
    exact h)
end
