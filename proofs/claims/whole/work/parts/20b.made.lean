-- ===== the constructors =====
def m0L : List (Nat × Nat × Int32) := [(3, 0, 2), (3, 1, 4), (18, 0, 2), (18, 1, 4), (34, 0, 2), (34, 1, 4), (49, 0, 2), (49, 1, 4), (220, 6, -1), (0, 17, -1), (229, 27, -1)]
def M0 : zMem := (fun i j => match m0L.find? (fun q => q.1 == i && q.2.1 == j) with
  | some q => q.2.2
  | none => 0, fun _ _ => 0)
def TI (n : Nat) : vp_A := (n, .inl fun _ => 0)
def TL (n : Nat) : vp_A := (n, .inr (.inl fun _ => 0))
theorem M0_row {i : Nat} (h : m0L.all (fun q => q.1 != i) = true) : M0.1 i = fun _ => 0 := by
  funext j
  show (match m0L.find? (fun q => q.1 == i && q.2.1 == j) with
  | some q => q.2.2
  | none => 0) = (0 : Int32)
  have e : m0L.find? (fun q => q.1 == i && q.2.1 == j) = none := by
    rw [List.find?_eq_none]
    intro q hq
    have := List.all_eq_true.mp h q hq
    simp only [bne_iff_ne, ne_eq] at this
    simp [this]
  rw [e]
theorem aO_i {i n : Nat} (h : zc i = 100 ∧ zl i = n ∧ m0L.all (fun q => q.1 != i) = true) : zE M0 i = .inl (0, TI n) := by rw [zE_i h.1, h.2.1, M0_row h.2.2]; rfl
theorem aO_l {i n : Nat} (h : zc i = 101 ∧ zl i = n) : zE M0 i = .inl (1, TL n) := by rw [zE_l h.1, h.2]; rfl
theorem aO_b {i n : Nat} (h : zc i = 102 ∧ zl i = n ∧ m0L.all (fun q => q.1 != i) = true) : zE M0 i = .inl (2, TI n) := by rw [zE_b h.1, h.2.1, M0_row h.2.2]; rfl
theorem aO_z {i n : Nat} (h : zc i = 103 ∧ zl i = n ∧ m0L.all (fun q => q.1 != i) = true) : zE M0 i = .inl (3, TI n) := by rw [zE_z h.1, h.2.1, M0_row h.2.2]; rfl
/-- b is being made (x so far), what stands from N to e is done -/
def zP (G : Nat → va_E) (b : Nat) (x : va_E) (N e : Nat) : Nat → va_E := fun i => if i = b then x else if N ≤ i ∧ i < e then zE M0 i else G i
/-- b, and all from N to e, are done -/
def zF (G : Nat → va_E) (b N e : Nat) : Nat → va_E := fun i => if i = b ∨ (N ≤ i ∧ i < e) then zE M0 i else G i
theorem zP_0 {G : Nat → va_E} {b : Nat} {x : va_E} (N : Nat) (h : G b = x) : G = zP G b x N N := by
  funext i
  unfold zP
  by_cases e : i = b
  · subst e; rw [if_pos rfl, h]
  · rw [if_neg e, if_neg (by omega)]
theorem zP_put {G : Nat → va_E} {b N e : Nat} {x x2 : va_E} : z_up (zP G b x N e) b x2 = zP G b x2 N e := by
  funext i
  by_cases h : i = b
  · subst h; rw [z_up_s]; unfold zP; rw [if_pos rfl]
  · rw [z_up_n _ _ h]; unfold zP; rw [if_neg h, if_neg h]
theorem zP_b {G : Nat → va_E} {b N e : Nat} {x : va_E} : zP G b x N e b = x := if_pos rfl
theorem zP_o {G : Nat → va_E} {b N e i : Nat} {x : va_E} (h : i ≠ b) (h2 : ¬ (N ≤ i ∧ i < e)) : zP G b x N e i = G i := by unfold zP; rw [if_neg h, if_neg h2]
theorem zP_in {G : Nat → va_E} {b N e i : Nat} {x : va_E} (h : i ≠ b) (h2 : N ≤ i ∧ i < e) : zP G b x N e i = zE M0 i := by unfold zP; rw [if_neg h, if_pos h2]
theorem zP_new {G : Nat → va_E} {b N e : Nat} {x y : va_E} (hb : b < N) (hN : N ≤ e) (hy : zE M0 e = y) : z_up (zP G b x N e) e y = zP G b x N (e + 1) := by
  funext i
  by_cases h : i = e
  · subst h; rw [z_up_s]; unfold zP; rw [if_neg (by omega), if_pos (by omega), hy]
  · rw [z_up_n _ _ h]; unfold zP
    by_cases h2 : i = b
    · rw [if_pos h2, if_pos h2]
    · rw [if_neg h2, if_neg h2]
      by_cases h3 : N ≤ i ∧ i < e
      · rw [if_pos h3, if_pos (by omega)]
      · rw [if_neg h3, if_neg (by omega)]
theorem zP_call {G : Nat → va_E} {b N e e2 : Nat} {x y : va_E} (hb : b < N) (hN : N ≤ e) (h2 : e < e2) : zF (z_up (zP G b x N e) e y) e (e + 1) e2 = zP G b x N e2 := by
  funext i
  unfold zF
  by_cases h : i = e ∨ (e + 1 ≤ i ∧ i < e2)
  · rw [if_pos h]; unfold zP; rw [if_neg (by omega), if_pos (by omega)]
  · rw [if_neg h, z_up_n _ _ (by omega)]
    unfold zP
    by_cases h2 : i = b
    · rw [if_pos h2, if_pos h2]
    · rw [if_neg h2, if_neg h2]
      by_cases h3 : N ≤ i ∧ i < e
      · rw [if_pos h3, if_pos (by omega)]
      · rw [if_neg h3, if_neg (by omega)]
theorem zP_fin {G : Nat → va_E} {b N e : Nat} {x : va_E} (h : zE M0 b = x) : zP G b x N e = zF G b N e := by
  funext i
  unfold zP zF
  by_cases h1 : i = b
  · subst h1; rw [if_pos rfl, if_pos (Or.inl rfl), h]
  · rw [if_neg h1]
    by_cases h3 : N ≤ i ∧ i < e
    · rw [if_pos h3, if_pos (Or.inr h3)]
    · rw [if_neg h3, if_neg (by omega)]
theorem zx_0 : Cond.instanceMethod Lib.objectInit ∈ z_good := z_int1 31 (by decide +kernel) (by decide +kernel)
theorem zx_1 : Cond.code Lib.objectInit ⟨#[0xb1]⟩ 1 none ∈ z_good := z_int1 32 (by decide +kernel) (by decide +kernel)
theorem zx_2 : Cond.arrayClass .int ∈ z_good := z_int1 108 (by decide +kernel) (by decide +kernel)
theorem zx_3 : Cond.arrayClass .long ∈ z_good := z_int1 107 (by decide +kernel) (by decide +kernel)
theorem zx_4 : Cond.arrayClass .byte ∈ z_good := z_int1 106 (by decide +kernel) (by decide +kernel)
theorem zx_5 : Cond.arrayClass .boolean ∈ z_good := z_int7 95 (by decide +kernel) (by decide +kernel)
theorem zx_int : Cond.arrayClass (newarray.typeOf .int) ∈ z_good := zx_2
theorem zx_long : Cond.arrayClass (newarray.typeOf .long) ∈ z_good := zx_3
theorem zx_byte : Cond.arrayClass (newarray.typeOf .byte) ∈ z_good := zx_4
theorem zx_bool : Cond.arrayClass (newarray.typeOf .boolean) ∈ z_good := zx_5
theorem zx_6 : Cond.code yX3_init cX3_init 1 none ∈ z_good := z_int1 113 (by decide +kernel) (by decide +kernel)
theorem zx_7 : Cond.initialized RX3 ∈ z_good := z_int1 4 (by decide +kernel) (by decide +kernel)
theorem zx_8 : Cond.instanceMethod yX3_init ∈ z_good := z_int1 112 (by decide +kernel) (by decide +kernel)
theorem zx_9 : Cond.methodLink RX3 3 Lib.objectInit ∈ z_good := z_int1 114 (by decide +kernel) (by decide +kernel)
theorem zx_10 : Cond.code yX9_init cX9_init 1 none ∈ z_good := z_int1 194 (by decide +kernel) (by decide +kernel)
theorem zx_11 : Cond.initialized RX9 ∈ z_good := z_int1 7 (by decide +kernel) (by decide +kernel)
theorem zx_12 : Cond.instanceMethod yX9_init ∈ z_good := z_int1 193 (by decide +kernel) (by decide +kernel)
theorem zx_13 : Cond.methodLink RX9 3 Lib.objectInit ∈ z_good := z_int1 195 (by decide +kernel) (by decide +kernel)
theorem zx_14 : Cond.code yX5_init cX5_init 1 none ∈ z_good := z_int1 43 (by decide +kernel) (by decide +kernel)
theorem zx_15 : Cond.initialized RX5 ∈ z_good := z_int1 3 (by decide +kernel) (by decide +kernel)
theorem zx_16 : Cond.instanceMethod yX5_init ∈ z_good := z_int1 42 (by decide +kernel) (by decide +kernel)
theorem zx_17 : Cond.methodLink RX5 3 Lib.objectInit ∈ z_good := z_int1 44 (by decide +kernel) (by decide +kernel)
theorem zx_18 : Cond.code yX7_init cX7_init 1 none ∈ z_good := z_int1 150 (by decide +kernel) (by decide +kernel)
theorem zx_19 : Cond.initialized RX7 ∈ z_good := z_int1 5 (by decide +kernel) (by decide +kernel)
theorem zx_20 : Cond.instanceMethod yX7_init ∈ z_good := z_int1 149 (by decide +kernel) (by decide +kernel)
theorem zx_21 : Cond.methodLink RX7 3 Lib.objectInit ∈ z_good := z_int1 151 (by decide +kernel) (by decide +kernel)
theorem zx_22 : Cond.code yX8_init cX8_init 1 none ∈ z_good := z_int1 37 (by decide +kernel) (by decide +kernel)
theorem zx_23 : Cond.initialized RX8 ∈ z_good := z_int1 2 (by decide +kernel) (by decide +kernel)
theorem zx_24 : Cond.instanceMethod yX8_init ∈ z_good := z_int1 36 (by decide +kernel) (by decide +kernel)
theorem zx_25 : Cond.methodLink RX8 1 Lib.objectInit ∈ z_good := z_int1 38 (by decide +kernel) (by decide +kernel)
theorem zx_26 : Cond.classLink RX8 7 RX5 ∈ z_good := z_int1 39 (by decide +kernel) (by decide +kernel)
theorem zx_27 : Cond.instantiable RX5 11 ∈ z_good := z_int1 40 (by decide +kernel) (by decide +kernel)
theorem zx_28 : Cond.classLink RX8 16 RX3 ∈ z_good := z_int1 109 (by decide +kernel) (by decide +kernel)
theorem zx_29 : Cond.instantiable RX3 7 ∈ z_good := z_int1 110 (by decide +kernel) (by decide +kernel)
theorem zx_30 : Cond.classLink RX8 23 RX7 ∈ z_good := z_int1 146 (by decide +kernel) (by decide +kernel)
theorem zx_31 : Cond.instantiable RX7 3 ∈ z_good := z_int1 147 (by decide +kernel) (by decide +kernel)
theorem zx_32 : Cond.fieldLink RX8 30 RX8 "filled" "Z" ∈ z_good := z_int1 171 (by decide +kernel) (by decide +kernel)
theorem fx_X8_30 : z_fld RX8 30 8 3 false .boolean := ⟨RX8, TX8, 4, tyX8, rfl, uX8, tyX8_ok, nmX8, by decide, zx_32, rfl, by decide +kernel, rfl⟩
theorem zx_33 : Cond.code yX2_init cX2_init 1 none ∈ z_good := z_int2 51 (by decide +kernel) (by decide +kernel)
theorem zx_34 : Cond.initialized RX2 ∈ z_good := z_int1 9 (by decide +kernel) (by decide +kernel)
theorem zx_35 : Cond.instanceMethod yX2_init ∈ z_good := z_int2 50 (by decide +kernel) (by decide +kernel)
theorem zx_36 : Cond.methodLink RX2 3 Lib.objectInit ∈ z_good := z_int2 52 (by decide +kernel) (by decide +kernel)
theorem zx_37 : Cond.code yX6_init cX6_init 2 none ∈ z_good := z_int2 70 (by decide +kernel) (by decide +kernel)
theorem zx_38 : Cond.initialized RX6 ∈ z_good := z_int1 10 (by decide +kernel) (by decide +kernel)
theorem zx_39 : Cond.instanceMethod yX6_init ∈ z_good := z_int2 69 (by decide +kernel) (by decide +kernel)
theorem zx_40 : Cond.methodLink RX6 3 Lib.objectInit ∈ z_good := z_int2 71 (by decide +kernel) (by decide +kernel)
theorem zx_41 : Cond.code yX1_init cX1_init 3 none ∈ z_good := z_int2 127 (by decide +kernel) (by decide +kernel)
theorem zx_42 : Cond.initialized RX1 ∈ z_good := z_int1 11 (by decide +kernel) (by decide +kernel)
theorem zx_43 : Cond.instanceMethod yX1_init ∈ z_good := z_int2 126 (by decide +kernel) (by decide +kernel)
theorem zx_44 : Cond.methodLink RX1 3 Lib.objectInit ∈ z_good := z_int2 128 (by decide +kernel) (by decide +kernel)
theorem zx_45 : Cond.fieldLink RX1 19 RX8 "plan" "LTreePeers$Plan;" ∈ z_good := z_int1 164 (by decide +kernel) (by decide +kernel)
theorem fx_X1_19 : z_fld RX1 19 8 0 true (.object "TreePeers$Plan") := ⟨RX8, TX8, 4, tyX8, rfl, uX8, tyX8_ok, nmX8, by decide, zx_45, rfl, by decide +kernel, rfl⟩
theorem zx_46 : Cond.fieldLink RX1 26 RX8 "facts" "LTreePeers$Facts;" ∈ z_good := z_int1 167 (by decide +kernel) (by decide +kernel)
theorem fx_X1_26 : z_fld RX1 26 8 1 true (.object "TreePeers$Facts") := ⟨RX8, TX8, 4, tyX8, rfl, uX8, tyX8_ok, nmX8, by decide, zx_46, rfl, by decide +kernel, rfl⟩
theorem zx_47 : Cond.code yX0_init cX0_init 3 none ∈ z_good := z_int2 146 (by decide +kernel) (by decide +kernel)
theorem zx_48 : Cond.initialized RX0 ∈ z_good := z_int1 12 (by decide +kernel) (by decide +kernel)
theorem zx_49 : Cond.instanceMethod yX0_init ∈ z_good := z_int2 145 (by decide +kernel) (by decide +kernel)
theorem zx_50 : Cond.methodLink RX0 3 Lib.objectInit ∈ z_good := z_int2 147 (by decide +kernel) (by decide +kernel)
section
variable {y : z_MD} {d mc ms cells slots pc index n b ci e : Nat} {L : List (Nat × Value)} {st : List Value} {N : Nat} {G : Nat → va_E} {K : z_K} {x : va_E}
theorem zk_newI {v : Int32} (hd : decode y.2.1 pc = .ok (.newarray .int, 2)) (hb : b < N) (hN : N ≤ e) (h : zE M0 e = .inl (0, TI n)) (hx : ¬ v < 0) (hn0 : v.toNatClampNeg = n) (hby : n * 8 ≤ 536870912) (hcc : cells + 1 ≤ mc) (hss : slots + n ≤ ms) (k : z_N y d mc ms (cells + 1) (slots + n) (pc + 2) L (.ref e :: st) (e + 1) (zP G b x N (e + 1)) K) : z_N y d mc ms cells slots pc L (.int v :: st) e (zP G b x N e) K := by
  refine zo_newa (t := 0) (a0 := TI n) hd zx_int (fun _ => rfl) (fun _ => rfl) (fun _ => rfl) hx hn0 (Nat.le_trans (Nat.mul_le_mul_left n (by decide)) hby) hcc hss ?_
  rw [zP_new hb hN h]; exact k
theorem zk_newL {v : Int32} (hd : decode y.2.1 pc = .ok (.newarray .long, 2)) (hb : b < N) (hN : N ≤ e) (h : zE M0 e = .inl (1, TL n)) (hx : ¬ v < 0) (hn0 : v.toNatClampNeg = n) (hby : n * 8 ≤ 536870912) (hcc : cells + 1 ≤ mc) (hss : slots + n ≤ ms) (k : z_N y d mc ms (cells + 1) (slots + n) (pc + 2) L (.ref e :: st) (e + 1) (zP G b x N (e + 1)) K) : z_N y d mc ms cells slots pc L (.int v :: st) e (zP G b x N e) K := by
  refine zo_newa (t := 1) (a0 := TL n) hd zx_long (fun _ => rfl) (fun _ => rfl) (fun _ => rfl) hx hn0 (Nat.le_trans (Nat.mul_le_mul_left n (by decide)) hby) hcc hss ?_
  rw [zP_new hb hN h]; exact k
theorem zk_newB {v : Int32} (hd : decode y.2.1 pc = .ok (.newarray .byte, 2)) (hb : b < N) (hN : N ≤ e) (h : zE M0 e = .inl (2, TI n)) (hx : ¬ v < 0) (hn0 : v.toNatClampNeg = n) (hby : n * 8 ≤ 536870912) (hcc : cells + 1 ≤ mc) (hss : slots + n ≤ ms) (k : z_N y d mc ms (cells + 1) (slots + n) (pc + 2) L (.ref e :: st) (e + 1) (zP G b x N (e + 1)) K) : z_N y d mc ms cells slots pc L (.int v :: st) e (zP G b x N e) K := by
  refine zo_newa (t := 2) (a0 := TI n) hd zx_byte (fun _ => rfl) (fun _ => rfl) (fun _ => rfl) hx hn0 (Nat.le_trans (Nat.mul_le_mul_left n (by decide)) hby) hcc hss ?_
  rw [zP_new hb hN h]; exact k
theorem zk_newZ {v : Int32} (hd : decode y.2.1 pc = .ok (.newarray .boolean, 2)) (hb : b < N) (hN : N ≤ e) (h : zE M0 e = .inl (3, TI n)) (hx : ¬ v < 0) (hn0 : v.toNatClampNeg = n) (hby : n * 8 ≤ 536870912) (hcc : cells + 1 ≤ mc) (hss : slots + n ≤ ms) (k : z_N y d mc ms (cells + 1) (slots + n) (pc + 2) L (.ref e :: st) (e + 1) (zP G b x N (e + 1)) K) : z_N y d mc ms cells slots pc L (.int v :: st) e (zP G b x N e) K := by
  refine zo_newa (t := 3) (a0 := TI n) hd zx_bool (fun _ => rfl) (fun _ => rfl) (fun _ => rfl) hx hn0 (Nat.le_trans (Nat.mul_le_mul_left n (by decide)) hby) hcc hss ?_
  rw [zP_new hb hN h]; exact k
theorem zk_put {i : Nat} {ty : FieldType} {fs : List Value} {v : Value} (hd : decode y.2.1 pc = .ok (.putfield index, 3)) (hf : z_fld y.1.cls index ci i false ty) (hb : b < e) (hi : i < fs.length) (hn : ∀ B sA, narrow ty (z_v B sA v) = z_v B sA v ∧ fits ty (z_v B sA v) = true) (k : z_N y d mc ms cells slots (pc + 3) L st e (zP G b (.inr (ci, fs.set i v)) N e) K) : z_N y d mc ms cells slots pc L (v :: .ref b :: st) e (zP G b (.inr (ci, fs)) N e) K :=
  zo_put hd hf hb zP_b hi hn (by rw [zP_put]; exact k)
theorem zk_putF {i : Nat} {ty : FieldType} {fs : List Value} {v : Value} (hd : decode y.2.1 pc = .ok (.putfield index, 3)) (hf : z_fld y.1.cls index ci i true ty) (hnm : y.1.name = "<init>") (hcl : (vwCl[ci]?).map (fun q => q.1) = some y.1.cls) (hb : b < e) (hi : i < fs.length) (hn : ∀ B sA, narrow ty (z_v B sA v) = z_v B sA v ∧ fits ty (z_v B sA v) = true) (k : z_N y d mc ms cells slots (pc + 3) L st e (zP G b (.inr (ci, fs.set i v)) N e) K) : z_N y d mc ms cells slots pc L (v :: .ref b :: st) e (zP G b (.inr (ci, fs)) N e) K :=
  zo_putF hd hf hnm hcl hb zP_b hi hn (by rw [zP_put]; exact k)
end
def m_X3_init : z_MD := (yX3_init, cX3_init, 1, none)
theorem w_X3_init : z_mth m_X3_init 0 := ⟨zx_6, zx_7, by decide +kernel, ⟨by decide +kernel, by decide +kernel, by decide +kernel⟩, by decide +kernel⟩
theorem s_X3_init : Cond.instanceMethod yX3_init ∈ z_good := zx_8
theorem dv_X3 : ∀ j, j < 7 → defaultValue (tyX3 j) = vp_V [.null, .null, .null, .null, .int 0, .int 0, .int 0] j := by
  intro j hj
  rcases (show j = 0 ∨ j = 1 ∨ j = 2 ∨ j = 3 ∨ j = 4 ∨ j = 5 ∨ j = 6 by omega) with rfl | rfl | rfl | rfl | rfl | rfl | rfl <;> rfl
theorem a_X3_1 : ∀ b, b ∈ iX3 → zc (b + 1) = 100 ∧ zl (b + 1) = 96 ∧ m0L.all (fun q => q.1 != b + 1) = true := by decide +kernel
theorem a_X3_2 : ∀ b, b ∈ iX3 → zc (b + 2) = 100 ∧ zl (b + 2) = 96 ∧ m0L.all (fun q => q.1 != b + 2) = true := by decide +kernel
theorem a_X3_3 : ∀ b, b ∈ iX3 → zc (b + 3) = 100 ∧ zl (b + 3) = 4 ∧ m0L.all (fun q => q.1 != b + 3) = true := by decide +kernel
theorem a_X3_4 : ∀ b, b ∈ iX3 → zc (b + 4) = 100 ∧ zl (b + 4) = 4 ∧ m0L.all (fun q => q.1 != b + 4) = true := by decide +kernel
theorem e_X3 : ∀ b, b ∈ iX3 → zE M0 b = .inr (3, [.ref (b + 1), .ref (b + 2), .ref (b + 3), .ref (b + 4), .int 0, .int 0, .int 0]) := by
  intro b h
  simp only [iX3, List.mem_cons, List.not_mem_nil, or_false] at h
  rcases h with rfl | rfl | rfl | rfl | rfl | rfl | rfl | rfl | rfl | rfl | rfl | rfl | rfl | rfl <;> (rw [zE_o (c := 3) (by decide) (by decide)]; rfl)
theorem k_X3 {d b : Nat} {G : Nat → va_E} {K : z_K} (hb : b ∈ iX3) (hG : G b = .inr (3, [.null, .null, .null, .null, .int 0, .int 0, .int 0])) (h : K none (b + 5) (zF G b (b + 1) (b + 5))) : z_N m_X3_init (d + 1) 4 200 0 0 0 [(0, .ref b)] [] (b + 1) G K := by
  rw [← zP_fin (G := G) (N := b + 1) (e := b + 5) (e_X3 b hb)] at h
  rw [zP_0 (b + 1) hG]
  refine zo_aload_n dX3_init_0 rfl 0 rfl ?_
  refine zo_objInit dX3_init_1 zx_9 zx_0 zx_1 (Nat.le_of_ble_eq_true rfl) ?_
  refine zo_aload_n dX3_init_4 rfl 0 rfl ?_
  refine zo_bipush (v := 96) dX3_init_5 (by decide) ?_
  refine zk_newI (n := 96) dX3_init_7 (by omega) (by omega) (aO_i (a_X3_1 b hb)) (by decide) (by decide) (by decide) (by decide) (by decide) ?_
  refine zk_putF dX3_init_9 f_X3_9 rfl rfl (by omega) (Nat.le_of_ble_eq_true rfl) (fun _ _ => ⟨rfl, rfl⟩) ?_
  refine zo_aload_n dX3_init_12 rfl 0 rfl ?_
  refine zo_bipush (v := 96) dX3_init_13 (by decide) ?_
  refine zk_newI (n := 96) dX3_init_15 (by omega) (by omega) (aO_i (a_X3_2 b hb)) (by decide) (by decide) (by decide) (by decide) (by decide) ?_
  refine zk_putF dX3_init_17 f_X3_15 rfl rfl (by omega) (Nat.le_of_ble_eq_true rfl) (fun _ _ => ⟨rfl, rfl⟩) ?_
  refine zo_aload_n dX3_init_20 rfl 0 rfl ?_
  refine zo_iconst (v := 4) dX3_init_21 (by decide) ?_
  refine zk_newI (n := 4) dX3_init_22 (by omega) (by omega) (aO_i (a_X3_3 b hb)) (by decide) (by decide) (by decide) (by decide) (by decide) ?_
  refine zk_putF dX3_init_24 f_X3_18 rfl rfl (by omega) (Nat.le_of_ble_eq_true rfl) (fun _ _ => ⟨rfl, rfl⟩) ?_
  refine zo_aload_n dX3_init_27 rfl 0 rfl ?_
  refine zo_iconst (v := 4) dX3_init_28 (by decide) ?_
  refine zk_newI (n := 4) dX3_init_29 (by omega) (by omega) (aO_i (a_X3_4 b hb)) (by decide) (by decide) (by decide) (by decide) (by decide) ?_
  refine zk_putF dX3_init_31 f_X3_21 rfl rfl (by omega) (Nat.le_of_ble_eq_true rfl) (fun _ _ => ⟨rfl, rfl⟩) ?_
  refine zo_aload_n dX3_init_34 rfl 0 rfl ?_
  refine zo_iconst (v := 0) dX3_init_35 (by decide) ?_
  refine zk_put dX3_init_36 f_X3_24 (by omega) (Nat.le_of_ble_eq_true rfl) (fun _ _ => ⟨rfl, rfl⟩) ?_
  refine zo_aload_n dX3_init_39 rfl 0 rfl ?_
  refine zo_iconst (v := 0) dX3_init_40 (by decide) ?_
  refine zk_put dX3_init_41 f_X3_28 (by omega) (Nat.le_of_ble_eq_true rfl) (fun _ _ => ⟨rfl, rfl⟩) ?_
  refine zo_aload_n dX3_init_44 rfl 0 rfl ?_
  refine zo_iconst (v := 0) dX3_init_45 (by decide) ?_
  refine zk_put dX3_init_46 f_X3_31 (by omega) (Nat.le_of_ble_eq_true rfl) (fun _ _ => ⟨rfl, rfl⟩) ?_
  exact zo_ret (v := none) h rfl dX3_init_49
def m_X9_init : z_MD := (yX9_init, cX9_init, 1, none)
theorem w_X9_init : z_mth m_X9_init 0 := ⟨zx_10, zx_11, by decide +kernel, ⟨by decide +kernel, by decide +kernel, by decide +kernel⟩, by decide +kernel⟩
theorem s_X9_init : Cond.instanceMethod yX9_init ∈ z_good := zx_12
theorem dv_X9 : ∀ j, j < 13 → defaultValue (tyX9 j) = vp_V [.null, .null, .null, .int 0, .null, .null, .null, .null, .null, .null, .null, .null, .int 0] j := by
  intro j hj
  rcases (show j = 0 ∨ j = 1 ∨ j = 2 ∨ j = 3 ∨ j = 4 ∨ j = 5 ∨ j = 6 ∨ j = 7 ∨ j = 8 ∨ j = 9 ∨ j = 10 ∨ j = 11 ∨ j = 12 by omega) with rfl | rfl | rfl | rfl | rfl | rfl | rfl | rfl | rfl | rfl | rfl | rfl | rfl <;> rfl
theorem a_X9_1 : ∀ b, b ∈ iX9 → zc (b + 1) = 100 ∧ zl (b + 1) = 24 ∧ m0L.all (fun q => q.1 != b + 1) = true := by decide +kernel
theorem a_X9_2 : ∀ b, b ∈ iX9 → zc (b + 2) = 100 ∧ zl (b + 2) = 24 ∧ m0L.all (fun q => q.1 != b + 2) = true := by decide +kernel
theorem a_X9_3 : ∀ b, b ∈ iX9 → zc (b + 3) = 100 ∧ zl (b + 3) = 24 ∧ m0L.all (fun q => q.1 != b + 3) = true := by decide +kernel
theorem a_X9_4 : ∀ b, b ∈ iX9 → zc (b + 4) = 100 ∧ zl (b + 4) = 24 ∧ m0L.all (fun q => q.1 != b + 4) = true := by decide +kernel
theorem a_X9_5 : ∀ b, b ∈ iX9 → zc (b + 5) = 100 ∧ zl (b + 5) = 24 ∧ m0L.all (fun q => q.1 != b + 5) = true := by decide +kernel
theorem a_X9_6 : ∀ b, b ∈ iX9 → zc (b + 6) = 100 ∧ zl (b + 6) = 24 ∧ m0L.all (fun q => q.1 != b + 6) = true := by decide +kernel
theorem a_X9_7 : ∀ b, b ∈ iX9 → zc (b + 7) = 100 ∧ zl (b + 7) = 24 ∧ m0L.all (fun q => q.1 != b + 7) = true := by decide +kernel
theorem a_X9_8 : ∀ b, b ∈ iX9 → zc (b + 8) = 100 ∧ zl (b + 8) = 24 ∧ m0L.all (fun q => q.1 != b + 8) = true := by decide +kernel
theorem a_X9_9 : ∀ b, b ∈ iX9 → zc (b + 9) = 100 ∧ zl (b + 9) = 24 ∧ m0L.all (fun q => q.1 != b + 9) = true := by decide +kernel
theorem a_X9_10 : ∀ b, b ∈ iX9 → zc (b + 10) = 100 ∧ zl (b + 10) = 24 ∧ m0L.all (fun q => q.1 != b + 10) = true := by decide +kernel
theorem a_X9_11 : ∀ b, b ∈ iX9 → zc (b + 11) = 100 ∧ zl (b + 11) = 24 ∧ m0L.all (fun q => q.1 != b + 11) = true := by decide +kernel
theorem e_X9 : ∀ b, b ∈ iX9 → zE M0 b = .inr (9, [.ref (b + 1), .ref (b + 2), .ref (b + 3), .int 0, .ref (b + 4), .ref (b + 5), .ref (b + 6), .ref (b + 7), .ref (b + 8), .ref (b + 9), .ref (b + 10), .ref (b + 11), .int 0]) := by
  intro b h
  simp only [iX9, List.mem_cons, List.not_mem_nil, or_false] at h
  rcases h with rfl | rfl | rfl | rfl | rfl | rfl | rfl | rfl <;> (rw [zE_o (c := 9) (by decide) (by decide)]; rfl)
theorem k_X9 {d b : Nat} {G : Nat → va_E} {K : z_K} (hb : b ∈ iX9) (hG : G b = .inr (9, [.null, .null, .null, .int 0, .null, .null, .null, .null, .null, .null, .null, .null, .int 0])) (h : K none (b + 12) (zF G b (b + 1) (b + 12))) : z_N m_X9_init (d + 1) 11 264 0 0 0 [(0, .ref b)] [] (b + 1) G K := by
  rw [← zP_fin (G := G) (N := b + 1) (e := b + 12) (e_X9 b hb)] at h
  rw [zP_0 (b + 1) hG]
  refine zo_aload_n dX9_init_0 rfl 0 rfl ?_
  refine zo_objInit dX9_init_1 zx_13 zx_0 zx_1 (Nat.le_of_ble_eq_true rfl) ?_
  refine zo_aload_n dX9_init_4 rfl 0 rfl ?_
  refine zo_bipush (v := 24) dX9_init_5 (by decide) ?_
  refine zk_newI (n := 24) dX9_init_7 (by omega) (by omega) (aO_i (a_X9_1 b hb)) (by decide) (by decide) (by decide) (by decide) (by decide) ?_
  refine zk_putF dX9_init_9 f_X9_9 rfl rfl (by omega) (Nat.le_of_ble_eq_true rfl) (fun _ _ => ⟨rfl, rfl⟩) ?_
  refine zo_aload_n dX9_init_12 rfl 0 rfl ?_
  refine zo_bipush (v := 24) dX9_init_13 (by decide) ?_
  refine zk_newI (n := 24) dX9_init_15 (by omega) (by omega) (aO_i (a_X9_2 b hb)) (by decide) (by decide) (by decide) (by decide) (by decide) ?_
  refine zk_putF dX9_init_17 f_X9_15 rfl rfl (by omega) (Nat.le_of_ble_eq_true rfl) (fun _ _ => ⟨rfl, rfl⟩) ?_
  refine zo_aload_n dX9_init_20 rfl 0 rfl ?_
  refine zo_bipush (v := 24) dX9_init_21 (by decide) ?_
  refine zk_newI (n := 24) dX9_init_23 (by omega) (by omega) (aO_i (a_X9_3 b hb)) (by decide) (by decide) (by decide) (by decide) (by decide) ?_
  refine zk_putF dX9_init_25 f_X9_18 rfl rfl (by omega) (Nat.le_of_ble_eq_true rfl) (fun _ _ => ⟨rfl, rfl⟩) ?_
  refine zo_aload_n dX9_init_28 rfl 0 rfl ?_
  refine zo_iconst (v := 0) dX9_init_29 (by decide) ?_
  refine zk_put dX9_init_30 f_X9_21 (by omega) (Nat.le_of_ble_eq_true rfl) (fun _ _ => ⟨rfl, rfl⟩) ?_
  refine zo_aload_n dX9_init_33 rfl 0 rfl ?_
  refine zo_bipush (v := 24) dX9_init_34 (by decide) ?_
  refine zk_newI (n := 24) dX9_init_36 (by omega) (by omega) (aO_i (a_X9_4 b hb)) (by decide) (by decide) (by decide) (by decide) (by decide) ?_
  refine zk_putF dX9_init_38 f_X9_25 rfl rfl (by omega) (Nat.le_of_ble_eq_true rfl) (fun _ _ => ⟨rfl, rfl⟩) ?_
  refine zo_aload_n dX9_init_41 rfl 0 rfl ?_
  refine zo_bipush (v := 24) dX9_init_42 (by decide) ?_
  refine zk_newI (n := 24) dX9_init_44 (by omega) (by omega) (aO_i (a_X9_5 b hb)) (by decide) (by decide) (by decide) (by decide) (by decide) ?_
  refine zk_putF dX9_init_46 f_X9_28 rfl rfl (by omega) (Nat.le_of_ble_eq_true rfl) (fun _ _ => ⟨rfl, rfl⟩) ?_
  refine zo_aload_n dX9_init_49 rfl 0 rfl ?_
  refine zo_bipush (v := 24) dX9_init_50 (by decide) ?_
  refine zk_newI (n := 24) dX9_init_52 (by omega) (by omega) (aO_i (a_X9_6 b hb)) (by decide) (by decide) (by decide) (by decide) (by decide) ?_
  refine zk_putF dX9_init_54 f_X9_31 rfl rfl (by omega) (Nat.le_of_ble_eq_true rfl) (fun _ _ => ⟨rfl, rfl⟩) ?_
  refine zo_aload_n dX9_init_57 rfl 0 rfl ?_
  refine zo_bipush (v := 24) dX9_init_58 (by decide) ?_
  refine zk_newI (n := 24) dX9_init_60 (by omega) (by omega) (aO_i (a_X9_7 b hb)) (by decide) (by decide) (by decide) (by decide) (by decide) ?_
  refine zk_putF dX9_init_62 f_X9_34 rfl rfl (by omega) (Nat.le_of_ble_eq_true rfl) (fun _ _ => ⟨rfl, rfl⟩) ?_
  refine zo_aload_n dX9_init_65 rfl 0 rfl ?_
  refine zo_bipush (v := 24) dX9_init_66 (by decide) ?_
  refine zk_newI (n := 24) dX9_init_68 (by omega) (by omega) (aO_i (a_X9_8 b hb)) (by decide) (by decide) (by decide) (by decide) (by decide) ?_
  refine zk_putF dX9_init_70 f_X9_37 rfl rfl (by omega) (Nat.le_of_ble_eq_true rfl) (fun _ _ => ⟨rfl, rfl⟩) ?_
  refine zo_aload_n dX9_init_73 rfl 0 rfl ?_
  refine zo_bipush (v := 24) dX9_init_74 (by decide) ?_
  refine zk_newI (n := 24) dX9_init_76 (by omega) (by omega) (aO_i (a_X9_9 b hb)) (by decide) (by decide) (by decide) (by decide) (by decide) ?_
  refine zk_putF dX9_init_78 f_X9_40 rfl rfl (by omega) (Nat.le_of_ble_eq_true rfl) (fun _ _ => ⟨rfl, rfl⟩) ?_
  refine zo_aload_n dX9_init_81 rfl 0 rfl ?_
  refine zo_bipush (v := 24) dX9_init_82 (by decide) ?_
  refine zk_newI (n := 24) dX9_init_84 (by omega) (by omega) (aO_i (a_X9_10 b hb)) (by decide) (by decide) (by decide) (by decide) (by decide) ?_
  refine zk_putF dX9_init_86 f_X9_43 rfl rfl (by omega) (Nat.le_of_ble_eq_true rfl) (fun _ _ => ⟨rfl, rfl⟩) ?_
  refine zo_aload_n dX9_init_89 rfl 0 rfl ?_
  refine zo_bipush (v := 24) dX9_init_90 (by decide) ?_
  refine zk_newI (n := 24) dX9_init_92 (by omega) (by omega) (aO_i (a_X9_11 b hb)) (by decide) (by decide) (by decide) (by decide) (by decide) ?_
  refine zk_putF dX9_init_94 f_X9_46 rfl rfl (by omega) (Nat.le_of_ble_eq_true rfl) (fun _ _ => ⟨rfl, rfl⟩) ?_
  refine zo_aload_n dX9_init_97 rfl 0 rfl ?_
  refine zo_iconst (v := 0) dX9_init_98 (by decide) ?_
  refine zk_put dX9_init_99 f_X9_49 (by omega) (Nat.le_of_ble_eq_true rfl) (fun _ _ => ⟨rfl, rfl⟩) ?_
  exact zo_ret (v := none) h rfl dX9_init_102
def m_X5_init : z_MD := (yX5_init, cX5_init, 1, none)
theorem w_X5_init : z_mth m_X5_init 0 := ⟨zx_14, zx_15, by decide +kernel, ⟨by decide +kernel, by decide +kernel, by decide +kernel⟩, by decide +kernel⟩
theorem s_X5_init : Cond.instanceMethod yX5_init ∈ z_good := zx_16
theorem dv_X5 : ∀ j, j < 11 → defaultValue (tyX5 j) = vp_V [.int 0, .int 0, .int 0, .int 0, .int 0, .null, .null, .null, .null, .null, .null] j := by
  intro j hj
  rcases (show j = 0 ∨ j = 1 ∨ j = 2 ∨ j = 3 ∨ j = 4 ∨ j = 5 ∨ j = 6 ∨ j = 7 ∨ j = 8 ∨ j = 9 ∨ j = 10 by omega) with rfl | rfl | rfl | rfl | rfl | rfl | rfl | rfl | rfl | rfl | rfl <;> rfl
theorem a_X5_1 : ∀ b, b ∈ iX5 → zc (b + 1) = 101 ∧ zl (b + 1) = 24 := by decide +kernel
theorem a_X5_2 : ∀ b, b ∈ iX5 → zc (b + 2) = 101 ∧ zl (b + 2) = 4 := by decide +kernel
theorem a_X5_3 : ∀ b, b ∈ iX5 → zc (b + 3) = 100 ∧ zl (b + 3) = 24 ∧ m0L.all (fun q => q.1 != b + 3) = true := by decide +kernel
theorem a_X5_4 : ∀ b, b ∈ iX5 → zc (b + 4) = 100 ∧ zl (b + 4) = 24 ∧ m0L.all (fun q => q.1 != b + 4) = true := by decide +kernel
theorem a_X5_5 : ∀ b, b ∈ iX5 → zc (b + 5) = 100 ∧ zl (b + 5) = 24 ∧ m0L.all (fun q => q.1 != b + 5) = true := by decide +kernel
theorem a_X5_6 : ∀ b, b ∈ iX5 → zc (b + 6) = 100 ∧ zl (b + 6) = 24 ∧ m0L.all (fun q => q.1 != b + 6) = true := by decide +kernel
theorem e_X5 : ∀ b, b ∈ iX5 → zE M0 b = .inr (5, [.int 2, .int 4, .int 0, .int 0, .int 0, .ref (b + 1), .ref (b + 2), .ref (b + 3), .ref (b + 4), .ref (b + 5), .ref (b + 6)]) := by
  intro b h
  simp only [iX5, List.mem_cons, List.not_mem_nil, or_false] at h
  rcases h with rfl | rfl | rfl | rfl <;> (rw [zE_o (c := 5) (by decide) (by decide)]; rfl)
theorem k_X5 {d b : Nat} {G : Nat → va_E} {K : z_K} (hb : b ∈ iX5) (hG : G b = .inr (5, [.int 0, .int 0, .int 0, .int 0, .int 0, .null, .null, .null, .null, .null, .null])) (h : K none (b + 7) (zF G b (b + 1) (b + 7))) : z_N m_X5_init (d + 1) 6 124 0 0 0 [(0, .ref b)] [] (b + 1) G K := by
  rw [← zP_fin (G := G) (N := b + 1) (e := b + 7) (e_X5 b hb)] at h
  rw [zP_0 (b + 1) hG]
  refine zo_aload_n dX5_init_0 rfl 0 rfl ?_
  refine zo_objInit dX5_init_1 zx_17 zx_0 zx_1 (Nat.le_of_ble_eq_true rfl) ?_
  refine zo_aload_n dX5_init_4 rfl 0 rfl ?_
  refine zo_iconst (v := 2) dX5_init_5 (by decide) ?_
  refine zk_put dX5_init_6 f_X5_9 (by omega) (Nat.le_of_ble_eq_true rfl) (fun _ _ => ⟨rfl, rfl⟩) ?_
  refine zo_aload_n dX5_init_9 rfl 0 rfl ?_
  refine zo_iconst (v := 4) dX5_init_10 (by decide) ?_
  refine zk_put dX5_init_11 f_X5_15 (by omega) (Nat.le_of_ble_eq_true rfl) (fun _ _ => ⟨rfl, rfl⟩) ?_
  refine zo_aload_n dX5_init_14 rfl 0 rfl ?_
  refine zo_iconst (v := 0) dX5_init_15 (by decide) ?_
  refine zk_put dX5_init_16 f_X5_18 (by omega) (Nat.le_of_ble_eq_true rfl) (fun _ _ => ⟨rfl, rfl⟩) ?_
  refine zo_aload_n dX5_init_19 rfl 0 rfl ?_
  refine zo_iconst (v := 0) dX5_init_20 (by decide) ?_
  refine zk_put dX5_init_21 f_X5_21 (by omega) (Nat.le_of_ble_eq_true rfl) (fun _ _ => ⟨rfl, rfl⟩) ?_
  refine zo_aload_n dX5_init_24 rfl 0 rfl ?_
  refine zo_iconst (v := 0) dX5_init_25 (by decide) ?_
  refine zk_put dX5_init_26 f_X5_24 (by omega) (Nat.le_of_ble_eq_true rfl) (fun _ _ => ⟨rfl, rfl⟩) ?_
  refine zo_aload_n dX5_init_29 rfl 0 rfl ?_
  refine zo_bipush (v := 24) dX5_init_30 (by decide) ?_
  refine zk_newL (n := 24) dX5_init_32 (by omega) (by omega) (aO_l (a_X5_1 b hb)) (by decide) (by decide) (by decide) (by decide) (by decide) ?_
  refine zk_putF dX5_init_34 f_X5_27 rfl rfl (by omega) (Nat.le_of_ble_eq_true rfl) (fun _ _ => ⟨rfl, rfl⟩) ?_
  refine zo_aload_n dX5_init_37 rfl 0 rfl ?_
  refine zo_iconst (v := 4) dX5_init_38 (by decide) ?_
  refine zk_newL (n := 4) dX5_init_39 (by omega) (by omega) (aO_l (a_X5_2 b hb)) (by decide) (by decide) (by decide) (by decide) (by decide) ?_
  refine zk_putF dX5_init_41 f_X5_31 rfl rfl (by omega) (Nat.le_of_ble_eq_true rfl) (fun _ _ => ⟨rfl, rfl⟩) ?_
  refine zo_aload_n dX5_init_44 rfl 0 rfl ?_
  refine zo_bipush (v := 24) dX5_init_45 (by decide) ?_
  refine zk_newI (n := 24) dX5_init_47 (by omega) (by omega) (aO_i (a_X5_3 b hb)) (by decide) (by decide) (by decide) (by decide) (by decide) ?_
  refine zk_putF dX5_init_49 f_X5_34 rfl rfl (by omega) (Nat.le_of_ble_eq_true rfl) (fun _ _ => ⟨rfl, rfl⟩) ?_
  refine zo_aload_n dX5_init_52 rfl 0 rfl ?_
  refine zo_bipush (v := 24) dX5_init_53 (by decide) ?_
  refine zk_newI (n := 24) dX5_init_55 (by omega) (by omega) (aO_i (a_X5_4 b hb)) (by decide) (by decide) (by decide) (by decide) (by decide) ?_
  refine zk_putF dX5_init_57 f_X5_38 rfl rfl (by omega) (Nat.le_of_ble_eq_true rfl) (fun _ _ => ⟨rfl, rfl⟩) ?_
  refine zo_aload_n dX5_init_60 rfl 0 rfl ?_
  refine zo_bipush (v := 24) dX5_init_61 (by decide) ?_
  refine zk_newI (n := 24) dX5_init_63 (by omega) (by omega) (aO_i (a_X5_5 b hb)) (by decide) (by decide) (by decide) (by decide) (by decide) ?_
  refine zk_putF dX5_init_65 f_X5_41 rfl rfl (by omega) (Nat.le_of_ble_eq_true rfl) (fun _ _ => ⟨rfl, rfl⟩) ?_
  refine zo_aload_n dX5_init_68 rfl 0 rfl ?_
  refine zo_bipush (v := 24) dX5_init_69 (by decide) ?_
  refine zk_newI (n := 24) dX5_init_71 (by omega) (by omega) (aO_i (a_X5_6 b hb)) (by decide) (by decide) (by decide) (by decide) (by decide) ?_
  refine zk_putF dX5_init_73 f_X5_44 rfl rfl (by omega) (Nat.le_of_ble_eq_true rfl) (fun _ _ => ⟨rfl, rfl⟩) ?_
  exact zo_ret (v := none) h rfl dX5_init_76
def m_X7_init : z_MD := (yX7_init, cX7_init, 1, none)
theorem w_X7_init : z_mth m_X7_init 0 := ⟨zx_18, zx_19, by decide +kernel, ⟨by decide +kernel, by decide +kernel, by decide +kernel⟩, by decide +kernel⟩
theorem s_X7_init : Cond.instanceMethod yX7_init ∈ z_good := zx_20
theorem dv_X7 : ∀ j, j < 3 → defaultValue (tyX7 j) = vp_V [.null, .int 0, .int 0] j := by
  intro j hj
  rcases (show j = 0 ∨ j = 1 ∨ j = 2 by omega) with rfl | rfl | rfl <;> rfl
theorem a_X7_1 : ∀ b, b ∈ iX7 → zc (b + 1) = 100 ∧ zl (b + 1) = 60 ∧ m0L.all (fun q => q.1 != b + 1) = true := by decide +kernel
theorem e_X7 : ∀ b, b ∈ iX7 → zE M0 b = .inr (7, [.ref (b + 1), .int 0, .int 0]) := by
  intro b h
  simp only [iX7, List.mem_cons, List.not_mem_nil, or_false] at h
  rcases h with rfl | rfl | rfl | rfl <;> (rw [zE_o (c := 7) (by decide) (by decide)]; rfl)
theorem k_X7 {d b : Nat} {G : Nat → va_E} {K : z_K} (hb : b ∈ iX7) (hG : G b = .inr (7, [.null, .int 0, .int 0])) (h : K none (b + 2) (zF G b (b + 1) (b + 2))) : z_N m_X7_init (d + 1) 1 60 0 0 0 [(0, .ref b)] [] (b + 1) G K := by
  rw [← zP_fin (G := G) (N := b + 1) (e := b + 2) (e_X7 b hb)] at h
  rw [zP_0 (b + 1) hG]
  refine zo_aload_n dX7_init_0 rfl 0 rfl ?_
  refine zo_objInit dX7_init_1 zx_21 zx_0 zx_1 (Nat.le_of_ble_eq_true rfl) ?_
  refine zo_aload_n dX7_init_4 rfl 0 rfl ?_
  refine zo_bipush (v := 60) dX7_init_5 (by decide) ?_
  refine zk_newI (n := 60) dX7_init_7 (by omega) (by omega) (aO_i (a_X7_1 b hb)) (by decide) (by decide) (by decide) (by decide) (by decide) ?_
  refine zk_putF dX7_init_9 f_X7_9 rfl rfl (by omega) (Nat.le_of_ble_eq_true rfl) (fun _ _ => ⟨rfl, rfl⟩) ?_
  refine zo_aload_n dX7_init_12 rfl 0 rfl ?_
  refine zo_iconst (v := 0) dX7_init_13 (by decide) ?_
  refine zk_put dX7_init_14 f_X7_15 (by omega) (Nat.le_of_ble_eq_true rfl) (fun _ _ => ⟨rfl, rfl⟩) ?_
  refine zo_aload_n dX7_init_17 rfl 0 rfl ?_
  refine zo_iconst (v := 0) dX7_init_18 (by decide) ?_
  refine zk_put dX7_init_19 f_X7_19 (by omega) (Nat.le_of_ble_eq_true rfl) (fun _ _ => ⟨rfl, rfl⟩) ?_
  exact zo_ret (v := none) h rfl dX7_init_22
def m_X8_init : z_MD := (yX8_init, cX8_init, 1, none)
theorem w_X8_init : z_mth m_X8_init 0 := ⟨zx_22, zx_23, by decide +kernel, ⟨by decide +kernel, by decide +kernel, by decide +kernel⟩, by decide +kernel⟩
theorem s_X8_init : Cond.instanceMethod yX8_init ∈ z_good := zx_24
theorem dv_X8 : ∀ j, j < 4 → defaultValue (tyX8 j) = vp_V [.null, .null, .null, .int 0] j := by
  intro j hj
  rcases (show j = 0 ∨ j = 1 ∨ j = 2 ∨ j = 3 by omega) with rfl | rfl | rfl | rfl <;> rfl
theorem nn_X8_9 : (RX8, 9, yX5_init, RX11) ∈ z_nest := by decide +kernel
theorem q_X8_1 : ∀ b, b ∈ iX8 → b + 1 ∈ iX5 := by decide +kernel
theorem nn_X8_18 : (RX8, 18, yX3_init, RX11) ∈ z_nest := by decide +kernel
theorem q_X8_8 : ∀ b, b ∈ iX8 → b + 8 ∈ iX3 := by decide +kernel
theorem nn_X8_25 : (RX8, 25, yX7_init, RX11) ∈ z_nest := by decide +kernel
theorem q_X8_13 : ∀ b, b ∈ iX8 → b + 13 ∈ iX7 := by decide +kernel
theorem e_X8 : ∀ b, b ∈ iX8 → zE M0 b = .inr (8, [.ref (b + 1), .ref (b + 8), .ref (b + 13), .int 0]) := by
  intro b h
  simp only [iX8, List.mem_cons, List.not_mem_nil, or_false] at h
  rcases h with rfl | rfl | rfl | rfl <;> (rw [zE_o (c := 8) (by decide) (by decide)]; rfl)
theorem k_X8 {d b : Nat} {G : Nat → va_E} {K : z_K} (hb : b ∈ iX8) (hG : G b = .inr (8, [.null, .null, .null, .int 0])) (h : K none (b + 15) (zF G b (b + 1) (b + 15))) : z_N m_X8_init (d + 2) 14 405 0 0 0 [(0, .ref b)] [] (b + 1) G K := by
  rw [← zP_fin (G := G) (N := b + 1) (e := b + 15) (e_X8 b hb)] at h
  rw [zP_0 (b + 1) hG]
  refine zo_aload_n dX8_init_0 rfl 0 rfl ?_
  refine zo_objInit dX8_init_1 zx_25 zx_0 zx_1 (Nat.le_of_ble_eq_true rfl) ?_
  refine zo_aload_n dX8_init_4 rfl 0 rfl ?_
  refine zo_new (ci := 5) (fs := [.int 0, .int 0, .int 0, .int 0, .int 0, .null, .null, .null, .null, .null, .null]) dX8_init_5 zx_26 zx_27 zx_15 rfl uX5 tyX5 tyX5_ok dv_X5 (fun _ _ => rfl) (by decide) (by decide) ?_
  refine zo_dup dX8_init_8 rfl ?_
  refine zo_callIN (mc2 := 6) (ms2 := 124) (As := []) (b := b + 1) (st := [.ref (b + 1), .ref b]) dX8_init_9 w_X5_init nn_X8_9 rfl rfl s_X5_init rfl (Nat.le_of_ble_eq_true rfl) (Nat.le_of_ble_eq_true rfl) (by decide) (by decide) (k_X5 (d := d + 0) (q_X8_1 b hb) (z_up_s _ _ _) ⟨rfl, ?_⟩)
  rw [zP_call (by omega) (by omega) (by omega)]
  refine zk_putF dX8_init_12 f_X8_10 rfl rfl (by omega) (Nat.le_of_ble_eq_true rfl) (fun _ _ => ⟨rfl, rfl⟩) ?_
  refine zo_aload_n dX8_init_15 rfl 0 rfl ?_
  refine zo_new (ci := 3) (fs := [.null, .null, .null, .null, .int 0, .int 0, .int 0]) dX8_init_16 zx_28 zx_29 zx_7 rfl uX3 tyX3 tyX3_ok dv_X3 (fun _ _ => rfl) (by decide) (by decide) ?_
  refine zo_dup dX8_init_19 rfl ?_
  refine zo_callIN (mc2 := 4) (ms2 := 200) (As := []) (b := b + 8) (st := [.ref (b + 8), .ref b]) dX8_init_20 w_X3_init nn_X8_18 rfl rfl s_X3_init rfl (Nat.le_of_ble_eq_true rfl) (Nat.le_of_ble_eq_true rfl) (by decide) (by decide) (k_X3 (d := d + 0) (q_X8_8 b hb) (z_up_s _ _ _) ⟨rfl, ?_⟩)
  rw [zP_call (by omega) (by omega) (by omega)]
  refine zk_putF dX8_init_23 f_X8_19 rfl rfl (by omega) (Nat.le_of_ble_eq_true rfl) (fun _ _ => ⟨rfl, rfl⟩) ?_
  refine zo_aload_n dX8_init_26 rfl 0 rfl ?_
  refine zo_new (ci := 7) (fs := [.null, .int 0, .int 0]) dX8_init_27 zx_30 zx_31 zx_19 rfl uX7 tyX7 tyX7_ok dv_X7 (fun _ _ => rfl) (by decide) (by decide) ?_
  refine zo_dup dX8_init_30 rfl ?_
  refine zo_callIN (mc2 := 1) (ms2 := 60) (As := []) (b := b + 13) (st := [.ref (b + 13), .ref b]) dX8_init_31 w_X7_init nn_X8_25 rfl rfl s_X7_init rfl (Nat.le_of_ble_eq_true rfl) (Nat.le_of_ble_eq_true rfl) (by decide) (by decide) (k_X7 (d := d + 0) (q_X8_13 b hb) (z_up_s _ _ _) ⟨rfl, ?_⟩)
  rw [zP_call (by omega) (by omega) (by omega)]
  refine zk_putF dX8_init_34 f_X8_26 rfl rfl (by omega) (Nat.le_of_ble_eq_true rfl) (fun _ _ => ⟨rfl, rfl⟩) ?_
  refine zo_aload_n dX8_init_37 rfl 0 rfl ?_
  refine zo_iconst (v := 0) dX8_init_38 (by decide) ?_
  refine zk_put dX8_init_39 fx_X8_30 (by omega) (Nat.le_of_ble_eq_true rfl) (fun _ _ => ⟨rfl, rfl⟩) ?_
  exact zo_ret (v := none) h rfl dX8_init_42
def m_X2_init : z_MD := (yX2_init, cX2_init, 1, none)
theorem w_X2_init : z_mth m_X2_init 0 := ⟨zx_33, zx_34, by decide +kernel, ⟨by decide +kernel, by decide +kernel, by decide +kernel⟩, by decide +kernel⟩
theorem s_X2_init : Cond.instanceMethod yX2_init ∈ z_good := zx_35
theorem dv_X2 : ∀ j, j < 4 → defaultValue (tyX2 j) = vp_V [.int 0, .null, .null, .int 0] j := by
  intro j hj
  rcases (show j = 0 ∨ j = 1 ∨ j = 2 ∨ j = 3 by omega) with rfl | rfl | rfl | rfl <;> rfl
theorem e_X2 : zE M0 217 = .inr (2, [.int 0, .ref 218, .ref 219, .int 0]) := by rw [zE_o (c := 2) (by decide) (by decide)]; rfl
theorem k_X2 {d : Nat} {G : Nat → va_E} {K : z_K} (hG : G 217 = .inr (2, [.int 0, .null, .null, .int 0])) (h : K none (220) (zF G 217 (218) (220))) : z_N m_X2_init (d + 1) 2 8 0 0 0 [(0, .ref 217)] [] (218) G K := by
  rw [← zP_fin (G := G) (N := 218) (e := 220) e_X2] at h
  rw [zP_0 (218) hG]
  refine zo_aload_n dX2_init_0 rfl 0 rfl ?_
  refine zo_objInit dX2_init_1 zx_36 zx_0 zx_1 (Nat.le_of_ble_eq_true rfl) ?_
  refine zo_aload_n dX2_init_4 rfl 0 rfl ?_
  refine zo_iconst (v := 0) dX2_init_5 (by decide) ?_
  refine zk_put dX2_init_6 f_X2_9 (by omega) (Nat.le_of_ble_eq_true rfl) (fun _ _ => ⟨rfl, rfl⟩) ?_
  refine zo_aload_n dX2_init_9 rfl 0 rfl ?_
  refine zo_iconst (v := 4) dX2_init_10 (by decide) ?_
  refine zk_newI (n := 4) dX2_init_11 (by omega) (by omega) (aO_i (by decide +kernel)) (by decide) (by decide) (by decide) (by decide) (by decide) ?_
  refine zk_putF dX2_init_13 f_X2_15 rfl rfl (by omega) (Nat.le_of_ble_eq_true rfl) (fun _ _ => ⟨rfl, rfl⟩) ?_
  refine zo_aload_n dX2_init_16 rfl 0 rfl ?_
  refine zo_iconst (v := 4) dX2_init_17 (by decide) ?_
  refine zk_newI (n := 4) dX2_init_18 (by omega) (by omega) (aO_i (by decide +kernel)) (by decide) (by decide) (by decide) (by decide) (by decide) ?_
  refine zk_putF dX2_init_20 f_X2_19 rfl rfl (by omega) (Nat.le_of_ble_eq_true rfl) (fun _ _ => ⟨rfl, rfl⟩) ?_
  refine zo_aload_n dX2_init_23 rfl 0 rfl ?_
  refine zo_iconst (v := 0) dX2_init_24 (by decide) ?_
  refine zk_put dX2_init_25 f_X2_22 (by omega) (Nat.le_of_ble_eq_true rfl) (fun _ _ => ⟨rfl, rfl⟩) ?_
  exact zo_ret (v := none) h rfl dX2_init_28
def m_X6_init : z_MD := (yX6_init, cX6_init, 2, none)
theorem w_X6_init : z_mth m_X6_init 1 := ⟨zx_37, zx_38, by decide +kernel, ⟨by decide +kernel, by decide +kernel, by decide +kernel⟩, by decide +kernel⟩
theorem s_X6_init : Cond.instanceMethod yX6_init ∈ z_good := zx_39
theorem dv_X6 : ∀ j, j < 13 → defaultValue (tyX6 j) = vp_V [.null, .int 0, .int 0, .int 0, .int 0, .int 0, .int 0, .long 0, .int 0, .int 0, .int 0, .int 0, .int 0] j := by
  intro j hj
  rcases (show j = 0 ∨ j = 1 ∨ j = 2 ∨ j = 3 ∨ j = 4 ∨ j = 5 ∨ j = 6 ∨ j = 7 ∨ j = 8 ∨ j = 9 ∨ j = 10 ∨ j = 11 ∨ j = 12 by omega) with rfl | rfl | rfl | rfl | rfl | rfl | rfl | rfl | rfl | rfl | rfl | rfl | rfl <;> rfl
theorem e_X6 : zE M0 220 = .inr (6, [.ref 1, .int 0, .int 0, .int 0, .int 0, .int 0, .int (-1), .long 0, .int 0, .int 0, .int 0, .int 0, .int 0]) := by rw [zE_o (c := 6) (by decide) (by decide)]; rfl
theorem k_X6 {d : Nat} {G : Nat → va_E} {K : z_K} (hG : G 220 = .inr (6, [.null, .int 0, .int 0, .int 0, .int 0, .int 0, .int 0, .long 0, .int 0, .int 0, .int 0, .int 0, .int 0])) (h : K none (221) (zF G 220 (221) (221))) : z_N m_X6_init (d + 1) 0 0 0 0 0 [(0, .ref 220), (1, .ref 1)] [] (221) G K := by
  rw [← zP_fin (G := G) (N := 221) (e := 221) e_X6] at h
  rw [zP_0 (221) hG]
  refine zo_aload_n dX6_init_0 rfl 0 rfl ?_
  refine zo_objInit dX6_init_1 zx_40 zx_0 zx_1 (Nat.le_of_ble_eq_true rfl) ?_
  refine zo_aload_n dX6_init_4 rfl 0 rfl ?_
  refine zo_iconst (v := 0) dX6_init_5 (by decide) ?_
  refine zk_put dX6_init_6 f_X6_9 (by omega) (Nat.le_of_ble_eq_true rfl) (fun _ _ => ⟨rfl, rfl⟩) ?_
  refine zo_aload_n dX6_init_9 rfl 0 rfl ?_
  refine zo_iconst (v := 0) dX6_init_10 (by decide) ?_
  refine zk_put dX6_init_11 f_X6_15 (by omega) (Nat.le_of_ble_eq_true rfl) (fun _ _ => ⟨rfl, rfl⟩) ?_
  refine zo_aload_n dX6_init_14 rfl 0 rfl ?_
  refine zo_iconst (v := 0) dX6_init_15 (by decide) ?_
  refine zk_put dX6_init_16 f_X6_18 (by omega) (Nat.le_of_ble_eq_true rfl) (fun _ _ => ⟨rfl, rfl⟩) ?_
  refine zo_aload_n dX6_init_19 rfl 0 rfl ?_
  refine zo_iconst (v := 0) dX6_init_20 (by decide) ?_
  refine zk_put dX6_init_21 f_X6_21 (by omega) (Nat.le_of_ble_eq_true rfl) (fun _ _ => ⟨rfl, rfl⟩) ?_
  refine zo_aload_n dX6_init_24 rfl 0 rfl ?_
  refine zo_iconst (v := 0) dX6_init_25 (by decide) ?_
  refine zk_put dX6_init_26 f_X6_24 (by omega) (Nat.le_of_ble_eq_true rfl) (fun _ _ => ⟨rfl, rfl⟩) ?_
  refine zo_aload_n dX6_init_29 rfl 0 rfl ?_
  refine zo_iconst (v := (-1)) dX6_init_30 (by decide) ?_
  refine zk_put dX6_init_31 f_X6_27 (by omega) (Nat.le_of_ble_eq_true rfl) (fun _ _ => ⟨rfl, rfl⟩) ?_
  refine zo_aload_n dX6_init_34 rfl 0 rfl ?_
  refine zo_lconst (v := 0) dX6_init_35 (by decide) ?_
  refine zk_put dX6_init_36 f_X6_30 (by omega) (Nat.le_of_ble_eq_true rfl) (fun _ _ => ⟨rfl, rfl⟩) ?_
  refine zo_aload_n dX6_init_39 rfl 0 rfl ?_
  refine zo_iconst (v := 0) dX6_init_40 (by decide) ?_
  refine zk_put dX6_init_41 f_X6_34 (by omega) (Nat.le_of_ble_eq_true rfl) (fun _ _ => ⟨rfl, rfl⟩) ?_
  refine zo_aload_n dX6_init_44 rfl 0 rfl ?_
  refine zo_iconst (v := 0) dX6_init_45 (by decide) ?_
  refine zk_put dX6_init_46 f_X6_37 (by omega) (Nat.le_of_ble_eq_true rfl) (fun _ _ => ⟨rfl, rfl⟩) ?_
  refine zo_aload_n dX6_init_49 rfl 0 rfl ?_
  refine zo_iconst (v := 0) dX6_init_50 (by decide) ?_
  refine zk_put dX6_init_51 f_X6_40 (by omega) (Nat.le_of_ble_eq_true rfl) (fun _ _ => ⟨rfl, rfl⟩) ?_
  refine zo_aload_n dX6_init_54 rfl 0 rfl ?_
  refine zo_iconst (v := 0) dX6_init_55 (by decide) ?_
  refine zk_put dX6_init_56 f_X6_43 (by omega) (Nat.le_of_ble_eq_true rfl) (fun _ _ => ⟨rfl, rfl⟩) ?_
  refine zo_aload_n dX6_init_59 rfl 0 rfl ?_
  refine zo_iconst (v := 0) dX6_init_60 (by decide) ?_
  refine zk_put dX6_init_61 f_X6_46 (by omega) (Nat.le_of_ble_eq_true rfl) (fun _ _ => ⟨rfl, rfl⟩) ?_
  refine zo_aload_n dX6_init_64 rfl 0 rfl ?_
  refine zo_aload_n dX6_init_65 rfl 1 rfl ?_
  refine zk_putF dX6_init_66 f_X6_49 rfl rfl (by omega) (Nat.le_of_ble_eq_true rfl) (fun _ _ => ⟨rfl, rfl⟩) ?_
  exact zo_ret (v := none) h rfl dX6_init_69
def m_X1_init : z_MD := (yX1_init, cX1_init, 3, none)
theorem w_X1_init : z_mth m_X1_init 2 := ⟨zx_41, zx_42, by decide +kernel, ⟨by decide +kernel, by decide +kernel, by decide +kernel⟩, by decide +kernel⟩
theorem s_X1_init : Cond.instanceMethod yX1_init ∈ z_good := zx_43
theorem dv_X1 : ∀ j, j < 4 → defaultValue (tyX1 j) = vp_V [.null, .null, .null, .int 0] j := by
  intro j hj
  rcases (show j = 0 ∨ j = 1 ∨ j = 2 ∨ j = 3 by omega) with rfl | rfl | rfl | rfl <;> rfl
theorem e_X1 : zE M0 221 = .inr (1, [.ref 220, .ref 18, .ref 25, .int 0]) := by rw [zE_o (c := 1) (by decide) (by decide)]; rfl
theorem k_X1 {d : Nat} {G : Nat → va_E} {K : z_K} (h17 : G 17 = zE M0 17) (hG : G 221 = .inr (1, [.null, .null, .null, .int 0])) (h : K none (222) (zF G 221 (222) (222))) : z_N m_X1_init (d + 1) 0 0 0 0 0 [(0, .ref 221), (1, .ref 220), (2, .ref 17)] [] (222) G K := by
  rw [← zP_fin (G := G) (N := 222) (e := 222) e_X1] at h
  rw [zP_0 (222) hG]
  refine zo_aload_n dX1_init_0 rfl 0 rfl ?_
  refine zo_objInit dX1_init_1 zx_44 zx_0 zx_1 (Nat.le_of_ble_eq_true rfl) ?_
  refine zo_aload_n dX1_init_4 rfl 0 rfl ?_
  refine zo_iconst (v := 0) dX1_init_5 (by decide) ?_
  refine zk_put dX1_init_6 f_X1_9 (by omega) (Nat.le_of_ble_eq_true rfl) (fun _ _ => ⟨rfl, rfl⟩) ?_
  refine zo_aload_n dX1_init_9 rfl 0 rfl ?_
  refine zo_aload_n dX1_init_10 rfl 1 rfl ?_
  refine zk_putF dX1_init_11 f_X1_15 rfl rfl (by omega) (Nat.le_of_ble_eq_true rfl) (fun _ _ => ⟨rfl, rfl⟩) ?_
  refine zo_aload_n dX1_init_14 rfl 0 rfl ?_
  refine zo_aload_n dX1_init_15 rfl 2 rfl ?_
  refine zo_get dX1_init_16 fx_X1_19 (by omega) ((zP_o (by omega) (by omega)).trans (h17.trans (e_X8 17 (by decide)))) rfl ?_
  refine zk_putF dX1_init_19 f_X1_25 rfl rfl (by omega) (Nat.le_of_ble_eq_true rfl) (fun _ _ => ⟨rfl, rfl⟩) ?_
  refine zo_aload_n dX1_init_22 rfl 0 rfl ?_
  refine zo_aload_n dX1_init_23 rfl 2 rfl ?_
  refine zo_get dX1_init_24 fx_X1_26 (by omega) ((zP_o (by omega) (by omega)).trans (h17.trans (e_X8 17 (by decide)))) rfl ?_
  refine zk_putF dX1_init_27 f_X1_30 rfl rfl (by omega) (Nat.le_of_ble_eq_true rfl) (fun _ _ => ⟨rfl, rfl⟩) ?_
  exact zo_ret (v := none) h rfl dX1_init_30
def m_X0_init : z_MD := (yX0_init, cX0_init, 3, none)
theorem w_X0_init : z_mth m_X0_init 2 := ⟨zx_47, zx_48, by decide +kernel, ⟨by decide +kernel, by decide +kernel, by decide +kernel⟩, by decide +kernel⟩
theorem s_X0_init : Cond.instanceMethod yX0_init ∈ z_good := zx_49
theorem dv_X0 : ∀ j, j < 12 → defaultValue (tyX0 j) = vp_V [.null, .null, .null, .null, .null, .null, .int 0, .int 0, .int 0, .int 0, .int 0, .int 0] j := by
  intro j hj
  rcases (show j = 0 ∨ j = 1 ∨ j = 2 ∨ j = 3 ∨ j = 4 ∨ j = 5 ∨ j = 6 ∨ j = 7 ∨ j = 8 ∨ j = 9 ∨ j = 10 ∨ j = 11 by omega) with rfl | rfl | rfl | rfl | rfl | rfl | rfl | rfl | rfl | rfl | rfl | rfl <;> rfl
theorem e_X0 : zE M0 222 = .inr (0, [.ref 220, .ref 3, .ref 223, .ref 224, .ref 225, .ref 226, .int 0, .int 0, .int 0, .int 0, .int 0, .int 0]) := by rw [zE_o (c := 0) (by decide) (by decide)]; rfl
theorem k_X0 {d : Nat} {G : Nat → va_E} {K : z_K} (hG : G 222 = .inr (0, [.null, .null, .null, .null, .null, .null, .int 0, .int 0, .int 0, .int 0, .int 0, .int 0])) (h : K none (227) (zF G 222 (223) (227))) : z_N m_X0_init (d + 1) 4 160 0 0 0 [(0, .ref 222), (1, .ref 220), (2, .ref 3)] [] (223) G K := by
  rw [← zP_fin (G := G) (N := 223) (e := 227) e_X0] at h
  rw [zP_0 (223) hG]
  refine zo_aload_n dX0_init_0 rfl 0 rfl ?_
  refine zo_objInit dX0_init_1 zx_50 zx_0 zx_1 (Nat.le_of_ble_eq_true rfl) ?_
  refine zo_aload_n dX0_init_4 rfl 0 rfl ?_
  refine zo_bipush (v := 40) dX0_init_5 (by decide) ?_
  refine zk_newI (n := 40) dX0_init_7 (by omega) (by omega) (aO_i (by decide +kernel)) (by decide) (by decide) (by decide) (by decide) (by decide) ?_
  refine zk_putF dX0_init_9 f_X0_9 rfl rfl (by omega) (Nat.le_of_ble_eq_true rfl) (fun _ _ => ⟨rfl, rfl⟩) ?_
  refine zo_aload_n dX0_init_12 rfl 0 rfl ?_
  refine zo_bipush (v := 40) dX0_init_13 (by decide) ?_
  refine zk_newI (n := 40) dX0_init_15 (by omega) (by omega) (aO_i (by decide +kernel)) (by decide) (by decide) (by decide) (by decide) (by decide) ?_
  refine zk_putF dX0_init_17 f_X0_15 rfl rfl (by omega) (Nat.le_of_ble_eq_true rfl) (fun _ _ => ⟨rfl, rfl⟩) ?_
  refine zo_aload_n dX0_init_20 rfl 0 rfl ?_
  refine zo_bipush (v := 40) dX0_init_21 (by decide) ?_
  refine zk_newI (n := 40) dX0_init_23 (by omega) (by omega) (aO_i (by decide +kernel)) (by decide) (by decide) (by decide) (by decide) (by decide) ?_
  refine zk_putF dX0_init_25 f_X0_18 rfl rfl (by omega) (Nat.le_of_ble_eq_true rfl) (fun _ _ => ⟨rfl, rfl⟩) ?_
  refine zo_aload_n dX0_init_28 rfl 0 rfl ?_
  refine zo_bipush (v := 40) dX0_init_29 (by decide) ?_
  refine zk_newI (n := 40) dX0_init_31 (by omega) (by omega) (aO_i (by decide +kernel)) (by decide) (by decide) (by decide) (by decide) (by decide) ?_
  refine zk_putF dX0_init_33 f_X0_21 rfl rfl (by omega) (Nat.le_of_ble_eq_true rfl) (fun _ _ => ⟨rfl, rfl⟩) ?_
  refine zo_aload_n dX0_init_36 rfl 0 rfl ?_
  refine zo_iconst (v := 0) dX0_init_37 (by decide) ?_
  refine zk_put dX0_init_38 f_X0_24 (by omega) (Nat.le_of_ble_eq_true rfl) (fun _ _ => ⟨rfl, rfl⟩) ?_
  refine zo_aload_n dX0_init_41 rfl 0 rfl ?_
  refine zo_iconst (v := 0) dX0_init_42 (by decide) ?_
  refine zk_put dX0_init_43 f_X0_28 (by omega) (Nat.le_of_ble_eq_true rfl) (fun _ _ => ⟨rfl, rfl⟩) ?_
  refine zo_aload_n dX0_init_46 rfl 0 rfl ?_
  refine zo_iconst (v := 0) dX0_init_47 (by decide) ?_
  refine zk_put dX0_init_48 f_X0_32 (by omega) (Nat.le_of_ble_eq_true rfl) (fun _ _ => ⟨rfl, rfl⟩) ?_
  refine zo_aload_n dX0_init_51 rfl 0 rfl ?_
  refine zo_iconst (v := 0) dX0_init_52 (by decide) ?_
  refine zk_put dX0_init_53 f_X0_35 (by omega) (Nat.le_of_ble_eq_true rfl) (fun _ _ => ⟨rfl, rfl⟩) ?_
  refine zo_aload_n dX0_init_56 rfl 0 rfl ?_
  refine zo_iconst (v := 0) dX0_init_57 (by decide) ?_
  refine zk_put dX0_init_58 f_X0_38 (by omega) (Nat.le_of_ble_eq_true rfl) (fun _ _ => ⟨rfl, rfl⟩) ?_
  refine zo_aload_n dX0_init_61 rfl 0 rfl ?_
  refine zo_iconst (v := 0) dX0_init_62 (by decide) ?_
  refine zk_put dX0_init_63 f_X0_41 (by omega) (Nat.le_of_ble_eq_true rfl) (fun _ _ => ⟨rfl, rfl⟩) ?_
  refine zo_aload_n dX0_init_66 rfl 0 rfl ?_
  refine zo_aload_n dX0_init_67 rfl 1 rfl ?_
  refine zk_putF dX0_init_68 f_X0_44 rfl rfl (by omega) (Nat.le_of_ble_eq_true rfl) (fun _ _ => ⟨rfl, rfl⟩) ?_
  refine zo_aload_n dX0_init_71 rfl 0 rfl ?_
  refine zo_aload_n dX0_init_72 rfl 2 rfl ?_
  refine zk_putF dX0_init_73 f_X0_48 rfl rfl (by omega) (Nat.le_of_ble_eq_true rfl) (fun _ _ => ⟨rfl, rfl⟩) ?_
  exact zo_ret (v := none) h rfl dX0_init_76
