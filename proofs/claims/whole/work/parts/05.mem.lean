-- ===== the objects by their numbers, once all are made: what never changes of them (zc zl zr), and a memory of numbers =====
abbrev zMem : Type := (Nat → Nat → Int32) × (Nat → Nat → Int64)
def zcL : List Nat := [11, 102, 8, 5, 101, 101, 100, 100, 100, 100, 3, 100, 100, 100, 100, 7, 100, 8, 5, 101, 101, 100, 100, 100, 100, 3, 100, 100, 100, 100, 7, 100, 105, 8, 5, 101, 101, 100, 100, 100, 100, 3, 100, 100, 100, 100, 7, 100, 8, 5, 101, 101, 100, 100, 100, 100, 3, 100, 100, 100, 100, 7, 100, 4, 104, 9, 100, 100, 100, 100, 100, 100, 100, 100, 100, 100, 100, 9, 100, 100, 100, 100, 100, 100, 100, 100, 100, 100, 100, 9, 100, 100, 100, 100, 100, 100, 100, 100, 100, 100, 100, 9, 100, 100, 100, 100, 100, 100, 100, 100, 100, 100, 100, 100, 4, 3, 100, 100, 100, 100, 104, 9, 100, 100, 100, 100, 100, 100, 100, 100, 100, 100, 100, 9, 100, 100, 100, 100, 100, 100, 100, 100, 100, 100, 100, 9, 100, 100, 100, 100, 100, 100, 100, 100, 100, 100, 100, 9, 100, 100, 100, 100, 100, 100, 100, 100, 100, 100, 100, 100, 10, 106, 3, 100, 100, 100, 100, 3, 100, 100, 100, 100, 3, 100, 100, 100, 100, 3, 100, 100, 100, 100, 3, 100, 100, 100, 100, 3, 100, 100, 100, 100, 3, 100, 100, 100, 100, 3, 100, 100, 100, 100, 3, 100, 100, 100, 100, 2, 100, 100, 6, 1, 0, 100, 100, 100, 100, 100, 102, 12, 100, 100, 100, 100, 100, 100, 100, 101, 101, 101, 103, 103, 100, 100, 100, 100, 100, 100, 100, 100, 100, 100, 100, 100, 100, 100, 100, 100, 100, 100, 100, 100, 100, 101]
def zlL : List Nat := [0, 940, 0, 0, 24, 4, 24, 24, 24, 24, 0, 96, 96, 4, 4, 0, 60, 0, 0, 24, 4, 24, 24, 24, 24, 0, 96, 96, 4, 4, 0, 60, 2, 0, 0, 24, 4, 24, 24, 24, 24, 0, 96, 96, 4, 4, 0, 60, 0, 0, 24, 4, 24, 24, 24, 24, 0, 96, 96, 4, 4, 0, 60, 0, 4, 0, 24, 24, 24, 24, 24, 24, 24, 24, 24, 24, 24, 0, 24, 24, 24, 24, 24, 24, 24, 24, 24, 24, 24, 0, 24, 24, 24, 24, 24, 24, 24, 24, 24, 24, 24, 0, 24, 24, 24, 24, 24, 24, 24, 24, 24, 24, 24, 24, 0, 0, 96, 96, 4, 4, 4, 0, 24, 24, 24, 24, 24, 24, 24, 24, 24, 24, 24, 0, 24, 24, 24, 24, 24, 24, 24, 24, 24, 24, 24, 0, 24, 24, 24, 24, 24, 24, 24, 24, 24, 24, 24, 0, 24, 24, 24, 24, 24, 24, 24, 24, 24, 24, 24, 24, 0, 9, 0, 96, 96, 4, 4, 0, 96, 96, 4, 4, 0, 96, 96, 4, 4, 0, 96, 96, 4, 4, 0, 96, 96, 4, 4, 0, 96, 96, 4, 4, 0, 96, 96, 4, 4, 0, 96, 96, 4, 4, 0, 96, 96, 4, 4, 0, 4, 4, 0, 0, 0, 40, 40, 40, 40, 24, 48, 0, 940, 647, 202, 1294, 1624, 203, 203, 28, 28, 56, 2, 3, 24, 24, 24, 24, 2, 48, 48, 48, 48, 48, 48, 48, 48, 24, 24, 48, 4, 4, 160, 4, 240, 1]
def zrL : List (List Nat) := [[1, 0, 2, 17, 32, 63, 114, 170, 217, 220, 221, 222, 227, 0, 228, 0, 0, 0], [], [3, 10, 15, 0], [0, 0, 0, 0, 0, 4, 5, 6, 7, 8, 9], [], [], [], [], [], [], [11, 12, 13, 14, 0, 0, 0], [], [], [], [], [16, 0, 0], [], [18, 25, 30, 0], [0, 0, 0, 0, 0, 19, 20, 21, 22, 23, 24], [], [], [], [], [], [], [26, 27, 28, 29, 0, 0, 0], [], [], [], [], [31, 0, 0], [], [33, 48], [34, 41, 46, 0], [0, 0, 0, 0, 0, 35, 36, 37, 38, 39, 40], [], [], [], [], [], [], [42, 43, 44, 45, 0, 0, 0], [], [], [], [], [47, 0, 0], [], [49, 56, 61, 0], [0, 0, 0, 0, 0, 50, 51, 52, 53, 54, 55], [], [], [], [], [], [], [57, 58, 59, 60, 0, 0, 0], [], [], [], [], [62, 0, 0], [], [3, 10, 64, 113], [65, 77, 89, 101], [66, 67, 68, 0, 69, 70, 71, 72, 73, 74, 75, 76, 0], [], [], [], [], [], [], [], [], [], [], [], [78, 79, 80, 0, 81, 82, 83, 84, 85, 86, 87, 88, 0], [], [], [], [], [], [], [], [], [], [], [], [90, 91, 92, 0, 93, 94, 95, 96, 97, 98, 99, 100, 0], [], [], [], [], [], [], [], [], [], [], [], [102, 103, 104, 0, 105, 106, 107, 108, 109, 110, 111, 112, 0], [], [], [], [], [], [], [], [], [], [], [], [], [3, 115, 120, 169], [116, 117, 118, 119, 0, 0, 0], [], [], [], [], [121, 133, 145, 157], [122, 123, 124, 0, 125, 126, 127, 128, 129, 130, 131, 132, 0], [], [], [], [], [], [], [], [], [], [], [], [134, 135, 136, 0, 137, 138, 139, 140, 141, 142, 143, 144, 0], [], [], [], [], [], [], [], [], [], [], [], [146, 147, 148, 0, 149, 150, 151, 152, 153, 154, 155, 156, 0], [], [], [], [], [], [], [], [], [], [], [], [158, 159, 160, 0, 161, 162, 163, 164, 165, 166, 167, 168, 0], [], [], [], [], [], [], [], [], [], [], [], [], [171, 0, 0], [172, 177, 182, 187, 192, 197, 202, 207, 212], [173, 174, 175, 176, 0, 0, 0], [], [], [], [], [178, 179, 180, 181, 0, 0, 0], [], [], [], [], [183, 184, 185, 186, 0, 0, 0], [], [], [], [], [188, 189, 190, 191, 0, 0, 0], [], [], [], [], [193, 194, 195, 196, 0, 0, 0], [], [], [], [], [198, 199, 200, 201, 0, 0, 0], [], [], [], [], [203, 204, 205, 206, 0, 0, 0], [], [], [], [], [208, 209, 210, 211, 0, 0, 0], [], [], [], [], [213, 214, 215, 216, 0, 0, 0], [], [], [], [], [0, 218, 219, 0], [], [], [1, 0, 0, 0, 0, 0, 0, 0, 0, 0, 0, 0, 0], [220, 18, 25, 0], [220, 3, 223, 224, 225, 226, 0, 0, 0, 0, 0, 0], [], [], [], [], [], [], [0, 230, 0, 0, 0, 0, 0, 0, 0, 0, 0, 0, 0, 0, 231, 232, 233, 234, 235, 236, 237, 238, 239, 240, 241, 0, 0, 0, 242, 243, 244, 245, 246, 247, 248, 249, 250, 251, 252, 253, 254, 255, 256, 0, 0, 257, 0, 258, 259, 0, 0, 260, 261, 0, 0, 262, 0, 0, 0, 0], [], [], [], [], [], [], [], [], [], [], [], [], [], [], [], [], [], [], [], [], [], [], [], [], [], [], [], [], [], [], [], [], [], []]
/-- the class of an object (0 to 12), or 100 int[], 101 long[], 102 byte[], 103 boolean[], 104 Tree[], 105 Scene[], 106 Facts[] -/
def zc (i : Nat) : Nat := zcL.getD i 999
def zl (i : Nat) : Nat := zlL.getD i 0
def zr (i j : Nat) : Nat := (zrL.getD i []).getD j 0
def zN : Nat := 264
/-- of a class, field by field: 0 an int or a boolean, 1 a long, 2 a reference -/
def zk (c : Nat) : List Nat := match c with
  | 0 => [2, 2, 2, 2, 2, 2, 0, 0, 0, 0, 0, 0]
  | 1 => [2, 2, 2, 0]
  | 2 => [0, 2, 2, 0]
  | 3 => [2, 2, 2, 2, 0, 0, 0]
  | 4 => [2, 2, 2, 2]
  | 5 => [0, 0, 0, 0, 0, 2, 2, 2, 2, 2, 2]
  | 6 => [2, 0, 0, 0, 0, 0, 0, 1, 0, 0, 0, 0, 0]
  | 7 => [2, 0, 0]
  | 8 => [2, 2, 2, 0]
  | 9 => [2, 2, 2, 0, 2, 2, 2, 2, 2, 2, 2, 2, 0]
  | 10 => [2, 0, 0]
  | 11 => [2, 0, 2, 2, 2, 2, 2, 2, 2, 2, 2, 2, 2, 0, 2, 0, 0, 0]
  | _ => [0, 2, 0, 0, 0, 0, 0, 0, 0, 0, 0, 0, 1, 0, 2, 2, 2, 2, 2, 2, 2, 2, 2, 2, 2, 0, 0, 0, 2, 2, 2, 2, 2, 2, 2, 2, 2, 2, 2, 2, 2, 2, 2, 0, 0, 2, 0, 2, 2, 0, 0, 2, 2, 0, 0, 2, 0, 0, 0, 0]
def iX0 : List Nat := [222]
def iX1 : List Nat := [221]
def iX2 : List Nat := [217]
def iX3 : List Nat := [10, 25, 41, 56, 115, 172, 177, 182, 187, 192, 197, 202, 207, 212]
def iX4 : List Nat := [63, 114]
def iX5 : List Nat := [3, 18, 34, 49]
def iX6 : List Nat := [220]
def iX7 : List Nat := [15, 30, 46, 61]
def iX8 : List Nat := [2, 17, 33, 48]
def iX9 : List Nat := [65, 77, 89, 101, 121, 133, 145, 157]
def iX10 : List Nat := [170]
def iX11 : List Nat := [0]
def iX12 : List Nat := [229]
def zf (c i : Nat) (M : zMem) : List Value := (zk c).mapIdx fun j k => if k = 0 then .int (M.1 i j) else if k = 1 then .long (M.2 i j) else .ref (zr i j)
def zE (M : zMem) (i : Nat) : va_E :=
  if zc i = 100 then .inl (0, zl i, .inl (M.1 i)) else if zc i = 101 then .inl (1, zl i, .inr (.inl (M.2 i))) else if zc i = 102 then .inl (2, zl i, .inl (M.1 i)) else if zc i = 103 then .inl (3, zl i, .inl (M.1 i))
  else if zc i = 104 then .inl (4, zl i, .inr (.inr (.inr (.inr fun j => some (zr i j))))) else if zc i = 105 then .inl (5, zl i, .inr (.inr (.inr (.inr fun j => some (zr i j))))) else if zc i = 106 then .inl (6, zl i, .inr (.inr (.inr (.inr fun j => some (zr i j)))))
  else .inr (zc i, zf (zc i) i M)
theorem zE_i {M : zMem} {i : Nat} (h : zc i = 100) : zE M i = .inl (0, zl i, .inl (M.1 i)) := by simp [zE, h]
theorem zE_l {M : zMem} {i : Nat} (h : zc i = 101) : zE M i = .inl (1, zl i, .inr (.inl (M.2 i))) := by simp [zE, h]
theorem zE_b {M : zMem} {i : Nat} (h : zc i = 102) : zE M i = .inl (2, zl i, .inl (M.1 i)) := by simp [zE, h]
theorem zE_z {M : zMem} {i : Nat} (h : zc i = 103) : zE M i = .inl (3, zl i, .inl (M.1 i)) := by simp [zE, h]
theorem zE_r {M : zMem} {i t : Nat} (h : zc i = 100 + t) (h1 : 3 < t) (h2 : t < 7) : zE M i = .inl (t, zl i, .inr (.inr (.inr (.inr fun j => some (zr i j))))) := by
  rcases (show t = 4 ∨ t = 5 ∨ t = 6 by omega) with rfl | rfl | rfl <;> simp [zE, h]
theorem zE_o {M : zMem} {i c : Nat} (h : zc i = c) (hc : c < 100) : zE M i = .inr (c, zf c i M) := by
  subst h
  have : ∀ k, 99 < k → zc i ≠ k := fun k hk e => by omega
  simp [zE, this]
theorem zE_eq {M M2 : zMem} {i : Nat} (h1 : M.1 i = M2.1 i) (h2 : M.2 i = M2.2 i) : zE M i = zE M2 i := by simp [zE, zf, h1, h2]
theorem zf_len (c i : Nat) (M : zMem) : (zf c i M).length = (zk c).length := by simp [zf]
theorem zf_i {c i j : Nat} {M : zMem} (h : (zk c)[j]? = some 0) : (zf c i M)[j]? = some (.int (M.1 i j)) := by simp [zf, h]
theorem zf_l {c i j : Nat} {M : zMem} (h : (zk c)[j]? = some 1) : (zf c i M)[j]? = some (.long (M.2 i j)) := by simp [zf, h]
theorem zf_r {c i j : Nat} {M : zMem} (h : (zk c)[j]? = some 2) : (zf c i M)[j]? = some (.ref (zr i j)) := by simp [zf, h]
/-- one number written -/
def wI (M : zMem) (i j : Nat) (x : Int32) : zMem := (z_up M.1 i (upd (M.1 i) j x), M.2)
def wL (M : zMem) (i j : Nat) (x : Int64) : zMem := (M.1, z_up M.2 i (vp_updL (M.2 i) j x))
/-- a row copied into another -/
def cI (M : zMem) (a0 sp a dp n : Nat) : zMem := (z_up M.1 a (va_cpy (M.1 a0) (M.1 a) sp dp n), M.2)
def cL (M : zMem) (a0 sp a dp n : Nat) : zMem := (M.1, z_up M.2 a (va_cpy (M.2 a0) (M.2 a) sp dp n))
theorem wI_1 (M : zMem) (i j : Nat) (x : Int32) (a b : Nat) : (wI M i j x).1 a b = if a = i ∧ b = j then x else M.1 a b := by
  by_cases h : a = i
  · subst h; by_cases h2 : b = j <;> simp [wI, z_up, upd, h2]
  · simp [wI, z_up, h]
theorem wI_2 (M : zMem) (i j : Nat) (x : Int32) : (wI M i j x).2 = M.2 := rfl
theorem wL_1 (M : zMem) (i j : Nat) (x : Int64) : (wL M i j x).1 = M.1 := rfl
theorem wL_2 (M : zMem) (i j : Nat) (x : Int64) (a b : Nat) : (wL M i j x).2 a b = if a = i ∧ b = j then x else M.2 a b := by
  by_cases h : a = i
  · subst h; by_cases h2 : b = j <;> simp [wL, z_up, vp_updL, h2]
  · simp [wL, z_up, h]
theorem cI_1 (M : zMem) (a0 sp a dp n : Nat) (i j : Nat) : (cI M a0 sp a dp n).1 i j = if i = a ∧ dp ≤ j ∧ j < dp + n then M.1 a0 (sp + (j - dp)) else M.1 i j := by
  by_cases h : i = a
  · subst h; by_cases h2 : dp ≤ j ∧ j < dp + n <;> simp [cI, z_up, va_cpy, h2]
  · simp [cI, z_up, h]
theorem cI_2 (M : zMem) (a0 sp a dp n : Nat) : (cI M a0 sp a dp n).2 = M.2 := rfl
theorem cL_1 (M : zMem) (a0 sp a dp n : Nat) : (cL M a0 sp a dp n).1 = M.1 := rfl
theorem cL_2 (M : zMem) (a0 sp a dp n : Nat) (i j : Nat) : (cL M a0 sp a dp n).2 i j = if i = a ∧ dp ≤ j ∧ j < dp + n then M.2 a0 (sp + (j - dp)) else M.2 i j := by
  by_cases h : i = a
  · subst h; by_cases h2 : dp ≤ j ∧ j < dp + n <;> simp [cL, z_up, va_cpy, h2]
  · simp [cL, z_up, h]
theorem zE_up {M M2 : zMem} {i : Nat} {x : va_E} (hx : x = zE M2 i) (h1 : ∀ k, k ≠ i → M2.1 k = M.1 k) (h2 : ∀ k, k ≠ i → M2.2 k = M.2 k) : z_up (zE M) i x = zE M2 := by
  funext k
  by_cases h : k = i
  · subst h; rw [z_up_s, hx]
  · rw [z_up_n _ _ h]; exact zE_eq (h1 k h).symm (h2 k h).symm
theorem zf_setI {c i j : Nat} {M : zMem} {x : Int32} (h : (zk c)[j]? = some 0) : (zf c i M).set j (.int x) = zf c i (wI M i j x) := by
  apply List.ext_getElem?
  intro k
  rw [List.getElem?_set, zf_len]
  by_cases hk : j = k
  · subst hk
    rw [if_pos rfl, if_pos (List.getElem?_eq_some_iff.mp h).1, zf_i h, wI_1]; simp
  · rw [if_neg hk]
    simp only [zf, List.getElem?_mapIdx]
    cases (zk c)[k]? with
    | none => rfl
    | some q => simp [wI_1, wI_2, Ne.symm hk]
theorem zf_setL {c i j : Nat} {M : zMem} {x : Int64} (h : (zk c)[j]? = some 1) : (zf c i M).set j (.long x) = zf c i (wL M i j x) := by
  apply List.ext_getElem?
  intro k
  rw [List.getElem?_set, zf_len]
  by_cases hk : j = k
  · subst hk
    rw [if_pos rfl, if_pos (List.getElem?_eq_some_iff.mp h).1, zf_l h, wL_2]; simp
  · rw [if_neg hk]
    simp only [zf, List.getElem?_mapIdx]
    cases (zk c)[k]? with
    | none => rfl
    | some q => simp [wL_1, wL_2, Ne.symm hk]
theorem zu_obj {M : zMem} {i c j : Nat} {x : Int32} (hc : zc i = c) (h9 : c < 100) (h : (zk c)[j]? = some 0) : z_up (zE M) i (.inr (c, (zf c i M).set j (.int x))) = zE (wI M i j x) :=
  zE_up (by rw [zE_o hc h9, zf_setI h]) (fun k hk => z_up_n _ _ hk) (fun _ _ => rfl)
theorem zu_objL {M : zMem} {i c j : Nat} {x : Int64} (hc : zc i = c) (h9 : c < 100) (h : (zk c)[j]? = some 1) : z_up (zE M) i (.inr (c, (zf c i M).set j (.long x))) = zE (wL M i j x) :=
  zE_up (by rw [zE_o hc h9, zf_setL h]) (fun _ _ => rfl) (fun k hk => z_up_n _ _ hk)
theorem zu_i {M : zMem} {a j : Nat} {x : Int32} (h : zc a = 100) : z_up (zE M) a (.inl (0, zl a, .inl (upd (M.1 a) j x))) = zE (wI M a j x) := zE_up (by rw [zE_i h]; simp [wI, z_up_s]) (fun k hk => z_up_n _ _ hk) (fun _ _ => rfl)
theorem zu_b {M : zMem} {a j : Nat} {x : Int32} (h : zc a = 102) : z_up (zE M) a (.inl (2, zl a, .inl (upd (M.1 a) j x))) = zE (wI M a j x) := zE_up (by rw [zE_b h]; simp [wI, z_up_s]) (fun k hk => z_up_n _ _ hk) (fun _ _ => rfl)
theorem zu_z {M : zMem} {a j : Nat} {x : Int32} (h : zc a = 103) : z_up (zE M) a (.inl (3, zl a, .inl (upd (M.1 a) j x))) = zE (wI M a j x) := zE_up (by rw [zE_z h]; simp [wI, z_up_s]) (fun k hk => z_up_n _ _ hk) (fun _ _ => rfl)
theorem zu_l {M : zMem} {a j : Nat} {x : Int64} (h : zc a = 101) : z_up (zE M) a (.inl (1, zl a, .inr (.inl (vp_updL (M.2 a) j x)))) = zE (wL M a j x) := zE_up (by rw [zE_l h]; simp [wL, z_up_s]) (fun _ _ => rfl) (fun k hk => z_up_n _ _ hk)
theorem zu_ci {M : zMem} {a0 a sp dp n : Nat} (h : zc a = 100) : z_up (zE M) a (.inl (0, zl a, .inl (va_cpy (M.1 a0) (M.1 a) sp dp n))) = zE (cI M a0 sp a dp n) := zE_up (by rw [zE_i h]; simp [cI, z_up_s]) (fun k hk => z_up_n _ _ hk) (fun _ _ => rfl)
theorem zu_cl {M : zMem} {a0 a sp dp n : Nat} (h : zc a = 101) : z_up (zE M) a (.inl (1, zl a, .inr (.inl (va_cpy (M.2 a0) (M.2 a) sp dp n)))) = zE (cL M a0 sp a dp n) := zE_up (by rw [zE_l h]; simp [cL, z_up_s]) (fun _ _ => rfl) (fun k hk => z_up_n _ _ hk)
-- ===== the judgement over a memory =====
abbrev zK : Type := Option Value → zMem → Prop
def zKw (K : zK) : z_K := fun v N' G' => N' = zN ∧ ∃ M', G' = zE M' ∧ K v M'
abbrev zV (y : z_MD) (d pc : Nat) (L : List (Nat × Value)) (st : List Value) (M : zMem) (K : zK) : Prop := z_V y d 0 0 0 0 pc L st zN (zE M) (zKw K)
/-- the ends: an int, a boolean, a long, nothing -/
def bi (b : Bool) : Int32 := if b then 1 else 0
def zI (P : Int32 → zMem → Prop) : zK := fun v M => ∃ r, v = some (.int r) ∧ P r M
def zB (P : Bool → zMem → Prop) : zK := fun v M => ∃ r : Bool, v = some (.int (bi r)) ∧ P r M
def zJ (P : Int64 → zMem → Prop) : zK := fun v M => ∃ r, v = some (.long r) ∧ P r M
def zU (P : zMem → Prop) : zK := fun v M => v = none ∧ P M
section
variable {y y2 : z_MD} {d pc index n b c i j a : Nat} {L : List (Nat × Value)} {st As : List Value} {M : zMem} {K : zK} {fin : Bool} {ty : FieldType}
theorem zV.pick {L2 : List (Nat × Value)} (ks : List Nat) (hL : lv_pick L ks = L2) (h : zV y d pc L2 st M K) : zV y d pc L st M K := by
  refine z_V.sub h (fun q hq => ?_)
  rw [← hL] at hq
  obtain ⟨k, -, hk⟩ := List.mem_filterMap.mp hq
  exact List.mem_of_getElem? hk
theorem zV.post {K2 : zK} (h : zV y d pc L st M K) (hk : ∀ v M', K v M' → K2 v M') : zV y d pc L st M K2 :=
  z_V.post h (fun v N' G' ⟨h1, M', h2, h3⟩ _ => ⟨h1, M', h2, hk v M' h3⟩)
theorem zm_geti (hd : decode y.2.1 pc = .ok (.getfield index, 3)) (hf : z_fld y.1.cls index c j fin ty) (hb : zc b = c ∧ b < zN) (h9 : c < 100) (hk : (zk c)[j]? = some 0) (k : zV y d (pc + 3) L (.int (M.1 b j) :: st) M K) : zV y d pc L (.ref b :: st) M K := zr_get hd hf hb.2 (zE_o hb.1 h9) (zf_i hk) k
theorem zm_getl (hd : decode y.2.1 pc = .ok (.getfield index, 3)) (hf : z_fld y.1.cls index c j fin ty) (hb : zc b = c ∧ b < zN) (h9 : c < 100) (hk : (zk c)[j]? = some 1) (k : zV y d (pc + 3) L (.long (M.2 b j) :: st) M K) : zV y d pc L (.ref b :: st) M K := zr_get hd hf hb.2 (zE_o hb.1 h9) (zf_l hk) k
theorem zm_getr (hd : decode y.2.1 pc = .ok (.getfield index, 3)) (hf : z_fld y.1.cls index c j fin ty) (hb : zc b = c ∧ b < zN) (h9 : c < 100) (hk : (zk c)[j]? = some 2) (ho : zr b j = a) (k : zV y d (pc + 3) L (.ref a :: st) M K) : zV y d pc L (.ref b :: st) M K := zr_get hd hf hb.2 (zE_o hb.1 h9) (by rw [zf_r hk, ho]) k
theorem zm_puti {x : Int32} (hd : decode y.2.1 pc = .ok (.putfield index, 3)) (hf : z_fld y.1.cls index c j false .int) (hb : zc b = c ∧ b < zN) (h9 : c < 100) (hk : (zk c)[j]? = some 0) (k : zV y d (pc + 3) L st (wI M b j x) K) : zV y d pc L (.int x :: .ref b :: st) M K :=
  zr_put hd hf hb.2 (zE_o hb.1 h9) (by rw [zf_len]; exact (List.getElem?_eq_some_iff.mp hk).1) (fun _ _ => ⟨rfl, rfl⟩) (by rw [zu_obj hb.1 h9 hk]; exact k)
theorem zm_putz {x : Int32} (hd : decode y.2.1 pc = .ok (.putfield index, 3)) (hf : z_fld y.1.cls index c j false .boolean) (hb : zc b = c ∧ b < zN) (h9 : c < 100) (hk : (zk c)[j]? = some 0) (hx : x = 0 ∨ x = 1) (k : zV y d (pc + 3) L st (wI M b j x) K) : zV y d pc L (.int x :: .ref b :: st) M K :=
  zr_put hd hf hb.2 (zE_o hb.1 h9) (by rw [zf_len]; exact (List.getElem?_eq_some_iff.mp hk).1) (fun _ _ => by rcases hx with rfl | rfl <;> exact ⟨rfl, rfl⟩) (by rw [zu_obj hb.1 h9 hk]; exact k)
theorem zm_putl {x : Int64} (hd : decode y.2.1 pc = .ok (.putfield index, 3)) (hf : z_fld y.1.cls index c j false .long) (hb : zc b = c ∧ b < zN) (h9 : c < 100) (hk : (zk c)[j]? = some 1) (k : zV y d (pc + 3) L st (wL M b j x) K) : zV y d pc L (.long x :: .ref b :: st) M K :=
  zr_put hd hf hb.2 (zE_o hb.1 h9) (by rw [zf_len]; exact (List.getElem?_eq_some_iff.mp hk).1) (fun _ _ => ⟨rfl, rfl⟩) (by rw [zu_objL hb.1 h9 hk]; exact k)
theorem zm_iald {x : Int32} {o : Nat} (hd : decode y.2.1 pc = .ok (.iaload, 1)) (ha : zc a = 100 ∧ a < zN) (hn : zl a = n) (hx : vp_in x n) (ho : x.toNatClampNeg = o) (k : zV y d (pc + 1) L (.int (M.1 a o) :: st) M K) : zV y d pc L (.int x :: .ref a :: st) M K := zr_iald hd ha.2 (zE_i ha.1) (by rw [hn]; exact hx) (by rw [ho]; exact k)
theorem zm_bald {x : Int32} {o : Nat} (hd : decode y.2.1 pc = .ok (.baload, 1)) (ha : zc a = 102 ∧ a < zN) (hn : zl a = n) (hx : vp_in x n) (ho : x.toNatClampNeg = o) (k : zV y d (pc + 1) L (.int (M.1 a o) :: st) M K) : zV y d pc L (.int x :: .ref a :: st) M K := zr_bald hd ha.2 (zE_b ha.1) (by rw [hn]; exact hx) (by rw [ho]; exact k)
theorem zm_zald {x : Int32} {o : Nat} (hd : decode y.2.1 pc = .ok (.baload, 1)) (ha : zc a = 103 ∧ a < zN) (hn : zl a = n) (hx : vp_in x n) (ho : x.toNatClampNeg = o) (k : zV y d (pc + 1) L (.int (M.1 a o) :: st) M K) : zV y d pc L (.int x :: .ref a :: st) M K := zr_zald hd ha.2 (zE_z ha.1) (by rw [hn]; exact hx) (by rw [ho]; exact k)
theorem zm_lald {x : Int32} {o : Nat} (hd : decode y.2.1 pc = .ok (.laload, 1)) (ha : zc a = 101 ∧ a < zN) (hn : zl a = n) (hx : vp_in x n) (ho : x.toNatClampNeg = o) (k : zV y d (pc + 1) L (.long (M.2 a o) :: st) M K) : zV y d pc L (.int x :: .ref a :: st) M K := zr_lald hd ha.2 (zE_l ha.1) (by rw [hn]; exact hx) (by rw [ho]; exact k)
theorem zm_aald {x : Int32} {t o : Nat} {Cn : String} (hd : decode y.2.1 pc = .ok (.aaload, 1)) (ha : zc a = 100 + t ∧ a < zN) (h3 : 3 < t) (h7 : t < 7) (ht : ∀ cA : Nat → ClassId, (z_tys cA)[t]? = some (cA t, .object Cn)) (hn : zl a = n) (hx : vp_in x n) {q : Nat} (hq : x.toNatClampNeg = q) (ho : zr a q = o) (k : zV y d (pc + 1) L (.ref o :: st) M K) : zV y d pc L (.int x :: .ref a :: st) M K :=
  zr_aald hd ha.2 (zE_r ha.1 h3 h7) ht (by rw [hn]; exact hx) (by rw [hq, ho]) k
theorem zm_iast {x v : Int32} {o : Nat} (hd : decode y.2.1 pc = .ok (.iastore, 1)) (ha : zc a = 100 ∧ a < zN) (hn : zl a = n) (hx : vp_in x n) (ho : x.toNatClampNeg = o) (k : zV y d (pc + 1) L st (wI M a o v) K) : zV y d pc L (.int v :: .int x :: .ref a :: st) M K := zr_iast hd ha.2 (zE_i ha.1) (by rw [hn]; exact hx) (by rw [zu_i ha.1, ho]; exact k)
theorem zm_bast {x v : Int32} {o : Nat} (hd : decode y.2.1 pc = .ok (.bastore, 1)) (ha : zc a = 102 ∧ a < zN) (hn : zl a = n) (hx : vp_in x n) (ho : x.toNatClampNeg = o) (k : zV y d (pc + 1) L st (wI M a o v.toInt8.toInt32) K) : zV y d pc L (.int v :: .int x :: .ref a :: st) M K := zr_bast hd ha.2 (zE_b ha.1) (by rw [hn]; exact hx) (by rw [vp_nar_byte, zu_b ha.1, ho]; exact k)
theorem zm_zast {x v : Int32} {o : Nat} (hd : decode y.2.1 pc = .ok (.bastore, 1)) (ha : zc a = 103 ∧ a < zN) (hn : zl a = n) (hx : vp_in x n) (ho : x.toNatClampNeg = o) (hv : v = 0 ∨ v = 1) (k : zV y d (pc + 1) L st (wI M a o v) K) : zV y d pc L (.int v :: .int x :: .ref a :: st) M K := zr_zast hd ha.2 (zE_z ha.1) (by rw [hn]; exact hx) (by rw [show vp_nar .boolean v = v by rcases hv with rfl | rfl <;> decide, zu_z ha.1, ho]; exact k)
theorem zm_last {x : Int32} {v : Int64} {o : Nat} (hd : decode y.2.1 pc = .ok (.lastore, 1)) (ha : zc a = 101 ∧ a < zN) (hn : zl a = n) (hx : vp_in x n) (ho : x.toNatClampNeg = o) (k : zV y d (pc + 1) L st (wL M a o v) K) : zV y d pc L (.long v :: .int x :: .ref a :: st) M K := zr_last hd ha.2 (zE_l ha.1) (by rw [hn]; exact hx) (by rw [zu_l ha.1, ho]; exact k)
theorem zm_alen {t : Nat} {v : Int32} (hd : decode y.2.1 pc = .ok (.arraylength, 1)) (ha : zc a = 100 + t ∧ a < zN) (h7 : t < 7) (hn : Int32.ofNat (zl a) = v) (k : zV y d (pc + 1) L (.int v :: st) M K) : zV y d pc L (.ref a :: st) M K := by
  rcases (show t = 0 ∨ t = 1 ∨ t = 2 ∨ t = 3 ∨ t = 4 ∨ t = 5 ∨ t = 6 by omega) with rfl | rfl | rfl | rfl | rfl | rfl | rfl
  · exact zr_alen hd ha.2 (zE_i ha.1) (fun _ => rfl) hn k
  · exact zr_alen hd ha.2 (zE_l ha.1) (fun _ => rfl) hn k
  · exact zr_alen hd ha.2 (zE_b ha.1) (fun _ => rfl) hn k
  · exact zr_alen hd ha.2 (zE_z ha.1) (fun _ => rfl) hn k
  · exact zr_alen hd ha.2 (zE_r ha.1 (by omega) (by omega)) (fun _ => rfl) hn k
  · exact zr_alen hd ha.2 (zE_r ha.1 (by omega) (by omega)) (fun _ => rfl) hn k
  · exact zr_alen hd ha.2 (zE_r ha.1 (by omega) (by omega)) (fun _ => rfl) hn k
def z_cpw : Prop := Cond.native arraycopyName ∈ z_good ∧ Cond.static arraycopyName ∈ z_good ∧ Cond.initialized "java/lang/System" ∈ z_good
theorem zm_copyi {a0 n0 n1 : Nat} {sp dp m : Int32} (hd : decode y.2.1 pc = .ok (.invokestatic index, 3)) (hk : Cond.methodLink y.1.cls index arraycopyName ∈ z_good) (hk2 : z_cpw) (ha0 : zc a0 = 100 ∧ a0 < zN) (hn0 : zl a0 = n0) (ha : zc a = 100 ∧ a < zN) (hn1 : zl a = n1) (h3 : ¬ sp < 0 ∧ ¬ dp < 0 ∧ ¬ m < 0 ∧ sp.toNatClampNeg + m.toNatClampNeg ≤ n0 ∧ dp.toNatClampNeg + m.toNatClampNeg ≤ n1) {s1 d1 m1 : Nat} (e1 : sp.toNatClampNeg = s1) (e2 : dp.toNatClampNeg = d1) (e3 : m.toNatClampNeg = m1) (hst : (st.map fun v => v.category).sum ≤ 8) (k : zV y (d + 1) (pc + 3) L st (cI M a0 s1 a d1 m1) K) : zV y (d + 1) pc L (.int m :: .int dp :: .ref a :: .int sp :: .ref a0 :: st) M K :=
  zr_copyi hd hk hk2 ha0.2 ha.2 (zE_i ha0.1) (zE_i ha.1) h3.1 h3.2.1 h3.2.2.1 (by rw [hn0]; exact h3.2.2.2.1) (by rw [hn1]; exact h3.2.2.2.2) (by omega) hst (by rw [zu_ci ha.1, e1, e2, e3]; exact k)
theorem zm_copyl {a0 n0 n1 : Nat} {sp dp m : Int32} (hd : decode y.2.1 pc = .ok (.invokestatic index, 3)) (hk : Cond.methodLink y.1.cls index arraycopyName ∈ z_good) (hk2 : z_cpw) (ha0 : zc a0 = 101 ∧ a0 < zN) (hn0 : zl a0 = n0) (ha : zc a = 101 ∧ a < zN) (hn1 : zl a = n1) (h3 : ¬ sp < 0 ∧ ¬ dp < 0 ∧ ¬ m < 0 ∧ sp.toNatClampNeg + m.toNatClampNeg ≤ n0 ∧ dp.toNatClampNeg + m.toNatClampNeg ≤ n1) {s1 d1 m1 : Nat} (e1 : sp.toNatClampNeg = s1) (e2 : dp.toNatClampNeg = d1) (e3 : m.toNatClampNeg = m1) (hst : (st.map fun v => v.category).sum ≤ 8) (k : zV y (d + 1) (pc + 3) L st (cL M a0 s1 a d1 m1) K) : zV y (d + 1) pc L (.int m :: .int dp :: .ref a :: .int sp :: .ref a0 :: st) M K :=
  zr_copyl hd hk hk2 ha0.2 ha.2 (zE_l ha0.1) (zE_l ha.1) h3.1 h3.2.1 h3.2.2.1 (by rw [hn0]; exact h3.2.2.2.1) (by rw [hn1]; exact h3.2.2.2.2) (by omega) hst (by rw [zu_cl ha.1, e1, e2, e3]; exact k)
/-- a branch on a boolean answer -/
theorem zm_ifb_eq {x : Bool} {off : Int} {tgt : Nat} (hd : decode y.2.1 pc = .ok (.ifCond .eq off, 3)) (ht : (pc : Int) + off = (tgt : Int)) (kt : x = false → zV y d tgt L st M K) (kf : x = true → zV y d (pc + 3) L st M K) : zV y d pc L (.int (bi x) :: st) M K :=
  zr_if_eq hd ht (fun h => kt (by cases x with | false => rfl | true => exact absurd h (by decide))) (fun h => kf (by cases x with | true => rfl | false => exact absurd rfl h))
theorem zm_ifb_ne {x : Bool} {off : Int} {tgt : Nat} (hd : decode y.2.1 pc = .ok (.ifCond .ne off, 3)) (ht : (pc : Int) + off = (tgt : Int)) (kt : x = true → zV y d tgt L st M K) (kf : x = false → zV y d (pc + 3) L st M K) : zV y d pc L (.int (bi x) :: st) M K :=
  zr_if_ne hd ht (fun h => kt (by cases x with | true => rfl | false => exact absurd rfl h)) (fun h => kf (by cases x with | false => rfl | true => exact absurd h (by decide)))
theorem zm_iret {x : Int32} (hd : decode y.2.1 pc = .ok (.ireturn, 1)) (hr : y.2.2.2 = some .int) (hk : K (some (.int x)) M) : zV y d pc L [.int x] M K := zr_ret (v := some (.int x)) ⟨rfl, M, rfl, hk⟩ ⟨.int, hr, rfl⟩ hd
theorem zm_zret {x : Int32} (hd : decode y.2.1 pc = .ok (.ireturn, 1)) (hr : y.2.2.2 = some .boolean) (hx : x = 0 ∨ x = 1) (hk : K (some (.int x)) M) : zV y d pc L [.int x] M K := zr_ret (v := some (.int x)) ⟨rfl, M, rfl, hk⟩ ⟨.boolean, hr, by rcases hx with rfl | rfl <;> decide⟩ hd
theorem zm_lret {x : Int64} (hd : decode y.2.1 pc = .ok (.lreturn, 1)) (hr : y.2.2.2 = some .long) (hk : K (some (.long x)) M) : zV y d pc L [.long x] M K := zr_ret (v := some (.long x)) ⟨rfl, M, rfl, hk⟩ hr hd
theorem zm_vret (hd : decode y.2.1 pc = .ok (.return_, 1)) (hr : y.2.2.2 = none) (hk : K none M) : zV y d pc L [] M K := zr_ret (v := none) ⟨rfl, M, rfl, hk⟩ hr hd
theorem zin {x : Int32} {n : Nat} (h : (decide (x < 0) || decide (n ≤ x.toNatClampNeg)) = false) : vp_in x n := by
  intro q
  rcases q with q | q <;> simp [q] at h
theorem bi_01 (x : Bool) : bi x = 0 ∨ bi x = 1 := by cases x; exact Or.inl rfl; exact Or.inr rfl

def z_mmw (x : MethodName) (cc : ByteArray) : Prop := Cond.static x ∈ z_good ∧ Cond.initialized "java/lang/Math" ∈ z_good ∧ Cond.code x cc 2 (some .int) ∈ z_good
theorem zm_mmin {x z : Int32} (hd : decode y.2.1 pc = .ok (.invokestatic index, 3)) (hk : Cond.methodLink y.1.cls index Lib.Math.min.name ∈ z_good) (hw2 : z_mmw Lib.Math.min.name Lib.Math.min.code) (hst : (st.map fun v => v.category).sum ≤ 8) (k : zV y (d + 1) (pc + 3) L (.int (if z < x then z else x) :: st) M K) : zV y (d + 1) pc L (.int z :: .int x :: st) M K := by
  intro p l e R s m args below meth c D sA cA Hb Q H locs ls C r hc hs hl hw hS
  have hcat : ((st.map (z_v Hb.size sA)).map fun v => v.category).sum ≤ 8 := by
    rw [List.map_map, show ((fun v => v.category) ∘ z_v Hb.size sA) = (fun v => v.category) from funext fun v => z_cat _ _ v]; exact hst
  exact va_mmin C.1 C.2.1 (C.2.2.2.1.trans hl.1.symm) C.2.2.2.2.2.1 (C.2.2.2.2.2.2.1 _ hk) (C.2.2.2.2.2.2.1 _ hw2.1) (C.2.2.2.2.2.2.1 _ hw2.2.1) (C.2.2.2.2.2.2.1 _ hw2.2.2) (Nat.le_trans (by omega) C.2.2.2.2.2.2.2.2.2.1) (Nat.le_trans (Nat.add_le_add_right hcat _) (Nat.le_trans (by omega) C.2.2.2.2.2.2.2.2.2.2.1)) hc hs hd (k p l e R s m args below meth c D sA cA Hb Q H locs ls C r hc hs hl hw hS)
theorem zm_mmax {x z : Int32} (hd : decode y.2.1 pc = .ok (.invokestatic index, 3)) (hk : Cond.methodLink y.1.cls index Lib.Math.max.name ∈ z_good) (hw2 : z_mmw Lib.Math.max.name Lib.Math.max.code) (hst : (st.map fun v => v.category).sum ≤ 8) (k : zV y (d + 1) (pc + 3) L (.int (if x < z then z else x) :: st) M K) : zV y (d + 1) pc L (.int z :: .int x :: st) M K := by
  intro p l e R s m args below meth c D sA cA Hb Q H locs ls C r hc hs hl hw hS
  have hcat : ((st.map (z_v Hb.size sA)).map fun v => v.category).sum ≤ 8 := by
    rw [List.map_map, show ((fun v => v.category) ∘ z_v Hb.size sA) = (fun v => v.category) from funext fun v => z_cat _ _ v]; exact hst
  exact va_mmax C.1 C.2.1 (C.2.2.2.1.trans hl.1.symm) C.2.2.2.2.2.1 (C.2.2.2.2.2.2.1 _ hk) (C.2.2.2.2.2.2.1 _ hw2.1) (C.2.2.2.2.2.2.1 _ hw2.2.1) (C.2.2.2.2.2.2.1 _ hw2.2.2) (Nat.le_trans (by omega) C.2.2.2.2.2.2.2.2.2.1) (Nat.le_trans (Nat.add_le_add_right hcat _) (Nat.le_trans (by omega) C.2.2.2.2.2.2.2.2.2.2.1)) hc hs hd (k p l e R s m args below meth c D sA cA Hb Q H locs ls C r hc hs hl hw hS)

theorem zm_callV_i {S0 : List Value} (hd : decode y.2.1 pc = .ok (.invokevirtual index, 3)) (hy : z_mth y2 n) (hlk : Cond.methodLink y.1.cls index y2.1 ∈ z_good) (hci : (vwCl[c]?).map (fun q => q.1) = some y2.1.cls) (hb : zc b = c ∧ b < zN) (h9 : c < 100) (hsel : Cond.instanceMethod y2.1 ∈ z_good ∧ Cond.selects y2.1.cls y2.1 y2.1 ∈ z_good) (As : List Value) (hS0 : S0 = As.reverse ++ .ref b :: st) (hA : As.length = n) (hsl : (lg_sl (.ref b :: As)).length ≤ y2.2.2.1) (hst : (st.map fun v => v.category).sum ≤ 8) (k : zV y2 d 0 (lv_args 0 (.ref b :: As)) [] M (zI (fun r M' => zV y (d + 1) (pc + 3) L (.int r :: st) M' K))) : zV y (d + 1) pc L S0 M K := by
  subst hS0
  refine zr_callV hd hy hlk hci hb.2 (zE_o hb.1 h9) hsel hA hsl hst (Nat.le_refl _) (Nat.le_refl _) (z_V.post k ?_)
  rintro v N' G' ⟨rfl, M', rfl, r, rfl, h⟩ _
  exact h
theorem zm_callV_b {S0 : List Value} (hd : decode y.2.1 pc = .ok (.invokevirtual index, 3)) (hy : z_mth y2 n) (hlk : Cond.methodLink y.1.cls index y2.1 ∈ z_good) (hci : (vwCl[c]?).map (fun q => q.1) = some y2.1.cls) (hb : zc b = c ∧ b < zN) (h9 : c < 100) (hsel : Cond.instanceMethod y2.1 ∈ z_good ∧ Cond.selects y2.1.cls y2.1 y2.1 ∈ z_good) (As : List Value) (hS0 : S0 = As.reverse ++ .ref b :: st) (hA : As.length = n) (hsl : (lg_sl (.ref b :: As)).length ≤ y2.2.2.1) (hst : (st.map fun v => v.category).sum ≤ 8) (k : zV y2 d 0 (lv_args 0 (.ref b :: As)) [] M (zB (fun r M' => zV y (d + 1) (pc + 3) L (.int (bi r) :: st) M' K))) : zV y (d + 1) pc L S0 M K := by
  subst hS0
  refine zr_callV hd hy hlk hci hb.2 (zE_o hb.1 h9) hsel hA hsl hst (Nat.le_refl _) (Nat.le_refl _) (z_V.post k ?_)
  rintro v N' G' ⟨rfl, M', rfl, r, rfl, h⟩ _
  exact h
theorem zm_callV_j {S0 : List Value} (hd : decode y.2.1 pc = .ok (.invokevirtual index, 3)) (hy : z_mth y2 n) (hlk : Cond.methodLink y.1.cls index y2.1 ∈ z_good) (hci : (vwCl[c]?).map (fun q => q.1) = some y2.1.cls) (hb : zc b = c ∧ b < zN) (h9 : c < 100) (hsel : Cond.instanceMethod y2.1 ∈ z_good ∧ Cond.selects y2.1.cls y2.1 y2.1 ∈ z_good) (As : List Value) (hS0 : S0 = As.reverse ++ .ref b :: st) (hA : As.length = n) (hsl : (lg_sl (.ref b :: As)).length ≤ y2.2.2.1) (hst : (st.map fun v => v.category).sum ≤ 8) (k : zV y2 d 0 (lv_args 0 (.ref b :: As)) [] M (zJ (fun r M' => zV y (d + 1) (pc + 3) L (.long r :: st) M' K))) : zV y (d + 1) pc L S0 M K := by
  subst hS0
  refine zr_callV hd hy hlk hci hb.2 (zE_o hb.1 h9) hsel hA hsl hst (Nat.le_refl _) (Nat.le_refl _) (z_V.post k ?_)
  rintro v N' G' ⟨rfl, M', rfl, r, rfl, h⟩ _
  exact h
theorem zm_callV_v {S0 : List Value} (hd : decode y.2.1 pc = .ok (.invokevirtual index, 3)) (hy : z_mth y2 n) (hlk : Cond.methodLink y.1.cls index y2.1 ∈ z_good) (hci : (vwCl[c]?).map (fun q => q.1) = some y2.1.cls) (hb : zc b = c ∧ b < zN) (h9 : c < 100) (hsel : Cond.instanceMethod y2.1 ∈ z_good ∧ Cond.selects y2.1.cls y2.1 y2.1 ∈ z_good) (As : List Value) (hS0 : S0 = As.reverse ++ .ref b :: st) (hA : As.length = n) (hsl : (lg_sl (.ref b :: As)).length ≤ y2.2.2.1) (hst : (st.map fun v => v.category).sum ≤ 8) (k : zV y2 d 0 (lv_args 0 (.ref b :: As)) [] M (zU (fun M' => zV y (d + 1) (pc + 3) L st M' K))) : zV y (d + 1) pc L S0 M K := by
  subst hS0
  refine zr_callV hd hy hlk hci hb.2 (zE_o hb.1 h9) hsel hA hsl hst (Nat.le_refl _) (Nat.le_refl _) (z_V.post k ?_)
  rintro v N' G' ⟨rfl, M', rfl, rfl, h⟩ _
  exact h
theorem zm_callS_i {S0 : List Value} (hd : decode y.2.1 pc = .ok (.invokestatic index, 3)) (hy : z_mth y2 n) (hlk : Cond.methodLink y.1.cls index y2.1 ∈ z_good) (hsel : Cond.static y2.1 ∈ z_good) (As : List Value) (hS0 : S0 = As.reverse ++ st) (hA : As.length = n) (hsl : (lg_sl As).length ≤ y2.2.2.1) (hst : (st.map fun v => v.category).sum ≤ 8) (k : zV y2 d 0 (lv_args 0 As) [] M (zI (fun r M' => zV y (d + 1) (pc + 3) L (.int r :: st) M' K))) : zV y (d + 1) pc L S0 M K := by
  subst hS0
  refine zr_callS hd hy hlk hsel hA hsl hst (Nat.le_refl _) (Nat.le_refl _) (z_V.post k ?_)
  rintro v N' G' ⟨rfl, M', rfl, r, rfl, h⟩ _
  exact h
theorem zm_callS_b {S0 : List Value} (hd : decode y.2.1 pc = .ok (.invokestatic index, 3)) (hy : z_mth y2 n) (hlk : Cond.methodLink y.1.cls index y2.1 ∈ z_good) (hsel : Cond.static y2.1 ∈ z_good) (As : List Value) (hS0 : S0 = As.reverse ++ st) (hA : As.length = n) (hsl : (lg_sl As).length ≤ y2.2.2.1) (hst : (st.map fun v => v.category).sum ≤ 8) (k : zV y2 d 0 (lv_args 0 As) [] M (zB (fun r M' => zV y (d + 1) (pc + 3) L (.int (bi r) :: st) M' K))) : zV y (d + 1) pc L S0 M K := by
  subst hS0
  refine zr_callS hd hy hlk hsel hA hsl hst (Nat.le_refl _) (Nat.le_refl _) (z_V.post k ?_)
  rintro v N' G' ⟨rfl, M', rfl, r, rfl, h⟩ _
  exact h
theorem zm_callS_j {S0 : List Value} (hd : decode y.2.1 pc = .ok (.invokestatic index, 3)) (hy : z_mth y2 n) (hlk : Cond.methodLink y.1.cls index y2.1 ∈ z_good) (hsel : Cond.static y2.1 ∈ z_good) (As : List Value) (hS0 : S0 = As.reverse ++ st) (hA : As.length = n) (hsl : (lg_sl As).length ≤ y2.2.2.1) (hst : (st.map fun v => v.category).sum ≤ 8) (k : zV y2 d 0 (lv_args 0 As) [] M (zJ (fun r M' => zV y (d + 1) (pc + 3) L (.long r :: st) M' K))) : zV y (d + 1) pc L S0 M K := by
  subst hS0
  refine zr_callS hd hy hlk hsel hA hsl hst (Nat.le_refl _) (Nat.le_refl _) (z_V.post k ?_)
  rintro v N' G' ⟨rfl, M', rfl, r, rfl, h⟩ _
  exact h
theorem zm_callS_v {S0 : List Value} (hd : decode y.2.1 pc = .ok (.invokestatic index, 3)) (hy : z_mth y2 n) (hlk : Cond.methodLink y.1.cls index y2.1 ∈ z_good) (hsel : Cond.static y2.1 ∈ z_good) (As : List Value) (hS0 : S0 = As.reverse ++ st) (hA : As.length = n) (hsl : (lg_sl As).length ≤ y2.2.2.1) (hst : (st.map fun v => v.category).sum ≤ 8) (k : zV y2 d 0 (lv_args 0 As) [] M (zU (fun M' => zV y (d + 1) (pc + 3) L st M' K))) : zV y (d + 1) pc L S0 M K := by
  subst hS0
  refine zr_callS hd hy hlk hsel hA hsl hst (Nat.le_refl _) (Nat.le_refl _) (z_V.post k ?_)
  rintro v N' G' ⟨rfl, M', rfl, rfl, h⟩ _
  exact h
theorem zm_callSN_i {S0 : List Value} {host : String} (hd : decode y.2.1 pc = .ok (.invokestatic index, 3)) (hy : z_mth y2 n) (hlk : (y.1.cls, index, y2.1, host) ∈ z_nest) (hsel : Cond.static y2.1 ∈ z_good) (As : List Value) (hS0 : S0 = As.reverse ++ st) (hA : As.length = n) (hsl : (lg_sl As).length ≤ y2.2.2.1) (hst : (st.map fun v => v.category).sum ≤ 8) (k : zV y2 d 0 (lv_args 0 As) [] M (zI (fun r M' => zV y (d + 1) (pc + 3) L (.int r :: st) M' K))) : zV y (d + 1) pc L S0 M K := by
  subst hS0
  refine zr_callSN hd hy hlk hsel hA hsl hst (Nat.le_refl _) (Nat.le_refl _) (z_V.post k ?_)
  rintro v N' G' ⟨rfl, M', rfl, r, rfl, h⟩ _
  exact h
theorem zm_callSN_b {S0 : List Value} {host : String} (hd : decode y.2.1 pc = .ok (.invokestatic index, 3)) (hy : z_mth y2 n) (hlk : (y.1.cls, index, y2.1, host) ∈ z_nest) (hsel : Cond.static y2.1 ∈ z_good) (As : List Value) (hS0 : S0 = As.reverse ++ st) (hA : As.length = n) (hsl : (lg_sl As).length ≤ y2.2.2.1) (hst : (st.map fun v => v.category).sum ≤ 8) (k : zV y2 d 0 (lv_args 0 As) [] M (zB (fun r M' => zV y (d + 1) (pc + 3) L (.int (bi r) :: st) M' K))) : zV y (d + 1) pc L S0 M K := by
  subst hS0
  refine zr_callSN hd hy hlk hsel hA hsl hst (Nat.le_refl _) (Nat.le_refl _) (z_V.post k ?_)
  rintro v N' G' ⟨rfl, M', rfl, r, rfl, h⟩ _
  exact h
theorem zm_callSN_j {S0 : List Value} {host : String} (hd : decode y.2.1 pc = .ok (.invokestatic index, 3)) (hy : z_mth y2 n) (hlk : (y.1.cls, index, y2.1, host) ∈ z_nest) (hsel : Cond.static y2.1 ∈ z_good) (As : List Value) (hS0 : S0 = As.reverse ++ st) (hA : As.length = n) (hsl : (lg_sl As).length ≤ y2.2.2.1) (hst : (st.map fun v => v.category).sum ≤ 8) (k : zV y2 d 0 (lv_args 0 As) [] M (zJ (fun r M' => zV y (d + 1) (pc + 3) L (.long r :: st) M' K))) : zV y (d + 1) pc L S0 M K := by
  subst hS0
  refine zr_callSN hd hy hlk hsel hA hsl hst (Nat.le_refl _) (Nat.le_refl _) (z_V.post k ?_)
  rintro v N' G' ⟨rfl, M', rfl, r, rfl, h⟩ _
  exact h
theorem zm_callSN_v {S0 : List Value} {host : String} (hd : decode y.2.1 pc = .ok (.invokestatic index, 3)) (hy : z_mth y2 n) (hlk : (y.1.cls, index, y2.1, host) ∈ z_nest) (hsel : Cond.static y2.1 ∈ z_good) (As : List Value) (hS0 : S0 = As.reverse ++ st) (hA : As.length = n) (hsl : (lg_sl As).length ≤ y2.2.2.1) (hst : (st.map fun v => v.category).sum ≤ 8) (k : zV y2 d 0 (lv_args 0 As) [] M (zU (fun M' => zV y (d + 1) (pc + 3) L st M' K))) : zV y (d + 1) pc L S0 M K := by
  subst hS0
  refine zr_callSN hd hy hlk hsel hA hsl hst (Nat.le_refl _) (Nat.le_refl _) (z_V.post k ?_)
  rintro v N' G' ⟨rfl, M', rfl, rfl, h⟩ _
  exact h
end
