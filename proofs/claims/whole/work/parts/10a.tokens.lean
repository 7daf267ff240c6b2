-- ===== tokens of a text: a function of its bytes =====
def isL (c : Nat) : Bool := decide (97 ≤ c) && decide (c ≤ 122)
def isD (c : Nat) : Bool := decide (48 ≤ c) && decide (c ≤ 57)
def isA (c : Nat) : Bool := isL c || isD c
def isW (c : Nat) : Bool := decide (c = 32) || decide (c = 10)
def isS (c : Nat) : Bool := decide (c = 59) || (decide (c = 60) || (decide (c = 61) || (decide (c = 62) || (decide (c = 40) || decide (c = 41)))))
/-- how far p goes on from a, c steps at most -/
def far (p : Nat → Bool) (tx : Nat → Nat) : Nat → Nat → Nat
  | 0, a => a
  | c + 1, a => if p (tx a) = true then far p tx c (a + 1) else a
theorem far_ge (p : Nat → Bool) (tx : Nat → Nat) : ∀ c a : Nat, a ≤ far p tx c a ∧ far p tx c a ≤ a + c
  | 0, a => ⟨Nat.le_refl _, Nat.le_refl _⟩
  | c + 1, a => by
    have h := far_ge p tx c (a + 1)
    show a ≤ (if p (tx a) = true then far p tx c (a + 1) else a) ∧ (if p (tx a) = true then far p tx c (a + 1) else a) ≤ a + (c + 1)
    split <;> omega
def seg (tx : Nat → Nat) (a b : Nat) : List Nat := (List.range (b - a)).map (fun i => tx (a + i))
theorem seg_len (tx : Nat → Nat) (a b : Nat) : (seg tx a b).length = b - a := by simp [seg]
theorem seg_0 (tx : Nat → Nat) (a : Nat) : seg tx a a = [] := by simp [seg]
theorem seg_s (tx : Nat → Nat) {a b : Nat} (h : a ≤ b) : seg tx a (b + 1) = seg tx a b ++ [tx b] := by
  unfold seg
  rw [show b + 1 - a = (b - a) + 1 by omega, List.range_succ, List.map_append, List.map_singleton, show a + (b - a) = b by omega]
/-- a token: its kind (0 the end, 1 none, 2 a word, 3 a number, 4 a sign), its place, its letters, its number or sign -/
abbrev zTk : Type := Nat × Nat × List Nat × Nat
def runT (a : Nat) (s : List Nat) : zTk := if s.all isL = true ∧ s.length ≤ 7 then (2, a, s, 0) else if s.all isD = true ∧ s.length ≤ 3 then (3, a, [], fd 10 (s.map (fun c => c - 48))) else (1, a, [], 0)
/-- the token from 'at' on, and the place behind it -/
def nextT (tx : Nat → Nat) (n most a0 : Nat) : zTk × Nat :=
  let a := far isW tx (min n most - a0) a0
  if min n most ≤ a then ((if n ≤ most then 0 else 1, min n most, [], 0), a)
  else if isA (tx a) = true then (runT a (seg tx a (far isA tx (n - a) a)), far isA tx (n - a) a)
  else if isS (tx a) = true then ((4, a, [], tx a), a + 1) else ((1, a, [], 0), a + 1)
/-- words that are no names -/
def rwL : List (List Nat) := [[98, 105, 116, 115], [112, 97, 103, 101], [114, 117, 108, 101], [108, 97, 116, 101], [109, 111, 115, 116], [108, 101, 97, 115, 116], [107, 101, 121], [112, 101, 101, 114], [104, 97, 115], [99, 117, 116], [112, 117, 116], [100, 114, 111, 112], [112, 117, 108, 108], [104, 101, 97, 108], [111, 114], [97, 110, 100], [110, 111, 116], [116, 111, 114, 110], [104, 101, 108, 100], [103, 111, 110, 101], [108, 101, 118, 101, 108], [99, 111, 112, 105, 101, 115], [115, 116, 97, 109, 112], [110, 117, 109, 98, 101, 114]]
def rw1 (i : Nat) : List Nat := rwL.getD i []
theorem rw1_ok : ∀ i, i < 24 → wdOK (rw1 i) := by
  intro i hi
  have : ∀ l ∈ rwL, 1 ≤ l.length ∧ l.length ≤ 7 ∧ ∀ c ∈ l, 97 ≤ c ∧ c ≤ 122 := by decide
  refine this _ ?_
  unfold rw1
  rw [List.getD_eq_getElem?_getD, List.getElem?_eq_getElem (by exact hi)]
  exact List.getElem_mem _
theorem rw1_inj : ∀ i, i < 24 → ∀ j, j < 24 → rw1 i = rw1 j → i = j := by decide
/-- which of them a word is -/
def wix (l : List Nat) : Option Nat := (List.range 24).find? (fun i => decide (rw1 i = l))
theorem wix_some {l : List Nat} {i : Nat} : wix l = some i ↔ i < 24 ∧ rw1 i = l := by
  constructor
  · intro h
    have a1 := List.mem_of_find?_eq_some h
    have a2 := List.find?_some h
    exact ⟨List.mem_range.mp a1, of_decide_eq_true a2⟩
  · rintro ⟨h1, h2⟩
    unfold wix
    cases h : (List.range 24).find? (fun i => decide (rw1 i = l)) with
    | none =>
      rw [List.find?_eq_none] at h
      exact absurd (decide_eq_true h2) (h i (List.mem_range.mpr h1))
    | some j =>
      have a1 := List.mem_of_find?_eq_some h
      have a2 := List.find?_some h
      have : j = i := rw1_inj j (List.mem_range.mp a1) i h1 ((of_decide_eq_true a2).trans h2.symm)
      rw [this]
theorem wix_none {l : List Nat} : wix l = none ↔ ∀ i, i < 24 → rw1 i ≠ l := by
  constructor
  · intro h i hi e
    rw [wix_some.mpr ⟨hi, e⟩] at h
    cases h
  · intro h
    cases e : wix l with
    | none => rfl
    | some i =>
      have := wix_some.mp e
      exact absurd this.2 (h i this.1)
/-- the readers: a text of n bytes, at a place of it -/
def txOK (tx : Nat → Nat) (n : Nat) : Prop := n ≤ 940 ∧ ∀ i, i < n → tx i < 256
def RdC (M : zMem) (tx : Nat → Nat) (n most a : Nat) : Prop := txOK tx n ∧ (∀ i, i < n → M.1 1 i &&& 255 = nI (tx i)) ∧ M.1 220 1 = nI n ∧ M.1 220 2 = nI most ∧ most ≤ 940 ∧ M.1 220 3 = nI a ∧ a ≤ n
def RdR (M : zMem) (tx : Nat → Nat) (n most a : Nat) : Prop := txOK tx n ∧ (∀ i, i < n → M.1 230 i = nI (tx i)) ∧ M.1 229 3 = nI n ∧ M.1 229 4 = nI most ∧ most ≤ 940 ∧ M.1 229 5 = nI a ∧ a ≤ n
def TkC (M : zMem) (n most : Nat) (t : zTk) : Prop :=
  M.1 220 5 = nI t.2.1 ∧ t.2.1 ≤ 940 ∧ t.1 ≤ 4 ∧ (t.1 = 0 → (M.1 220 4 = 0 ∧ n ≤ most) ∧ M.1 220 6 = -1 ∧ M.1 220 9 = 0) ∧ (t.1 = 1 → (M.1 220 4 = 0 ∧ most < n ∨ M.1 220 4 = 1) ∧ M.1 220 6 = -1 ∧ M.1 220 9 = 0) ∧
  (t.1 = 2 → wdOK t.2.2.1 ∧ M.2 220 7 = lN (pk7 t.2.2.1) ∧ M.1 220 9 = 0 ∧ (match wix t.2.2.1 with
    | some i => M.1 220 4 = 2 ∧ M.1 220 6 = nI i
    | none => M.1 220 4 = 3 ∧ M.1 220 6 = -1)) ∧
  (t.1 = 3 → M.1 220 4 = 4 ∧ M.1 220 6 = -1 ∧ M.1 220 9 = 0 ∧ M.1 220 8 = nI t.2.2.2 ∧ t.2.2.2 < 1000) ∧ (t.1 = 4 → M.1 220 4 = 5 ∧ M.1 220 6 = -1 ∧ M.1 220 9 = nI t.2.2.2 ∧ isS t.2.2.2 = true)
def TkR (M : zMem) (t : zTk) : Prop := M.1 229 6 = nI t.2.1 ∧ t.2.1 ≤ 940 ∧ t.1 ≤ 4 ∧ M.1 229 7 = nI t.1 ∧ (t.1 = 2 → wdOK t.2.2.1 ∧ M.2 229 12 = lN (b27 t.2.2.1)) ∧ (t.1 = 3 → M.1 229 8 = nI t.2.2.2 ∧ t.2.2.2 < 1000) ∧ (t.1 = 4 → M.1 229 9 = nI t.2.2.2 ∧ isS t.2.2.2 = true)
theorem isS_lt {c : Nat} (h : isS c = true) : c < 63 := by
  unfold isS at h
  simp only [Bool.or_eq_true, decide_eq_true_eq] at h
  omega
/-- numbers by their signs, as each side reads them -/
def numC (s : List Nat) : Int32 := s.foldl (fun x c => x * 10 + (nI c - 48)) 0
def namC (s : List Nat) : Int64 := s.foldl (fun x c => (x <<< (Int32.toInt64 8 &&& 63)) ||| Int32.toInt64 (nI c)) 0
def numR (s : List Nat) : Int32 := (s.take 3).foldl (fun x c => 10 * x + nI c - 48) 0
def worR (s : List Nat) : Int64 := (s.take 7).foldl (fun x c => 27 * x + Int32.toInt64 (nI c) - 96) 0
theorem snoc_take {s : List Nat} {c m : Nat} (h : m ≤ s.length) : (s ++ [c]).take m = s.take m := by
  rw [List.take_append_of_le_length h]
theorem numC_s (s : List Nat) (c : Nat) : numC (s ++ [c]) = numC s * 10 + (nI c - 48) := by unfold numC; rw [List.foldl_append]; rfl
theorem namC_s (s : List Nat) (c : Nat) : namC (s ++ [c]) = (namC s <<< (Int32.toInt64 8 &&& 63)) ||| Int32.toInt64 (nI c) := by unfold namC; rw [List.foldl_append]; rfl
theorem numR_s (s : List Nat) (c : Nat) : numR (s ++ [c]) = if 3 ≤ s.length then numR s else 10 * numR s + nI c - 48 := by
  unfold numR
  by_cases h : 3 ≤ s.length
  · rw [if_pos h, snoc_take h]
  · rw [if_neg h, List.take_of_length_le (by simp; omega), List.take_of_length_le (by omega), List.foldl_append]; rfl
theorem worR_s (s : List Nat) (c : Nat) : worR (s ++ [c]) = if 7 ≤ s.length then worR s else 27 * worR s + Int32.toInt64 (nI c) - 96 := by
  unfold worR
  by_cases h : 7 ≤ s.length
  · rw [if_pos h, snoc_take h]
  · rw [if_neg h, List.take_of_length_le (by simp; omega), List.take_of_length_le (by omega), List.foldl_append]; rfl
theorem all_snoc {p : Nat → Bool} {s : List Nat} {c : Nat} : (s ++ [c]).all p = (s.all p && p c) := by simp
/-- by the last: a proof over rows -/
theorem snocI {P : List Nat → Prop} (h0 : P []) (hs : ∀ s c, P s → P (s ++ [c])) : ∀ s, P s := by
  intro s
  have key : ∀ (n : Nat) (s : List Nat), s.length = n → P s := by
    intro n
    induction n with
    | zero =>
      intro s h
      rw [List.eq_nil_of_length_eq_zero h]; exact h0
    | succ n ih =>
      intro s h
      have hne : s ≠ [] := fun e => by rw [e] at h; simp at h
      rw [← List.dropLast_concat_getLast hne]
      exact hs _ _ (ih _ (by rw [List.length_dropLast]; omega))
  exact key s.length s rfl
theorem numC_eq : ∀ s : List Nat, s.all isD = true → s.length ≤ 3 → numC s = nI (fd 10 (s.map (fun c => c - 48))) := by
  refine snocI (P := fun s => s.all isD = true → s.length ≤ 3 → numC s = nI (fd 10 (s.map (fun c => c - 48)))) (fun _ _ => rfl) (fun s c ih h hl => ?_)
  rw [all_snoc, Bool.and_eq_true] at h
  rw [List.length_append, List.length_singleton] at hl
  have hc := h.2
  unfold isD at hc
  simp only [Bool.and_eq_true, decide_eq_true_eq] at hc
  rw [numC_s, ih h.1 (by omega), List.map_append, List.map_singleton, fd_snoc, show (48 : Int32) = nI 48 from rfl, pk_sub hc.1, show (10 : Int32) = nI 10 from rfl, pk_mul, nI_add, Nat.mul_comm]
theorem numR_eq : ∀ s : List Nat, s.all isD = true → s.length ≤ 3 → numR s = nI (fd 10 (s.map (fun c => c - 48))) := by
  refine snocI (P := fun s => s.all isD = true → s.length ≤ 3 → numR s = nI (fd 10 (s.map (fun c => c - 48)))) (fun _ _ => rfl) (fun s c ih h hl => ?_)
  rw [all_snoc, Bool.and_eq_true] at h
  rw [List.length_append, List.length_singleton] at hl
  have hc := h.2
  unfold isD at hc
  simp only [Bool.and_eq_true, decide_eq_true_eq] at hc
  rw [numR_s, if_neg (by omega), ih h.1 (by omega), List.map_append, List.map_singleton, fd_snoc, show (48 : Int32) = nI 48 from rfl, show (10 : Int32) = nI 10 from rfl, pk_mul, nI_add, pk_sub (by omega)]
  congr 1
  omega
theorem isL_iff {c : Nat} : isL c = true ↔ 97 ≤ c ∧ c ≤ 122 := by unfold isL; simp
theorem isD_iff {c : Nat} : isD c = true ↔ 48 ≤ c ∧ c ≤ 57 := by unfold isD; simp
theorem worR_eq : ∀ s : List Nat, s.all isL = true → s.length ≤ 7 → worR s = lN (b27 s) := by
  refine snocI (P := fun s => s.all isL = true → s.length ≤ 7 → worR s = lN (b27 s)) (fun _ _ => rfl) (fun s c ih h hl => ?_)
  rw [all_snoc, Bool.and_eq_true] at h
  rw [List.length_append, List.length_singleton] at hl
  have hc := isL_iff.mp h.2
  rw [worR_s, if_neg (by omega), ih h.1 (by omega), b27_snoc, nI_l (by omega), show (96 : Int64) = lN 96 from rfl, show (27 : Int64) = lN 27 from rfl, lN_mul, lN_add, lN_sub (by omega)]
  congr 1
  omega
theorem namC_eq : ∀ s : List Nat, s.all isL = true → s.length ≤ 7 → namC s = lN (fd 256 s) := by
  refine snocI (P := fun s => s.all isL = true → s.length ≤ 7 → namC s = lN (fd 256 s)) (fun _ _ => rfl) (fun s c ih h hl => ?_)
  rw [all_snoc, Bool.and_eq_true] at h
  rw [List.length_append, List.length_singleton] at hl
  have hc := isL_iff.mp h.2
  have hlt := fd_lt (B := 256) s (fun c hc2 => by
    have := isL_iff.mp (List.all_eq_true.mp h.1 c hc2)
    omega)
  have hp : 256 ^ s.length ≤ 256 ^ 6 := Nat.pow_le_pow_right (by decide) (by omega)
  have h6 : (256 : Nat) ^ 6 = 281474976710656 := by decide
  rw [namC_s, ih h.1 (by omega), fd_snoc, nI_l (by omega), show (8 : Int32) = nI 8 from rfl, wb_shl _ (by omega), wb_or (by omega) (by omega)]
  have e : fd 256 s * 2 ^ 8 ||| c = fd 256 s * 2 ^ 8 + c := by rw [← Nat.shiftLeft_eq, Nat.shiftLeft_add_eq_or_of_lt (by omega)]
  rw [e, show fd 256 s * 2 ^ 8 + c = 256 * fd 256 s + c by omega]
theorem pk7_fd {s : List Nat} (h : s.length ≤ 7) : fd 256 s * 2 ^ (8 * (7 - s.length)) = pk7 s := by
  unfold pk7 pd7
  rw [fd_zeros, Nat.pow_mul]
