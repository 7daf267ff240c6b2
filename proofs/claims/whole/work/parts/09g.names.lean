-- (the family wb_ of the kit, pasted)
theorem wb_tb (n : Nat) : (lN n).toBitVec = BitVec.ofNat 64 n := rfl
theorem wb_inj {a b : Int64} (h : a.toBitVec = b.toBitVec) : a = b := Int64.toBitVec_inj.mp h
theorem wb_tn {n : Nat} (h : n < 2 ^ 64) : (lN n).toBitVec.toNat = n := by rw [wb_tb, BitVec.toNat_ofNat, Nat.mod_eq_of_lt h]
theorem wb_of (x : Int64) : ∃ n, n < 2 ^ 64 ∧ x = lN n := ⟨x.toBitVec.toNat, x.toBitVec.isLt, wb_inj (by rw [wb_tb]; simp)⟩
theorem wb_of32 (x : Int32) : ∃ n, n < 2 ^ 32 ∧ x = nI n := ⟨x.toBitVec.toNat, x.toBitVec.isLt, Int32.toBitVec_inj.mp (by show _ = BitVec.ofNat 32 _; simp)⟩
theorem wb_c : ∀ k, k < 64 → ((nI k).toInt64 &&& 63) = lN k := by decide +kernel
theorem wb_cu : ∀ k, k < 64 → ((nI k).toInt64.toUInt64 &&& Int64.toUInt64 63) = UInt64.ofNat k := by decide +kernel
theorem wb_sm : ∀ k, k < 64 → (BitVec.ofNat 64 k).smod 64 = BitVec.ofNat 64 k := by decide +kernel
theorem wb_pw {a b : Nat} (h : a ≤ b) : 2 ^ b = 2 ^ a * 2 ^ (b - a) := by rw [← Nat.pow_add]; congr 1; omega
theorem wb_lt2 {a b : Nat} (h : a < b) : 2 ^ a < 2 ^ b := Nat.pow_lt_pow_right (by decide) h
theorem wb_mod (n : Nat) : lN n = lN (n % 2 ^ 64) := wb_inj (by rw [wb_tb, wb_tb]; apply BitVec.eq_of_toNat_eq; rw [BitVec.toNat_ofNat, BitVec.toNat_ofNat, Nat.mod_mod])
theorem wb_shr {n k : Nat} (hn : n < 2 ^ 64) (hk : k < 64) : ((lN n).toUInt64 >>> ((nI k).toInt64.toUInt64 &&& Int64.toUInt64 63)).toInt64 = lN (n / 2 ^ k) := by
  rw [wb_cu k hk]
  apply wb_inj
  apply BitVec.eq_of_toNat_eq
  show ((lN n).toUInt64 >>> UInt64.ofNat k).toNat = (BitVec.ofNat 64 _).toNat
  have h1 : (UInt64.ofNat k).toNat = k := by
    show (BitVec.ofNat 64 k).toNat = k
    rw [BitVec.toNat_ofNat, Nat.mod_eq_of_lt (by omega)]
  have h2 : (lN n).toUInt64.toNat = n := wb_tn hn
  rw [UInt64.toNat_shiftRight, h1, h2, Nat.mod_eq_of_lt hk, Nat.shiftRight_eq_div_pow, BitVec.toNat_ofNat, Nat.mod_eq_of_lt (Nat.lt_of_le_of_lt (Nat.div_le_self _ _) hn)]
theorem wb_shl (n : Nat) {k : Nat} (hk : k < 64) : lN n <<< ((nI k).toInt64 &&& 63) = lN (n * 2 ^ k) := by
  rw [wb_c k hk]
  apply wb_inj
  rw [Int64.toBitVec_shiftLeft, wb_tb, wb_tb, wb_tb, wb_sm k hk]
  apply BitVec.eq_of_toNat_eq
  rw [BitVec.shiftLeft_eq', BitVec.toNat_shiftLeft, BitVec.toNat_ofNat, BitVec.toNat_ofNat, BitVec.toNat_ofNat, Nat.mod_eq_of_lt (show k < 2 ^ 64 by omega), Nat.shiftLeft_eq, Nat.mul_mod, Nat.mod_mod, ← Nat.mul_mod]
theorem wb_and {a b : Nat} (ha : a < 2 ^ 64) (hb : b < 2 ^ 64) : lN a &&& lN b = lN (a &&& b) := by
  apply wb_inj
  rw [Int64.toBitVec_and, wb_tb, wb_tb, wb_tb]
  apply BitVec.eq_of_toNat_eq
  rw [BitVec.toNat_and, BitVec.toNat_ofNat, BitVec.toNat_ofNat, BitVec.toNat_ofNat, Nat.mod_eq_of_lt ha, Nat.mod_eq_of_lt hb, Nat.mod_eq_of_lt (Nat.and_lt_two_pow _ hb)]
theorem wb_or {a b : Nat} (ha : a < 2 ^ 64) (hb : b < 2 ^ 64) : lN a ||| lN b = lN (a ||| b) := by
  apply wb_inj
  rw [Int64.toBitVec_or, wb_tb, wb_tb, wb_tb]
  apply BitVec.eq_of_toNat_eq
  rw [BitVec.toNat_or, BitVec.toNat_ofNat, BitVec.toNat_ofNat, BitVec.toNat_ofNat, Nat.mod_eq_of_lt ha, Nat.mod_eq_of_lt hb, Nat.mod_eq_of_lt (Nat.or_lt_two_pow ha hb)]
theorem wb_mask {n k : Nat} (hn : n < 2 ^ 64) (hk : k < 64) : lN n &&& lN (2 ^ k - 1) = lN (n % 2 ^ k) := by
  rw [wb_and hn (by have := wb_lt2 hk; omega), Nat.and_two_pow_sub_one_eq_mod]
theorem wb_a1 {n : Nat} (hn : n < 2 ^ 64) : lN n &&& 1 = lN (n % 2) := wb_mask (k := 1) hn (by decide)
theorem wb_bit {n k : Nat} (hn : n < 2 ^ 64) (hk : k < 64) : ((lN n).toUInt64 >>> ((nI k).toInt64.toUInt64 &&& Int64.toUInt64 63)).toInt64 &&& 1 = lN (n / 2 ^ k % 2) := by
  rw [wb_shr hn hk, wb_a1 (Nat.lt_of_le_of_lt (Nat.div_le_self _ _) hn)]
-- ===== names: letters in a row, as either side holds them; the order of keys =====
/-- digits, the highest first -/
def fd (B : Nat) (xs : List Nat) : Nat := xs.foldl (fun x c => B * x + c) 0
theorem fd_acc (B : Nat) : ∀ (xs : List Nat) (a : Nat), xs.foldl (fun x c => B * x + c) a = a * B ^ xs.length + fd B xs
  | [], a => by simp [fd]
  | c :: xs, a => by
    rw [List.foldl_cons, fd_acc B xs]
    have e : fd B (c :: xs) = (B * 0 + c) * B ^ xs.length + fd B xs := by
      unfold fd
      rw [List.foldl_cons]
      exact fd_acc B xs _
    rw [e, List.length_cons, Nat.pow_succ, Nat.add_mul, Nat.add_mul, Nat.mul_zero, Nat.zero_mul, Nat.zero_add, Nat.add_assoc]
    congr 1
    rw [Nat.mul_comm B a, Nat.mul_assoc, Nat.mul_comm B]
theorem fd_cons (B c : Nat) (xs : List Nat) : fd B (c :: xs) = c * B ^ xs.length + fd B xs := by
  have := fd_acc B xs (B * 0 + c)
  unfold fd
  rw [List.foldl_cons, this, Nat.mul_zero, Nat.zero_add]
  rfl
theorem fd_snoc (B : Nat) (xs : List Nat) (c : Nat) : fd B (xs ++ [c]) = B * fd B xs + c := by
  unfold fd
  rw [List.foldl_append]
  rfl
theorem fd_lt {B : Nat} : ∀ (xs : List Nat), (∀ c ∈ xs, c < B) → fd B xs < B ^ xs.length
  | [], _ => by simp [fd]
  | c :: xs, h => by
    have h1 := fd_lt xs (fun d hd => h d (List.mem_cons_of_mem _ hd))
    have h2 := h c List.mem_cons_self
    rw [fd_cons, List.length_cons, Nat.pow_succ]
    have h3 : (c + 1) * B ^ xs.length ≤ B * B ^ xs.length := Nat.mul_le_mul_right _ h2
    rw [Nat.add_mul, Nat.one_mul] at h3
    rw [Nat.mul_comm (B ^ xs.length) B]
    omega
theorem fd_dig {B : Nat} : ∀ (xs : List Nat) (i : Nat), (∀ c ∈ xs, c < B) → i < xs.length → fd B xs / B ^ (xs.length - 1 - i) % B = xs.getD i 0
  | [], i, _, hi => by simp at hi
  | c :: xs, i, h, hi => by
    have h1 := fd_lt xs (fun d hd => h d (List.mem_cons_of_mem _ hd))
    have h2 := h c List.mem_cons_self
    have hB : 0 < B := by omega
    rw [fd_cons]
    cases i with
    | zero =>
      rw [List.length_cons, show xs.length + 1 - 1 - 0 = xs.length by omega, Nat.mul_comm, Nat.mul_add_div (Nat.pow_pos hB), Nat.div_eq_of_lt h1, Nat.add_zero, Nat.mod_eq_of_lt h2]
      rfl
    | succ i =>
      have hi : i < xs.length := by simpa using hi
      have e := fd_dig xs i (fun d hd => h d (List.mem_cons_of_mem _ hd)) hi
      have e2 : c * B ^ xs.length = B ^ (xs.length - 1 - i) * (B * (c * B ^ i)) := by
        have e3 : B ^ xs.length = B ^ (xs.length - 1 - i) * (B * B ^ i) := by
          rw [← Nat.pow_succ', ← Nat.pow_add]
          congr 1
          omega
        rw [e3, Nat.mul_left_comm, Nat.mul_left_comm c B]
      rw [List.length_cons, show xs.length + 1 - 1 - (i + 1) = xs.length - 1 - i by omega, e2, Nat.mul_add_div (Nat.pow_pos hB), Nat.mul_add_mod, e]
      rfl
theorem fd_zeros (B : Nat) : ∀ (n : Nat) (xs : List Nat), fd B (xs ++ List.replicate n 0) = fd B xs * B ^ n
  | 0, xs => by simp
  | n + 1, xs => by
    rw [List.replicate_succ', ← List.append_assoc, fd_snoc, fd_zeros B n xs, Nat.pow_succ, Nat.add_zero, Nat.mul_comm, Nat.mul_assoc]
/-- both ways of telling an order are the same -/
theorem fd_order {B C : Nat} {g : Nat → Nat} (hg : ∀ c d, c < B → d < B → (c < d ↔ g c < g d)) (hC : ∀ c, c < B → g c < C) : ∀ (xs ys : List Nat) (u v u2 v2 : Nat), xs.length = ys.length → (∀ c ∈ xs, c < B) → (∀ c ∈ ys, c < B) → (u < v ↔ u2 < v2) → (u = v ↔ u2 = v2) →
    (xs.foldl (fun x c => B * x + c) u < ys.foldl (fun x c => B * x + c) v ↔ (xs.map g).foldl (fun x c => C * x + c) u2 < (ys.map g).foldl (fun x c => C * x + c) v2)
  | [], [], u, v, u2, v2, _, _, _, h1, _ => h1
  | [], _ :: _, _, _, _, _, h, _, _, _, _ => by simp at h
  | _ :: _, [], _, _, _, _, h, _, _, _, _ => by simp at h
  | c :: xs, d :: ys, u, v, u2, v2, hl, hx, hy, h1, h2 => by
    have hc := hx c List.mem_cons_self
    have hd := hy d List.mem_cons_self
    have key : ∀ (K a b p q : Nat), p < K → q < K → ((K * a + p < K * b + q ↔ a < b ∨ (a = b ∧ p < q)) ∧ (K * a + p = K * b + q ↔ a = b ∧ p = q)) := by
      intro K a b p q hp hq
      rcases Nat.lt_trichotomy a b with h | h | h
      · have : K * (a + 1) ≤ K * b := Nat.mul_le_mul_left _ h
        rw [Nat.mul_add, Nat.mul_one] at this
        exact ⟨⟨fun _ => Or.inl h, fun _ => by omega⟩, ⟨fun _ => by omega, fun q0 => by omega⟩⟩
      · subst h
        exact ⟨⟨fun _ => Or.inr ⟨rfl, by omega⟩, fun q0 => by omega⟩, ⟨fun _ => ⟨rfl, by omega⟩, fun q0 => by omega⟩⟩
      · have : K * (b + 1) ≤ K * a := Nat.mul_le_mul_left _ h
        rw [Nat.mul_add, Nat.mul_one] at this
        exact ⟨⟨fun _ => by omega, fun q0 => by omega⟩, ⟨fun _ => by omega, fun q0 => by omega⟩⟩
    have k1 := key B u v c d hc hd
    have k2 := key C u2 v2 (g c) (g d) (hC c hc) (hC d hd)
    have hg1 := hg c d hc hd
    have hg2 := hg d c hd hc
    rw [List.foldl_cons, List.foldl_cons, List.map_cons, List.map_cons, List.foldl_cons, List.foldl_cons]
    refine fd_order hg hC xs ys _ _ _ _ (by simpa using hl) (fun e he => hx e (List.mem_cons_of_mem _ he)) (fun e he => hy e (List.mem_cons_of_mem _ he)) ?_ ?_
    · rw [k1.1, k2.1, h1, h2, hg1]
    · rw [k1.2, k2.2, h2]
      constructor
      · rintro ⟨a, rfl⟩; exact ⟨a, rfl⟩
      · rintro ⟨a, b⟩; exact ⟨a, by omega⟩
/-- a word of a text: 1 to 7 small letters -/
def wdOK (l : List Nat) : Prop := 1 ≤ l.length ∧ l.length ≤ 7 ∧ ∀ c ∈ l, 97 ≤ c ∧ c ≤ 122
def pd7 (l : List Nat) : List Nat := l ++ List.replicate (7 - l.length) 0
def pk7 (l : List Nat) : Nat := fd 256 (pd7 l)
def b27 (l : List Nat) : Nat := fd 27 (l.map (fun c => c - 96))
def p27 (l : List Nat) : Nat := fd 27 ((pd7 l).map (fun c => c - 96))
theorem pd7_len {l : List Nat} (h : wdOK l) : (pd7 l).length = 7 := by
  unfold pd7
  rw [List.length_append, List.length_replicate]
  have := h.2.1
  omega
theorem pd7_mem {l : List Nat} (h : wdOK l) : ∀ c ∈ pd7 l, c = 0 ∨ (97 ≤ c ∧ c ≤ 122) := by
  intro c hc
  rcases List.mem_append.mp hc with q | q
  · exact Or.inr (h.2.2 c q)
  · exact Or.inl (List.eq_of_mem_replicate q)
theorem pd7_at {l : List Nat} (i : Nat) : (pd7 l).getD i 0 = l.getD i 0 := by
  unfold pd7
  rw [List.getD_eq_getElem?_getD, List.getD_eq_getElem?_getD]
  rcases Nat.lt_or_ge i l.length with h | h
  · rw [List.getElem?_append_left h]
  · rw [List.getElem?_append_right h, List.getElem?_replicate, List.getElem?_eq_none h]
    split <;> rfl
theorem pk7_lt {l : List Nat} (h : wdOK l) : pk7 l < 2 ^ 56 := by
  have := fd_lt (B := 256) (pd7 l) (fun c hc => by rcases pd7_mem h c hc with q | q <;> omega)
  rw [pd7_len h] at this
  exact this
theorem pk7_dig {l : List Nat} (h : wdOK l) {i : Nat} (hi : i < 7) : pk7 l / 2 ^ (8 * (6 - i)) % 256 = l.getD i 0 := by
  have := fd_dig (B := 256) (pd7 l) i (fun c hc => by rcases pd7_mem h c hc with q | q <;> omega) (by rw [pd7_len h]; exact hi)
  rw [pd7_len h, pd7_at, show 7 - 1 - i = 6 - i by omega] at this
  rw [Nat.pow_mul]
  exact this
theorem p27_eq {l : List Nat} : p27 l = b27 l * 27 ^ (7 - l.length) := by
  unfold p27 b27 pd7
  rw [List.map_append, List.map_replicate]
  exact fd_zeros 27 _ _
theorem b27_lt {l : List Nat} (h : wdOK l) : b27 l < 27 ^ l.length := by
  have := fd_lt (B := 27) (l.map (fun c => c - 96)) (fun c hc => by
    obtain ⟨e, he, rfl⟩ := List.mem_map.mp hc
    have := h.2.2 e he
    omega)
  rw [List.length_map] at this
  exact this
theorem p27_lt {l : List Nat} (h : wdOK l) : p27 l < 10460353203 := by
  have := fd_lt (B := 27) ((pd7 l).map (fun c => c - 96)) (fun c hc => by
    obtain ⟨e, he, rfl⟩ := List.mem_map.mp hc
    rcases pd7_mem h e he with q | q <;> omega)
  rw [List.length_map, pd7_len h] at this
  exact this
theorem p27_dig {l : List Nat} (h : wdOK l) {i : Nat} (hi : i < l.length) : p27 l / 27 ^ (6 - i) % 27 = l.getD i 0 - 96 := by
  have hl := h.2.1
  have := fd_dig (B := 27) ((pd7 l).map (fun c => c - 96)) i (fun c hc => by
    obtain ⟨e, he, rfl⟩ := List.mem_map.mp hc
    rcases pd7_mem h e he with q | q <;> omega) (by rw [List.length_map, pd7_len h]; omega)
  rw [List.length_map, pd7_len h, show 7 - 1 - i = 6 - i by omega] at this
  refine this.trans ?_
  rw [List.getD_eq_getElem?_getD, List.getElem?_map, ← pd7_at, List.getD_eq_getElem?_getD]
  cases (pd7 l)[i]? with
  | none => rfl
  | some x => rfl
theorem word_order {a b : List Nat} (ha : wdOK a) (hb : wdOK b) : pk7 a < pk7 b ↔ p27 a < p27 b := by
  have h256 : ∀ l : List Nat, wdOK l → ∀ c ∈ pd7 l, c < 256 := fun l h c hc => by rcases pd7_mem h c hc with q | q <;> omega
  -- only 0 and letters come: a step that keeps the order there
  have g0 : ∀ c d, c < 256 → d < 256 → (c < d ↔ (fun c => c) c < (fun c => c) d) := fun _ _ _ _ => Iff.rfl
  have key : ∀ (xs ys : List Nat) (u v u2 v2 : Nat), xs.length = ys.length → (∀ c ∈ xs, c = 0 ∨ (97 ≤ c ∧ c ≤ 122)) → (∀ c ∈ ys, c = 0 ∨ (97 ≤ c ∧ c ≤ 122)) → (u < v ↔ u2 < v2) → (u = v ↔ u2 = v2) →
      (xs.foldl (fun x c => 256 * x + c) u < ys.foldl (fun x c => 256 * x + c) v ↔ (xs.map (fun c => c - 96)).foldl (fun x c => 27 * x + c) u2 < (ys.map (fun c => c - 96)).foldl (fun x c => 27 * x + c) v2) := by
    intro xs
    induction xs with
    | nil =>
      intro ys u v u2 v2 hl _ _ h1 _
      have : ys = [] := List.eq_nil_of_length_eq_zero (by simpa using hl.symm)
      subst this
      exact h1
    | cons c xs ih =>
      intro ys u v u2 v2 hl hx hy h1 h2
      cases ys with
      | nil => simp at hl
      | cons d ys =>
        have hc := hx c List.mem_cons_self
        have hd := hy d List.mem_cons_self
        rw [List.foldl_cons, List.foldl_cons, List.map_cons, List.map_cons, List.foldl_cons, List.foldl_cons]
        refine ih ys _ _ _ _ (by simpa using hl) (fun e he => hx e (List.mem_cons_of_mem _ he)) (fun e he => hy e (List.mem_cons_of_mem _ he)) ?_ ?_ <;> omega
  exact key (pd7 a) (pd7 b) 0 0 0 0 (by rw [pd7_len ha, pd7_len hb]) (pd7_mem ha) (pd7_mem hb) Iff.rfl Iff.rfl
theorem pk7_inj {a b : List Nat} (ha : wdOK a) (hb : wdOK b) (h : pk7 a = pk7 b) : a = b := by
  have hd : ∀ i, i < 7 → a.getD i 0 = b.getD i 0 := fun i hi => by rw [← pk7_dig ha hi, ← pk7_dig hb hi, h]
  have hz : ∀ l : List Nat, wdOK l → ∀ i, (l.getD i 0 = 0 ↔ l.length ≤ i) := by
    intro l hl i
    rw [List.getD_eq_getElem?_getD]
    rcases Nat.lt_or_ge i l.length with q | q
    · rw [List.getElem?_eq_getElem q]
      have := hl.2.2 _ (List.getElem_mem q)
      simp only [Option.getD_some]
      omega
    · rw [List.getElem?_eq_none q]
      simp [q]
  have hlen : a.length = b.length := by
    rcases Nat.lt_trichotomy a.length b.length with q | q | q
    · have := (hz a ha a.length).mpr (Nat.le_refl _)
      rw [hd _ (by have := hb.2.1; omega)] at this
      have := (hz b hb a.length).mp this
      omega
    · exact q
    · have := (hz b hb b.length).mpr (Nat.le_refl _)
      rw [← hd _ (by have := ha.2.1; omega)] at this
      have := (hz a ha b.length).mp this
      omega
  apply List.ext_getElem hlen
  intro i h1 h2
  have := hd i (by have := ha.2.1; omega)
  rw [List.getD_eq_getElem?_getD, List.getD_eq_getElem?_getD, List.getElem?_eq_getElem h1, List.getElem?_eq_getElem h2] at this
  simpa using this
theorem b27_inj {a b : List Nat} (ha : wdOK a) (hb : wdOK b) (h : b27 a = b27 b) : a = b := by
  have hl : ∀ l : List Nat, wdOK l → 27 ^ (l.length - 1) ≤ b27 l := by
    intro l hw
    cases l with
    | nil => have := hw.1; simp at this
    | cons c cs =>
      unfold b27
      rw [List.map_cons, fd_cons, List.length_map, List.length_cons, Nat.add_sub_cancel]
      have h1 := hw.2.2 c List.mem_cons_self
      have h2 : 1 * 27 ^ cs.length ≤ (c - 96) * 27 ^ cs.length := Nat.mul_le_mul_right _ (by omega)
      omega
  have hlt : ∀ x y : List Nat, wdOK x → wdOK y → b27 x = b27 y → ¬ x.length < y.length := by
    intro x y hx hy e q
    have h1 := b27_lt hx
    have h2 := hl y hy
    have h3 : 27 ^ x.length ≤ 27 ^ (y.length - 1) := Nat.pow_le_pow_right (by decide) (by omega)
    omega
  have hlen : a.length = b.length := by
    have h1 := hlt a b ha hb h
    have h2 := hlt b a hb ha h.symm
    omega
  have e : p27 a = p27 b := by rw [p27_eq, p27_eq, h, hlen]
  have n1 : ¬ pk7 a < pk7 b := by rw [word_order ha hb]; omega
  have n2 : ¬ pk7 b < pk7 a := by rw [word_order hb ha]; omega
  exact pk7_inj ha hb (by omega)
/-- a digest of letters; how many low bits are 0 -/
def dgL (l : List Nat) : Int32 := l.foldl (fun x c => mixF x (nI c)) (-2128831035)
def zrF (x : Int32) : Nat → Nat → Nat
  | 0, i => i
  | c + 1, i => if bt x i = true then i else zrF x c (i + 1)
theorem zrF_le (x : Int32) : ∀ c i : Nat, zrF x c i ≤ i + c
  | 0, i => Nat.le_refl _
  | c + 1, i => by
    have := zrF_le x c (i + 1)
    show (if bt x i = true then i else zrF x c (i + 1)) ≤ i + (c + 1)
    split <;> omega
def zrN (x : Int32) : Nat := zrF x 32 0
/-- of an f on n numbers, no two alike: how many are less; the one that has i less ones -/
def plF (f : Nat → Nat) (n k : Nat) : Nat := pb (fun j => decide (f j < f k)) n
def odF (f : Nat → Nat) (n i : Nat) : Nat := ((List.range n).find? (fun k => decide (plF f n k = i))).getD 0
theorem pb_mono {f g : Nat → Bool} : ∀ c : Nat, (∀ i, i < c → f i = true → g i = true) → pb f c ≤ pb g c
  | 0, _ => Nat.le_refl _
  | c + 1, h => by
    have h1 := pb_mono c (fun i hi => h i (by omega))
    have h2 := h c (by omega)
    show pb f c + (if f c = true then 1 else 0) ≤ pb g c + (if g c = true then 1 else 0)
    by_cases e : f c = true
    · rw [if_pos e, if_pos (h2 e)]; omega
    · rw [if_neg e]; split <;> omega
theorem pb_lt {f g : Nat → Bool} : ∀ c : Nat, (∀ i, i < c → f i = true → g i = true) → (∃ i, i < c ∧ g i = true ∧ ¬ f i = true) → pb f c < pb g c
  | 0, _, h => by obtain ⟨i, h1, _⟩ := h; omega
  | c + 1, h, ⟨i, h1, h2, h3⟩ => by
    have hc := h c (by omega)
    show pb f c + (if f c = true then 1 else 0) < pb g c + (if g c = true then 1 else 0)
    by_cases e : i = c
    · subst e
      have := pb_mono i (fun j hj => h j (by omega))
      rw [if_neg h3, if_pos h2]; omega
    · have := pb_lt c (fun j hj => h j (by omega)) ⟨i, by omega, h2, h3⟩
      by_cases e2 : f c = true
      · rw [if_pos e2, if_pos (hc e2)]; omega
      · rw [if_neg e2]; split <;> omega
theorem pb_true : ∀ c : Nat, pb (fun _ => true) c = c
  | 0 => rfl
  | c + 1 => by
    show pb (fun _ => true) c + (if true = true then 1 else 0) = c + 1
    rw [pb_true c]; rfl
theorem plF_lt {f : Nat → Nat} {n k : Nat} (hk : k < n) : plF f n k < n := by
  have := pb_lt (f := fun j => decide (f j < f k)) (g := fun _ => true) n (fun _ _ _ => rfl) ⟨k, hk, rfl, by simp⟩
  rw [pb_true] at this
  exact this
theorem plF_inj {f : Nat → Nat} {n : Nat} (hf : ∀ i j, i < n → j < n → f i = f j → i = j) {i j : Nat} (hi : i < n) (hj : j < n) (h : plF f n i = plF f n j) : i = j := by
  have lt : ∀ a b, a < n → f a < f b → plF f n a < plF f n b := fun a b ha hab => pb_lt n (fun k _ hk => by
    have := of_decide_eq_true hk
    exact decide_eq_true (by omega)) ⟨a, ha, decide_eq_true hab, by simp⟩
  rcases Nat.lt_trichotomy (f i) (f j) with q | q | q
  · have := lt i j hi q; omega
  · exact hf i j hi hj q
  · have := lt j i hj q; omega
theorem pigeon : ∀ (n : Nat) (f : Nat → Nat), (∀ k, k < n → f k < n) → (∀ i j, i < n → j < n → f i = f j → i = j) → ∀ i, i < n → ∃ k, k < n ∧ f k = i
  | 0, _, _, _, i, hi => by omega
  | n + 1, f, hb, hi, i, hin => by
    have hm := hb n (by omega)
    have h1 : ∀ k, k < n → (if f k = n then f n else f k) < n := by
      intro k hk
      have h2 := hb k (by omega)
      split
      · rename_i e
        have : f n ≠ n := fun q => by have := hi k n (by omega) (by omega) (by omega); omega
        omega
      · omega
    have h3 := pigeon n (fun k => if f k = n then f n else f k) h1 (fun a b ha hb2 e => by
      have e : (if f a = n then f n else f a) = (if f b = n then f n else f b) := e
      split at e
      · rename_i e1
        split at e
        · rename_i e2
          exact hi a b (by omega) (by omega) (by omega)
        · have := hi n b (by omega) (by omega) e
          omega
      · split at e
        · have := hi a n (by omega) (by omega) e
          omega
        · exact hi a b (by omega) (by omega) e)
    by_cases e : f n = i
    · exact ⟨n, by omega, e⟩
    · by_cases e2 : i = n
      · subst e2
        by_cases e3 : ∃ k, k < i ∧ f k = i
        · obtain ⟨k, a, b⟩ := e3; exact ⟨k, by omega, b⟩
        · obtain ⟨k, a, b⟩ := h3 (f i) (by omega)
          have b : (if f k = i then f i else f k) = f i := b
          rw [if_neg (fun q => e3 ⟨k, a, q⟩)] at b
          have := hi k i (by omega) (by omega) b
          omega
      · obtain ⟨k, a, b⟩ := h3 i (by omega)
        have b : (if f k = n then f n else f k) = i := b
        split at b
        · exact absurd b e
        · exact ⟨k, by omega, b⟩
theorem odF_ok {f : Nat → Nat} {n : Nat} (hf : ∀ i j, i < n → j < n → f i = f j → i = j) {i : Nat} (hi : i < n) : odF f n i < n ∧ plF f n (odF f n i) = i := by
  obtain ⟨k, h1, h2⟩ := pigeon n (plF f n) (fun k hk => plF_lt hk) (fun a b ha hb e => plF_inj hf ha hb e) i hi
  unfold odF
  cases h : (List.range n).find? (fun k => decide (plF f n k = i)) with
  | none =>
    rw [List.find?_eq_none] at h
    exact absurd (decide_eq_true h2) (h k (List.mem_range.mpr h1))
  | some j =>
    have a1 := List.mem_of_find?_eq_some h
    have a2 := List.find?_some h
    exact ⟨List.mem_range.mp a1, of_decide_eq_true a2⟩
theorem odF_pl {f : Nat → Nat} {n : Nat} (hf : ∀ i j, i < n → j < n → f i = f j → i = j) {k : Nat} (hk : k < n) : odF f n (plF f n k) = k := by
  obtain ⟨h1, h2⟩ := odF_ok hf (plF_lt (f := f) hk)
  exact plF_inj hf h1 hk h2
