-- ===== a stack of bits =====
theorem bt_nI {n : Nat} (h : n < 2 ^ 32) (i : Nat) : bt (nI n) i = n.testBit i := by
  have : tn (nI n) = n := tn_nI h
  unfold bt
  unfold tn at this
  show (nI n).toBitVec.toNat.testBit i = n.testBit i
  rw [this]
theorem tb_0 (n : Nat) (v : Bool) : (2 * n + v.toNat).testBit 0 = v := by
  cases v
  · simp [Nat.testBit_zero]
  · simp [Nat.testBit_zero]
theorem tb_s (n : Nat) (v : Bool) (i : Nat) : (2 * n + v.toNat).testBit (i + 1) = n.testBit i := by
  rw [Nat.testBit_succ]
  congr 1
  cases v
  · show (2 * n + 0) / 2 = n; omega
  · show (2 * n + 1) / 2 = n; omega
theorem tn_le1 (v : Bool) : v.toNat ≤ 1 := by cases v <;> decide
theorem sk_push {n : Nat} (h : n < 2 ^ 30) (v : Bool) : ((nI n <<< ((1 : Int32) &&& 31)) ||| bi v) = nI (2 * n + v.toNat) := by
  have hv := tn_le1 v
  apply b_ext
  intro i hi
  rw [b_or, show (1 : Int32) = nI 1 from rfl, b_shl 1 (by omega) _ hi, bt_nI (by omega), bt_nI (by omega)]
  cases i with
  | zero =>
    rw [tb_0]
    cases v <;> rfl
  | succ i =>
    rw [tb_s, decide_eq_true (show 1 ≤ i + 1 by omega), Bool.true_and, Nat.add_sub_cancel]
    have : bt (bi v) (i + 1) = false := by
      cases v
      · exact b_0 _
      · show bt 1 (i + 1) = false
        rw [bt_1, decide_eq_false (by omega)]
    rw [this, Bool.or_false]
theorem sk_top {n : Nat} (h : n < 2 ^ 30) (v : Bool) : (nI (2 * n + v.toNat) &&& 1 = 0) ↔ v = false := by
  have hv := tn_le1 v
  rw [and1_0]
  rw [bt_nI (by omega), tb_0]
theorem sk_not {n : Nat} (h : n < 2 ^ 30) (v : Bool) : nI (2 * n + v.toNat) ^^^ 1 = nI (2 * n + (!v).toNat) := by
  have hv := tn_le1 v
  have hv2 := tn_le1 (!v)
  apply b_ext
  intro i hi
  rw [b_xor, bt_nI (by omega), bt_nI (by omega), bt_1]
  cases i with
  | zero => rw [tb_0, tb_0]; cases v <;> rfl
  | succ i => rw [tb_s, tb_s, decide_eq_false (by omega)]; simp
theorem sk_shr {n : Nat} (h : n < 2 ^ 30) (v : Bool) : ((Int32.toUInt32 (nI (2 * n + v.toNat)) >>> (Int32.toUInt32 1 &&& Int32.toUInt32 31)).toInt32) = nI n := by
  have hv := tn_le1 v
  apply b_ext
  intro i hi
  have := b_ushr 1 (by omega) (nI (2 * n + v.toNat)) i
  rw [show (1 : Int32) = nI 1 from rfl, this, bt_nI (by omega), bt_nI (by omega), Nat.add_comm 1 i, tb_s]
theorem sk_or {n : Nat} (h : n < 2 ^ 28) (x y : Bool) : ((Int32.toUInt32 (nI (2 * (2 * n + x.toNat) + y.toNat)) >>> (Int32.toUInt32 1 &&& Int32.toUInt32 31)).toInt32) ||| (nI (2 * (2 * n + x.toNat) + y.toNat) &&& 1) = nI (2 * n + (x || y).toNat) := by
  have hx := tn_le1 x
  have hy := tn_le1 y
  have hz := tn_le1 (x || y)
  rw [sk_shr (by omega)]
  apply b_ext
  intro i hi
  rw [b_or, b_and, bt_nI (by omega), bt_nI (by omega), bt_nI (by omega), bt_1]
  cases i with
  | zero => rw [tb_0, tb_0, tb_0]; cases x <;> cases y <;> rfl
  | succ i => rw [tb_s, tb_s, tb_s, decide_eq_false (show ¬ i + 1 = 0 by omega), Bool.and_false, Bool.or_false]
theorem sk_and {n : Nat} (h : n < 2 ^ 28) (x y : Bool) : (((Int32.toUInt32 (nI (2 * (2 * n + x.toNat) + y.toNat)) >>> (Int32.toUInt32 1 &&& Int32.toUInt32 31)).toInt32) &&& (if y = true then -1 else -2)) = nI (2 * n + (x && y).toNat) := by
  have hx := tn_le1 x
  have hy := tn_le1 y
  have hz := tn_le1 (x && y)
  rw [sk_shr (by omega)]
  have m2 : ∀ i, i < 32 → bt (-2) i = decide (i ≠ 0) := by decide +kernel
  apply b_ext
  intro i hi
  rw [b_and, bt_nI (by omega), bt_nI (by omega)]
  cases y with
  | true =>
    rw [if_pos rfl, b_m1 i hi, Bool.and_true]
    cases i with
    | zero => rw [tb_0, tb_0]; cases x <;> rfl
    | succ i => rw [tb_s, tb_s]
  | false =>
    rw [if_neg (by decide), m2 i hi]
    cases i with
    | zero => rw [tb_0, tb_0]; cases x <;> rfl
    | succ i => rw [tb_s, tb_s, decide_eq_true (by omega), Bool.and_true]
