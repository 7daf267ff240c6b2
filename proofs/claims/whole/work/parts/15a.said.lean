-- ===== what is said of a key: one code, the class =====
theorem ushrN (a : Int32) {s : Nat} (hs : s < 32) (h0 : 0 < s) : ((Int32.toUInt32 a >>> (Int32.toUInt32 (nI s) &&& Int32.toUInt32 31)).toInt32) = nI (tn a / 2 ^ s) := by
  have hlt := tn_lt a
  have hb : tn a / 2 ^ s < 2 ^ 32 := Nat.lt_of_le_of_lt (Nat.div_le_self _ _) hlt
  apply tn_inj
  rw [tn_nI hb]
  apply Nat.eq_of_testBit_eq
  intro i
  have h1 := b_ushr s hs a i
  have h2 : (tn a / 2 ^ s).testBit i = (tn a).testBit (s + i) := by
    rw [← Nat.shiftRight_eq_div_pow, Nat.testBit_shiftRight]
  rw [h2]
  exact h1
theorem and255 (a : Int32) : a &&& 255 = nI (tn a % 256) := by
  have hlt := tn_lt a
  apply tn_inj
  rw [tn_nI (by omega), tn_and, show tn (255 : Int32) = 2 ^ 8 - 1 by decide, Nat.and_two_pow_sub_one_eq_mod]
theorem cd_w {w r b : Nat} (hw : w < 256) (hr : r < 256) (hb : b < 32768) : nI (w + 256 * r + 65536 * b) &&& 255 = nI w := by
  rw [and255, tn_nI (by omega)]
  congr 1
  omega
theorem cd_r {w r b : Nat} (hw : w < 256) (hr : r < 256) (hb : b < 32768) : ((Int32.toUInt32 (nI (w + 256 * r + 65536 * b)) >>> (Int32.toUInt32 8 &&& Int32.toUInt32 31)).toInt32) &&& 255 = nI r := by
  rw [ushr8, tn_nI (by omega), and255, tn_nI (by omega)]
  congr 1
  omega
theorem cd_b {w r b : Nat} (hw : w < 256) (hr : r < 256) (hb : b < 32768) : ((Int32.toUInt32 (nI (w + 256 * r + 65536 * b)) >>> (Int32.toUInt32 16 &&& Int32.toUInt32 31)).toInt32) = nI b := by
  rw [show (16 : Int32) = nI 16 from rfl, ushrN _ (by omega) (by omega), tn_nI (by omega)]
  congr 1
  omega
/-- a comparing, by its sign -/
def cmpS (r : Nat) (x y : Int32) : Bool := if r = 60 then decide (x < y) else if r = 62 then decide (y < x) else decide (x = y)
section
variable {d b p q k m r : Nat} {M M2 : zMem} {P : zPl} {F : Nat → Int32} {x y : Int32}
theorem c_X7_compares {Q : Bool → zMem → Prop} (hr : r < 256) (h : Q (cmpS r x y) M) : S_X7_compares d x (nI r) y M (zB Q) := by
  unfold cmpS at h
  refine t_X7_compares ?_
  rw [show (60 : Int32) = nI 60 from rfl, nI_eq (by omega) (by omega), show (62 : Int32) = nI 62 from rfl, nI_eq (by omega) (by omega)]
  refine ⟨fun e => ⟨fun e2 => ⟨fun e3 => zbf ?_, fun e3 => zbt ?_⟩, fun e2 => ⟨fun e3 => zbf ?_, fun e3 => zbt ?_⟩⟩, fun e => ⟨fun e3 => zbf ?_, fun e3 => zbt ?_⟩⟩
  · rw [if_neg e, if_neg e2, decide_eq_false e3] at h; exact h
  · rw [if_neg e, if_neg e2, decide_eq_true e3] at h; exact h
  · rw [if_neg e, if_pos e2, decide_eq_false (Int32.not_lt.mpr e3)] at h; exact h
  · rw [if_neg e, if_pos e2, decide_eq_true (Int32.not_le.mp e3)] at h; exact h
  · rw [if_pos e, decide_eq_false (Int32.not_lt.mpr e3)] at h; exact h
  · rw [if_pos e, decide_eq_true (Int32.not_le.mp e3)] at h; exact h
/-- how many copies; the latest stamp -/
def copS (P : zPl) (F : Nat → Int32) (k : Nat) : Int32 := cntF (fun p => hasF F p k) (mP P)
def latS (P : zPl) (F : Nat → Int32) (k : Nat) : Int32 := forS (fun p s => if s < smF F p k then smF F p k else s) (mP P) 0 0
/-- a leaf: torn, held, gone, compared -/
def tnS (P : zPl) (F : Nat → Int32) (k : Nat) : Bool := anyF (fun p => !sameF F 0 p k) (mP P - 1) 1
def hldS (F : Nat → Int32) (p k : Nat) : Bool := hasF F p k && !goneF F p k
def cmpW (P : zPl) (F : Nat → Int32) (k w r v : Nat) : Bool := cmpS r (if w = 20 then lvP P k else if w = 21 then copS P F k else if w = 22 then latS P F k else nI k) (nI v)
theorem bitsF_pop {f : Nat → Bool} {m : Nat} (h4 : m ≤ 4) : nI (pop (bitsF f m)) = cntF f m := by
  rw [bitsF_congr (f := f) (f2 := fun j => if j = 0 then f 0 else if j = 1 then f 1 else if j = 2 then f 2 else f 3) (fun j hj => by
    rcases (show j = 0 ∨ j = 1 ∨ j = 2 ∨ j = 3 by omega) with e | e | e | e <;> subst e <;> rfl), cntF_congr (f := f) (f2 := fun j => if j = 0 then f 0 else if j = 1 then f 1 else if j = 2 then f 2 else f 3) (fun j hj => by
    rcases (show j = 0 ∨ j = 1 ∨ j = 2 ∨ j = 3 by omega) with e | e | e | e <;> subst e <;> rfl)]
  generalize f 0 = a0
  generalize f 1 = a1
  generalize f 2 = a2
  generalize f 3 = a3
  rcases (show m = 0 ∨ m = 1 ∨ m = 2 ∨ m = 3 ∨ m = 4 by omega) with e | e | e | e | e <;> subst e <;> cases a0 <;> cases a1 <;> cases a2 <;> cases a3 <;> decide +kernel
end
