-- ===== a sentence has one value on both sides =====
theorem lvS_app (a b : List Int32) : lvS (a ++ b) = lvS a + lvS b := by unfold lvS; rw [List.filter_append, List.length_append]
theorem lvS_op {c : Int32} (h : c = 14 ∨ c = 15 ∨ c = 16) : lvS [c] = 0 := by rcases h with e | e | e <;> rw [e] <;> decide
theorem lvS_leaf {x : Nat} (h : 17 ≤ x) (h2 : x < 2 ^ 31) : lvS [nI x] = 1 := by
  unfold lvS
  have e : decide (¬ nI x = 14 ∧ ¬ nI x = 15 ∧ ¬ nI x = 16) = true := by
    rw [decide_eq_true_eq, show (14 : Int32) = nI 14 from rfl, show (15 : Int32) = nI 15 from rfl, show (16 : Int32) = nI 16 from rfl, nI_eq (by omega) (by omega), nI_eq (by omega) (by omega), nI_eq (by omega) (by omega)]
    omega
  rw [List.filter_cons, e]
  rfl
section
variable {k m : Nat} {P : zPl} {F T : Nat → Int32}
def vlOK (P : zPl) (F T : Nat → Int32) (k f t : Nat) (cs : List Int32) (v : Bool) : Prop :=
  (∀ (M : zMem) (d : Nat) (Q : Bool → zMem → Prop), PR M P F → (∀ j, j < 240 → M.1 231 (407 + j) = T j) → Q v M → S_X12_holds (d + f + 5) (nI t) (nI k) M (zB Q)) ∧
  (∀ (M : zMem) (d : Nat) (Q : Bool → zMem → Prop) (sz i n : Nat), PC M 63 P F → M.1 15 1 = nI sz → sz ≤ 60 → i + cs.length ≤ sz → (∀ j c, cs[j]? = some c → M.1 16 (i + j) = c) → (n + 1) * 2 ^ lvS cs ≤ 2 ^ 28 → S_X7_holdsOf_5 (d + 6) 15 63 (nI k) (nI (2 * n + v.toNat)) (nI (i + cs.length)) M (zB Q) → S_X7_holdsOf_5 (d + 6) 15 63 (nI k) (nI n) (nI i) M (zB Q))
theorem vl_leaf {f t w r b : Nat} (hk : k < nP P) (hw : 17 ≤ w ∧ w ≤ 23) (hr : r < 256) (hb : b < 32768) (hp : w = 18 ∨ w = 19 → b < 4)
    (hm : ∀ (M : zMem) (d : Nat) (Q : Bool → zMem → Prop), PR M P F → (∀ j, j < 240 → M.1 231 (407 + j) = T j) → Q (leafS P F k w r b) M → S_X12_holds (d + f + 5) (nI t) (nI k) M (zB Q)) : 1 ≤ lvS [nI (w + 256 * r + 65536 * b)] ∧ ∃ v, vlOK P F T k f t [nI (w + 256 * r + 65536 * b)] v := by
  have hl := lvS_leaf (x := w + 256 * r + 65536 * b) (by omega) (by omega)
  refine ⟨by rw [hl]; exact Nat.le_refl _, leafS P F k w r b, hm, fun M d Q sz i n hM hz h60 hi hc hn h => ?_⟩
  rw [hl] at hn
  have h1 : i + 1 ≤ sz := hi
  exact h_leaf hM hz (by omega) h60 (hc 0 _ rfl) hw hr hb hp hk (by omega) h
theorem vl_not {f t x : Nat} {cs : List Int32} {v : Bool} (ht : t < 60) (h1 : 1 ≤ lvS cs) (h : vlOK P F T k f x cs v) (t0 : T (4 * t) = 1) (t1 : T (4 * t + 1) = nI x) : vlOK P F T k (f + 1) t (cs ++ [16]) (!v) := by
  refine ⟨fun M d Q hM hT hq => ?_, fun M d Q sz i n hM hz h60 hi hc hn hh => ?_⟩
  · have g0 := hT (4 * t) (by omega)
    have g1 := hT (4 * t + 1) (by omega)
    rw [t0] at g0
    rw [t1, ← Nat.add_assoc] at g1
    rw [show d + (f + 1) + 5 = d + f + 5 + 1 by omega]
    exact m_node (e := 1) (b := 0) (x := v) (y := v) ht (Or.inl rfl) g0 g1 (fun q => absurd rfl q) (fun Q hq => h.1 M d Q hM hT hq) (fun q => absurd rfl q) hq
  · rw [List.length_append] at hi hh
    have hi : i + (cs.length + 1) ≤ sz := hi
    have e9 : lvS (cs ++ [16]) = lvS cs := by rw [lvS_app, lvS_op (Or.inr (Or.inr rfl))]; rfl
    rw [e9] at hn
    have hn2 : n < 2 ^ 27 := by
      have : (n + 1) * 2 ≤ (n + 1) * 2 ^ lvS cs := Nat.mul_le_mul_left _ (by
        have := Nat.pow_le_pow_right (n := 2) (by omega) h1
        omega)
      omega
    refine h.2 M d Q sz i n hM hz h60 (by omega) (fun j c hj => hc j c (by rw [List.getElem?_append_left (List.getElem?_eq_some_iff.mp hj).1]; exact hj)) hn ?_
    have hv := tn_le1 v
    have hlast : M.1 16 (i + cs.length) = nI 16 := hc cs.length 16 (by rw [List.getElem?_append_right (Nat.le_refl _), Nat.sub_self]; rfl)
    -- the stack below v: n = 2 * (n / 2) + n % 2
    have e2 : n = 2 * (n / 2) + (decide (n % 2 = 1)).toNat := by
      by_cases q : n % 2 = 1
      · rw [decide_eq_true q]; show n = 2 * (n / 2) + 1; omega
      · rw [decide_eq_false q]; show n = 2 * (n / 2) + 0; omega
    rw [e2]
    refine h_op hz (by omega) h60 (o := 16) (Or.inr (Or.inr rfl)) hlast (by omega) ?_
    rw [if_pos rfl, ← e2]
    exact hh
end
