-- ===== draws =====
theorem ushr8 (a : Int32) : ((Int32.toUInt32 a >>> (Int32.toUInt32 8 &&& Int32.toUInt32 31)).toInt32) = nI (tn a / 256) := by
  have hlt := tn_lt a
  have hb : tn a / 256 < 2 ^ 32 := by omega
  apply tn_inj
  rw [tn_nI hb]
  apply Nat.eq_of_testBit_eq
  intro i
  have h1 := b_ushr 8 (by omega) a i
  have h2 : (tn a / 256).testBit i = (tn a).testBit (8 + i) := by
    rw [show tn a / 256 = tn a >>> 8 by rw [Nat.shiftRight_eq_div_pow], Nat.testBit_shiftRight]
  rw [h2]
  exact h1
/-- the next number of a row of draws; what is drawn of n -/
theorem nx_ex : ∃ f : (Int32 → Int32) × (Int32 → Nat → Nat), (∀ x, f.1 x = x * 1103515245 + 12345) ∧ ∀ x n, f.2 x n = (tn (x * 1103515245 + 12345) / 256) % n := ⟨(fun x => x * 1103515245 + 12345, fun x n => (tn (x * 1103515245 + 12345) / 256) % n), fun _ => rfl, fun _ _ => rfl⟩
noncomputable def nxS : Int32 → Int32 := (Classical.choose nx_ex).1
noncomputable def dvN : Int32 → Nat → Nat := (Classical.choose nx_ex).2
theorem nxS_is (x : Int32) : nxS x = x * 1103515245 + 12345 := (Classical.choose_spec nx_ex).1 x
theorem dvN_is (x : Int32) (n : Nat) : dvN x n = (tn (nxS x) / 256) % n := by rw [nxS_is]; exact (Classical.choose_spec nx_ex).2 x n
theorem dvN_lt {x : Int32} {n : Nat} (h : 0 < n) : dvN x n < n := by rw [dvN_is]; exact Nat.mod_lt _ h
theorem dv_eq {x : Int32} {n : Nat} (h0 : 0 < n) (hn : n < 2 ^ 20) : ((Int32.toUInt32 (nxS x) >>> (Int32.toUInt32 8 &&& Int32.toUInt32 31)).toInt32) - ((Int32.toUInt32 (nxS x) >>> (Int32.toUInt32 8 &&& Int32.toUInt32 31)).toInt32) / nI n * nI n = nI (dvN x n) := by
  rw [dvN_is]
  generalize nxS x = y
  have hlt := tn_lt y
  have hm := Nat.mod_add_div (tn y / 256) n
  have hd : tn y / 256 / n * n ≤ tn y / 256 := Nat.div_mul_le_self _ _
  rw [ushr8, pk_div (by omega) (by omega) (by omega), pk_mul, pk_sub hd]
  congr 1
  rw [Nat.mul_comm] at hm
  omega
/-- refusals counted -/
def cntR (R : Nat → Int32) (w : Int32) : Nat → Int32 := fun j => if 1 ≤ j ∧ j < 4 ∧ w = nI j then R j + 1 else R j
theorem cntR_0 (R : Nat → Int32) {j : Nat} (hj : j < 4) : cntR R (nI 0) j = R j := by
  unfold cntR
  exact if_neg (fun w => by have := nI_inj (i := 0) (j := j) (by omega) (by omega) w.2.2; omega)
theorem cntR_t (R : Nat → Int32) {t j : Nat} (ht : 1 ≤ t) (ht4 : t < 4) (hj : j < 4) : cntR R (nI t) j = if j = t then R j + 1 else R j := by
  unfold cntR
  by_cases e : j = t
  · rw [if_pos e, if_pos ⟨by omega, hj, by rw [e]⟩]
  · rw [if_neg e]
    exact if_neg (fun w => e (nI_inj (by omega) (by omega) w.2.2).symm)
abbrev zDr : Type := Int32 × (Nat → Int32) × (Nat → Int32)
/-- a ROUND: the number the draws are at, what is so, refusals -/
noncomputable def rndS (P : zPl) (s : zDr) : zDr :=
  if 2 < dvN s.1 8 then
    (if dvN (nxS s.1) (mP P) = dvN (nxS (nxS s.1)) (mP P) then (nxS (nxS (nxS s.1)), s.2.1, s.2.2)
     else if dvN s.1 8 = 7 then (nxS (nxS (nxS s.1)), turnF s.2.1 (dvN (nxS s.1) (mP P)) (dvN (nxS (nxS s.1)) (mP P)), s.2.2)
     else (nxS (nxS (nxS s.1)), (pullD P s.2.1 (dvN (nxS s.1) (mP P)) (dvN (nxS (nxS s.1)) (mP P))).2, cntR s.2.2 (pullD P s.2.1 (dvN (nxS s.1) (mP P)) (dvN (nxS (nxS s.1)) (mP P))).1))
  else if dvN s.1 8 = 2 then (nxS (nxS (nxS s.1)), (dropD s.2.1 (dvN (nxS s.1) (mP P)) (dvN (nxS (nxS s.1)) (nP P))).2, cntR s.2.2 (dropD s.2.1 (dvN (nxS s.1) (mP P)) (dvN (nxS (nxS s.1)) (nP P))).1)
  else (nxS (nxS (nxS (nxS s.1))), (putD s.2.1 (dvN (nxS s.1) (mP P)) (dvN (nxS (nxS s.1)) (nP P)) (nI (dvN (nxS (nxS (nxS s.1))) 10))).2, cntR s.2.2 (putD s.2.1 (dvN (nxS s.1) (mP P)) (dvN (nxS (nxS s.1)) (nP P)) (nI (dvN (nxS (nxS (nxS s.1))) 10))).1)
noncomputable def rnsS (P : zPl) : Nat → zDr → zDr
  | 0, s => s
  | c + 1, s => rnsS P c (rndS P s)
section
variable {d B b p q k m : Nat} {M M2 M3 : zMem} {N : zNm} {F G : Nat → Int32} {P : zPl} {us us2 : List (Nat → Int32)} {x y z v : Int32}
theorem putD_4 : ∃ t, t < 4 ∧ (putD F p k v).1 = nI t := by
  unfold putD
  split
  · exact ⟨1, by omega, rfl⟩
  · exact ⟨0, by omega, rfl⟩
theorem dropD_4 : ∃ t, t < 4 ∧ (dropD F p k).1 = nI t := by
  unfold dropD
  split
  · exact ⟨1, by omega, rfl⟩
  · exact ⟨0, by omega, rfl⟩
theorem pullD_4 : ∃ t, t < 4 ∧ (pullD P F p q).1 = nI t := by
  unfold pullD
  split
  · exact ⟨1, by omega, rfl⟩
  split
  · exact ⟨2, by omega, rfl⟩
  split
  · exact ⟨3, by omega, rfl⟩
  · exact ⟨0, by omega, rfl⟩
theorem val10 {j : Nat} (h : j < 10) : -1 ≤ (nI j).toInt ∧ (nI j).toInt ≤ 999 := by
  rw [nI_toInt (by omega)]
  omega
theorem bdG_round {s : zDr} (hP : okP P) (hm : 0 < mP P) (hn : 0 < nP P) (h : bdG B (mP P) s.2.1) : bdG (B + 1) (mP P) (rndS P s).2.1 := by
  have h4 := hP.2.1
  have h24 := hP.1
  have a1 := dvN_lt (x := nxS s.1) hm
  have a2 := dvN_lt (x := nxS (nxS s.1)) hm
  have a3 := dvN_lt (x := nxS (nxS s.1)) hn
  have a4 := dvN_lt (x := nxS (nxS (nxS s.1))) (n := 10) (by omega)
  unfold rndS
  split
  · split
    · exact bdG_mono h (by omega) (Nat.le_refl _)
    rename_i hne
    split
    · exact bdG_mono (bdG_turn h h4 a1 a2 hne) (by omega) (Nat.le_refl _)
    · exact bdG_mono (bdG_pull hP h (by omega) (by omega)) (by omega) (Nat.le_refl _)
  · split
    · exact bdG_drop h (by omega) (by omega)
    · exact bdG_put h (by omega) (by omega) (val10 a4)
theorem bdG_rounds (hP : okP P) (hm : 0 < mP P) (hn : 0 < nP P) : ∀ (c : Nat) (s : zDr) (B : Nat), bdG B (mP P) s.2.1 → bdG (B + c) (mP P) (rnsS P c s).2.1
  | 0, s, B, h => h
  | c + 1, s, B, h => by
    have := bdG_rounds hP hm hn c (rndS P s) (B + 1) (bdG_round hP hm hn h)
    rw [show B + (c + 1) = B + 1 + c by omega]
    exact this
end
