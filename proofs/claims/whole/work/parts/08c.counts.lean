
theorem leN {X : Int32} {n i : Nat} (hn : X = nI n) (hi : i < n) (h2 : n < 2 ^ 31) : ¬ X ≤ nI i := by rw [hn]; exact nI_ge hi h2
theorem leY {X : Int32} {n : Nat} (hn : X = nI n) (h2 : n < 2 ^ 31) : X ≤ nI n := by rw [hn]; exact nI_le (Nat.le_refl _) h2
/-- how many of n, as a number -/
def cntF (f : Nat → Bool) (n : Nat) : Int32 := forS (fun k s => if f k then s + 1 else s) n 0 0
/-- those of n, as bits -/
def bitsF (f : Nat → Bool) (n : Nat) : Int32 := forS (fun k s => if f k then s ||| ((1 : Int32) <<< (nI k &&& 31)) else s) n 0 0
theorem cntF_congr {f f2 : Nat → Bool} {n : Nat} (h : ∀ k, k < n → f k = f2 k) : cntF f n = cntF f2 n := forS_congr n 0 0 (fun j s _ h2 => by rw [h j (by omega)])
theorem bitsF_congr {f f2 : Nat → Bool} {n : Nat} (h : ∀ k, k < n → f k = f2 k) : bitsF f n = bitsF f2 n := forS_congr n 0 0 (fun j s _ h2 => by rw [h j (by omega)])
section
variable {d b p q k n m : Nat} {M : zMem} {Q : Int32 → zMem → Prop}
theorem c_X4_goneCount (hb : b ∈ iX4) (hp : p < 4) (hn : M.1 3 3 = nI n) (h24 : n ≤ 24) (h : Q (cntF (goneF (fC M (pF b)) p) n) M) : S_X4_goneCount (d + 2) b (nI p) M (zI Q) := by
  refine t_X4_goneCount hb ?_
  refine for_up (S := fun i s => S_X4_goneCount_4 (d + 2) b (nI p) s (nI i) M (zI Q)) (fin := fun s => Q s M) (n := n) (fun s hs => ?_) (fun i s hi hs => ?_) n 0 0 (by omega) h
  · exact t_X4_goneCount_4 hb ⟨fun _ => zii hs, fun e => absurd (leY hn (by omega)) e⟩
  · refine t_X4_goneCount_4 hb ⟨fun e => absurd e (leN hn hi (by omega)), fun _ => c_X3_isGone (qX4_1 _ hb) hp (by omega) ⟨fun e => ?_, fun e => ?_⟩⟩ <;> rw [nI_1] <;> simpa [e] using hs
theorem c_X12_goneOf (hp : p < 4) (hn : M.1 231 0 = nI n) (h24 : n ≤ 24) (h : Q (cntF (goneF (fR M) p) n) M) : S_X12_goneOf (d + 2) (nI p) M (zI Q) := by
  refine t_X12_goneOf ?_
  refine for_up (S := fun i s => S_X12_goneOf_4 (d + 2) (nI p) s (nI i) M (zI Q)) (fin := fun s => Q s M) (n := n) (fun s hs => ?_) (fun i s hi hs => ?_) n 0 0 (by omega) h
  · exact t_X12_goneOf_4 ⟨fun _ => zii hs, fun e => absurd (leY hn (by omega)) e⟩
  · have hi4 : 24 * p + i < 96 := by omega
    refine t_X12_goneOf_4 ⟨fun e => absurd e (leN hn hi (by omega)), fun _ => c_X12_hasEntry hp (by omega) ⟨fun e => ?_, fun e => c_X12_at ⟨vin hi4, ?_⟩⟩⟩
    · rw [nI_1]; simpa [goneF, e] using hs
    · rw [vcl hi4, fR_v, nI_1]
      refine ⟨fun e2 => ?_, fun e2 => ?_⟩
      · have e2 : ¬ vlF (fR M) p i = -1 := e2
        simpa [goneF, e, e2] using hs
      · have e2 : vlF (fR M) p i = -1 := e2
        simpa [goneF, e, e2] using hs
theorem c_X12_entriesOf (hp : p < 4) (hn : M.1 231 0 = nI n) (h24 : n ≤ 24) (h : Q (cntF (hasF (fR M) p) n) M) : S_X12_entriesOf (d + 2) (nI p) M (zI Q) := by
  refine t_X12_entriesOf ?_
  refine for_up (S := fun i s => S_X12_entriesOf_4 (d + 2) (nI p) s (nI i) M (zI Q)) (fin := fun s => Q s M) (n := n) (fun s hs => ?_) (fun i s hi hs => ?_) n 0 0 (by omega) h
  · exact t_X12_entriesOf_4 ⟨fun _ => zii hs, fun e => absurd (leY hn (by omega)) e⟩
  · refine t_X12_entriesOf_4 ⟨fun e => absurd e (leN hn hi (by omega)), fun _ => c_X12_hasEntry hp (by omega) ⟨fun e => ?_, fun e => ?_⟩⟩ <;> rw [nI_1] <;> simpa [e] using hs
theorem c_X4_holderBits (hb : b ∈ iX4) (hk : k < 24) (hm : M.1 3 4 = nI m) (h4 : m ≤ 4) (h : Q (bitsF (fun p => hasF (fC M (pF b)) p k) m) M) : S_X4_holderBits (d + 1) b (nI k) M (zI Q) := by
  refine t_X4_holderBits hb ?_
  refine for_up (S := fun i s => S_X4_holderBits_4 (d + 1) b (nI k) s (nI i) M (zI Q)) (fin := fun s => Q s M) (n := m) (fun s hs => ?_) (fun i s hi hs => ?_) m 0 0 (by omega) h
  · exact t_X4_holderBits_4 hb ⟨fun _ => zii hs, fun e => absurd (leY hm (by omega)) e⟩
  · refine t_X4_holderBits_4 hb ⟨fun e => absurd e (leN hm hi (by omega)), fun _ => c_X3_has (qX4_1 _ hb) (by omega) hk ⟨fun e => ?_, fun e => ?_⟩⟩ <;> rw [nI_1] <;> simpa [e] using hs
theorem c_X4_differBits (hb : b ∈ iX4) (hp : p < 4) (hq : q < 4) (hn : M.1 3 3 = nI n) (h24 : n ≤ 24) (h : Q (bitsF (fun k => !sameF (fC M (pF b)) p q k) n) M) : S_X4_differBits (d + 2) b (nI p) (nI q) M (zI Q) := by
  refine t_X4_differBits hb ?_
  refine for_up (S := fun i s => S_X4_differBits_5 (d + 2) b (nI p) (nI q) s (nI i) M (zI Q)) (fin := fun s => Q s M) (n := n) (fun s hs => ?_) (fun i s hi hs => ?_) n 0 0 (by omega) h
  · exact t_X4_differBits_5 hb ⟨fun _ => zii hs, fun e => absurd (leY hn (by omega)) e⟩
  · refine t_X4_differBits_5 hb ⟨fun e => absurd e (leN hn hi (by omega)), fun _ => c_X3_isSame (qX4_1 _ hb) hp hq (by omega) ⟨fun e => ?_, fun e => ?_⟩⟩ <;> rw [nI_1] <;> simpa [e] using hs
theorem c_X4_tornBits (hb : b ∈ iX4) (hn : M.1 3 3 = nI n) (h24 : n ≤ 24) (hm : M.1 3 4 = nI m) (h4 : m ≤ 4) (h : Q (forS (fun p s => s ||| bitsF (fun k => !sameF (fC M (pF b)) 0 p k) n) (m - 1) 1 0) M) : S_X4_tornBits (d + 3) b M (zI Q) := by
  refine t_X4_tornBits hb ?_
  have fin0 : ∀ s i, m ≤ i → i < 2 ^ 31 → Q s M → S_X4_tornBits_4 (d + 3) b s (nI i) M (zI Q) := fun s i hi h2 hs => t_X4_tornBits_4 hb ⟨fun _ => zii hs, fun e => absurd (by rw [hm]; exact nI_le hi h2) e⟩
  rcases Nat.lt_or_ge m 1 with h0 | h0
  · rw [show m - 1 = 0 by omega] at h
    exact fin0 0 1 (by omega) (by omega) h
  · refine for_up (S := fun i s => S_X4_tornBits_4 (d + 3) b s (nI i) M (zI Q)) (fin := fun s => Q s M) (n := m) (fun s hs => fin0 s m (Nat.le_refl _) (by omega) hs) (fun i s hi hs => ?_) (m - 1) 1 0 (by omega) h
    refine t_X4_tornBits_4 hb ⟨fun e => absurd e (leN hm hi (by omega)), fun _ => ?_⟩
    refine c_X4_differBits (p := 0) hb (by omega) (by omega) hn h24 ?_
    rw [nI_1]; exact hs
theorem c_X12_isTorn {Q : Bool → zMem → Prop} (hk : k < 24) (hm : M.1 231 1 = nI m) (h4 : m ≤ 4) (h : Q (anyF (fun p => !sameF (fR M) 0 p k) (m - 1) 1) M) : S_X12_isTorn (d + 3) (nI k) M (zB Q) := by
  refine t_X12_isTorn ?_
  have fin0 : ∀ i, m ≤ i → i < 2 ^ 31 → Q false M → S_X12_isTorn_2 (d + 3) (nI k) (nI i) M (zB Q) := fun i hi h2 hs => t_X12_isTorn_2 ⟨fun _ => zbf hs, fun e => absurd (by rw [hm]; exact nI_le hi h2) e⟩
  rcases Nat.lt_or_ge m 1 with h0 | h0
  · rw [show m - 1 = 0 by omega] at h
    exact fin0 1 (by omega) (by omega) h
  · refine for_any (S := fun i => S_X12_isTorn_2 (d + 3) (nI k) (nI i) M (zB Q)) (T := fun r => Q r M) (n := m) (fun hs => fin0 m (Nat.le_refl _) (by omega) hs) (fun i hi hf hs => ?_) (fun i hi hf hs => ?_) (m - 1) 1 (by omega) h
    · refine t_X12_isTorn_2 ⟨fun e => absurd e (leN hm hi (by omega)), fun _ => c_X12_areSame (p := 0) (by omega) (by omega) hk ⟨fun e => ?_, fun e => zbt hs⟩⟩
      simp [e] at hf
    · refine t_X12_isTorn_2 ⟨fun e => absurd e (leN hm hi (by omega)), fun _ => c_X12_areSame (p := 0) (by omega) (by omega) hk ⟨fun e => by rw [nI_1]; exact hs, fun e => ?_⟩⟩
      simp [e] at hf
theorem c_X4_greatestStamp (hb : b ∈ iX4) (hk : k < 24) (hm : M.1 3 4 = nI m) (h4 : m ≤ 4) (h : Q (forS (fun p s => if s < smF (fC M (pF b)) p k then smF (fC M (pF b)) p k else s) m 0 0) M) : S_X4_greatestStamp (d + 1) b (nI k) M (zI Q) := by
  refine t_X4_greatestStamp hb ?_
  refine for_up (S := fun i s => S_X4_greatestStamp_4 (d + 1) b (nI k) s (nI i) M (zI Q)) (fin := fun s => Q s M) (n := m) (fun s hs => ?_) (fun i s hi hs => ?_) m 0 0 (by omega) h
  · exact t_X4_greatestStamp_4 hb ⟨fun _ => zii hs, fun e => absurd (leY hm (by omega)) e⟩
  · refine t_X4_greatestStamp_4 hb ⟨fun e => absurd e (leN hm hi (by omega)), fun _ => c_X3_stampOf (qX4_1 _ hb) (by omega) hk ?_⟩
    rw [nI_1]; exact hs
theorem c_X12_latestOf (hk : k < 24) (hm : M.1 231 1 = nI m) (h4 : m ≤ 4) (h : Q (forS (fun p s => if s < smF (fR M) p k then smF (fR M) p k else s) m 0 0) M) : S_X12_latestOf (d + 1) (nI k) M (zI Q) := by
  refine t_X12_latestOf ?_
  refine for_up (S := fun i s => S_X12_latestOf_4 (d + 1) (nI k) s (nI i) M (zI Q)) (fin := fun s => Q s M) (n := m) (fun s hs => ?_) (fun i s hi hs => ?_) m 0 0 (by omega) h
  · exact t_X12_latestOf_4 ⟨fun _ => zii hs, fun e => absurd (leY hm (by omega)) e⟩
  · have hi4 : 24 * i + k < 96 := by omega
    refine t_X12_latestOf_4 ⟨fun e => absurd e (leN hm hi (by omega)), fun _ => c_X12_at ⟨sin hi4, ?_⟩⟩
    rw [scl hi4, fR_s, nI_1]
    refine ⟨fun e => ?_, fun e => c_X12_at ⟨sin hi4, ?_⟩⟩
    · have e : smF (fR M) i k ≤ s := e
      rw [if_neg (Int32.not_lt.mpr e)] at hs; exact hs
    · have e : ¬ smF (fR M) i k ≤ s := e
      rw [if_pos (Int32.not_le.mp e)] at hs
      rw [scl hi4, fR_s]; exact hs
theorem c_X12_copiesOf (hk : k < 24) (hm : M.1 231 1 = nI m) (h4 : m ≤ 4) (h : Q (cntF (fun p => hasF (fR M) p k) m) M) : S_X12_copiesOf (d + 2) (nI k) M (zI Q) := by
  refine t_X12_copiesOf ?_
  refine for_up (S := fun i s => S_X12_copiesOf_4 (d + 2) (nI k) s (nI i) M (zI Q)) (fin := fun s => Q s M) (n := m) (fun s hs => ?_) (fun i s hi hs => ?_) m 0 0 (by omega) h
  · exact t_X12_copiesOf_4 ⟨fun _ => zii hs, fun e => absurd (leY hm (by omega)) e⟩
  · refine t_X12_copiesOf_4 ⟨fun e => absurd e (leN hm hi (by omega)), fun _ => c_X12_hasEntry (by omega) hk ⟨fun e => ?_, fun e => ?_⟩⟩ <;> rw [nI_1] <;> simpa [e] using hs
end
/-- a number that is one of n, or not -/
def inN (x : Int32) (n : Nat) : Bool := decide (¬ x < 0) && decide (¬ nI n ≤ x)
theorem inN_of {x : Int32} {n : Nat} (h : inN x n = true) (hn : n < 2 ^ 31) : ∃ j, j < n ∧ x = nI j := by
  simp only [inN, Bool.and_eq_true, decide_eq_true_eq] at h
  rcases pk_ix x hn with h0 | h0 | h0
  · exact absurd h0 h.1
  · exact absurd h0 h.2
  · exact h0
theorem inN_nI {j n : Nat} (h : j < n) (hn : n < 2 ^ 31) : inN (nI j) n = true := by
  simp only [inN, Bool.and_eq_true, decide_eq_true_eq]
  exact ⟨nI_pos (by omega), nI_ge h hn⟩
section
variable {d n m : Nat} {M : zMem} {Q : Bool → zMem → Prop} {x y : Int32}
theorem c_X11_isKey (hn : M.1 3 3 = nI n) (h : Q (inN x n) M) : S_X11_isKey d x M (zB Q) := by
  refine t_X11_isKey ⟨fun e => zbf ?_, fun e => ⟨fun e2 => zbf ?_, fun e2 => zbt ?_⟩⟩
  · simpa [inN, e] using h
  · rw [hn] at e2; simpa [inN, e2] using h
  · rw [hn] at e2; simpa [inN, e, e2] using h
theorem c_X11_isPeer (hm : M.1 3 4 = nI m) (h : Q (inN x m) M) : S_X11_isPeer d x M (zB Q) := by
  refine t_X11_isPeer ⟨fun e => zbf ?_, fun e => ⟨fun e2 => zbf ?_, fun e2 => zbt ?_⟩⟩
  · simpa [inN, e] using h
  · rw [hm] at e2; simpa [inN, e2] using h
  · rw [hm] at e2; simpa [inN, e, e2] using h
def twoN (x y : Int32) (m : Nat) : Bool := inN x m && (inN y m && decide (¬ x = y))
theorem c_X11_areTwo (hm : M.1 3 4 = nI m) (h : Q (twoN x y m) M) : S_X11_areTwo (d + 1) x y M (zB Q) := by
  refine t_X11_areTwo (c_X11_isPeer hm ⟨fun e => zbf ?_, fun e => c_X11_isPeer hm ⟨fun e2 => zbf ?_, fun e2 => ⟨fun e3 => zbf ?_, fun e3 => zbt ?_⟩⟩⟩)
  · simpa [twoN, e] using h
  · simpa [twoN, e, e2] using h
  · simpa [twoN, e, e2, e3] using h
  · simpa [twoN, e, e2, e3] using h
theorem c_X12_isIn {z : Int32} (h : Q (decide (¬ x < y) && decide (¬ z < x)) M) : S_X12_isIn d x y z M (zB Q) := by
  refine t_X12_isIn ⟨fun e => zbf ?_, fun e => ⟨fun e2 => zbf ?_, fun e2 => zbt ?_⟩⟩
  · simpa [e] using h
  · simpa [e2] using h
  · simpa [e, e2] using h
theorem below_pred {n : Nat} (hn : n < 2 ^ 30) (x : Int32) : (¬ x < 0 ∧ ¬ (nI n - 1) < x) ↔ (¬ x < 0 ∧ ¬ nI n ≤ x) := by
  have h1 : (nI n - 1).toInt = (n : Int) - 1 := pk_sub_toInt (a := n) (b := 1) hn (by omega)
  have h2 : (nI n).toInt = (n : Int) := nI_toInt (by omega)
  simp only [Int32.lt_iff_toInt_lt, Int32.le_iff_toInt_le, h1, h2]
  constructor <;> intro ⟨a, b⟩ <;> exact ⟨a, by omega⟩
theorem inN_pred {n : Nat} (hn : n < 2 ^ 30) (x : Int32) : (decide (¬ x < 0) && decide (¬ (nI n - 1) < x)) = inN x n := by
  unfold inN
  rw [← Bool.decide_and, ← Bool.decide_and]
  exact decide_eq_decide.mpr (below_pred hn x)
theorem c_X12_isKey (hn : M.1 231 0 = nI n) (h24 : n ≤ 24) (h : Q (inN x n) M) : S_X12_isKey (d + 1) x M (zB Q) := by
  refine t_X12_isKey (c_X12_isIn (zbr ?_))
  rw [hn, inN_pred (by omega)]; exact h
theorem c_X12_isPeer (hm : M.1 231 1 = nI m) (h4 : m ≤ 4) (h : Q (inN x m) M) : S_X12_isPeer (d + 1) x M (zB Q) := by
  refine t_X12_isPeer (c_X12_isIn (zbr ?_))
  rw [hm, inN_pred (by omega)]; exact h
theorem c_X12_areTwo (hm : M.1 231 1 = nI m) (h4 : m ≤ 4) (h : Q (twoN x y m) M) : S_X12_areTwo (d + 2) x y M (zB Q) := by
  refine t_X12_areTwo (c_X12_isPeer hm h4 ⟨fun e => zbf ?_, fun e => c_X12_isPeer hm h4 ⟨fun e2 => zbf ?_, fun e2 => ⟨fun e3 => zbf ?_, fun e3 => zbt ?_⟩⟩⟩)
  · simpa [twoN, e] using h
  · simpa [twoN, e, e2] using h
  · simpa [twoN, e, e2, e3] using h
  · simpa [twoN, e, e2, e3] using h
end
