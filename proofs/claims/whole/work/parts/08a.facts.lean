-- ===== PURE from here: numbers, loops, facts =====
theorem ix (p k : Nat) : nI p * 24 + nI k = nI (24 * p + k) := by
  rw [show (24 : Int32) = nI 24 from rfl, pk_mul, nI_add, Nat.mul_comm]
theorem ix' (p k : Nat) : 24 * nI p + nI k = nI (24 * p + k) := by
  rw [show (24 : Int32) = nI 24 from rfl, pk_mul, nI_add]
theorem ixL {p k : Nat} (hp : p < 4) (hk : k < 24) : 24 * p + k < 96 := by omega
theorem ixin {p k : Nat} (hp : p < 4) (hk : k < 24) : vp_in (nI p * 24 + nI k) 96 := by rw [ix]; exact vp_in_nI (by omega) (by omega)
theorem ixcl {p k : Nat} (hp : p < 4) (hk : k < 24) : (nI p * 24 + nI k).toNatClampNeg = 24 * p + k := by rw [ix]; exact nI_clamp (by omega)
theorem nIin {i n : Nat} (h : i < n) (hn : n < 2 ^ 31) : vp_in (nI i) n := vp_in_nI h hn
/-- a for-loop upwards: c steps from i on -/
def forS {σ : Type} (g : Nat → σ → σ) : Nat → Nat → σ → σ
  | 0, _, s => s
  | c + 1, i, s => forS g c (i + 1) (g i s)
theorem for_up {σ : Type} {S : Nat → σ → Prop} {fin : σ → Prop} {g : Nat → σ → σ} {n : Nat} (hend : ∀ s, fin s → S n s) (hstep : ∀ i s, i < n → S (i + 1) (g i s) → S i s) : ∀ (c i : Nat) (s : σ), i + c = n → fin (forS g c i s) → S i s
  | 0, i, s, h, hf => by
    have e : i = n := by omega
    subst e
    exact hend s hf
  | c + 1, i, s, h, hf => hstep i s (by omega) (for_up hend hstep c (i + 1) (g i s) (by omega) hf)
theorem forS_congr {σ : Type} {g g2 : Nat → σ → σ} : ∀ (c i : Nat) (s : σ), (∀ j s, i ≤ j → j < i + c → g j s = g2 j s) → forS g c i s = forS g2 c i s
  | 0, _, _, _ => rfl
  | c + 1, i, s, h => by
    show forS g c (i + 1) (g i s) = forS g2 c (i + 1) (g2 i s)
    rw [h i s (Nat.le_refl _) (by omega)]
    exact forS_congr c (i + 1) _ (fun j s h1 h2 => h j s (by omega) (by omega))
/-- a search upwards -/
def anyF (f : Nat → Bool) : Nat → Nat → Bool
  | 0, _ => false
  | c + 1, i => f i || anyF f c (i + 1)
theorem for_any {S : Nat → Prop} {T : Bool → Prop} {f : Nat → Bool} {n : Nat} (hend : T false → S n) (h1 : ∀ i, i < n → f i = true → T true → S i) (h0 : ∀ i, i < n → f i = false → S (i + 1) → S i) : ∀ (c i : Nat), i + c = n → T (anyF f c i) → S i
  | 0, i, h, hf => by
    have e : i = n := by omega
    subst e
    exact hend hf
  | c + 1, i, h, hf => by
    cases hq : f i with
    | true => exact h1 i (by omega) hq (by simpa [anyF, hq] using hf)
    | false => exact h0 i (by omega) hq (for_any hend h1 h0 c (i + 1) (by omega) (by simpa [anyF, hq] using hf))
theorem anyF_congr {f f2 : Nat → Bool} : ∀ (c i : Nat), (∀ j, i ≤ j → j < i + c → f j = f2 j) → anyF f c i = anyF f2 c i
  | 0, _, _ => rfl
  | c + 1, i, h => by
    show (f i || anyF f c (i + 1)) = (f2 i || anyF f2 c (i + 1))
    rw [h i (Nat.le_refl _) (by omega), anyF_congr c (i + 1) (fun j h1 h2 => h j (by omega) (by omega))]
/-- the ends of boolean methods -/
theorem zb1 {P : Prop} [Decidable P] {Q : Bool → zMem → Prop} {M : zMem} (h : Q (decide P) M) (hp : P) : zB Q (some (.int 1)) M := ⟨true, rfl, by rwa [decide_eq_true hp] at h⟩
theorem zb0 {P : Prop} [Decidable P] {Q : Bool → zMem → Prop} {M : zMem} (h : Q (decide P) M) (hp : ¬ P) : zB Q (some (.int 0)) M := ⟨false, rfl, by rwa [decide_eq_false hp] at h⟩
theorem zbt {Q : Bool → zMem → Prop} {M : zMem} (h : Q true M) : zB Q (some (.int 1)) M := ⟨true, rfl, h⟩
theorem zbf {Q : Bool → zMem → Prop} {M : zMem} (h : Q false M) : zB Q (some (.int 0)) M := ⟨false, rfl, h⟩
theorem zbr {Q : Bool → zMem → Prop} {M : zMem} {r : Bool} (h : Q r M) : zB Q (some (.int (bi r))) M := ⟨r, rfl, h⟩
theorem zbb {r : Bool} {A B : Prop} (f : r = false → A) (t : r = true → B) : (r = false → A) ∧ (r = true → B) := ⟨f, t⟩
theorem zii {Q : Int32 → zMem → Prop} {M : zMem} {x : Int32} (h : Q x M) : zI Q (some (.int x)) M := ⟨x, rfl, h⟩
theorem zuu {Q : zMem → Prop} {M : zMem} (h : Q M) : zU Q none M := ⟨rfl, h⟩
/-- nothing but what is in F has changed -/
def Same (F : Nat → Prop) (M M2 : zMem) : Prop := (∀ i, ¬ F i → M2.1 i = M.1 i) ∧ ∀ i, ¬ F i → M2.2 i = M.2 i
theorem Same.refl (F : Nat → Prop) (M : zMem) : Same F M M := ⟨fun _ _ => rfl, fun _ _ => rfl⟩
theorem Same.trans {F : Nat → Prop} {M M2 M3 : zMem} (h : Same F M M2) (h2 : Same F M2 M3) : Same F M M3 := ⟨fun i hi => (h2.1 i hi).trans (h.1 i hi), fun i hi => (h2.2 i hi).trans (h.2 i hi)⟩
theorem Same.mono {F F2 : Nat → Prop} {M M2 : zMem} (h : Same F M M2) (hF : ∀ i, F i → F2 i) : Same F2 M M2 := ⟨fun i hi => h.1 i (fun q => hi (hF i q)), fun i hi => h.2 i (fun q => hi (hF i q))⟩
theorem Same.wI {F : Nat → Prop} {M M2 : zMem} {i j : Nat} {x : Int32} (h : Same F M M2) (hi : F i) : Same F M (wI M2 i j x) := ⟨fun k hk => (z_up_n (j := k) _ _ (fun e => hk (by rw [e]; exact hi))).trans (h.1 k hk), h.2⟩
theorem Same.wL {F : Nat → Prop} {M M2 : zMem} {i j : Nat} {x : Int64} (h : Same F M M2) (hi : F i) : Same F M (wL M2 i j x) := ⟨h.1, fun k hk => (z_up_n (j := k) _ _ (fun e => hk (by rw [e]; exact hi))).trans (h.2 k hk)⟩
theorem Same.cI {F : Nat → Prop} {M M2 : zMem} {a0 sp a dp n : Nat} (h : Same F M M2) (hi : F a) : Same F M (cI M2 a0 sp a dp n) := ⟨fun k hk => (z_up_n (j := k) _ _ (fun e => hk (by rw [e]; exact hi))).trans (h.1 k hk), h.2⟩
theorem Same.cL {F : Nat → Prop} {M M2 : zMem} {a0 sp a dp n : Nat} (h : Same F M M2) (hi : F a) : Same F M (cL M2 a0 sp a dp n) := ⟨h.1, fun k hk => (z_up_n (j := k) _ _ (fun e => hk (by rw [e]; exact hi))).trans (h.2 k hk)⟩
/-- FACTS as one row F of 203 numbers: 0 pulls, 1 offers, 2 stamps given, 3.. cuts, 7.. came, 11.. values, 107.. stamps -/
def fC (M : zMem) (b : Nat) : Nat → Int32 := fun j => if j < 3 then M.1 b (4 + j) else if j < 7 then M.1 (b + 3) (j - 3) else if j < 11 then M.1 (b + 4) (j - 7) else if j < 107 then M.1 (b + 1) (j - 11) else M.1 (b + 2) (j - 107)
def fR (M : zMem) : Nat → Int32 := fun j => M.1 231 (202 + j)
def vlF (F : Nat → Int32) (p k : Nat) : Int32 := F (11 + (24 * p + k))
def smF (F : Nat → Int32) (p k : Nat) : Int32 := F (107 + (24 * p + k))
def hasF (F : Nat → Int32) (p k : Nat) : Bool := decide (¬ smF F p k ≤ 0)
def goneF (F : Nat → Int32) (p k : Nat) : Bool := hasF F p k && decide (vlF F p k = -1)
def sameF (F : Nat → Int32) (p q k : Nat) : Bool := decide (smF F p k = smF F q k) && (!hasF F p k || decide (vlF F p k = vlF F q k))
def mixF (x y : Int32) : Int32 := ((x ^^^ y) * 16777619) ^^^ ((Int32.toUInt32 ((x ^^^ y) * 16777619) >>> (Int32.toUInt32 15 &&& Int32.toUInt32 31)).toInt32)
def digF (g : Nat → Int32) (F : Nat → Int32) (p k : Nat) : Int32 := mixF (mixF (g k) (smF F p k)) (vlF F p k + 1)
def writeF (F : Nat → Int32) (p k : Nat) (v : Int32) : Nat → Int32 := upd (upd (upd F 2 (F 2 + 1)) (11 + (24 * p + k)) v) (107 + (24 * p + k)) (F 2 + 1)
def takeF (F : Nat → Int32) (p q k : Nat) : Nat → Int32 := upd (upd F (11 + (24 * p + k)) (vlF F q k)) (107 + (24 * p + k)) (smF F q k)
theorem fC_v {M : zMem} {b i : Nat} (h : i < 96) : fC M b (11 + i) = M.1 (b + 1) i := by
  unfold fC
  rw [if_neg (by omega), if_neg (by omega), if_neg (by omega), if_pos (by omega), show 11 + i - 11 = i by omega]
theorem fC_s {M : zMem} {b : Nat} (i : Nat) : fC M b (107 + i) = M.1 (b + 2) i := by
  unfold fC
  rw [if_neg (by omega), if_neg (by omega), if_neg (by omega), if_neg (by omega), show 107 + i - 107 = i by omega]
theorem fC_c {M : zMem} {b i : Nat} (h : i < 4) : fC M b (3 + i) = M.1 (b + 3) i := by
  unfold fC
  rw [if_neg (by omega), if_pos (by omega), show 3 + i - 3 = i by omega]
theorem fC_a {M : zMem} {b i : Nat} (h : i < 4) : fC M b (7 + i) = M.1 (b + 4) i := by
  unfold fC
  rw [if_neg (by omega), if_neg (by omega), if_pos (by omega), show 7 + i - 7 = i by omega]
theorem fC_same {M M2 : zMem} {b : Nat} (h : ∀ i, b ≤ i → i < b + 5 → M2.1 i = M.1 i) : fC M2 b = fC M b := by
  funext j
  unfold fC
  rw [h b (by omega) (by omega), h (b + 1) (by omega) (by omega), h (b + 2) (by omega) (by omega), h (b + 3) (by omega) (by omega), h (b + 4) (by omega) (by omega)]
section
variable {M : zMem} {b : Nat} {x : Int32}
theorem fC_wf {i : Nat} (h : i < 3) : fC (wI M b (4 + i) x) b = upd (fC M b) i x := by
  funext j
  rcases (show j < 3 ∨ (3 ≤ j ∧ j < 7) ∨ (7 ≤ j ∧ j < 11) ∨ (11 ≤ j ∧ j < 107) ∨ 107 ≤ j by omega) with e | e | e | e | e <;> by_cases e2 : j = i <;> simp (disch := omega) only [fC, upd, wI_1, true_and, if_pos, if_neg]
theorem fC_wv {i : Nat} (h : i < 96) : fC (wI M (b + 1) i x) b = upd (fC M b) (11 + i) x := by
  funext j
  rcases (show j < 3 ∨ (3 ≤ j ∧ j < 7) ∨ (7 ≤ j ∧ j < 11) ∨ (11 ≤ j ∧ j < 107) ∨ 107 ≤ j by omega) with e | e | e | e | e <;> by_cases e2 : j = 11 + i <;> simp (disch := omega) only [fC, upd, wI_1, true_and, if_pos, if_neg]
theorem fC_ws {i : Nat} : fC (wI M (b + 2) i x) b = upd (fC M b) (107 + i) x := by
  funext j
  rcases (show j < 3 ∨ (3 ≤ j ∧ j < 7) ∨ (7 ≤ j ∧ j < 11) ∨ (11 ≤ j ∧ j < 107) ∨ 107 ≤ j by omega) with e | e | e | e | e <;> by_cases e2 : j = 107 + i <;> simp (disch := omega) only [fC, upd, wI_1, true_and, if_pos, if_neg]
theorem fC_wc {i : Nat} (h : i < 4) : fC (wI M (b + 3) i x) b = upd (fC M b) (3 + i) x := by
  funext j
  rcases (show j < 3 ∨ (3 ≤ j ∧ j < 7) ∨ (7 ≤ j ∧ j < 11) ∨ (11 ≤ j ∧ j < 107) ∨ 107 ≤ j by omega) with e | e | e | e | e <;> by_cases e2 : j = 3 + i <;> simp (disch := omega) only [fC, upd, wI_1, true_and, if_pos, if_neg]
theorem fC_wa {i : Nat} (h : i < 4) : fC (wI M (b + 4) i x) b = upd (fC M b) (7 + i) x := by
  funext j
  rcases (show j < 3 ∨ (3 ≤ j ∧ j < 7) ∨ (7 ≤ j ∧ j < 11) ∨ (11 ≤ j ∧ j < 107) ∨ 107 ≤ j by omega) with e | e | e | e | e <;> by_cases e2 : j = 7 + i <;> simp (disch := omega) only [fC, upd, wI_1, true_and, if_pos, if_neg]
end
theorem upd_s (f : Nat → Int32) (k : Nat) (x : Int32) : upd f k x k = x := if_pos rfl
theorem upd_n (f : Nat → Int32) {k j : Nat} (x : Int32) (h : j ≠ k) : upd f k x j = f j := if_neg h
section
variable {d b p q k : Nat} {M : zMem}
theorem c_X3_stampOf {Q : Int32 → zMem → Prop} (hb : b ∈ iX3) (hp : p < 4) (hk : k < 24) (h : Q (smF (fC M b) p k) M) : S_X3_stampOf d b (nI p) (nI k) M (zI Q) := by
  refine t_X3_stampOf hb ⟨ixin hp hk, ?_⟩
  rw [ixcl hp hk]
  unfold smF at h
  rw [fC_s] at h
  exact zii h
theorem c_X3_valueOf {Q : Int32 → zMem → Prop} (hb : b ∈ iX3) (hp : p < 4) (hk : k < 24) (h : Q (vlF (fC M b) p k) M) : S_X3_valueOf d b (nI p) (nI k) M (zI Q) := by
  refine t_X3_valueOf hb ⟨ixin hp hk, ?_⟩
  rw [ixcl hp hk]
  unfold vlF at h
  rw [fC_v (ixL hp hk)] at h
  exact zii h
theorem c_X3_has {Q : Bool → zMem → Prop} (hb : b ∈ iX3) (hp : p < 4) (hk : k < 24) (h : Q (hasF (fC M b) p k) M) : S_X3_has d b (nI p) (nI k) M (zB Q) := by
  refine t_X3_has hb ⟨ixin hp hk, ?_⟩
  rw [ixcl hp hk]
  unfold hasF smF at h
  rw [fC_s] at h
  exact ⟨fun e => zb0 h (fun q => q e), fun e => zb1 h e⟩
theorem c_X3_isGone {Q : Bool → zMem → Prop} (hb : b ∈ iX3) (hp : p < 4) (hk : k < 24) (h : Q (goneF (fC M b) p k) M) : S_X3_isGone (d + 1) b (nI p) (nI k) M (zB Q) := by
  refine t_X3_isGone hb (c_X3_has hb hp hk ⟨fun e => zbf ?_, fun e => c_X3_valueOf hb hp hk ⟨fun e2 => zbf ?_, fun e2 => zbt ?_⟩⟩)
  · simpa [goneF, e] using h
  · simpa [goneF, e, e2] using h
  · simpa [goneF, e, e2] using h
theorem c_X3_isSame {Q : Bool → zMem → Prop} (hb : b ∈ iX3) (hp : p < 4) (hq : q < 4) (hk : k < 24) (h : Q (sameF (fC M b) p q k) M) : S_X3_isSame (d + 1) b (nI p) (nI q) (nI k) M (zB Q) := by
  refine t_X3_isSame hb (c_X3_stampOf hb hp hk (c_X3_stampOf hb hq hk ⟨fun e => zbf ?_, fun e => c_X3_has hb hp hk ⟨fun e2 => zbt ?_, fun e2 => c_X3_valueOf hb hp hk (c_X3_valueOf hb hq hk ⟨fun e3 => zbf ?_, fun e3 => zbt ?_⟩)⟩⟩))
  · simpa [sameF, e] using h
  · simpa [sameF, e, e2] using h
  · simpa [sameF, e, e2, e3] using h
  · simpa [sameF, e, e2, e3] using h
theorem c_X11_mix {Q : Int32 → zMem → Prop} {x y : Int32} (h : Q (mixF x y) M) : S_X11_mix d x y M (zI Q) := t_X11_mix (zii h)
theorem c_X3_digestOf {Q : Int32 → zMem → Prop} {g : Nat} (hb : b ∈ iX3) (hg : g ∈ iX5) (hp : p < 4) (hk : k < 24) (h : Q (digF (M.1 (g + 3)) (fC M b) p k) M) : S_X3_digestOf (d + 1) b g (nI p) (nI k) M (zI Q) := by
  refine t_X3_digestOf hb hg ⟨nIin hk (by omega), c_X3_stampOf hb hp hk (c_X11_mix (c_X3_valueOf hb hp hk (c_X11_mix (zii ?_))))⟩
  rw [nI_clamp (by omega)]
  exact h
theorem c_X3_write {Q : zMem → Prop} {v : Int32} (hb : b ∈ iX3) (hp : p < 4) (hk : k < 24) (h : ∀ M2, fC M2 b = writeF (fC M b) p k v → Same (fun i => b ≤ i ∧ i < b + 5) M M2 → Q M2) : S_X3_write d b (nI p) (nI k) v M (zU Q) := by
  refine t_X3_write hb ?_
  rintro M1 rfl
  refine ⟨ixin hp hk, ?_⟩
  rintro M1 rfl
  refine ⟨ixin hp hk, ?_⟩
  rintro M1 rfl
  refine zuu (h _ ?_ ((((Same.refl _ M).wI (by omega)).wI (by omega)).wI (by omega)))
  have e6 : ∀ M : zMem, fC M b 2 = M.1 b 6 := fun M => rfl
  rw [ixcl hp hk, fC_ws, fC_wv (ixL hp hk), show (6 : Nat) = 4 + 2 from rfl, fC_wf (by omega)]
  unfold writeF
  congr 1
  rw [show (4 + 2 : Nat) = 6 from rfl, ← e6, fC_wv (ixL hp hk), upd_n _ _ (by omega), show (6 : Nat) = 4 + 2 from rfl, fC_wf (by omega), upd_s]
  rfl
theorem c_X3_take {Q : zMem → Prop} (hb : b ∈ iX3) (hp : p < 4) (hq : q < 4) (hk : k < 24) (hne : p ≠ q) (h : ∀ M2, fC M2 b = takeF (fC M b) p q k → Same (fun i => b ≤ i ∧ i < b + 5) M M2 → Q M2) : S_X3_take (d + 1) b (nI p) (nI q) (nI k) M (zU Q) := by
  refine t_X3_take hb (c_X3_valueOf hb hq hk ⟨ixin hp hk, ?_⟩)
  rintro M1 rfl
  refine c_X3_stampOf hb hq hk ⟨ixin hp hk, ?_⟩
  rintro M1 rfl
  refine zuu (h _ ?_ (((Same.refl _ M).wI (by omega)).wI (by omega)))
  rw [ixcl hp hk, fC_ws, fC_wv (ixL hp hk)]
  unfold takeF
  congr 1
  unfold smF
  rw [upd_n _ _ (by omega)]
def cutF (F : Nat → Int32) (p q : Nat) : Bool := decide (¬ ((Int32.toUInt32 (F (3 + p)) >>> (Int32.toUInt32 (nI q) &&& Int32.toUInt32 31)).toInt32) &&& 1 = 0)
def turnF (F : Nat → Int32) (p q : Nat) : Nat → Int32 := upd (upd F (3 + p) (F (3 + p) ^^^ ((1 : Int32) <<< (nI q &&& 31)))) (3 + q) (upd F (3 + p) (F (3 + p) ^^^ ((1 : Int32) <<< (nI q &&& 31))) (3 + q) ^^^ ((1 : Int32) <<< (nI p &&& 31)))
theorem c_X3_areCut {Q : Bool → zMem → Prop} (hb : b ∈ iX3) (hp : p < 4) (h : Q (cutF (fC M b) p q) M) : S_X3_areCut d b (nI p) (nI q) M (zB Q) := by
  refine t_X3_areCut hb ⟨nIin hp (by omega), ?_⟩
  rw [nI_clamp (by omega)]
  unfold cutF at h
  rw [fC_c hp] at h
  exact ⟨fun e => zb0 h (fun q => q e), fun e => zb1 h e⟩
theorem c_X3_turnLink {Q : zMem → Prop} (hb : b ∈ iX3) (hp : p < 4) (hq : q < 4) (h : ∀ M2, fC M2 b = turnF (fC M b) p q → Same (fun i => b ≤ i ∧ i < b + 5) M M2 → Q M2) : S_X3_turnLink d b (nI p) (nI q) M (zU Q) := by
  refine t_X3_turnLink hb ⟨nIin hp (by omega), nIin hp (by omega), ?_⟩
  rintro M1 rfl
  refine ⟨nIin hq (by omega), nIin hq (by omega), ?_⟩
  rintro M1 rfl
  refine zuu (h _ ?_ (((Same.refl _ M).wI (by omega)).wI (by omega)))
  have e3 : ∀ (M : zMem) (i : Nat), i < 4 → M.1 (b + 3) i = fC M b (3 + i) := fun M i hi => (fC_c hi).symm
  rw [nI_clamp (by omega), nI_clamp (by omega), fC_wc hq, e3 _ _ hq, fC_wc hp, e3 _ _ hp]
  rfl
theorem fC_copy {b2 : Nat} (hne : b + 5 ≤ b2 ∨ b2 + 5 ≤ b) : fC (wI (wI (wI (cI (cI (cI (cI M (b2 + 1) 0 (b + 1) 0 96) (b2 + 2) 0 (b + 2) 0 96) (b2 + 3) 0 (b + 3) 0 4) (b2 + 4) 0 (b + 4) 0 4) b 4 (M.1 b2 4)) b 5 (M.1 b2 5)) b 6 (M.1 b2 6)) b = fun j => if j < 203 then fC M b2 j else fC M b j := by
  funext j
  rcases (show j = 0 ∨ j = 1 ∨ j = 2 ∨ (3 ≤ j ∧ j < 7) ∨ (7 ≤ j ∧ j < 11) ∨ (11 ≤ j ∧ j < 107) ∨ (107 ≤ j ∧ j < 203) ∨ 203 ≤ j by omega) with e | e | e | e | e | e | e | e <;> simp (disch := omega) only [fC, wI_1, cI_1, true_and, if_pos, if_neg, Nat.zero_add, Nat.sub_zero] <;> simp [e]
theorem c_X3_copyFrom {Q : zMem → Prop} {b2 : Nat} (hb : b ∈ iX3) (hb2 : b2 ∈ iX3) (hne : b + 5 ≤ b2 ∨ b2 + 5 ≤ b) (h : ∀ M2, fC M2 b = (fun j => if j < 203 then fC M b2 j else fC M b j) → Same (fun i => b ≤ i ∧ i < b + 5) M M2 → Q M2) : S_X3_copyFrom (d + 1) b b2 M (zU Q) := by
  refine t_X3_copyFrom hb hb2 ?_
  rintro M1 rfl M1 rfl M1 rfl M1 rfl M1 rfl M1 rfl M1 rfl
  refine zuu (h _ ?_ ((((((((Same.refl _ M).cI (by omega)).cI (by omega)).cI (by omega)).cI (by omega)).wI (by omega)).wI (by omega)).wI (by omega)))
  rw [← fC_copy hne]
  congr 4 <;> simp (disch := omega) only [wI_1, cI_1, if_pos, if_neg]
end
