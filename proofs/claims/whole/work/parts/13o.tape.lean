-- ===== end, feed =====
section
variable {d B b p q k m : Nat} {M M2 M3 : zMem} {N : zNm} {F G : Nat → Int32} {us us2 : List (Nat → Int32)} {x y z v : Int32}
/-- what the feeding of the tape may change -/
def TP (M M2 : zMem) : Prop := Same (fun z => z = 0 ∨ z = 1 ∨ z = 229 ∨ z = 230) M M2 ∧ (∀ j, j ≠ 1 → M2.1 0 j = M.1 0 j) ∧ ∀ j, j ≠ 0 → j ≠ 2 → M2.1 229 j = M.1 229 j
theorem TP.refl (M : zMem) : TP M M := ⟨Same.refl _ _, fun _ _ => rfl, fun _ _ _ => rfl⟩
theorem TP.trans (h : TP M M2) (h2 : TP M2 M3) : TP M M3 := ⟨h.1.trans h2.1, fun j a => (h2.2.1 j a).trans (h.2.1 j a), fun j a b => (h2.2.2 j a b).trans (h.2.2 j a b)⟩
theorem TP.w0 {w : Int32} : TP M (wI M 229 0 w) := ⟨(Same.refl _ M).wI (by omega), fun j _ => by rw [wI_ne _ (by omega)], fun j a _ => by rw [wI_1, if_neg (by omega)]⟩
theorem TP.w2 {w : Int32} : TP M (wI M 229 2 w) := ⟨(Same.refl _ M).wI (by omega), fun j _ => by rw [wI_ne _ (by omega)], fun j _ a => by rw [wI_1, if_neg (by omega)]⟩
theorem TP.w01 {w : Int32} : TP M (wI M 0 1 w) := ⟨(Same.refl _ M).wI (by omega), fun j a => by rw [wI_1, if_neg (by omega)], fun j _ _ => by rw [wI_ne _ (by omega)]⟩
theorem TP.w1 {j : Nat} {w : Int32} : TP M (wI M 1 j w) := ⟨(Same.refl _ M).wI (by omega), fun j _ => by rw [wI_ne _ (by omega)], fun j _ _ => by rw [wI_ne _ (by omega)]⟩
theorem TP.w230 {j : Nat} {w : Int32} : TP M (wI M 230 j w) := ⟨(Same.refl _ M).wI (by omega), fun j _ => by rw [wI_ne _ (by omega)], fun j _ _ => by rw [wI_ne _ (by omega)]⟩
theorem JA.tape (h : JA B M N F us) (hs : TP M M2) (ht : tapeJ M2) : JA B M2 N F us := by
  obtain ⟨h0, h1, h2, a1, a2, a3, a4, a5, a6, a7, a8, a9, a10⟩ := h
  have t : ∀ z, ¬ (z = 0 ∨ z = 1 ∨ z = 229 ∨ z = 230) → M2.1 z = M.1 z := fun z hz => hs.1.1 z hz
  have t2 : ∀ z, ¬ (z = 0 ∨ z = 1 ∨ z = 229 ∨ z = 230) → M2.2 z = M.2 z := fun z hz => hs.1.2 z hz
  have t9 := hs.2.2
  refine ⟨h0, JC_same h1 (fun z hz => t z (by omega)) (fun j _ => by rw [t 231 (by omega)]) (fun z hz => t z (by omega)), JU_same h2 (fun z z1 z2 => t z (by omega)) (t9 25 (by omega) (by omega)) (t 234 (by omega)), nmC_same a1 (fun z hz => t z (by omega)) (fun z hz => t2 z (by omega)), nmR_same a2 (fun j hj => by rw [t 231 (by omega)]) (t2 237 (by omega)) (fun z z1 z2 => t z (by omega)), sayJ_same a3 (t 15 (by omega)) (t 16 (by omega)) (fun j hj => by rw [t 231 (by omega)]), imgJ_same a4 (fun z z1 z2 => t z (by omega)) (fun z z1 z2 => t2 z (by omega)) (t 233 (by omega)) (t2 239 (by omega)) (t 240 (by omega)), ht, fltJ_same a6 (hs.2.1 16 (by omega)) (hs.2.1 17 (by omega)) (t9 10 (by omega) (by omega)) (t9 27 (by omega) (by omega)), ofrJ_same a7 (hs.2.1 13 (by omega)) (t 227 (by omega)) (t9 44 (by omega) (by omega)) (t 256 (by omega)), tagJ_same a8 (hs.2.1 15 (by omega)) (t 228 (by omega)) (t9 46 (by omega) (by omega)) (t 257 (by omega)), refJ_same a9 (by rw [t 217 (by omega)]) (t 219 (by omega)) (t9 49 (by omega) (by omega)) (t 259 (by omega)), tldJ_same a10 (fun j _ => by rw [t 222 (by omega)]) (t9 54 (by omega) (by omega)) (t 261 (by omega))⟩
theorem o_end (h : JA B M N F us) : S_X11_end d x M (zI fun r M1 => S_X12_end d x M1 (zI fun r2 M2 => eqJ B r r2 M2)) := by
  obtain ⟨tx, n, t0, t1, t2, t3, t4⟩ := h.2.2.2.2.2.2.2.1
  have h940 := t0.1
  refine t_X11_end ⟨fun e => zii ?_, fun e => ⟨fun e2 => ?_, fun e2 => zii ?_⟩⟩
  · exact t_X12_end (fun M1 e1 => ⟨fun _ => zii ⟨rfl, e1 ▸ h.w0.j⟩, fun q => absurd e q⟩)
  · intro M1 e1
    have q : inN x (n + 1) = true := by
      simp only [inN, Bool.and_eq_true, decide_eq_true_eq]
      rw [t1] at e2
      refine ⟨e, ?_⟩
      rw [Int32.le_iff_toInt_le, nI_toInt (by omega)] at e2
      rw [Int32.le_iff_toInt_le, nI_toInt (by omega)]
      omega
    obtain ⟨j, hj, ej⟩ := inN_of q (by omega)
    have w2 : M1.1 229 2 = M.1 229 2 := by rw [e1, wI_ne _ (by omega)]
    refine zii (t_X12_end (fun M2 f2 => ⟨fun q => absurd q e, fun _ => ⟨fun _ M3 f3 => zii ⟨rfl, JA.j (N := N) (F := F) (us := us) (h.tape ?_ ?_)⟩, fun q => absurd ?_ q⟩⟩))
    · rw [f3, f2, e1]; exact TP.w01.trans (TP.w0.trans TP.w2)
    · refine ⟨tx, j, ⟨by omega, fun i hi => t0.2 i (by omega)⟩, ?_, ?_, fun i hi => ?_, fun i hi => ?_⟩
      · rw [f3, wI_ne _ (by omega), f2, wI_ne _ (by omega), e1, wI_1, if_pos ⟨rfl, rfl⟩]; exact ej
      · rw [f3, wI_1, if_pos ⟨rfl, rfl⟩]; exact ej
      · rw [f3, wI_ne _ (by omega), f2, wI_ne _ (by omega), e1, wI_ne _ (by omega)]; exact t3 i (by omega)
      · rw [f3, wI_ne _ (by omega), f2, wI_ne _ (by omega), e1, wI_ne _ (by omega)]; exact t4 i (by omega)
    · rw [f2, wI_1, if_neg (by omega), w2, t2, ← t1]; exact e2
  · refine t_X12_end (fun M1 e1 => ⟨fun q => absurd q e, fun _ => ⟨fun q => absurd ?_ e2, fun _ => zii ⟨rfl, e1 ▸ h.w0.j⟩⟩⟩)
    rw [e1, wI_1, if_neg (by omega), t2, ← t1] at q
    exact q
/-- a byte of a number -/
def byS (x s : Int32) : Nat := tn (((Int32.toUInt32 x >>> (Int32.toUInt32 s &&& Int32.toUInt32 31)).toInt32) &&& 255)
theorem tn_self (x : Int32) : nI (tn x) = x := tn_inj (tn_nI (tn_lt x))
theorem byS_lt (x s : Int32) : byS x s < 256 := by
  unfold byS
  rw [tn_and]
  exact Nat.lt_of_le_of_lt Nat.and_le_right (by decide)
theorem byte_of (w : Int32) : (Int32.toInt8 ((Int32.toInt8 w).toInt32)).toInt32 &&& 255 = w &&& 255 := by
  apply b_ext
  intro i hi
  rw [b_and, b_and, b_255]
  by_cases h8 : i < 8
  · have e1 : ∀ u : Int32, bt ((Int32.toInt8 u).toInt32) i = bt u i := fun u => by
      unfold bt
      rw [Int8.toBitVec_toInt32, Int32.toBitVec_toInt8, BitVec.getLsbD_signExtend, decide_eq_true hi, if_pos h8, BitVec.getLsbD_signExtend, decide_eq_true h8, if_pos hi]
      rfl
    rw [e1, e1]
  · rw [decide_eq_false h8, Bool.and_false, Bool.and_false]
def shS : Nat → Int32
  | 0 => 24
  | 1 => 16
  | 2 => 8
  | 3 => 0
  | _ => -8
theorem shS_s : ∀ j, j < 4 → shS j + (-8) = shS (j + 1) ∧ ¬ shS j < 0 := by decide
/-- the bytes behind one another -/
def fdS (f : Nat → Nat) (n : Nat) (x : Int32) : Nat → Nat := fun i => if i < n then f i else byS x (shS (i - n))
theorem c_feedNumber {Q : zMem → Prop} {M0 : zMem} {n : Nat} {f : Nat → Nat} (hn : n + 4 ≤ 940) (h1 : M.1 0 1 = nI n) (hf : ∀ i, i < n → M.1 1 i &&& 255 = nI (f i)) (ho : TP M0 M) (h0 : M.1 229 = M0.1 229 ∧ M.1 230 = M0.1 230)
    (h : ∀ M2, M2.1 0 1 = nI (n + 4) → (∀ i, i < n + 4 → M2.1 1 i &&& 255 = nI (fdS f n x i)) → TP M0 M2 → (M2.1 229 = M0.1 229 ∧ M2.1 230 = M0.1 230) → Q M2) : S_X11_feedNumber d x M (zU Q) := by
  refine t_X11_feedNumber ?_
  have key : ∀ (c j : Nat) (M2 : zMem), j + c = 4 → M2.1 0 1 = nI (n + j) → (∀ i, i < n + j → M2.1 1 i &&& 255 = nI (fdS f n x i)) → TP M0 M2 → (M2.1 229 = M0.1 229 ∧ M2.1 230 = M0.1 230) → S_X11_feedNumber_3 d x (shS j) M2 (zU Q) := by
    intro c
    induction c with
    | zero =>
      intro j M2 hj a1 a2 a3 a4
      have e : j = 4 := by omega
      subst e
      exact t_X11_feedNumber_3 ⟨fun _ => zuu (h M2 a1 a2 a3 a4), fun w => absurd (by decide) w⟩
    | succ c ih =>
      intro j M2 hj a1 a2 a3 a4
      obtain ⟨s1, s2⟩ := shS_s j (by omega)
      refine t_X11_feedNumber_3 ⟨fun w => absurd w s2, fun _ => ?_⟩
      rw [a1, nI_clamp (by omega), s1]
      refine ⟨nIin (by omega) (by omega), fun M3 e3 M4 e4 => ?_⟩
      have k1 : M3.1 0 1 = nI (n + j) := by rw [e3, wI_ne _ (by omega)]; exact a1
      rw [k1, nI_1] at e4
      refine ih (j + 1) M4 (by omega) (by rw [e4, wI_1, if_pos ⟨rfl, rfl⟩]; rfl) (fun i hi => ?_) (a3.trans (by rw [e4, e3]; exact TP.w1.trans TP.w01)) ⟨by rw [e4, wI_ne _ (by omega), e3, wI_ne _ (by omega)]; exact a4.1, by rw [e4, wI_ne _ (by omega), e3, wI_ne _ (by omega)]; exact a4.2⟩
      rw [e4, wI_ne _ (by omega), e3, wI_1]
      by_cases ei : i = n + j
      · rw [if_pos ⟨rfl, ei⟩, byte_of]
        unfold fdS
        rw [if_neg (by omega), show i - n = j by omega]
        exact (tn_self _).symm
      · rw [if_neg (by omega)]; exact a2 i (by omega)
  refine key 4 0 M (by omega) h1 (fun i hi => ?_) ho h0
  unfold fdS
  rw [if_pos (by omega)]
  exact hf i (by omega)
theorem c_come {Q : zMem → Prop} {M0 : zMem} {n : Nat} {f : Nat → Nat} (hn : n + 4 ≤ 940) (h1 : M.1 229 2 = nI n) (hf : ∀ i, i < n → M.1 230 i = nI (f i)) (ho : TP M0 M) (h0 : M.1 0 = M0.1 0 ∧ M.1 1 = M0.1 1)
    (h : ∀ M2, M2.1 229 2 = nI (n + 4) → (∀ i, i < n + 4 → M2.1 230 i = nI (fdS f n x i)) → TP M0 M2 → (M2.1 0 = M0.1 0 ∧ M2.1 1 = M0.1 1) → Q M2) : S_X12_come d x M (zU Q) := by
  refine t_X12_come ?_
  have key : ∀ (c j : Nat) (M2 : zMem), j + c = 4 → M2.1 229 2 = nI (n + j) → (∀ i, i < n + j → M2.1 230 i = nI (fdS f n x i)) → TP M0 M2 → (M2.1 0 = M0.1 0 ∧ M2.1 1 = M0.1 1) → S_X12_come_3 d x (shS j) M2 (zU Q) := by
    intro c
    induction c with
    | zero =>
      intro j M2 hj a1 a2 a3 a4
      have e : j = 4 := by omega
      subst e
      exact t_X12_come_3 ⟨fun _ => zuu (h M2 a1 a2 a3 a4), fun w => absurd (by decide) w⟩
    | succ c ih =>
      intro j M2 hj a1 a2 a3 a4
      obtain ⟨s1, s2⟩ := shS_s j (by omega)
      refine t_X12_come_3 ⟨fun w => absurd w s2, fun _ => ?_⟩
      rw [a1, nI_clamp (by omega), s1]
      refine ⟨nIin (by omega) (by omega), fun M3 e3 M4 e4 => ?_⟩
      have k1 : M3.1 229 2 = nI (n + j) := by rw [e3, wI_ne _ (by omega)]; exact a1
      rw [k1, nI_1] at e4
      refine ih (j + 1) M4 (by omega) (by rw [e4, wI_1, if_pos ⟨rfl, rfl⟩]; rfl) (fun i hi => ?_) (a3.trans (by rw [e4, e3]; exact TP.w230.trans TP.w2)) ⟨by rw [e4, wI_ne _ (by omega), e3, wI_ne _ (by omega)]; exact a4.1, by rw [e4, wI_ne _ (by omega), e3, wI_ne _ (by omega)]; exact a4.2⟩
      rw [e4, wI_ne _ (by omega), e3, wI_1]
      by_cases ei : i = n + j
      · rw [if_pos ⟨rfl, ei⟩]
        unfold fdS
        rw [if_neg (by omega), show i - n = j by omega]
        exact (tn_self _).symm
      · rw [if_neg (by omega)]; exact a2 i (by omega)
  refine key 4 0 M (by omega) h1 (fun i hi => ?_) ho h0
  unfold fdS
  rw [if_pos (by omega)]
  exact hf i (by omega)
theorem fdS_lt {f : Nat → Nat} {n : Nat} (h : ∀ i, i < n → f i < 256) (x : Int32) : ∀ i, i < n + 4 → fdS f n x i < 256 := by
  intro i _
  unfold fdS
  split
  · exact h i (by assumption)
  · exact byS_lt _ _
theorem o_feed {x1 x2 x3 x4 x5 : Int32} (h : JA B M N F us) : S_X11_feed (d + 1) x1 x2 x3 x4 x5 M (zI fun r M1 => S_X12_feed (d + 1) x1 x2 x3 x4 x5 M1 (zI fun r2 M2 => eqJ B r r2 M2)) := by
  obtain ⟨tx, n, t0, t1, t2, t3, t4⟩ := h.2.2.2.2.2.2.2.1
  have h940 := t0.1
  have lim : (nI n + 20 ≤ 940) ↔ n + 20 ≤ 940 := by rw [show (20 : Int32) = nI 20 from rfl, nI_add, show (940 : Int32) = nI 940 from rfl, nI_leI (by omega) (by omega)]
  refine t_X11_feed ?_
  rw [t1, lim]
  refine ⟨fun e => ?_, fun e => zii ?_⟩
  · refine c_feedNumber (M0 := M) (n := n) (f := tx) (by omega) t1 t3 (TP.refl M) ⟨rfl, rfl⟩ (fun M1 a1 b1 o1 s1 => ?_)
    refine c_feedNumber (M0 := M) (by omega) a1 b1 o1 s1 (fun M2 a2 b2 o2 s2 => ?_)
    refine c_feedNumber (M0 := M) (by omega) a2 b2 o2 s2 (fun M3 a3 b3 o3 s3 => ?_)
    refine c_feedNumber (M0 := M) (by omega) a3 b3 o3 s3 (fun M4 a4 b4 o4 s4 => ?_)
    refine c_feedNumber (M0 := M) (by omega) a4 b4 o4 s4 (fun M5 a5 b5 o5 s5 => zii ?_)
    refine t_X12_feed (fun M6 e6 => ?_)
    have k2 : M6.1 229 2 = nI n := by rw [e6, wI_1, if_neg (by omega), s5.1]; exact t2
    have k3 : ∀ i, i < n → M6.1 230 i = nI (tx i) := fun i hi => by rw [e6, wI_ne _ (by omega), s5.2]; exact t4 i hi
    rw [k2, lim]
    refine ⟨fun _ => ?_, fun q => absurd e q⟩
    refine c_come (M0 := M6) (n := n) (f := tx) (by omega) k2 k3 (TP.refl M6) ⟨rfl, rfl⟩ (fun M7 a7 b7 o7 s7 => ?_)
    refine c_come (M0 := M6) (by omega) a7 b7 o7 s7 (fun M8 a8 b8 o8 s8 => ?_)
    refine c_come (M0 := M6) (by omega) a8 b8 o8 s8 (fun M9 a9 b9 o9 s9 => ?_)
    refine c_come (M0 := M6) (by omega) a9 b9 o9 s9 (fun Ma aa ba oa sa => ?_)
    refine c_come (M0 := M6) (by omega) aa ba oa sa (fun Mb ab bb ob sb => zii ⟨by rw [ab, a5], JA.j (N := N) (F := F) (us := us) (h.tape ?_ ?_)⟩)
    · exact o5.trans ((e6 ▸ TP.w0).trans ob)
    · refine ⟨_, n + 4 + 4 + 4 + 4 + 4, ⟨by omega, fdS_lt (fdS_lt (fdS_lt (fdS_lt (fdS_lt t0.2 x1) x2) x3) x4) x5⟩, ?_, ab, fun i hi => ?_, bb⟩
      · rw [sb.1, e6, wI_ne _ (by omega)]; exact a5
      · rw [sb.2, e6, wI_ne _ (by omega)]; exact b5 i hi
  · refine t_X12_feed (fun M1 e1 => ?_)
    have k2 : M1.1 229 2 = nI n := by rw [e1, wI_1, if_neg (by omega)]; exact t2
    rw [k2, lim]
    exact ⟨fun q => absurd q e, fun _ => zii ⟨rfl, e1 ▸ h.w0.j⟩⟩
end
