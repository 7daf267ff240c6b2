-- ===== the calls that only read =====
def JA (B : Nat) (M : zMem) (N : zNm) (F : Nat → Int32) (us : List (Nat → Int32)) : Prop := okN N ∧ JC B M N F ∧ JU B M N us ∧ JO B M N
/-- both answer alike, and all stays so -/
def eqJ (B : Nat) (r r2 : Int32) (M : zMem) : Prop := r2 = r ∧ J B M
theorem nI_inj {i j : Nat} (hi : i < 2 ^ 31) (hj : j < 2 ^ 31) (h : nI i = nI j) : i = j := by
  have := congrArg Int32.toInt h
  rw [nI_toInt hi, nI_toInt hj] at this
  omega
theorem JA.ro {B : Nat} {M M2 : zMem} {N : zNm} {F : Nat → Int32} {us : List (Nat → Int32)} (h : JA B M N F us) (hs : RO M M2) : JA B M2 N F us := by
  obtain ⟨h0, h1, h2, h3⟩ := h
  exact ⟨h0, JC_same h1 (fun z hz => hs.1.1 z (by omega)) (fun j hj => hs.2.2.2.2 j (by omega)) (fun z hz => hs.1.1 z (by omega)), JU_same h2 (fun z z1 z2 => hs.1.1 z (by omega)) (hs.2.2.2.1 25 (by omega)) (hs.1.1 234 (by omega)), JO_same h3 hs.so⟩
section
variable {d B : Nat} {M M2 : zMem} {N : zNm} {F : Nat → Int32} {us : List (Nat → Int32)} {Q : Int32 → zMem → Prop} {x y z : Int32}
theorem JA.j (h : JA B M N F us) : J B M := ⟨N, F, us, h⟩
theorem JA.pc (h : JA B M N F us) : PC M 63 (plOf N) F := h.2.1.1
theorem JA.pr (h : JA B M N F us) : PR M (plOf N) F := h.2.1.2.1
theorem JA.c3 (h : JA B M N F us) : M.1 3 3 = nI (nP (plOf N)) := h.pc.2.1.1
theorem JA.c4 (h : JA B M N F us) : M.1 3 4 = nI (mP (plOf N)) := h.pc.2.1.2.1
theorem JA.r0 (h : JA B M N F us) : M.1 231 0 = nI (nP (plOf N)) := h.pr.2.1.1
theorem JA.r1 (h : JA B M N F us) : M.1 231 1 = nI (mP (plOf N)) := h.pr.2.1.2.1
theorem JA.n24 (h : JA B M N F us) : nP (plOf N) ≤ 24 := h.pc.1.1
theorem JA.m4 (h : JA B M N F us) : mP (plOf N) ≤ 4 := h.pc.1.2.1
theorem JA.bd (h : JA B M N F us) (hB : B ≤ 1000000000) : bdF F := bdG_bdF h.2.1.2.2 hB
theorem RO.w00 {x : Int32} : RO M (wI M 229 0 x) := (RO.refl M).w0
theorem JA.w0 (h : JA B M N F us) {x : Int32} : JA B (wI M 229 0 x) N F us := h.ro RO.w00
-- fault, faultLine
theorem o_fault (h : JA B M N F us) : S_X11_fault d M (zI fun r M1 => S_X12_fault d M1 (zI fun r2 M2 => eqJ B r r2 M2)) :=
  t_X11_fault (zii (t_X12_fault (fun M1 e => zii ⟨by rw [e, wI_1, if_neg (by omega)]; exact h.2.2.2.2.2.2.2.2.1.1.symm, e ▸ h.w0.j⟩)))
theorem o_faultLine (h : JA B M N F us) : S_X11_faultLine d M (zI fun r M1 => S_X12_faultLine d M1 (zI fun r2 M2 => eqJ B r r2 M2)) :=
  t_X11_faultLine (zii (t_X12_faultLine (fun M1 e => zii ⟨by rw [e, wI_1, if_neg (by omega)]; exact h.2.2.2.2.2.2.2.2.1.2.symm, e ▸ h.w0.j⟩)))
-- count
theorem o_count (h : JA B M N F us) : S_X11_count d x M (zI fun r M1 => S_X12_count d x M1 (zI fun r2 M2 => eqJ B r r2 M2)) := by
  obtain ⟨tx, nt, -, t1, t2, -, -⟩ := h.2.2.2.2.2.2.2.1
  obtain ⟨a0, a1, a2, a3, a4, -, -⟩ := h.2.2.2.1.1
  obtain ⟨b0, b1, b2, b3, b4, -, -⟩ := h.2.2.2.2.1.1
  have hm : ∀ r : Int32, ∀ j, eqJ B (M.1 231 j) r (wI M 229 0 0) ↔ (M.1 231 j = r) := fun r j => ⟨fun q => q.1.symm, fun q => ⟨q.symm, h.w0.j⟩⟩
  have w : ∀ j, (wI M 229 0 0).1 231 j = M.1 231 j := fun j => by rw [wI_ne _ (by omega)]
  refine t_X11_count ⟨fun e => zii ?_, fun e => zii ?_, fun e => zii ?_, fun e => zii ?_, fun e => zii ?_, fun e => zii ?_, fun e0 e1 e2 e3 e4 e5 => zii ?_⟩
  · exact t_X12_count (fun M1 e1 => ⟨fun _ => zii ⟨by rw [e1, w, a3, b3], e1 ▸ h.w0.j⟩, fun q => absurd (e ▸ q) (by decide), fun q => absurd (e ▸ q) (by decide), fun q => absurd (e ▸ q) (by decide), fun q => absurd (e ▸ q) (by decide), fun q => absurd (e ▸ q) (by decide), fun q => absurd e q⟩)
  · exact t_X12_count (fun M1 e1 => ⟨fun q => absurd (e ▸ q) (by decide), fun _ => zii ⟨by rw [e1, w, a4, b4], e1 ▸ h.w0.j⟩, fun q => absurd (e ▸ q) (by decide), fun q => absurd (e ▸ q) (by decide), fun q => absurd (e ▸ q) (by decide), fun q => absurd (e ▸ q) (by decide), fun _ q => absurd e q⟩)
  · exact t_X12_count (fun M1 e1 => ⟨fun q => absurd (e ▸ q) (by decide), fun q => absurd (e ▸ q) (by decide), fun _ => zii ⟨by rw [e1, w, a0, b0], e1 ▸ h.w0.j⟩, fun q => absurd (e ▸ q) (by decide), fun q => absurd (e ▸ q) (by decide), fun q => absurd (e ▸ q) (by decide), fun _ _ q => absurd e q⟩)
  · exact t_X12_count (fun M1 e1 => ⟨fun q => absurd (e ▸ q) (by decide), fun q => absurd (e ▸ q) (by decide), fun q => absurd (e ▸ q) (by decide), fun _ => zii ⟨by rw [e1, w, a1, b1], e1 ▸ h.w0.j⟩, fun q => absurd (e ▸ q) (by decide), fun q => absurd (e ▸ q) (by decide), fun _ _ _ q => absurd e q⟩)
  · exact t_X12_count (fun M1 e1 => ⟨fun q => absurd (e ▸ q) (by decide), fun q => absurd (e ▸ q) (by decide), fun q => absurd (e ▸ q) (by decide), fun q => absurd (e ▸ q) (by decide), fun _ => zii ⟨by rw [e1, w, a2, b2], e1 ▸ h.w0.j⟩, fun q => absurd (e ▸ q) (by decide), fun _ _ _ _ q => absurd e q⟩)
  · exact t_X12_count (fun M1 e1 => ⟨fun q => absurd (e ▸ q) (by decide), fun q => absurd (e ▸ q) (by decide), fun q => absurd (e ▸ q) (by decide), fun q => absurd (e ▸ q) (by decide), fun q => absurd (e ▸ q) (by decide), fun _ => zii ⟨by rw [e1, wI_1, if_neg (by omega), t1, t2], e1 ▸ h.w0.j⟩, fun _ _ _ _ _ q => absurd e q⟩)
  · exact t_X12_count (fun M1 f1 => ⟨fun q => absurd q e0, fun q => absurd q e1, fun q => absurd q e2, fun q => absurd q e3, fun q => absurd q e4, fun q => absurd q e5, fun _ _ _ _ _ _ => zii ⟨rfl, f1 ▸ h.w0.j⟩⟩)
-- byteAt, offerAt
theorem o_byteAt (h : JA B M N F us) : S_X11_byteAt (d + 1) x M (zI fun r M1 => S_X12_byteAt (d + 1) x M1 (zI fun r2 M2 => eqJ B r r2 M2)) := by
  obtain ⟨k, k1, k2, k3, k4⟩ := h.2.2.2.2.2.2.2.2.2.2.1
  have model : ∀ v, (inN x k = false → v = -1) → (∀ i, i < k → x = nI i → M.1 257 i = v) → S_X12_byteAt (d + 1) x M (zI fun r2 M2 => eqJ B v r2 M2) := by
    intro v v0 v1
    refine t_X12_byteAt (fun M1 e1 => c_X12_isIn ?_)
    rw [show M1.1 229 46 = nI k by rw [e1, wI_1, if_neg (by omega)]; exact k3, inN_pred (by omega)]
    refine ⟨fun q => zii ⟨(v0 q).symm, e1 ▸ h.w0.j⟩, fun q => ?_⟩
    obtain ⟨i, hi, e⟩ := inN_of q (by omega)
    rw [e, nI_clamp (by omega)]
    exact ⟨nIin (by omega) (by omega), zii ⟨by rw [e1, wI_ne _ (by omega)]; exact v1 i hi e, e1 ▸ h.w0.j⟩⟩
  refine t_X11_byteAt ⟨fun e => zii (model _ (fun _ => rfl) (fun i hi e2 => ?_)), fun e => ⟨fun e2 => zii (model _ (fun _ => rfl) (fun i hi e3 => ?_)), fun e2 => ?_⟩⟩
  · rw [e2] at e; exact absurd e (nI_pos (by omega))
  · rw [e3, k2] at e2; exact absurd e2 (nI_ge hi (by omega))
  · rw [k2] at e2
    have q : inN x k = true := by simp [inN, e, e2]
    obtain ⟨i, hi, e3⟩ := inN_of q (by omega)
    subst e3
    rw [nI_clamp (by omega)]
    refine ⟨nIin (by omega) (by omega), zii (model _ (fun w => ?_) (fun j hj e4 => ?_))⟩
    · rw [q] at w; cases w
    · have : i = j := nI_inj (by omega) (by omega) e4
      subst this
      exact (k4 i hi).symm
theorem o_offerAt (h : JA B M N F us) : S_X11_offerAt (d + 1) x M (zI fun r M1 => S_X12_offerAt (d + 1) x M1 (zI fun r2 M2 => eqJ B r r2 M2)) := by
  obtain ⟨k, k1, k2, k3, k4⟩ := h.2.2.2.2.2.2.2.2.2.1
  have model : ∀ v, (inN x k = false → v = -1) → (∀ i, i < k → x = nI i → M.1 256 i = v) → S_X12_offerAt (d + 1) x M (zI fun r2 M2 => eqJ B v r2 M2) := by
    intro v v0 v1
    refine t_X12_offerAt (fun M1 e1 => c_X12_isIn ?_)
    rw [show M1.1 229 44 = nI k by rw [e1, wI_1, if_neg (by omega)]; exact k3, inN_pred (by omega)]
    refine ⟨fun q => zii ⟨(v0 q).symm, e1 ▸ h.w0.j⟩, fun q => ?_⟩
    obtain ⟨i, hi, e⟩ := inN_of q (by omega)
    rw [e, nI_clamp (by omega)]
    exact ⟨nIin (by omega) (by omega), zii ⟨by rw [e1, wI_ne _ (by omega)]; exact v1 i hi e, e1 ▸ h.w0.j⟩⟩
  refine t_X11_offerAt ⟨fun e => zii (model _ (fun _ => rfl) (fun i hi e2 => ?_)), fun e => ⟨fun e2 => zii (model _ (fun _ => rfl) (fun i hi e3 => ?_)), fun e2 => ?_⟩⟩
  · rw [e2] at e; exact absurd e (nI_pos (by omega))
  · rw [e3, k2] at e2; exact absurd e2 (nI_ge hi (by omega))
  · rw [k2] at e2
    have q : inN x k = true := by simp [inN, e, e2]
    obtain ⟨i, hi, e3⟩ := inN_of q (by omega)
    subst e3
    rw [nI_clamp (by omega)]
    refine ⟨nIin (by omega) (by omega), zii (model _ (fun w => ?_) (fun j hj e4 => ?_))⟩
    · rw [q] at w; cases w
    · have : i = j := nI_inj (by omega) (by omega) e4
      subst this
      exact (k4 i hi).symm
-- refused, told
theorem o_refused (h : JA B M N F us) : S_X11_refused (d + 1) x M (zI fun r M1 => S_X12_refused (d + 1) x M1 (zI fun r2 M2 => eqJ B r r2 M2)) := by
  obtain ⟨k1, k2⟩ := h.2.2.2.2.2.2.2.2.2.2.2.1
  refine t_X11_refused (t_X2_refusedBy ⟨fun e => zii (zii ?_), fun e => ⟨fun e2 => zii (zii ?_), fun e2 => ⟨fun e3 => zii (zii ?_), fun e3 => ?_⟩⟩⟩)
  · refine t_X12_refused (fun M1 e1 => ⟨fun _ => zii ⟨rfl, e1 ▸ h.w0.j⟩, fun q => absurd ?_ q⟩)
    rw [e1, wI_1, if_neg (by omega), ← k1]; exact e
  · refine t_X12_refused (fun M1 e1 => ⟨fun q => absurd ?_ e, fun q => c_X12_isIn ⟨fun _ => zii ⟨rfl, e1 ▸ h.w0.j⟩, fun q2 => ?_⟩⟩)
    · rw [e1, wI_1, if_neg (by omega), ← k1] at q; exact q
    · simp [e2] at q2
  · refine t_X12_refused (fun M1 e1 => ⟨fun q => absurd ?_ e, fun q => c_X12_isIn ⟨fun _ => zii ⟨rfl, e1 ▸ h.w0.j⟩, fun q2 => ?_⟩⟩)
    · rw [e1, wI_1, if_neg (by omega), ← k1] at q; exact q
    · simp [e3] at q2
  · have q : inN x 4 = true := by
      simp only [inN, Bool.and_eq_true, decide_eq_true_eq]
      rw [Int32.lt_iff_toInt_lt] at e2 e3
      rw [Int32.lt_iff_toInt_lt, Int32.le_iff_toInt_le]
      have a1 : (1 : Int32).toInt = 1 := by decide
      have a2 : (3 : Int32).toInt = 3 := by decide
      have a3 : (0 : Int32).toInt = 0 := by decide
      have a4 : (nI 4).toInt = 4 := by decide
      omega
    obtain ⟨i, hi, e4⟩ := inN_of q (by omega)
    subst e4
    rw [nI_clamp (by omega)]
    refine ⟨nIin hi (by omega), zii (zii (t_X12_refused (fun M1 e1 => ⟨fun q => absurd ?_ e, fun q => c_X12_isIn ⟨fun q2 => ?_, fun _ => ⟨nIin hi (by omega), zii ⟨?_, e1 ▸ h.w0.j⟩⟩⟩⟩)))⟩
    · rw [e1, wI_1, if_neg (by omega), ← k1] at q; exact q
    · simp [e2, e3] at q2
    · rw [nI_clamp (by omega), e1, wI_ne _ (by omega)]; exact (k2 i hi).symm
theorem o_told (h : JA B M N F us) : S_X11_told (d + 1) x M (zI fun r M1 => S_X12_told (d + 1) x M1 (zI fun r2 M2 => eqJ B r r2 M2)) := by
  obtain ⟨k1, k2, k3, k4, k5⟩ := h.2.2.2.2.2.2.2.2.2.2.2.2
  have model : ¬ M.1 222 7 = 0 → ∀ i v, i < 4 → M.1 261 i = v → S_X12_told (d + 1) (nI i) M (zI fun r2 M2 => eqJ B v r2 M2) := by
    intro h7 i v hi hv
    refine t_X12_told (fun M1 e1 => ⟨fun q => absurd ?_ h7, fun q => c_X12_isIn ⟨fun q2 => ?_, fun _ => ⟨nIin hi (by omega), zii ⟨?_, e1 ▸ h.w0.j⟩⟩⟩⟩)
    · rw [e1, wI_1, if_neg (by omega), ← k1] at q; exact q
    · rcases (show i = 0 ∨ i = 1 ∨ i = 2 ∨ i = 3 by omega) with rfl | rfl | rfl | rfl <;> exact absurd q2 (by decide)
    · rw [nI_clamp (by omega), e1, wI_ne _ (by omega)]; exact hv
  refine t_X11_told (t_X0_tell ⟨fun e => ⟨fun e2 => zii (zii ?_), fun e2 => zii (zii ?_), fun e2 => zii (zii ?_), fun e2 => zii (zii ?_), fun e0 e1 e2 e3 => zii (zii ?_)⟩, fun e => zii (zii ?_)⟩)
  · rw [e2]; exact model e 0 _ (by omega) k2.symm
  · rw [e2]; exact model e 1 _ (by omega) k3.symm
  · rw [e2]; exact model e 2 _ (by omega) k4.symm
  · rw [e2]; exact model e 3 _ (by omega) k5.symm
  · refine t_X12_told (fun M1 f1 => ⟨fun q => zii ⟨rfl, f1 ▸ h.w0.j⟩, fun q => c_X12_isIn ⟨fun _ => zii ⟨rfl, f1 ▸ h.w0.j⟩, fun q2 => ?_⟩⟩)
    simp only [Bool.and_eq_true, decide_eq_true_eq] at q2
    have q3 : inN x 4 = true := by
      simp only [inN, Bool.and_eq_true, decide_eq_true_eq]
      refine ⟨q2.1, ?_⟩
      have q4 := q2.2
      rw [Int32.lt_iff_toInt_lt] at q4
      rw [Int32.le_iff_toInt_le]
      have a2 : (3 : Int32).toInt = 3 := by decide
      have a4 : (nI 4).toInt = 4 := by decide
      omega
    obtain ⟨i, hi, e4⟩ := inN_of q3 (by omega)
    subst e4
    rcases (show i = 0 ∨ i = 1 ∨ i = 2 ∨ i = 3 by omega) with rfl | rfl | rfl | rfl
    · exact absurd rfl e0
    · exact absurd rfl e1
    · exact absurd rfl e2
    · exact absurd rfl e3
  · refine t_X12_told (fun M1 f1 => ⟨fun q => zii ⟨rfl, f1 ▸ h.w0.j⟩, fun q => absurd ?_ q⟩)
    rw [f1, wI_1, if_neg (by omega), ← k1]; exact e
end
