-- ===== the class's reader: the next token =====
theorem tk_ne {k j : Nat} {r : Nat × List Nat × Nat} {A : Prop} (h : k ≠ j) (q : ((k, r) : zTk).1 = j) : A := absurd q h
section
variable {d n most a : Nat} {M : zMem} {tx : Nat → Nat}
theorem c_X6_findWord {Q : Int32 → zMem → Prop} {l : List Nat} (hl : wdOK l) (h : Q (match wix l with
    | some i => nI i
    | none => -1) M) : S_X6_findWord d (lN (pk7 l)) M (zI Q) := c_findWord hl h
theorem RdC_w {M2 : zMem} (h : RdC M tx n most a) (h1 : M2.1 1 = M.1 1) (h2 : M2.1 220 1 = M.1 220 1) (h3 : M2.1 220 2 = M.1 220 2) {b : Nat} (h4 : M2.1 220 3 = nI b) (hb : b ≤ n) : RdC M2 tx n most b := by
  obtain ⟨a1, a2, a3, a4, a5, a6, a7⟩ := h
  exact ⟨a1, fun i hi => by rw [h1]; exact a2 i hi, by rw [h2]; exact a3, by rw [h3]; exact a4, a5, h4, hb⟩
theorem c_X6_signAt {Q : Int32 → zMem → Prop} {i : Nat} (hR : RdC M tx n most a) (hi : i < n) (h : Q (nI (tx i)) M) : S_X6_signAt d (nI i) M (zI Q) := by
  have hn := hR.1.1
  refine t_X6_signAt ⟨fun q => absurd q (nI_pos (by omega)), fun _ => ⟨fun q => absurd q (leN hR.2.2.1 hi (by omega)), fun _ => ⟨fun q => absurd q (by rw [show (940 : Int32) = nI 940 from rfl]; exact nI_ge (by omega) (by omega)), fun _ => ⟨nIin (by omega) (by omega), zii ?_⟩⟩⟩⟩
  rw [nI_clamp (by omega), hR.2.1 i hi]
  exact h
theorem c_isL {Q : Bool → zMem → Prop} {c : Nat} (hc : c < 256) (h : Q (isL c) M) : S_X6_isLetter d (nI c) M (zB Q) := by
  refine t_X6_isLetter ⟨fun e => zbf ?_, fun e => ⟨fun e2 => zbf ?_, fun e2 => zbt ?_⟩⟩
  · rw [show (97 : Int32) = nI 97 from rfl, nI_ltI (by omega) (by omega)] at e
    rw [show isL c = false from Bool.eq_false_iff.mpr (fun q => by rw [isL_iff] at q; omega)] at h; exact h
  · rw [show (122 : Int32) = nI 122 from rfl, nI_ltI (by omega) (by omega)] at e2
    rw [show isL c = false from Bool.eq_false_iff.mpr (fun q => by rw [isL_iff] at q; omega)] at h; exact h
  · rw [show (97 : Int32) = nI 97 from rfl, nI_ltI (by omega) (by omega)] at e
    rw [show (122 : Int32) = nI 122 from rfl, nI_ltI (by omega) (by omega)] at e2
    rw [show isL c = true from isL_iff.mpr ⟨by omega, by omega⟩] at h; exact h
theorem c_isD {Q : Bool → zMem → Prop} {c : Nat} (hc : c < 256) (h : Q (isD c) M) : S_X6_isDigit d (nI c) M (zB Q) := by
  refine t_X6_isDigit ⟨fun e => zbf ?_, fun e => ⟨fun e2 => zbf ?_, fun e2 => zbt ?_⟩⟩
  · rw [show (48 : Int32) = nI 48 from rfl, nI_ltI (by omega) (by omega)] at e
    rw [show isD c = false from Bool.eq_false_iff.mpr (fun q => by rw [isD_iff] at q; omega)] at h; exact h
  · rw [show (57 : Int32) = nI 57 from rfl, nI_ltI (by omega) (by omega)] at e2
    rw [show isD c = false from Bool.eq_false_iff.mpr (fun q => by rw [isD_iff] at q; omega)] at h; exact h
  · rw [show (48 : Int32) = nI 48 from rfl, nI_ltI (by omega) (by omega)] at e
    rw [show (57 : Int32) = nI 57 from rfl, nI_ltI (by omega) (by omega)] at e2
    rw [show isD c = true from isD_iff.mpr ⟨by omega, by omega⟩] at h; exact h
theorem c_isL2 {Q : Bool → zMem → Prop} {c : Nat} (hc : c < 256) (h : Q (isL c) M) : S_X12_isLetter d (nI c) M (zB Q) := by
  refine t_X12_isLetter ⟨fun e => zbf ?_, fun e => ⟨fun e2 => zbf ?_, fun e2 => zbt ?_⟩⟩
  · rw [show (97 : Int32) = nI 97 from rfl, nI_ltI (by omega) (by omega)] at e
    rw [show isL c = false from Bool.eq_false_iff.mpr (fun q => by rw [isL_iff] at q; omega)] at h; exact h
  · rw [show (122 : Int32) = nI 122 from rfl, nI_ltI (by omega) (by omega)] at e2
    rw [show isL c = false from Bool.eq_false_iff.mpr (fun q => by rw [isL_iff] at q; omega)] at h; exact h
  · rw [show (97 : Int32) = nI 97 from rfl, nI_ltI (by omega) (by omega)] at e
    rw [show (122 : Int32) = nI 122 from rfl, nI_ltI (by omega) (by omega)] at e2
    rw [show isL c = true from isL_iff.mpr ⟨by omega, by omega⟩] at h; exact h
theorem c_isD2 {Q : Bool → zMem → Prop} {c : Nat} (hc : c < 256) (h : Q (isD c) M) : S_X12_isDigit d (nI c) M (zB Q) := by
  refine t_X12_isDigit ⟨fun e => zbf ?_, fun e => ⟨fun e2 => zbf ?_, fun e2 => zbt ?_⟩⟩
  · rw [show (48 : Int32) = nI 48 from rfl, nI_ltI (by omega) (by omega)] at e
    rw [show isD c = false from Bool.eq_false_iff.mpr (fun q => by rw [isD_iff] at q; omega)] at h; exact h
  · rw [show (57 : Int32) = nI 57 from rfl, nI_ltI (by omega) (by omega)] at e2
    rw [show isD c = false from Bool.eq_false_iff.mpr (fun q => by rw [isD_iff] at q; omega)] at h; exact h
  · rw [show (48 : Int32) = nI 48 from rfl, nI_ltI (by omega) (by omega)] at e
    rw [show (57 : Int32) = nI 57 from rfl, nI_ltI (by omega) (by omega)] at e2
    rw [show isD c = true from isD_iff.mpr ⟨by omega, by omega⟩] at h; exact h
/-- what the reader changes of itself when it goes on -/
def NxC (M M2 : zMem) : Prop := Same (fun z => z = 220) M M2 ∧ ∀ j, j < 3 ∨ 9 < j → M2.1 220 j = M.1 220 j
theorem NxC.refl (M : zMem) : NxC M M := ⟨Same.refl _ _, fun _ _ => rfl⟩
theorem NxC.trans {M M2 M3 : zMem} (h : NxC M M2) (h2 : NxC M2 M3) : NxC M M3 := ⟨h.1.trans h2.1, fun j hj => (h2.2 j hj).trans (h.2 j hj)⟩
theorem NxC.w {M M2 : zMem} (h : NxC M M2) {j : Nat} {x : Int32} (h1 : 3 ≤ j) (h2 : j ≤ 9) : NxC M (wI M2 220 j x) := ⟨h.1.wI rfl, fun i hi => by rw [wI_1, if_neg (by omega)]; exact h.2 i hi⟩
theorem NxC.l {M M2 : zMem} (h : NxC M M2) {j : Nat} {x : Int64} : NxC M (wL M2 220 j x) := ⟨h.1.wL rfl, h.2⟩
theorem RdC_nx {M2 : zMem} (h : RdC M tx n most a) (hS : NxC M M2) {b : Nat} (h4 : M2.1 220 3 = nI b) (hb : b ≤ n) : RdC M2 tx n most b := RdC_w h (hS.1.1 1 (by omega)) (hS.2 1 (by omega)) (hS.2 2 (by omega)) h4 hb
def cnt (p : Nat → Bool) (s : List Nat) : Nat := (s.filter p).length
theorem cnt_s (p : Nat → Bool) (s : List Nat) (c : Nat) : cnt p (s ++ [c]) = cnt p s + (if p c = true then 1 else 0) := by
  unfold cnt
  rw [List.filter_append, List.length_append]
  by_cases h : p c = true <;> simp [h]
theorem cnt_le (p : Nat → Bool) (s : List Nat) : cnt p s ≤ s.length := List.length_filter_le _ _
theorem isL_D {c : Nat} (h : isL c = true) : isD c = false := Bool.eq_false_iff.mpr (fun q => by rw [isL_iff] at h; rw [isD_iff] at q; omega)
/-- in a row of letters and digits: without digits all are letters -/
theorem cnt_LD : ∀ s : List Nat, s.all isA = true → cnt isL s + cnt isD s = s.length ∧ (cnt isD s = 0 ↔ s.all isL = true) ∧ (cnt isL s = 0 ↔ s.all isD = true) := by
  refine snocI (P := fun s => s.all isA = true → cnt isL s + cnt isD s = s.length ∧ (cnt isD s = 0 ↔ s.all isL = true) ∧ (cnt isL s = 0 ↔ s.all isD = true)) (fun _ => by simp [cnt]) (fun s c ih h => ?_)
  rw [all_snoc, Bool.and_eq_true] at h
  obtain ⟨h1, h2, h3⟩ := ih h.1
  have hc := h.2
  rw [cnt_s, cnt_s, List.length_append, List.length_singleton, all_snoc, all_snoc, Bool.and_eq_true, Bool.and_eq_true]
  unfold isA at hc
  rw [Bool.or_eq_true] at hc
  rcases hc with hc | hc
  · have hd := isL_D hc
    rw [if_pos hc, if_neg (by rw [hd]; decide)]
    refine ⟨by omega, ?_, ?_⟩
    · rw [Nat.add_zero, h2]; exact ⟨fun q => ⟨q, hc⟩, fun q => q.1⟩
    · exact ⟨fun q => by omega, fun q => by rw [hd] at q; exact absurd q.2 (by decide)⟩
  · have hl : isL c = false := Bool.eq_false_iff.mpr (fun q => by rw [isL_D q] at hc; cases hc)
    rw [if_pos hc, if_neg (by rw [hl]; decide)]
    refine ⟨by omega, ?_, ?_⟩
    · exact ⟨fun q => by omega, fun q => by rw [hl] at q; exact absurd q.2 (by decide)⟩
    · rw [Nat.add_zero, h3]; exact ⟨fun q => ⟨q, hc⟩, fun q => q.1⟩
theorem far_s {p : Nat → Bool} {c b : Nat} (h : p (tx b) = true) : far p tx (c + 1) b = far p tx c (b + 1) := if_pos h
theorem far_e {p : Nat → Bool} {c b : Nat} (h : p (tx b) = false) : far p tx (c + 1) b = b := if_neg (by rw [h]; decide)
theorem wd_of {s : List Nat} (h0 : s ≠ []) (h1 : s.all isL = true) (h2 : s.length ≤ 7) : wdOK s := ⟨List.length_pos_iff.mpr h0, h2, fun c hc => isL_iff.mp (List.all_eq_true.mp h1 c hc)⟩
/-- behind a run: what it was -/
theorem runC_end {Q : zMem → Prop} {s : List Nat} {b : Nat} (hR : RdC M tx n most b) (hA : s.all isA = true) (h0 : s ≠ []) (hl : s.length ≤ 940) (e5 : M.1 220 5 = nI a) (ha : a ≤ 940) (e6 : M.1 220 6 = -1) (e9 : M.1 220 9 = 0) (e7 : M.2 220 7 = namC s) (e8 : M.1 220 8 = numC s)
    (h : ∀ M2, NxC M M2 → RdC M2 tx n most b → TkC M2 n most (runT a s) → Q M2) : S_X6_readRun_121 (d + 1) (nI (cnt isL s)) (nI (cnt isD s)) M (zU Q) := by
  obtain ⟨k1, k2, k3⟩ := cnt_LD s hA
  have c1 := cnt_le isL s
  have c2 := cnt_le isD s
  refine t_X6_readRun_121 ?_
  rintro M1 rfl
  have S1 : NxC M (wI M 220 4 1) := (NxC.refl M).w (by omega) (by omega)
  have at3 : ∀ {N : zMem}, NxC M N → N.1 220 3 = M.1 220 3 → RdC N tx n most b := fun hS e => RdC_nx hR hS (by rw [e]; exact hR.2.2.2.2.2.1) hR.2.2.2.2.2.2
  have w3 : ∀ (N : zMem) (j : Nat) (x : Int32), j ≠ 3 → (wI N 220 j x).1 220 3 = N.1 220 3 := fun N j x hj => by rw [wI_1, if_neg (by omega)]
  -- not a word: a number, or nothing
  have other : ¬ (s.all isL = true ∧ s.length ≤ 7) → S_X6_readRun_183 (d + 1) (nI (cnt isL s)) (nI (cnt isD s)) (wI M 220 4 1) (zU Q) := by
    intro hno
    have none1 : ¬ (s.all isD = true ∧ s.length ≤ 3) → Q (wI M 220 4 1) := by
      intro hno2
      have e : runT a s = (1, a, [], 0) := by unfold runT; rw [if_neg hno, if_neg hno2]
      rw [e] at h
      refine h _ S1 (at3 S1 (w3 _ _ _ (by omega))) ⟨?_, ha, by show 1 ≤ 4; omega, tk_ne (by decide), fun _ => ⟨Or.inr ?_, ?_, ?_⟩, tk_ne (by decide), tk_ne (by decide), tk_ne (by decide)⟩
      · rw [wI_1, if_neg (by omega)]; exact e5
      · rw [wI_1, if_pos ⟨rfl, rfl⟩]
      · rw [wI_1, if_neg (by omega)]; exact e6
      · rw [wI_1, if_neg (by omega)]; exact e9
    refine t_X6_readRun_183 ⟨fun q => zuu (none1 (fun w => q ?_)), fun q => ⟨fun q2 => zuu (none1 (fun w => ?_)), fun q2 => ?_⟩⟩
    · rw [k3.mpr w.1]; rfl
    · rw [show (3 : Int32) = nI 3 from rfl, nI_ltI (by omega) (by omega)] at q2
      have := k3.mpr w.1
      omega
    · rintro M2 rfl
      have q0 : cnt isL s = 0 := (nI_eq (by omega) (by omega)).mp q
      have hD := k3.mp q0
      rw [show (3 : Int32) = nI 3 from rfl, nI_ltI (by omega) (by omega)] at q2
      have hl3 : s.length ≤ 3 := by omega
      have e : runT a s = (3, a, [], fd 10 (s.map (fun c => c - 48))) := by unfold runT; rw [if_neg hno, if_pos ⟨hD, hl3⟩]
      have hlt := fd_lt (B := 10) (s.map (fun c => c - 48)) (fun c hc => by
        obtain ⟨x, hx, rfl⟩ := List.mem_map.mp hc
        have := isD_iff.mp (List.all_eq_true.mp hD x hx)
        omega)
      have hp : 10 ^ (s.map (fun c => c - 48)).length ≤ 10 ^ 3 := Nat.pow_le_pow_right (by decide) (by rw [List.length_map]; exact hl3)
      have S2 : NxC M (wI (wI M 220 4 1) 220 4 4) := S1.w (by omega) (by omega)
      rw [e] at h
      refine zuu (h _ S2 (at3 S2 (by rw [w3 _ _ _ (by omega), w3 _ _ _ (by omega)])) ⟨?_, ha, by show 3 ≤ 4; omega, tk_ne (by decide), tk_ne (by decide), tk_ne (by decide), fun _ => ⟨?_, ?_, ?_, ?_, by show fd 10 _ < 1000; omega⟩, tk_ne (by decide)⟩)
      · rw [wI_1, if_neg (by omega), wI_1, if_neg (by omega)]; exact e5
      · rw [wI_1, if_pos ⟨rfl, rfl⟩]
      · rw [wI_1, if_neg (by omega), wI_1, if_neg (by omega)]; exact e6
      · rw [wI_1, if_neg (by omega), wI_1, if_neg (by omega)]; exact e9
      · rw [wI_1, if_neg (by omega), wI_1, if_neg (by omega), e8]; exact numC_eq s hD hl3
  refine ⟨fun q => other (fun w => q ?_), fun q => ⟨fun q2 => other (fun w => ?_), fun q2 => ?_⟩⟩
  · rw [k2.mpr w.1]; rfl
  · rw [show (7 : Int32) = nI 7 from rfl, nI_ltI (by omega) (by omega)] at q2
    omega
  · have q0 : cnt isD s = 0 := (nI_eq (by omega) (by omega)).mp q
    have hL := k2.mp q0
    rw [show (7 : Int32) = nI 7 from rfl, nI_ltI (by omega) (by omega)] at q2
    have hl7 : s.length ≤ 7 := by omega
    have hw := wd_of h0 hL hl7
    have e : runT a s = (2, a, s, 0) := by unfold runT; rw [if_pos ⟨hL, hl7⟩]
    rw [e] at h
    rintro M2 rfl
    have en : (wL (wI M 220 4 1) 220 7 ((wI M 220 4 1).2 220 7 <<< (Int32.toInt64 (8 * (7 - nI (cnt isL s))) &&& 63))).2 220 7 = lN (pk7 s) := by
      rw [wL_2, if_pos ⟨rfl, rfl⟩, wI_2, e7, namC_eq s hL hl7, show cnt isL s = s.length by omega, show (7 : Int32) = nI 7 from rfl, pk_sub hl7, show (8 : Int32) = nI 8 from rfl, pk_mul, wb_shl _ (by omega), pk7_fd hl7]
    have S2 : NxC M (wL (wI M 220 4 1) 220 7 ((wI M 220 4 1).2 220 7 <<< (Int32.toInt64 (8 * (7 - nI (cnt isL s))) &&& 63))) := S1.l
    have f3 : ∀ j, (wL (wI M 220 4 1) 220 7 ((wI M 220 4 1).2 220 7 <<< (Int32.toInt64 (8 * (7 - nI (cnt isL s))) &&& 63))).1 220 j = (wI M 220 4 1).1 220 j := fun j => rfl
    generalize wL (wI M 220 4 1) 220 7 ((wI M 220 4 1).2 220 7 <<< (Int32.toInt64 (8 * (7 - nI (cnt isL s))) &&& 63)) = N at en S2 f3 ⊢
    rw [en]
    refine c_X6_findWord hw ?_
    rintro M3 rfl
    have g3 : N.1 220 3 = M.1 220 3 := by rw [f3, w3 _ _ _ (by omega)]
    have g5 : N.1 220 5 = nI a := by rw [f3, wI_1, if_neg (by omega)]; exact e5
    have g9 : N.1 220 9 = 0 := by rw [f3, wI_1, if_neg (by omega)]; exact e9
    rw [wI_1, if_pos ⟨rfl, rfl⟩]
    cases hx : wix s with
    | some i =>
      have hi := (wix_some.mp hx).1
      have hm1 : ¬ nI i = -1 := by
        intro q0
        have := congrArg Int32.toInt q0
        rw [nI_toInt (by omega)] at this
        have h1 : (-1 : Int32).toInt = -1 := by decide
        omega
      refine ⟨fun _ => ?_, fun w => absurd w hm1⟩
      rintro M4 rfl
      have S3 : NxC M (wI (wI N 220 6 (nI i)) 220 4 2) := (S2.w (by omega) (by omega)).w (by omega) (by omega)
      refine zuu (h _ S3 (at3 S3 (by rw [w3 _ _ _ (by omega), w3 _ _ _ (by omega)]; exact g3)) ⟨?_, ha, by show 2 ≤ 4; omega, tk_ne (by decide), tk_ne (by decide), fun _ => ⟨hw, en, ?_, ?_⟩, tk_ne (by decide), tk_ne (by decide)⟩)
      · rw [wI_1, if_neg (by omega), wI_1, if_neg (by omega)]; exact g5
      · rw [wI_1, if_neg (by omega), wI_1, if_neg (by omega)]; exact g9
      · show match wix s with
          | some i => _
          | none => _
        rw [hx]
        exact ⟨by rw [wI_1, if_pos ⟨rfl, rfl⟩], by rw [wI_1, if_neg (by omega), wI_1, if_pos ⟨rfl, rfl⟩]⟩
    | none =>
      refine ⟨fun w => absurd rfl w, fun _ => ?_⟩
      rintro M4 rfl
      have S3 : NxC M (wI (wI N 220 6 (-1)) 220 4 3) := (S2.w (by omega) (by omega)).w (by omega) (by omega)
      refine zuu (h _ S3 (at3 S3 (by rw [w3 _ _ _ (by omega), w3 _ _ _ (by omega)]; exact g3)) ⟨?_, ha, by show 2 ≤ 4; omega, tk_ne (by decide), tk_ne (by decide), fun _ => ⟨hw, en, ?_, ?_⟩, tk_ne (by decide), tk_ne (by decide)⟩)
      · rw [wI_1, if_neg (by omega), wI_1, if_neg (by omega)]; exact g5
      · rw [wI_1, if_neg (by omega), wI_1, if_neg (by omega)]; exact g9
      · show match wix s with
          | some i => _
          | none => _
        rw [hx]
        exact ⟨by rw [wI_1, if_pos ⟨rfl, rfl⟩], by rw [wI_1, if_neg (by omega), wI_1, if_pos ⟨rfl, rfl⟩]⟩
theorem c_X6_readRun {Q : zMem → Prop} (hR : RdC M tx n most a) (han : a < n) (hA : isA (tx a) = true) (e5 : M.1 220 5 = nI a) (e6 : M.1 220 6 = -1) (e9 : M.1 220 9 = 0)
    (h : ∀ M2, NxC M M2 → RdC M2 tx n most (far isA tx (n - a) a) → TkC M2 n most (runT a (seg tx a (far isA tx (n - a) a))) → Q M2) : S_X6_readRun (d + 1) M (zU Q) := by
  have hn := hR.1.1
  refine t_X6_readRun ?_
  rintro M1 rfl M2 rfl
  have key : ∀ (c b : Nat) (N : zMem), b + c = n → a ≤ b → (b = a ∨ seg tx a b ≠ []) → far isA tx c b = far isA tx (n - a) a → NxC M N → N.1 220 3 = nI b → N.1 220 5 = nI a → N.1 220 6 = -1 → N.1 220 9 = 0 → N.2 220 7 = namC (seg tx a b) → N.1 220 8 = numC (seg tx a b) → (seg tx a b).all isA = true → S_X6_readRun_14 (d + 1) (nI (cnt isL (seg tx a b))) (nI (cnt isD (seg tx a b))) N (zU Q) := by
    intro c
    induction c with
    | zero =>
      intro b N hb hab hne hfar hS g3 g5 g6 g9 g7 g8 hall
      have e : b = n := by omega
      have hRN := RdC_nx hR hS g3 (by omega)
      have hf : far isA tx (n - a) a = b := hfar.symm
      refine t_X6_readRun_14 ⟨fun _ => runC_end hRN hall ?_ ?_ g5 (by omega) g6 g9 g7 g8 (fun M3 s3 r3 t3 => h M3 (hS.trans s3) ?_ ?_), fun q => absurd (by rw [hRN.2.2.1, g3]; exact nI_le (by omega) (by omega)) q⟩
      · rcases hne with q | q
        · omega
        · exact q
      · rw [seg_len]; omega
      · rw [hf]; exact r3
      · rw [hf]; exact t3
    | succ c ih =>
      intro b N hb hab hne hfar hS g3 g5 g6 g9 g7 g8 hall
      have hRN := RdC_nx hR hS g3 (by omega)
      have hbn : b < n := by omega
      have hc256 := hR.1.2 b hbn
      have hcl := cnt_le isL (seg tx a b)
      have hcd := cnt_le isD (seg tx a b)
      refine t_X6_readRun_14 ⟨fun q => absurd q (by rw [hRN.2.2.1, g3]; exact nI_ge hbn (by omega)), fun _ => ?_⟩
      rw [g3]
      refine c_X6_signAt hRN hbn (c_isL hc256 ?_)
      rw [g3]
      -- one more
      have more : isA (tx b) = true → S_X6_readRun_53 (d + 1) (nI (cnt isL (seg tx a b))) (nI (cnt isD (seg tx a b))) N (zU Q) := by
        intro hAb
        refine t_X6_readRun_53 ?_
        rw [g3]
        refine c_X6_signAt hRN hbn (c_isL hc256 ?_)
        have step : ∀ x1 x2 : Nat, x1 = cnt isL (seg tx a (b + 1)) → x2 = cnt isD (seg tx a (b + 1)) → S_X6_readRun_78 (d + 1) (nI x1) (nI x2) (nI (tx b)) N (zU Q) := by
          rintro x1 x2 rfl rfl
          refine t_X6_readRun_78 ?_
          rintro N1 rfl N2 rfl N3 rfl
          have r1 : ∀ j, (wL N 220 7 ((N.2 220 7 <<< (Int32.toInt64 8 &&& 63)) ||| Int32.toInt64 (nI (tx b)))).1 220 j = N.1 220 j := fun _ => rfl
          refine ih (b + 1) _ (by omega) (by omega) (Or.inr ?_) ?_ ((hS.l.w (by omega) (by omega)).w (by omega) (by omega)) ?_ ?_ ?_ ?_ ?_ ?_ ?_
          · rw [seg_s tx hab]; simp
          · rw [← hfar, far_s hAb]
          · rw [wI_1, if_pos ⟨rfl, rfl⟩, wI_1, if_neg (by omega), r1, g3, nI_1]
          · rw [wI_1, if_neg (by omega), wI_1, if_neg (by omega), r1]; exact g5
          · rw [wI_1, if_neg (by omega), wI_1, if_neg (by omega), r1]; exact g6
          · rw [wI_1, if_neg (by omega), wI_1, if_neg (by omega), r1]; exact g9
          · rw [wI_2, wI_2, wL_2, if_pos ⟨rfl, rfl⟩, g7, seg_s tx hab, namC_s]
          · rw [wI_1, if_neg (by omega), wI_1, if_pos ⟨rfl, rfl⟩, r1, g8, seg_s tx hab, numC_s]
          · rw [seg_s tx hab, all_snoc, hall, hAb]; rfl
        refine ⟨fun q => ?_, fun q => ?_⟩
        · have hDb : isD (tx b) = true := by
            unfold isA at hAb
            rw [q, Bool.false_or] at hAb
            exact hAb
          rw [nI_1]
          refine step _ _ ?_ ?_
          · rw [seg_s tx hab, cnt_s, if_neg (by rw [q]; decide), Nat.add_zero]
          · rw [seg_s tx hab, cnt_s, if_pos hDb]
        · rw [nI_1]
          refine step _ _ ?_ ?_
          · rw [seg_s tx hab, cnt_s, if_pos q]
          · rw [seg_s tx hab, cnt_s, if_neg (by rw [isL_D q]; decide), Nat.add_zero]
      refine ⟨fun q => more (by unfold isA; rw [q]; rfl), fun q => c_X6_signAt hRN hbn (c_isD hc256 ⟨fun q2 => ?_, fun q2 => more (by unfold isA; rw [q2, Bool.or_true])⟩)⟩
      have hno : isA (tx b) = false := by unfold isA; rw [q, q2]; rfl
      have hba : b ≠ a := fun e => by rw [e, hA] at hno; cases hno
      have hf : far isA tx (n - a) a = b := by rw [← hfar, far_e hno]
      refine runC_end hRN hall (by rcases hne with w | w; exact absurd w hba; exact w) (by rw [seg_len]; omega) g5 (by omega) g6 g9 g7 g8 (fun M3 s3 r3 t3 => h M3 (hS.trans s3) ?_ ?_)
      · rw [hf]; exact r3
      · rw [hf]; exact t3
  have := key (n - a) a (wI (wL M 220 7 0) 220 8 0) (by omega) (Nat.le_refl _) (Or.inl rfl) rfl ((NxC.refl M).l.w (by omega) (by omega)) ?_ ?_ ?_ ?_ ?_ ?_ ?_
  · rw [seg_0] at this
    exact this
  · rw [wI_1, if_neg (by omega)]; exact hR.2.2.2.2.2.1
  · rw [wI_1, if_neg (by omega)]; exact e5
  · rw [wI_1, if_neg (by omega)]; exact e6
  · rw [wI_1, if_neg (by omega)]; exact e9
  · rw [seg_0, wI_2, wL_2, if_pos ⟨rfl, rfl⟩]; rfl
  · rw [seg_0, wI_1, if_pos ⟨rfl, rfl⟩]; rfl
  · rw [seg_0]; rfl
theorem far_lim {p : Nat → Bool} {c b : Nat} (h : b ≤ far p tx c b) : True := trivial
theorem c_X6_next {Q : zMem → Prop} (hR : RdC M tx n most a) (h : ∀ M2, NxC M M2 → RdC M2 tx n most (nextT tx n most a).2 → TkC M2 n most (nextT tx n most a).1 → Q M2) : S_X6_next (d + 2) M (zU Q) := by
  have hn := hR.1.1
  have hmo := hR.2.2.2.2.1
  refine t_X6_next ?_
  rw [hR.2.2.1, hR.2.2.2.1, minI (by omega) (by omega), Nat.min_comm]
  -- behind the blanks
  have tail : ∀ (b : Nat) (N : zMem), NxC M N → N.1 220 3 = nI b → b ≤ n → far isW tx (min n most - a) a = b → S_X6_next_59 (d + 2) (nI (min n most)) N (zU Q) := by
    intro b N hS g3 hbn hf
    have e : nextT tx n most a = (if min n most ≤ b then ((if n ≤ most then 0 else 1, min n most, [], 0), b) else if isA (tx b) = true then (runT b (seg tx b (far isA tx (n - b) b)), far isA tx (n - b) b) else if isS (tx b) = true then ((4, b, [], tx b), b + 1) else ((1, b, [], 0), b + 1)) := by
      unfold nextT
      rw [hf]
    rw [e] at h
    refine t_X6_next_59 ?_
    rintro N1 rfl N2 rfl
    have r3 : (wI (wI N 220 6 (-1)) 220 9 0).1 220 3 = nI b := by rw [wI_1, if_neg (by omega), wI_1, if_neg (by omega)]; exact g3
    have r6 : (wI (wI N 220 6 (-1)) 220 9 0).1 220 6 = -1 := by rw [wI_1, if_neg (by omega), wI_1, if_pos ⟨rfl, rfl⟩]
    have r9 : (wI (wI N 220 6 (-1)) 220 9 0).1 220 9 = 0 := by rw [wI_1, if_pos ⟨rfl, rfl⟩]
    have S2 : NxC M (wI (wI N 220 6 (-1)) 220 9 0) := (hS.w (by omega) (by omega)).w (by omega) (by omega)
    generalize wI (wI N 220 6 (-1)) 220 9 0 = N2 at r3 r6 r9 S2 ⊢
    rw [r3]
    rcases Nat.lt_or_ge b (min n most) with hlt | hge
    · rw [if_neg (by omega)] at h
      refine ⟨fun _ => ?_, fun q => absurd (nI_lt hlt (by omega)) q⟩
      rintro N3 rfl
      have S3 : NxC M (wI N2 220 5 (nI b)) := S2.w (by omega) (by omega)
      have k3 : (wI N2 220 5 (nI b)).1 220 3 = nI b := by rw [wI_1, if_neg (by omega)]; exact r3
      have k5 : (wI N2 220 5 (nI b)).1 220 5 = nI b := by rw [wI_1, if_pos ⟨rfl, rfl⟩]
      have k6 : (wI N2 220 5 (nI b)).1 220 6 = -1 := by rw [wI_1, if_neg (by omega)]; exact r6
      have k9 : (wI N2 220 5 (nI b)).1 220 9 = 0 := by rw [wI_1, if_neg (by omega)]; exact r9
      generalize wI N2 220 5 (nI b) = N3 at S3 k3 k5 k6 k9 ⊢
      have hR3 := RdC_nx hR S3 k3 hbn
      have hbn2 : b < n := by omega
      have hc256 := hR.1.2 b hbn2
      rw [k3]
      refine c_X6_signAt hR3 hbn2 (c_isL hc256 ?_)
      have run : isA (tx b) = true → S_X6_readRun (d + 1) N3 (zU (fun M => zU Q none M)) := by
        intro hA
        rw [if_pos hA] at h
        exact c_X6_readRun hR3 hbn2 hA k5 k6 k9 (fun M4 s4 r4 t4 => zuu (h M4 (S3.trans s4) r4 t4))
      refine ⟨fun q => run (by unfold isA; rw [q]; rfl), fun q => c_isD hc256 ⟨fun q2 => ?_, fun q2 => run (by unfold isA; rw [q2, Bool.or_true])⟩⟩
      have hno : isA (tx b) = false := by unfold isA; rw [q, q2]; rfl
      rw [if_neg (by rw [hno]; decide)] at h
      rintro N4 rfl
      rw [k3, nI_1]
      have S4 : NxC M (wI N3 220 3 (nI (b + 1))) := S3.w (by omega) (by omega)
      have l3 : (wI N3 220 3 (nI (b + 1))).1 220 3 = nI (b + 1) := by rw [wI_1, if_pos ⟨rfl, rfl⟩]
      have l5 : (wI N3 220 3 (nI (b + 1))).1 220 5 = nI b := by rw [wI_1, if_neg (by omega)]; exact k5
      have l6 : (wI N3 220 3 (nI (b + 1))).1 220 6 = -1 := by rw [wI_1, if_neg (by omega)]; exact k6
      generalize wI N3 220 3 (nI (b + 1)) = N4 at S4 l3 l5 l6 ⊢
      have sign : isS (tx b) = true → S_X6_next_170 (d + 2) (nI (tx b)) N4 (zU Q) := by
        intro hs
        rw [if_pos hs] at h
        refine t_X6_next_170 ?_
        rintro N5 rfl N6 rfl
        have S6 : NxC M (wI (wI N4 220 4 5) 220 9 (nI (tx b))) := (S4.w (by omega) (by omega)).w (by omega) (by omega)
        refine zuu (h _ S6 (RdC_nx hR S6 (by rw [wI_1, if_neg (by omega), wI_1, if_neg (by omega)]; exact l3) (by omega)) ⟨?_, by show b ≤ 940; omega, by show 4 ≤ 4; omega, tk_ne (by decide), tk_ne (by decide), tk_ne (by decide), tk_ne (by decide), fun _ => ⟨?_, ?_, ?_, hs⟩⟩)
        · rw [wI_1, if_neg (by omega), wI_1, if_neg (by omega)]; exact l5
        · rw [wI_1, if_neg (by omega), wI_1, if_pos ⟨rfl, rfl⟩]
        · rw [wI_1, if_neg (by omega), wI_1, if_neg (by omega)]; exact l6
        · rw [wI_1, if_pos ⟨rfl, rfl⟩]
      have eqc : ∀ c : Nat, c < 256 → (nI (tx b) = nI c ↔ tx b = c) := fun c hc => nI_eq (by omega) (by omega)
      have e59 := eqc 59 (by omega)
      have e60 := eqc 60 (by omega)
      have e61 := eqc 61 (by omega)
      have e62 := eqc 62 (by omega)
      have e40 := eqc 40 (by omega)
      have e41 := eqc 41 (by omega)
      refine ⟨fun w => sign (by rw [e59.mp w]; decide), fun w1 => ⟨fun w => sign (by rw [e60.mp w]; decide), fun w2 => ⟨fun w => sign (by rw [e61.mp w]; decide), fun w3 => ⟨fun w => sign (by rw [e62.mp w]; decide), fun w4 => ⟨fun w => sign (by rw [e40.mp w]; decide), fun w5 => ⟨fun w6 => ?_, fun w => sign (by rw [e41.mp w]; decide)⟩⟩⟩⟩⟩⟩
      have hns : isS (tx b) = false := by
        refine Bool.eq_false_iff.mpr (fun q3 => ?_)
        unfold isS at q3
        simp only [Bool.or_eq_true, decide_eq_true_eq] at q3
        rcases q3 with q3 | q3 | q3 | q3 | q3 | q3
        · exact w1 (e59.mpr q3)
        · exact w2 (e60.mpr q3)
        · exact w3 (e61.mpr q3)
        · exact w4 (e62.mpr q3)
        · exact w5 (e40.mpr q3)
        · exact w6 (e41.mpr q3)
      rw [if_neg (by rw [hns]; decide)] at h
      rintro N5 rfl N6 rfl
      have S6 : NxC M (wI (wI N4 220 4 1) 220 9 0) := (S4.w (by omega) (by omega)).w (by omega) (by omega)
      refine zuu (h _ S6 (RdC_nx hR S6 (by rw [wI_1, if_neg (by omega), wI_1, if_neg (by omega)]; exact l3) (by omega)) ⟨?_, by show b ≤ 940; omega, by show 1 ≤ 4; omega, tk_ne (by decide), fun _ => ⟨Or.inr ?_, ?_, ?_⟩, tk_ne (by decide), tk_ne (by decide), tk_ne (by decide)⟩)
      · rw [wI_1, if_neg (by omega), wI_1, if_neg (by omega)]; exact l5
      · rw [wI_1, if_neg (by omega), wI_1, if_pos ⟨rfl, rfl⟩]
      · rw [wI_1, if_neg (by omega), wI_1, if_neg (by omega)]; exact l6
      · rw [wI_1, if_pos ⟨rfl, rfl⟩]
    · rw [if_pos hge] at h
      refine ⟨fun q => absurd q (nI_nlt hge (by omega)), fun _ => ?_⟩
      rintro N3 rfl N4 rfl
      have S4 : NxC M (wI (wI N2 220 5 (nI (min n most))) 220 4 0) := (S2.w (by omega) (by omega)).w (by omega) (by omega)
      have f5 : (wI (wI N2 220 5 (nI (min n most))) 220 4 0).1 220 5 = nI (min n most) := by rw [wI_1, if_neg (by omega), wI_1, if_pos ⟨rfl, rfl⟩]
      have f4 : (wI (wI N2 220 5 (nI (min n most))) 220 4 0).1 220 4 = 0 := by rw [wI_1, if_pos ⟨rfl, rfl⟩]
      have f6 : (wI (wI N2 220 5 (nI (min n most))) 220 4 0).1 220 6 = -1 := by rw [wI_1, if_neg (by omega), wI_1, if_neg (by omega)]; exact r6
      have f9 : (wI (wI N2 220 5 (nI (min n most))) 220 4 0).1 220 9 = 0 := by rw [wI_1, if_neg (by omega), wI_1, if_neg (by omega)]; exact r9
      have f3 : (wI (wI N2 220 5 (nI (min n most))) 220 4 0).1 220 3 = nI b := by rw [wI_1, if_neg (by omega), wI_1, if_neg (by omega)]; exact r3
      refine zuu (h _ S4 (RdC_nx hR S4 f3 hbn) ⟨f5, by show min n most ≤ 940; omega, ?_, fun q => ⟨⟨f4, ?_⟩, f6, f9⟩, fun q => ⟨Or.inl ⟨f4, ?_⟩, f6, f9⟩, fun q => ?_, fun q => ?_, fun q => ?_⟩)
      · show (if n ≤ most then 0 else 1) ≤ 4
        split <;> omega
      · have q : (if n ≤ most then 0 else 1) = 0 := q
        split at q
        · assumption
        · exact absurd q (by decide)
      · have q : (if n ≤ most then 0 else 1) = 1 := q
        split at q
        · exact absurd q (by decide)
        · omega
      · have q : (if n ≤ most then 0 else 1) = 2 := q
        split at q <;> exact absurd q (by decide)
      · have q : (if n ≤ most then 0 else 1) = 3 := q
        split at q <;> exact absurd q (by decide)
      · have q : (if n ≤ most then 0 else 1) = 4 := q
        split at q <;> exact absurd q (by decide)
  -- the blanks
  have blanks : ∀ (c b : Nat) (N : zMem), (b + c = min n most ∨ (c = 0 ∧ min n most ≤ b)) → NxC M N → N.1 220 3 = nI b → b ≤ n → far isW tx c b = far isW tx (min n most - a) a → S_X6_next_12 (d + 2) (nI (min n most)) N (zU Q) := by
    intro c
    induction c with
    | zero =>
      intro b N hb hS g3 hbn hf
      exact t_X6_next_12 ⟨fun _ => tail b N hS g3 hbn hf.symm, fun q => absurd (by rw [g3]; exact nI_le (by omega) (by omega)) q⟩
    | succ c ih =>
      intro b N hb hS g3 hbn hf
      have hb1 : b + (c + 1) = min n most := by omega
      have hRN := RdC_nx hR hS g3 hbn
      have hbn2 : b < n := by omega
      have hc256 := hR.1.2 b hbn2
      refine t_X6_next_12 ⟨fun q => absurd q (by rw [g3]; exact nI_ge (by omega) (by omega)), fun _ => ?_⟩
      rw [g3]
      have on : isW (tx b) = true → ∀ N2, N2 = wI N 220 3 (nI (b + 1)) → S_X6_next_12 (d + 2) (nI (min n most)) N2 (zU Q) := by
        rintro hw N2 rfl
        exact ih (b + 1) _ (Or.inl (by omega)) (hS.w (by omega) (by omega)) (by rw [wI_1, if_pos ⟨rfl, rfl⟩]) (by omega) (by rw [← hf, far_s hw])
      refine c_X6_signAt hRN hbn2 ?_
      rw [g3, nI_1, show (32 : Int32) = nI 32 from rfl, nI_eq (by omega) (by omega)]
      refine ⟨fun q => on (by rw [q]; decide), fun q => c_X6_signAt hRN hbn2 ?_⟩
      rw [g3, nI_1, show (10 : Int32) = nI 10 from rfl, nI_eq (by omega) (by omega)]
      refine ⟨fun q2 => tail b N hS g3 hbn ?_, fun q2 => on (by rw [q2]; decide)⟩
      rw [← hf, far_e]
      unfold isW
      rw [decide_eq_false q, decide_eq_false q2]; rfl
  exact blanks (min n most - a) a M (by omega) (NxC.refl M) hR.2.2.2.2.2.1 hR.2.2.2.2.2.2 rfl
end
