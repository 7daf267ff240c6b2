-- ===== the model's reader: the next token =====
theorem far_more (p : Nat → Bool) (tx : Nat → Nat) : ∀ c e a : Nat, far p tx c a ≤ far p tx (c + e) a ∧ (far p tx c a < a + c → far p tx (c + e) a = far p tx c a ∧ p (tx (far p tx c a)) = false)
  | 0, e, a => by
    have := far_ge p tx (0 + e) a
    exact ⟨this.1, fun h => by
      have h : a < a + 0 := h
      omega⟩
  | c + 1, e, a => by
    rw [show c + 1 + e = (c + e) + 1 by omega]
    show (if p (tx a) = true then far p tx c (a + 1) else a) ≤ (if p (tx a) = true then far p tx (c + e) (a + 1) else a) ∧ ((if p (tx a) = true then far p tx c (a + 1) else a) < a + (c + 1) → (if p (tx a) = true then far p tx (c + e) (a + 1) else a) = (if p (tx a) = true then far p tx c (a + 1) else a) ∧ p (tx (if p (tx a) = true then far p tx c (a + 1) else a)) = false)
    have h := far_more p tx c e (a + 1)
    by_cases q : p (tx a) = true
    · rw [if_pos q, if_pos q]
      exact ⟨h.1, fun w => h.2 (by omega)⟩
    · rw [if_neg q, if_neg q]
      exact ⟨Nat.le_refl _, fun _ => ⟨rfl, by simpa using q⟩⟩
def NxR (M M2 : zMem) : Prop := Same (fun z => z = 229) M M2 ∧ ∀ j, j < 5 ∨ 9 < j → M2.1 229 j = M.1 229 j
theorem NxR.refl (M : zMem) : NxR M M := ⟨Same.refl _ _, fun _ _ => rfl⟩
theorem NxR.trans {M M2 M3 : zMem} (h : NxR M M2) (h2 : NxR M2 M3) : NxR M M3 := ⟨h.1.trans h2.1, fun j hj => (h2.2 j hj).trans (h.2 j hj)⟩
theorem NxR.w {M M2 : zMem} (h : NxR M M2) {j : Nat} {x : Int32} (h1 : 5 ≤ j) (h2 : j ≤ 9) : NxR M (wI M2 229 j x) := ⟨h.1.wI rfl, fun i hi => by rw [wI_1, if_neg (by omega)]; exact h.2 i hi⟩
theorem NxR.l {M M2 : zMem} (h : NxR M M2) {j : Nat} {x : Int64} : NxR M (wL M2 229 j x) := ⟨h.1.wL rfl, h.2⟩
section
variable {d n most a : Nat} {M : zMem} {tx : Nat → Nat}
theorem RdR_nx {M2 : zMem} (h : RdR M tx n most a) (hS : NxR M M2) {b : Nat} (h4 : M2.1 229 5 = nI b) (hb : b ≤ n) : RdR M2 tx n most b := by
  obtain ⟨a1, a2, a3, a4, a5, a6, a7⟩ := h
  exact ⟨a1, fun i hi => by rw [hS.1.1 230 (by omega)]; exact a2 i hi, by rw [hS.2 3 (by omega)]; exact a3, by rw [hS.2 4 (by omega)]; exact a4, a5, h4, hb⟩
theorem c_X12_tapeAt {Q : Int32 → zMem → Prop} {i : Nat} (hR : RdR M tx n most a) (hi : i ≤ n) (h : Q (nI (if i < n then tx i else 0)) M) : S_X12_tapeAt d (nI i) M (zI Q) := by
  have hn := hR.1.1
  refine t_X12_tapeAt ⟨fun q => zii ?_, fun q => ?_⟩
  · rw [hR.2.2.1, nI_leI (by omega) (by omega)] at q
    rw [if_neg (by omega)] at h
    exact h
  · rw [hR.2.2.1, nI_leI (by omega) (by omega)] at q
    rw [if_pos (by omega)] at h
    refine ⟨nIin (by omega) (by omega), zii ?_⟩
    rw [nI_clamp (by omega), hR.2.1 i (by omega)]
    exact h
theorem all_same {s : List Nat} {L : Bool} (hA : s.all isA = true) (h0 : s ≠ []) : (L = true → (s.all (fun c => isL c == L) = s.all isL)) ∧ (L = false → (s.all (fun c => isL c == L) = s.all isD)) := by
  refine ⟨fun e => ?_, fun e => ?_⟩
  · subst e
    congr 1
    funext c
    cases isL c <;> rfl
  · subst e
    rw [Bool.eq_iff_iff, List.all_eq_true, List.all_eq_true]
    constructor
    · intro h c hc
      have h1 := List.all_eq_true.mp hA c hc
      have h2 : (isL c == false) = true := h c hc
      unfold isA at h1
      cases q : isL c with
      | true => rw [q] at h2; cases h2
      | false => rw [q, Bool.false_or] at h1; exact h1
    · intro h c hc
      have h1 := h c hc
      have : isL c = false := Bool.eq_false_iff.mpr (fun q => by rw [isL_D q] at h1; cases h1)
      show (isL c == false) = true
      rw [this]; rfl
/-- the end of a run -/
theorem runR_end {Q : zMem → Prop} {s : List Nat} {L : Bool} {b k a0 : Nat} {N : zMem} (hS : NxR M N) (hk : k = if (s.all (fun c => isL c == L)) = true ∧ s.length ≤ (if L = true then 7 else 3) then (if L = true then 2 else 3) else 1) (hR : RdR M tx n most a0) (hb : b ≤ n) (ha : a ≤ 940) (hA : s.all isA = true) (h0 : s ≠ []) (hL : L = true → s.head? = some (s.headD 0) ∧ isL (s.headD 0) = true) (hL2 : L = false → isL (s.headD 0) = false) (g5 : N.1 229 5 = nI b) (g6 : N.1 229 6 = nI a) (gw : N.2 229 12 = worR s) (gn : N.1 229 8 = numR s)
    (h : ∀ M2, NxR M M2 → RdR M2 tx n most b → TkR M2 (runT a s) → Q M2) : Q (wI N 229 7 (nI k)) := by
  have S2 : NxR M (wI N 229 7 (nI k)) := hS.w (by omega) (by omega)
  have e5 : (wI N 229 7 (nI k)).1 229 5 = nI b := by rw [wI_1, if_neg (by omega)]; exact g5
  have e6 : (wI N 229 7 (nI k)).1 229 6 = nI a := by rw [wI_1, if_neg (by omega)]; exact g6
  have e7 : (wI N 229 7 (nI k)).1 229 7 = nI k := by rw [wI_1, if_pos ⟨rfl, rfl⟩]
  have e8 : (wI N 229 7 (nI k)).1 229 8 = numR s := by rw [wI_1, if_neg (by omega)]; exact gn
  have e12 : (wI N 229 7 (nI k)).2 229 12 = worR s := gw
  have hsame := all_same (L := L) hA h0
  refine h _ S2 (RdR_nx hR S2 e5 hb) ?_
  cases L with
  | true =>
    rw [hsame.1 rfl] at hk
    simp only [if_true] at hk
    have hnD : s.all isD = false := by
      refine Bool.eq_false_iff.mpr (fun q => ?_)
      have h1 := hL rfl
      have : s.headD 0 ∈ s := List.mem_of_mem_head? h1.1
      have := List.all_eq_true.mp q _ this
      rw [isL_D h1.2] at this
      cases this
    unfold runT
    by_cases q : s.all isL = true ∧ s.length ≤ 7
    · rw [if_pos q] at hk ⊢
      exact ⟨e6, ha, by show 2 ≤ 4; omega, e7.trans (by rw [hk]), fun _ => ⟨wd_of h0 q.1 q.2, e12.trans (worR_eq s q.1 q.2)⟩, tk_ne (by decide), tk_ne (by decide)⟩
    · rw [if_neg q] at hk ⊢
      rw [if_neg (by rw [hnD]; simp)]
      exact ⟨e6, ha, by show 1 ≤ 4; omega, e7.trans (by rw [hk]), tk_ne (by decide), tk_ne (by decide), tk_ne (by decide)⟩
  | false =>
    rw [hsame.2 rfl] at hk
    simp only [Bool.false_eq_true, if_false] at hk
    have hnL : s.all isL = false := by
      refine Bool.eq_false_iff.mpr (fun q => ?_)
      have h1 := hL2 rfl
      cases s with
      | nil => exact h0 rfl
      | cons c cs =>
        have := List.all_eq_true.mp q c List.mem_cons_self
        rw [show (c :: cs).headD 0 = c from rfl, this] at h1
        cases h1
    unfold runT
    rw [if_neg (by rw [hnL]; simp)]
    by_cases q : s.all isD = true ∧ s.length ≤ 3
    · rw [if_pos q] at hk ⊢
      have hlt := fd_lt (B := 10) (s.map (fun c => c - 48)) (fun c hc => by
        obtain ⟨x, hx, rfl⟩ := List.mem_map.mp hc
        have := isD_iff.mp (List.all_eq_true.mp q.1 x hx)
        omega)
      have hp : 10 ^ (s.map (fun c => c - 48)).length ≤ 10 ^ 3 := Nat.pow_le_pow_right (by decide) (by rw [List.length_map]; exact q.2)
      exact ⟨e6, ha, by show 3 ≤ 4; omega, e7.trans (by rw [hk]), tk_ne (by decide), fun _ => ⟨e8.trans (numR_eq s q.1 q.2), by show fd 10 _ < 1000; omega⟩, tk_ne (by decide)⟩
    · rw [if_neg q] at hk ⊢
      exact ⟨e6, ha, by show 1 ≤ 4; omega, e7.trans (by rw [hk]), tk_ne (by decide), tk_ne (by decide), tk_ne (by decide)⟩
theorem seg_head {a b : Nat} (h : a < b) : ∃ cs, seg tx a b = tx a :: cs := by
  unfold seg
  rw [show b - a = (b - a - 1) + 1 by omega, List.range_succ_eq_map, List.map_cons]
  exact ⟨_, rfl⟩
theorem end215 {L G : Bool} {x y : Int32} {len : Nat} {A : Nat → Prop} (hl : len < 2 ^ 31) (hx : x - y = nI len) (h : A (if G = true ∧ len ≤ (if L = true then 7 else 3) then (if L = true then 2 else 3) else 1)) :
    (bi G = 0 → A 1) ∧ (¬ bi G = 0 → (bi L = 0 → (x - y ≤ 3 → (bi L = 0 → A 3) ∧ (¬ bi L = 0 → A 2)) ∧ (¬ x - y ≤ 3 → A 1)) ∧ (¬ bi L = 0 → (x - y ≤ 7 → (bi L = 0 → A 3) ∧ (¬ bi L = 0 → A 2)) ∧ (¬ x - y ≤ 7 → A 1))) := by
  rw [hx, show (3 : Int32) = nI 3 from rfl, show (7 : Int32) = nI 7 from rfl, nI_leI hl (by omega), nI_leI hl (by omega)]
  have b1 : ¬ bi true = 0 := by decide
  cases G with
  | false =>
    rw [if_neg (fun q => by cases q.1)] at h
    exact ⟨fun _ => h, fun q => absurd rfl q⟩
  | true =>
    refine ⟨fun q => absurd q b1, fun _ => ?_⟩
    cases L with
    | false =>
      simp only [Bool.false_eq_true, if_false, true_and] at h
      refine ⟨fun _ => ⟨fun q => ⟨fun _ => ?_, fun w => absurd rfl w⟩, fun q => ?_⟩, fun w => absurd rfl w⟩
      · rw [if_pos q] at h; exact h
      · rw [if_neg q] at h; exact h
    | true =>
      simp only [if_true, true_and] at h
      refine ⟨fun w => absurd w b1, fun _ => ⟨fun q => ⟨fun w => absurd w b1, fun _ => ?_⟩, fun q => ?_⟩⟩
      · rw [if_pos q] at h; exact h
      · rw [if_neg q] at h; exact h
theorem bi_eq {x y : Bool} : bi x = bi y ↔ x = y := by
  cases x <;> cases y <;> decide
theorem c_X12_go_198 {Q : zMem → Prop} {N0 : zMem} (hR : RdR M tx n most a) (hS0 : NxR M N0) {b0 : Nat} (hb0 : b0 < n) (hA : isA (tx b0) = true) (g5 : N0.1 229 5 = nI b0) (g6 : N0.1 229 6 = nI b0)
    (h : ∀ M2, NxR M M2 → RdR M2 tx n most (far isA tx (n - b0) b0) → TkR M2 (runT b0 (seg tx b0 (far isA tx (n - b0) b0))) → Q M2) : S_X12_go_198 (d + 1) (nI (tx b0)) N0 (zU Q) := by
  have hn := hR.1.1
  have hc0 := hR.1.2 b0 hb0
  refine t_X12_go_198 (c_isL2 hc0 ?_)
  rintro N1 rfl N2 rfl
  generalize hL : isL (tx b0) = L
  -- no more letters or digits: the end of the run
  have ends : ∀ (b : Nat) (N : zMem), b0 < b → b ≤ n → far isA tx (n - b0) b0 = b → NxR M N → N.1 229 5 = nI b → N.1 229 6 = nI b0 → N.2 229 12 = worR (seg tx b0 b) → N.1 229 8 = numR (seg tx b0 b) → (seg tx b0 b).all isA = true →
      (bi ((seg tx b0 b).all (fun c => isL c == L)) = 0 → (∀ M32 : zMem, M32 = wI N 229 7 1 → zU Q none M32)) ∧ (¬ (bi ((seg tx b0 b).all (fun c => isL c == L)) = 0) → (bi L = 0 → (((N.1 229 5) - (N.1 229 6)) ≤ 3 → (bi L = 0 → (∀ M37 : zMem, M37 = wI N 229 7 3 → zU Q none M37)) ∧ (¬ (bi L = 0) → (∀ M39 : zMem, M39 = wI N 229 7 2 → zU Q none M39))) ∧ (¬ (((N.1 229 5) - (N.1 229 6)) ≤ 3) → (∀ M41 : zMem, M41 = wI N 229 7 1 → zU Q none M41))) ∧ (¬ (bi L = 0) → (((N.1 229 5) - (N.1 229 6)) ≤ 7 → (bi L = 0 → (∀ M45 : zMem, M45 = wI N 229 7 3 → zU Q none M45)) ∧ (¬ (bi L = 0) → (∀ M47 : zMem, M47 = wI N 229 7 2 → zU Q none M47))) ∧ (¬ (((N.1 229 5) - (N.1 229 6)) ≤ 7) → (∀ M49 : zMem, M49 = wI N 229 7 1 → zU Q none M49)))) := by
    intro b N hb hbn hf hS f5 f6 fw fn hall
    obtain ⟨cs, hcs⟩ := seg_head (tx := tx) hb
    have hne : seg tx b0 b ≠ [] := fun q => by rw [hcs] at q; cases q
    have hx : N.1 229 5 - N.1 229 6 = nI (seg tx b0 b).length := by rw [f5, f6, pk_sub (by omega), seg_len]
    refine end215 (A := fun k => ∀ M32 : zMem, M32 = wI N 229 7 (nI k) → zU Q none M32) (by rw [seg_len]; omega) hx ?_
    rintro M2 rfl
    rw [hf] at h
    exact zuu (runR_end (a := b0) (s := seg tx b0 b) (L := L) hS rfl hR hbn (by omega) hall hne (fun q => by rw [hcs]; exact ⟨rfl, by rw [← q]; exact hL⟩) (fun q => by rw [hcs]; rw [q] at hL; exact hL) f5 f6 fw fn h)
  have key : ∀ (c b : Nat) (N : zMem), b + c = n → b0 ≤ b → far isA tx c b = far isA tx (n - b0) b0 → NxR M N → N.1 229 5 = nI b → N.1 229 6 = nI b0 → N.2 229 12 = worR (seg tx b0 b) → N.1 229 8 = numR (seg tx b0 b) → (seg tx b0 b).all isA = true → S_X12_go_215 (d + 1) (bi L) (bi ((seg tx b0 b).all (fun c => isL c == L))) N (zU Q) := by
    intro c
    induction c with
    | zero =>
      intro b N hb hab hfar hS f5 f6 fw fn hall
      have hRN := RdR_nx hR hS f5 (by omega)
      refine t_X12_go_215 ?_
      rw [f5]
      refine c_X12_tapeAt hRN (by omega) ?_
      rw [if_neg (by omega)]
      refine c_isL2 (by omega) ⟨fun q => absurd q (by decide), fun _ => ?_⟩
      rw [f5]
      refine c_X12_tapeAt hRN (by omega) ?_
      rw [if_neg (by omega)]
      refine c_isD2 (by omega) ⟨fun _ => ?_, fun q => absurd q (by decide)⟩
      exact ends b N (by omega) (by omega) hfar.symm hS f5 f6 fw fn hall
    | succ c ih =>
      intro b N hb hab hfar hS f5 f6 fw fn hall
      have hRN := RdR_nx hR hS f5 (by omega)
      have hbn : b < n := by omega
      have hc256 := hR.1.2 b hbn
      -- one more
      have more : isA (tx b) = true → S_X12_go_243 (d + 1) (bi L) (bi ((seg tx b0 b).all (fun c => isL c == L))) N (zU Q) := by
        intro hAb
        have s307 : ∀ N2 : zMem, NxR M N2 → N2.1 229 = N.1 229 → N2.2 229 12 = worR (seg tx b0 (b + 1)) → ∀ G : Bool, G = (seg tx b0 (b + 1)).all (fun c => isL c == L) → S_X12_go_307 (d + 1) (bi L) (bi G) (nI (tx b)) N2 (zU Q) := by
          rintro N2 hS2 e2 ew G rfl
          have hx : N2.1 229 5 - N2.1 229 6 = nI (b - b0) := by rw [e2, f5, f6, pk_sub hab]
          have fin : ∀ N3 : zMem, NxR M N3 → N3.1 229 5 = nI b → N3.1 229 6 = nI b0 → N3.2 229 12 = worR (seg tx b0 (b + 1)) → N3.1 229 8 = numR (seg tx b0 (b + 1)) → ∀ N4, N4 = wI N3 229 5 (N3.1 229 5 + 1) → S_X12_go_215 (d + 1) (bi L) (bi ((seg tx b0 (b + 1)).all (fun c => isL c == L))) N4 (zU Q) := by
            rintro N3 hS3 k5 k6 k12 k8 N4 rfl
            refine ih (b + 1) _ (by omega) (by omega) (by rw [← hfar, far_s hAb]) (hS3.w (by omega) (by omega)) ?_ ?_ k12 ?_ ?_
            · rw [wI_1, if_pos ⟨rfl, rfl⟩, k5, nI_1]
            · rw [wI_1, if_neg (by omega)]; exact k6
            · rw [wI_1, if_neg (by omega)]; exact k8
            · rw [seg_s tx hab, all_snoc, hall, hAb]; rfl
          refine t_X12_go_307 ?_
          rw [hx, show (3 : Int32) = nI 3 from rfl, nI_leI (by omega) (by omega)]
          refine ⟨fun q => fin N2 hS2 (by rw [e2]; exact f5) (by rw [e2]; exact f6) ew (by rw [e2, fn, seg_s tx hab, numR_s, if_pos (by rw [seg_len]; exact q)]), fun q => ?_⟩
          rintro N3 rfl
          refine fin _ (hS2.w (by omega) (by omega)) (by rw [wI_1, if_neg (by omega), e2]; exact f5) (by rw [wI_1, if_neg (by omega), e2]; exact f6) ew ?_
          rw [wI_1, if_pos ⟨rfl, rfl⟩, e2, fn, seg_s tx hab, numR_s, if_neg (by rw [seg_len]; exact q)]
        have hx : N.1 229 5 - N.1 229 6 = nI (b - b0) := by rw [f5, f6, pk_sub hab]
        have ew0 : 7 ≤ b - b0 → N.2 229 12 = worR (seg tx b0 (b + 1)) := fun q => by rw [fw, seg_s tx hab, worR_s, if_pos (by rw [seg_len]; exact q)]
        have ew1 : ¬ 7 ≤ b - b0 → (wL N 229 12 (((27 * (N.2 229 12)) + (Int32.toInt64 (nI (tx b)))) - 96)).2 229 12 = worR (seg tx b0 (b + 1)) := fun q => by rw [wL_2, if_pos ⟨rfl, rfl⟩, fw, seg_s tx hab, worR_s, if_neg (by rw [seg_len]; exact q)]
        have r230 : N.1 230 (Int32.toNatClampNeg (N.1 229 5)) = nI (tx b) := by rw [f5, nI_clamp (by omega)]; exact hRN.2.1 b hbn
        have g' : (seg tx b0 (b + 1)).all (fun c => isL c == L) = ((seg tx b0 b).all (fun c => isL c == L) && (isL (tx b) == L)) := by rw [seg_s tx hab, all_snoc]
        have s271 : (seg tx b0 (b + 1)).all (fun c => isL c == L) = false → S_X12_go_271 (d + 1) (bi L) (nI (tx b)) N (zU Q) := by
          intro hG
          refine t_X12_go_271 ?_
          rw [hx, show (7 : Int32) = nI 7 from rfl, nI_leI (by omega) (by omega)]
          refine ⟨fun q => s307 N hS rfl (ew0 q) false hG.symm, fun q => ?_⟩
          rintro N2 rfl
          exact s307 _ hS.l rfl (ew1 q) false hG.symm
        refine t_X12_go_243 ⟨by rw [f5]; exact nIin (by omega) (by omega), ?_⟩
        rw [r230]
        refine ⟨fun q => s271 ?_, fun q => c_isL2 hc256 ⟨fun w => s271 ?_, fun w => ?_⟩⟩
        · have q0 : (seg tx b0 b).all (fun c => isL c == L) = false := by
            cases h0 : (seg tx b0 b).all (fun c => isL c == L) with
            | false => rfl
            | true => rw [h0] at q; exact absurd q (by decide)
          rw [g', q0]; rfl
        · rw [bi_eq] at w
          rw [g', show (isL (tx b) == L) = false from beq_eq_false_iff_ne.mpr w, Bool.and_false]
        · rw [bi_eq] at w
          have q0 : (seg tx b0 b).all (fun c => isL c == L) = true := by
            cases h0 : (seg tx b0 b).all (fun c => isL c == L) with
            | true => rfl
            | false => rw [h0] at q; exact absurd rfl q
          have hG : true = (seg tx b0 (b + 1)).all (fun c => isL c == L) := by rw [g', q0, w]; simp
          rw [hx, show (7 : Int32) = nI 7 from rfl, nI_leI (by omega) (by omega)]
          refine ⟨fun v => s307 N hS rfl (ew0 v) true hG, fun v => ?_⟩
          rintro N2 rfl
          exact s307 _ hS.l rfl (ew1 v) true hG
      refine t_X12_go_215 ?_
      rw [f5]
      refine c_X12_tapeAt hRN (by omega) ?_
      rw [if_pos hbn]
      refine c_isL2 hc256 ⟨fun q => more (by unfold isA; rw [q]; rfl), fun q => ?_⟩
      rw [f5]
      refine c_X12_tapeAt hRN (by omega) ?_
      rw [if_pos hbn]
      refine c_isD2 hc256 ⟨fun q2 => ?_, fun q2 => more (by unfold isA; rw [q2, Bool.or_true])⟩
      have hno : isA (tx b) = false := by unfold isA; rw [q, q2]; rfl
      have hba : b ≠ b0 := fun e => by rw [e, hA] at hno; cases hno
      have hf : far isA tx (n - b0) b0 = b := by rw [← hfar, far_e hno]
      exact ends b N (by omega) (by omega) hf hS f5 f6 fw fn hall
  have := key (n - b0) b0 (wI (wL N0 229 12 0) 229 8 0) (by omega) (Nat.le_refl _) rfl (hS0.l.w (by omega) (by omega)) ?_ ?_ ?_ ?_ ?_
  · rw [seg_0] at this
    exact this
  · rw [wI_1, if_neg (by omega)]; exact g5
  · rw [wI_1, if_neg (by omega)]; exact g6
  · rw [seg_0, wI_2, wL_2, if_pos ⟨rfl, rfl⟩]; rfl
  · rw [seg_0, wI_1, if_pos ⟨rfl, rfl⟩]; rfl
  · rw [seg_0]; rfl
theorem c_X12_go {Q : zMem → Prop} (hR : RdR M tx n most a) (h : ∀ M2 b, NxR M M2 → RdR M2 tx n most b → (2 ≤ (nextT tx n most a).1.1 → b = (nextT tx n most a).2) → TkR M2 (nextT tx n most a).1 → Q M2) : S_X12_go (d + 1) M (zU Q) := by
  have hn := hR.1.1
  have hmo := hR.2.2.2.2.1
  -- behind the blanks
  have tail : ∀ (b : Nat) (N : zMem), NxR M N → N.1 229 5 = nI b → b ≤ n → far isW tx (n - a) a = b → S_X12_go_52 (d + 1) N (zU Q) := by
    intro b N hS g5 hbn hf
    have hRN := RdR_nx hR hS g5 hbn
    have han := hR.2.2.2.2.2.2
    have hA := far_ge isW tx (min n most - a) a
    have hB := far_more isW tx (min n most - a) (n - a - (min n most - a)) a
    rw [show min n most - a + (n - a - (min n most - a)) = n - a by omega, hf] at hB
    refine t_X12_go_52 ?_
    rintro N1 rfl
    have S1 : NxR M (wI N 229 6 (N.1 229 5)) := hS.w (by omega) (by omega)
    have k5 : (wI N 229 6 (N.1 229 5)).1 229 5 = nI b := by rw [wI_1, if_neg (by omega)]; exact g5
    have k6 : (wI N 229 6 (N.1 229 5)).1 229 6 = nI b := by rw [wI_1, if_pos ⟨rfl, rfl⟩]; exact g5
    generalize wI N 229 6 (N.1 229 5) = N1 at S1 k5 k6 ⊢
    have hR1 := RdR_nx hR S1 k5 hbn
    -- a token, or the end of a text that is not too long
    have s96 : (n ≤ most ∨ b < most) → S_X12_go_96 (d + 1) N1 (zU Q) := by
      intro hcase
      have eA : far isW tx (min n most - a) a = b := by
        rcases Nat.lt_or_ge (far isW tx (min n most - a) a) (min n most) with q | q
        · exact (hB.2 (by omega)).1.symm
        · rcases hcase with w | w
          · have h1 := hB.1
            omega
          · have h1 := hB.1
            omega
      have e : nextT tx n most a = (if min n most ≤ b then ((if n ≤ most then 0 else 1, min n most, [], 0), b) else if isA (tx b) = true then (runT b (seg tx b (far isA tx (n - b) b)), far isA tx (n - b) b) else if isS (tx b) = true then ((4, b, [], tx b), b + 1) else ((1, b, [], 0), b + 1)) := by
        unfold nextT
        rw [eA]
      rw [e] at h
      refine t_X12_go_96 ?_
      rw [k5, hR1.2.2.1, nI_ltI (by omega) (by omega)]
      refine ⟨fun hlt => ⟨nIin (by omega) (by omega), ?_⟩, fun hge => ?_⟩
      · have hc256 := hR.1.2 b hlt
        rw [if_neg (by omega)] at h
        rw [nI_clamp (by omega), hR1.2.1 b hlt]
        have run : isA (tx b) = true → S_X12_go_198 (d + 1) (nI (tx b)) N1 (zU Q) := by
          intro hAb
          rw [if_pos hAb] at h
          exact c_X12_go_198 hR S1 hlt hAb k5 k6 (fun M2 s2 r2 t2 => h M2 _ s2 r2 (fun _ => rfl) t2)
        refine c_isL2 hc256 ⟨fun q => run (by unfold isA; rw [q]; rfl), fun q => c_isD2 hc256 ⟨fun q2 => run (by unfold isA; rw [q2, Bool.or_true]), fun q2 => ?_⟩⟩
        have hno : isA (tx b) = false := by unfold isA; rw [q, q2]; rfl
        rw [if_neg (by rw [hno]; decide)] at h
        have sign : isS (tx b) = true → ∀ M30 : zMem, M30 = wI N1 229 7 4 → ∀ M32 : zMem, M32 = wI M30 229 9 (nI (tx b)) → ∀ M34 : zMem, M34 = wI M32 229 5 (M32.1 229 5 + 1) → zU Q none M34 := by
          rintro hs M30 rfl M32 rfl M34 rfl
          rw [if_pos hs] at h
          have e5 : (wI (wI N1 229 7 4) 229 9 (nI (tx b))).1 229 5 = nI b := by rw [wI_1, if_neg (by omega), wI_1, if_neg (by omega)]; exact k5
          rw [e5, nI_1]
          have S4 : NxR M (wI (wI (wI N1 229 7 4) 229 9 (nI (tx b))) 229 5 (nI (b + 1))) := ((S1.w (by omega) (by omega)).w (by omega) (by omega)).w (by omega) (by omega)
          refine zuu (h _ (b + 1) S4 (RdR_nx hR S4 (by rw [wI_1, if_pos ⟨rfl, rfl⟩]) (by omega)) (fun _ => rfl) ⟨?_, by show b ≤ 940; omega, by show 4 ≤ 4; omega, ?_, tk_ne (by decide), tk_ne (by decide), fun _ => ⟨?_, hs⟩⟩)
          · rw [wI_1, if_neg (by omega), wI_1, if_neg (by omega), wI_1, if_neg (by omega)]; exact k6
          · rw [wI_1, if_neg (by omega), wI_1, if_neg (by omega), wI_1, if_pos ⟨rfl, rfl⟩]; rfl
          · rw [wI_1, if_neg (by omega), wI_1, if_pos ⟨rfl, rfl⟩]
        have eqc : ∀ c : Nat, c < 256 → (nI (tx b) = nI c ↔ tx b = c) := fun c hc => nI_eq (by omega) (by omega)
        have e59 := eqc 59 (by omega)
        have e60 := eqc 60 (by omega)
        have e61 := eqc 61 (by omega)
        have e62 := eqc 62 (by omega)
        have e40 := eqc 40 (by omega)
        have e41 := eqc 41 (by omega)
        refine ⟨fun w => sign (by rw [e59.mp w]; decide), fun w1 => ⟨fun w => sign (by rw [e60.mp w]; decide), fun w2 => ⟨fun w => sign (by rw [e61.mp w]; decide), fun w3 => ⟨fun w => sign (by rw [e62.mp w]; decide), fun w4 => ⟨fun w => sign (by rw [e40.mp w]; decide), fun w5 => ⟨fun w6 => ?_, fun w => sign (by rw [e41.mp w]; decide)⟩⟩⟩⟩⟩⟩
        have hns : isS (tx b) = false := by
          refine Bool.eq_false_iff.mpr (fun q3 => ?_)
          unfold isS at q3
          simp only [Bool.or_eq_true, decide_eq_true_eq] at q3
          rcases q3 with q3 | q3 | q3 | q3 | q3 | q3
          · exact w1 (e59.mpr q3)
          · exact w2 (e60.mpr q3)
          · exact w3 (e61.mpr q3)
          · exact w4 (e62.mpr q3)
          · exact w5 (e40.mpr q3)
          · exact w6 (e41.mpr q3)
        rw [if_neg (by rw [hns]; decide)] at h
        rintro M30 rfl M32 rfl M34 rfl
        have e5 : (wI (wI N1 229 7 1) 229 9 (nI (tx b))).1 229 5 = nI b := by rw [wI_1, if_neg (by omega), wI_1, if_neg (by omega)]; exact k5
        rw [e5, nI_1]
        have S4 : NxR M (wI (wI (wI N1 229 7 1) 229 9 (nI (tx b))) 229 5 (nI (b + 1))) := ((S1.w (by omega) (by omega)).w (by omega) (by omega)).w (by omega) (by omega)
        refine zuu (h _ (b + 1) S4 (RdR_nx hR S4 (by rw [wI_1, if_pos ⟨rfl, rfl⟩]) (by omega)) (fun _ => rfl) ⟨?_, by show b ≤ 940; omega, by show 1 ≤ 4; omega, ?_, tk_ne (by decide), tk_ne (by decide), tk_ne (by decide)⟩)
        · rw [wI_1, if_neg (by omega), wI_1, if_neg (by omega), wI_1, if_neg (by omega)]; exact k6
        · rw [wI_1, if_neg (by omega), wI_1, if_neg (by omega), wI_1, if_pos ⟨rfl, rfl⟩]; rfl
      · have e1 : min n most = n := by omega
        have e2 : b = n := by omega
        rw [if_pos (by omega), if_pos (show n ≤ most by omega), e1] at h
        rintro M2 rfl
        have S2 : NxR M (wI N1 229 7 0) := S1.w (by omega) (by omega)
        refine zuu (h _ b S2 (RdR_nx hR S2 (by rw [wI_1, if_neg (by omega)]; exact k5) hbn) (fun _ => rfl) ⟨?_, by show n ≤ 940; omega, by show 0 ≤ 4; omega, ?_, tk_ne (by decide), tk_ne (by decide), tk_ne (by decide)⟩)
        · rw [wI_1, if_neg (by omega), k6, e2]
        · rw [wI_1, if_pos ⟨rfl, rfl⟩]; rfl
    rw [hR1.2.2.1, hR1.2.2.2.1, k6, nI_leI (by omega) (by omega), nI_ltI (by omega) (by omega)]
    refine ⟨fun q => s96 (Or.inl q), fun q => ⟨fun q2 => s96 (Or.inr q2), fun q2 => ?_⟩⟩
    rintro M2 rfl
    rintro M3 rfl
    have S3 : NxR M (wI (wI N1 229 6 (nI most)) 229 7 1) := (S1.w (by omega) (by omega)).w (by omega) (by omega)
    have eA : min n most ≤ far isW tx (min n most - a) a := by
      rcases Nat.lt_or_ge (far isW tx (min n most - a) a) (min n most) with w | w
      · have := (hB.2 (by omega)).1
        omega
      · exact w
    have e : nextT tx n most a = ((1, most, [], 0), far isW tx (min n most - a) a) := by
      unfold nextT
      rw [if_pos eA, if_neg q, show min n most = most by omega]
    rw [e] at h
    refine zuu (h _ b S3 (RdR_nx hR S3 (by rw [wI_1, if_neg (by omega), wI_1, if_neg (by omega)]; exact k5) hbn) (fun w => absurd w (by show ¬ 2 ≤ 1; omega)) ⟨?_, by show most ≤ 940; omega, by show 1 ≤ 4; omega, ?_, tk_ne (by decide), tk_ne (by decide), tk_ne (by decide)⟩)
    · rw [wI_1, if_neg (by omega), wI_1, if_pos ⟨rfl, rfl⟩]
    · rw [wI_1, if_pos ⟨rfl, rfl⟩]; rfl
  have blanks : ∀ (c b : Nat) (N : zMem), b + c = n → NxR M N → N.1 229 5 = nI b → far isW tx c b = far isW tx (n - a) a → S_X12_go (d + 1) N (zU Q) := by
    intro c
    induction c with
    | zero =>
      intro b N hb hS g5 hf
      have hRN := RdR_nx hR hS g5 (by omega)
      exact t_X12_go ⟨fun _ => tail b N hS g5 (by omega) hf.symm, fun q => absurd (by rw [hRN.2.2.1, g5]; exact nI_le (by omega) (by omega)) q⟩
    | succ c ih =>
      intro b N hb hS g5 hf
      have hRN := RdR_nx hR hS g5 (by omega)
      have hbn : b < n := by omega
      have hc256 := hR.1.2 b hbn
      have on : isW (tx b) = true → ∀ N2, N2 = wI N 229 5 (N.1 229 5 + 1) → S_X12_go (d + 1) N2 (zU Q) := by
        rintro hw N2 rfl
        exact ih (b + 1) _ (by omega) (hS.w (by omega) (by omega)) (by rw [wI_1, if_pos ⟨rfl, rfl⟩, g5, nI_1]) (by rw [← hf, far_s hw])
      refine t_X12_go ⟨fun q => absurd q (by rw [hRN.2.2.1, g5]; exact nI_ge hbn (by omega)), fun _ => ⟨by rw [g5]; exact nIin (by omega) (by omega), ?_⟩⟩
      have r230 : N.1 230 (Int32.toNatClampNeg (N.1 229 5)) = nI (tx b) := by rw [g5, nI_clamp (by omega)]; exact hRN.2.1 b hbn
      rw [r230, show (32 : Int32) = nI 32 from rfl, show (10 : Int32) = nI 10 from rfl, nI_eq (by omega) (by omega), nI_eq (by omega) (by omega)]
      refine ⟨fun q => on (by rw [q]; decide), fun q => ⟨by rw [g5]; exact nIin (by omega) (by omega), fun q2 => tail b N hS g5 (by omega) ?_, fun q2 => on (by rw [q2]; decide)⟩⟩
      rw [← hf, far_e]
      unfold isW
      rw [decide_eq_false q, decide_eq_false q2]; rfl
  exact blanks (n - a) a M (by have := hR.2.2.2.2.2.2; omega) (NxR.refl M) hR.2.2.2.2.2.1 rfl
end
