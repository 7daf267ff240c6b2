-- ===== cluster =====
section
variable {tx : Nat → Nat} {n most : Nat} {s : zPs} {c : zCl} {f : zFt}
def okK (f : zFt) : Prop := 1 ≤ f.1 ∧ f.1 ≤ 4
theorem okK_1 {a : Nat} : okK (1, a) := by unfold okK; simp
theorem okK_2 {a : Nat} : okK (2, a) := by unfold okK; simp
theorem okK_3 {a : Nat} : okK (3, a) := by unfold okK; simp
theorem okK_4 {a : Nat} : okK (4, a) := by unfold okK; simp
theorem numP_k {lo hi : Nat} (h : numP lo hi s = .inl f) : okK f := by
  unfold numP at h
  split at h
  · split at h
    · cases h
    · cases h; exact okK_2
  · cases h; exact okK_1
theorem namP_k {names : List (List Nat)} (h : namP names s = .inl f) : okK f := by
  unfold namP at h
  split at h
  · split at h
    · cases h
    · cases h; exact okK_3
  · cases h; exact okK_1
theorem newP_k (h : newP c s = .inl f) : okK f := by
  unfold newP at h
  split at h
  · cases h; exact okK_1
  · split at h
    · cases h
    · cases h; exact okK_3
theorem setP_k {w : Nat} (h : setP tx n most w c s = .inl f) : okK f := by
  unfold setP at h
  split at h
  · cases h; exact okK_3
  · split at h
    · rename_i g hg; cases h; exact numP_k hg
    · cases h
theorem rulP_k (h : rulP tx n most c s = .inl f) : okK f := by
  unfold rulP at h
  split at h
  · cases h; exact okK_3
  · split at h
    · split at h
      · cases h
      · cases h; exact okK_1
    · cases h; exact okK_1
theorem keyP_k (h : keyP tx n most c s = .inl f) : okK f := by
  unfold keyP at h
  split at h
  · cases h; exact okK_4
  · split at h
    · rename_i g hg; cases h; exact newP_k hg
    · cases h
theorem perP_k (h : perP tx n most c s = .inl f) : okK f := by
  unfold perP at h
  split at h
  · cases h; exact okK_4
  · split at h
    · rename_i g hg; cases h; exact newP_k hg
    · cases h
theorem hasP_k (h : hasP tx n most c s = .inl f) : okK f := by
  unfold hasP at h
  split at h
  · rename_i g hg; cases h; exact namP_k hg
  · split at h
    · rename_i g hg; cases h; exact namP_k hg
    · split at h
      · cases h; exact okK_3
      · split at h
        · rename_i g hg; cases h; exact numP_k hg
        · cases h
theorem cutP_k (h : cutP tx n most c s = .inl f) : okK f := by
  unfold cutP at h
  split at h
  · rename_i g hg; cases h; exact namP_k hg
  · split at h
    · rename_i g hg; cases h; exact namP_k hg
    · split at h
      · cases h; exact okK_3
      · cases h
theorem lneP_k (h : lneP tx n most c s = .inl f) : okK f := by
  unfold lneP at h
  split at h
  · exact setP_k h
  split at h
  · exact setP_k h
  split at h
  · exact rulP_k h
  split at h
  · exact keyP_k h
  split at h
  · exact perP_k h
  split at h
  · exact hasP_k h
  split at h
  · exact cutP_k h
  · cases h; exact okK_1
theorem linP_k (h : linP tx n most c s = .inl f) : okK f := by
  unfold linP at h
  split at h
  · rename_i g hg; cases h; exact lneP_k hg
  · split at h
    · cases h
    · cases h; exact okK_1
theorem linsP_k : ∀ (fu i : Nat) (c : zCl) (s : zPs) {j : Nat}, linsP tx n most fu i c s = .inl (f, j) → okK f
  | 0, i, c, s, j, h => by
    unfold linsP at h
    cases h
    exact okK_1
  | fu + 1, i, c, s, j, h => by
    unfold linsP at h
    split at h
    · cases h
    · split at h
      · rename_i g hg
        cases h
        exact linP_k hg
      · exact linsP_k fu (i + 1) _ _ h
end
section
variable {d B b p q k m n most : Nat} {M M2 M3 : zMem} {N N2 : zNm} {F G : Nat → Int32} {us us2 : List (Nat → Int32)} {x y z v : Int32} {tx : Nat → Nat} {f : zFt}
/-- what the reading of a text may change besides -/
def KO (M M2 : zMem) : Prop := Same (fun z => z = 0 ∨ (2 ≤ z ∧ z ≤ 31) ∨ (64 < z ∧ z < 113) ∨ z = 170 ∨ z = 220 ∨ z = 221 ∨ z = 229 ∨ z = 231 ∨ z = 232 ∨ z = 237 ∨ z = 238 ∨ z = 241 ∨ (242 ≤ z ∧ z ≤ 245)) M M2 ∧ (∀ j, j ≠ 1 → j ≠ 16 → j ≠ 17 → M2.1 0 j = M.1 0 j) ∧ ∀ j, 13 < j → j ≠ 25 → j ≠ 27 → M2.1 229 j = M.1 229 j
theorem JO_clu (h : JO B M N) (hs : KO M M2) (h1 : nmC M2 3 N2) (h2 : nmR M2 N2) (h3 : sayJ M2 (prN N2).length) (h4 : tapeJ M2) (h5 : fltJ M2) : JO B M2 N2 := by
  obtain ⟨a1, a2, a3, a4, a5, a6, a7, a8, a9, a10⟩ := h
  have t : ∀ z, ¬ (z = 0 ∨ (2 ≤ z ∧ z ≤ 31) ∨ (64 < z ∧ z < 113) ∨ z = 170 ∨ z = 220 ∨ z = 221 ∨ z = 229 ∨ z = 231 ∨ z = 232 ∨ z = 237 ∨ z = 238 ∨ z = 241 ∨ (242 ≤ z ∧ z ≤ 245)) → M2.1 z = M.1 z := fun z hz => hs.1.1 z hz
  have t2 : ∀ z, ¬ (z = 0 ∨ (2 ≤ z ∧ z ≤ 31) ∨ (64 < z ∧ z < 113) ∨ z = 170 ∨ z = 220 ∨ z = 221 ∨ z = 229 ∨ z = 231 ∨ z = 232 ∨ z = 237 ∨ z = 238 ∨ z = 241 ∨ (242 ≤ z ∧ z ≤ 245)) → M2.2 z = M.2 z := fun z hz => hs.1.2 z hz
  have t9 := hs.2.2
  have t0 := hs.2.1
  exact ⟨h1, h2, h3, imgJ_same a4 (fun z z1 z2 => t z (by omega)) (fun z z1 z2 => t2 z (by omega)) (t 233 (by omega)) (t2 239 (by omega)) (t 240 (by omega)), h4, h5, ofrJ_same a7 (t0 13 (by omega) (by omega) (by omega)) (t 227 (by omega)) (t9 44 (by omega) (by omega) (by omega)) (t 256 (by omega)), tagJ_same a8 (t0 15 (by omega) (by omega) (by omega)) (t 228 (by omega)) (t9 46 (by omega) (by omega) (by omega)) (t 257 (by omega)), refJ_same a9 (by rw [t 217 (by omega)]) (t 219 (by omega)) (t9 49 (by omega) (by omega) (by omega)) (t 259 (by omega)), tldJ_same a10 (fun j _ => by rw [t 222 (by omega)]) (t9 54 (by omega) (by omega) (by omega)) (t 261 (by omega))⟩
theorem c_X6_open {Q : zMem → Prop} (htx : txOK tx n) (hm : most ≤ 940) (ht : ∀ i, i < n → M.1 1 i &&& 255 = nI (tx i)) (h : ∀ M2, TC M2 tx n most (nextT tx n most 0) → M2.1 220 10 = 0 → M2.1 220 11 = 0 → Same (fun z => z = 220) M M2 → Q M2) : S_X6_open (d + 3) (nI n) (nI most) M (zU Q) := by
  refine t_X6_open ?_
  intro M1 e1 M2 e2 M3 e3 M4 e4 M5 e5 M6 e6
  have S6 : Same (fun z => z = 220) M M6 := by rw [e6, e5, e4, e3, e2, e1]; exact ((((((Same.refl (fun z => z = 220) M).wI rfl).wI rfl).wI rfl).wI rfl).wI rfl).wI rfl
  refine c_X6_next (tx := tx) (n := n) (most := most) (a := 0) ⟨htx, fun i hi => by rw [S6.1 1 (by omega)]; exact ht i hi, ?_, ?_, hm, ?_, Nat.zero_le _⟩ (fun M7 n7 r7 k7 => zuu (h M7 ⟨r7, k7⟩ ?_ ?_ (S6.trans n7.1)))
  · rw [e6, wI_1, if_neg (by omega), e5, wI_1, if_neg (by omega), e4, wI_1, if_neg (by omega), e3, wI_1, if_neg (by omega), e2, wI_1, if_neg (by omega), e1, wI_1, if_pos ⟨rfl, rfl⟩]
  · rw [e6, wI_1, if_neg (by omega), e5, wI_1, if_neg (by omega), e4, wI_1, if_neg (by omega), e3, wI_1, if_neg (by omega), e2, wI_1, if_pos ⟨rfl, rfl⟩]
  · rw [e6, wI_1, if_neg (by omega), e5, wI_1, if_neg (by omega), e4, wI_1, if_neg (by omega), e3, wI_1, if_pos ⟨rfl, rfl⟩]; rfl
  · rw [n7.2 10 (by omega), e6, wI_1, if_neg (by omega), e5, wI_1, if_neg (by omega), e4, wI_1, if_pos ⟨rfl, rfl⟩]
  · rw [n7.2 11 (by omega), e6, wI_1, if_neg (by omega), e5, wI_1, if_pos ⟨rfl, rfl⟩]
theorem c_closeText {Q : zMem → Prop} {a : Nat} (ha : a ≤ 4) (hk : M.1 220 11 = nI a) (h : ∀ M2, M2.1 0 1 = 0 → M2.1 0 16 = nI a → M2.1 0 17 = (if a = 0 then -1 else x) → (∀ j, j ≠ 1 → j ≠ 16 → j ≠ 17 → M2.1 0 j = M.1 0 j) → Same (fun z => z = 0) M M2 → Q M2) : S_X11_closeText d x M (zU Q) := by
  refine t_X11_closeText ?_
  intro M1 e1 M2 e2
  have e11 : M1.1 220 11 = nI a := by rw [e1, wI_ne _ (by omega)]; exact hk
  have e16 : M2.1 0 16 = nI a := by rw [e2, wI_1, if_pos ⟨rfl, rfl⟩]; exact e11
  rw [e16]
  have S2 : Same (fun z => z = 0) M M2 := by rw [e2, e1]; exact ((Same.refl (fun z => z = 0) M).wI rfl).wI rfl
  have main : ∀ w M3, M3 = wI M2 0 17 w → w = (if a = 0 then -1 else x) → Q M3 := by
    intro w M3 e3 ew
    refine h M3 ?_ ?_ ?_ (fun j j1 j2 j3 => ?_) (by rw [e3]; exact S2.wI rfl)
    · rw [e3, wI_1, if_neg (by omega), e2, wI_1, if_neg (by omega), e1, wI_1, if_pos ⟨rfl, rfl⟩]
    · rw [e3, wI_1, if_neg (by omega)]; exact e16
    · rw [e3, wI_1, if_pos ⟨rfl, rfl⟩]; exact ew
    · rw [e3, wI_1, if_neg (by omega), e2, wI_1, if_neg (by omega), e1, wI_1, if_neg (by omega)]
  refine ⟨fun q M3 e3 => zuu (main x M3 e3 ?_), fun q M3 e3 => zuu (main (-1) M3 e3 ?_)⟩
  · rw [if_neg (fun e => q (by rw [e]; rfl))]
  · rw [if_pos (nI_inj (j := 0) (by omega) (by omega) q)]
theorem tape0 (h1 : M.1 0 1 = 0) (h2 : M.1 229 2 = 0) : tapeJ M := ⟨fun _ => 0, 0, ⟨by omega, fun i hi => absurd hi (Nat.not_lt_zero i)⟩, h1, h2, fun i hi => absurd hi (Nat.not_lt_zero i), fun i hi => absurd hi (Nat.not_lt_zero i)⟩
end
