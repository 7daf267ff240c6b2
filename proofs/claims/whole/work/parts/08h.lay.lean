
theorem o24 {tt me : Nat} : 24 * nI tt + nI me = nI (24 * tt + me) := by rw [show (24 : Int32) = nI 24 from rfl, pk_mul, nI_add]
theorem o24s {tt me : Nat} : nI (24 * tt + me) - 24 * nI tt = nI me := by
  rw [show (24 : Int32) = nI 24 from rfl, pk_mul, pk_sub (by omega), show 24 * tt + me - 24 * tt = me by omega]
/-- behind a key of the node's own -/
theorem liR_add {tt me k path : Nat} {up : Option Nat} {top : Int32} {ps ks : List Nat} {sub : List zNode} {bl : Nat} {M0 M M2 : zMem} (hme : me + 1 + sub.length ≤ 24) (hk24 : k < 24) (hsub : ∀ n ∈ sub, ∀ j ∈ n.2.1, j ≠ k) (h1 : M.1 246 tt = nI (me + 1 + sub.length)) (h2 : nodR M (24 * tt) me top ks bl up path) (h3 : nodsR M (24 * tt) (me + 1) sub) (h4 : frR tt me up true ps M0 M)
    (a5 : M2.1 248 = upd (M.1 248) (24 * tt + me) (M.1 248 (24 * tt + me) ||| ((1 : Int32) <<< (nI k &&& 31)))) (a6 : M2.1 249 = (if ks = [] then upd (M.1 249) (24 * tt + me) (nI k) else M.1 249)) (a7 : M2.1 250 = upd (M.1 250) (24 * tt + me) (nI k)) (a11 : M2.1 254 = upd (M.1 254) (24 * tt + k) (nI (path + 1))) (aS : Same (fun z => z = 248 ∨ z = 249 ∨ z = 250 ∨ z = 254) M M2) :
    M2.1 246 tt = nI (me + 1 + sub.length) ∧ nodR M2 (24 * tt) me top (ks ++ [k]) bl up path ∧ nodsR M2 (24 * tt) (me + 1) sub ∧ frR tt me up true (ps ++ [k]) M0 M2 := by
  have s0 := aS.1 246 (by omega)
  have s4 := aS.1 247 (by omega)
  have s8 := aS.1 251 (by omega)
  have s9 := aS.1 252 (by omega)
  have s10 := aS.1 253 (by omega)
  refine ⟨by rw [s0]; exact h1, ?_, ?_, ?_⟩
  · obtain ⟨w4, w5, w6, w7, w8, w9, w11⟩ := h2
    refine ⟨by rw [s4]; exact w4, by rw [a5, upd_s, w5, kbT_s], ?_, fun j e => ?_, by rw [s8]; exact w8, by rw [s9]; exact w9, fun j e => ?_⟩
    · rw [a6]
      cases ks with
      | nil => rw [if_pos rfl, upd_s]; rfl
      | cons q qs => rw [if_neg (by simp)]; exact w6
    · have : k = j := by simpa using e
      rw [a7, upd_s, this]
    · rw [a11]
      by_cases q : j = k
      · rw [q, upd_s]
      · rw [upd_n _ _ (by omega)]
        rcases List.mem_append.mp e with e | e
        · exact w11 j e
        · exact absurd (List.mem_singleton.mp e) q
  · intro j n hj
    obtain ⟨⟨w4, w5, w6, w7, w8, w9, w11⟩, w10⟩ := h3 j n hj
    refine ⟨⟨by rw [s4]; exact w4, by rw [a5, upd_n _ _ (by omega)]; exact w5, ?_, fun q e => by rw [a7, upd_n _ _ (by omega)]; exact w7 q e, by rw [s8]; exact w8, by rw [s9]; exact w9, fun q e => by rw [a11, upd_n _ _ (by have := hsub n (List.mem_of_getElem? hj) q e; omega)]; exact w11 q e⟩, by rw [s10]; exact w10⟩
    rw [a6]
    split
    · rw [upd_n _ _ (by omega)]; exact w6
    · exact w6
  · obtain ⟨f1, f2, f3, f4, f5⟩ := h4
    refine ⟨f1.trans (aS.mono (fun i hi => by omega)), fun j hj => by rw [s0]; exact f2 j hj, fun z z1 z2 z3 j hj => ?_, fun j hj => by rw [s8]; exact f4 j hj, fun q hq => ?_⟩
    · refine Eq.trans ?_ (f3 z z1 z2 z3 j hj)
      rcases (show z = 247 ∨ z = 248 ∨ z = 249 ∨ z = 250 ∨ z = 252 ∨ z = 253 by omega) with rfl | rfl | rfl | rfl | rfl | rfl
      · rw [s4]
      · rw [a5, upd_n _ _ (by omega)]
      · rw [a6]; split
        · rw [upd_n _ _ (by omega)]
        · rfl
      · rw [a7, upd_n _ _ (by omega)]
      · rw [s9]
      · rw [s10]
    · rw [a11, upd_n _ _ (fun e => hq k (by simp) e)]
      exact f5 q (fun j e => hq j (List.mem_append_left _ e))
theorem nodR_w {M : zMem} {o i x : Nat} {lv y : Int32} {ks : List Nat} {bl path : Nat} {up : Option Nat} (h : nodR M o i lv ks bl up path) : nodR (wI M 253 x y) o i lv ks bl up path := by
  obtain ⟨w4, w5, w6, w7, w8, w9, w11⟩ := h
  refine ⟨?_, ?_, ?_, fun k e => ?_, ?_, ?_, fun k e => ?_⟩
  · rw [wI_1, if_neg (by omega)]; exact w4
  · rw [wI_1, if_neg (by omega)]; exact w5
  · rw [wI_1, if_neg (by omega)]; exact w6
  · rw [wI_1, if_neg (by omega)]; exact w7 k e
  · rw [wI_1, if_neg (by omega)]; exact w8
  · rw [wI_1, if_neg (by omega)]; exact w9
  · rw [wI_1, if_neg (by omega)]; exact w11 k e
/-- what the laying of nodes reads stays -/
theorem frR_rd {tt m0 : Nat} {up : Option Nat} {ne : Bool} {ks : List Nat} {M M2 : zMem} (h : frR tt m0 up ne ks M M2) {z : Nat} (hz : z < 246) : M2.1 z = M.1 z := h.1.1 z (by omega)
theorem planR_same {M M2 : zMem} {n : Nat} {od : Nat → Nat} (h : planR M n od) (h1 : M2.1 231 = M.1 231) (h2 : M2.1 243 = M.1 243) (h3 : M2.1 244 = M.1 244) : planR M2 n od := by
  unfold planR
  rw [h1, h2, h3]
  exact h
theorem fR_same {M M2 : zMem} (h1 : M2.1 231 = M.1 231) : fR M2 = fR M := by unfold fR; rw [h1]
