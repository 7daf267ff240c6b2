-- ===== the constructors that make arrays of references =====
theorem arrV_congr {cI : ClassId} {n : Nat} {f f2 : Nat → Value} (h : ∀ j, j < n → f j = f2 j) : arrV cI n f = arrV cI n f2 := by
  unfold arrV
  rw [show (fun j : Fin n => f j.val) = (fun j : Fin n => f2 j.val) from funext fun j => h j.1 j.2]
theorem zP_call2 {G : Nat → va_E} {b N e e1 e2 : Nat} {x y : va_E} (hb : b < N) (hN : N ≤ e) (h1 : e < e1) (h2 : e1 ≤ e2) : zF (zP (z_up (zP G b x N e) e y) e y (e + 1) e1) e e1 e2 = zP G b x N e2 := by
  funext i
  unfold zF
  by_cases h : i = e ∨ (e1 ≤ i ∧ i < e2)
  · rw [if_pos h]; unfold zP; rw [if_neg (by omega), if_pos (by omega)]
  · rw [if_neg h]
    rw [show zP (z_up (zP G b x N e) e y) e y (e + 1) e1 i = if e + 1 ≤ i ∧ i < e1 then zE M0 i else z_up (zP G b x N e) e y i from if_neg (by omega)]
    by_cases h3 : e + 1 ≤ i ∧ i < e1
    · rw [if_pos h3]; unfold zP; rw [if_neg (by omega), if_pos (by omega)]
    · rw [if_neg h3, z_up_n _ _ (by omega)]
      unfold zP
      by_cases h4 : i = b
      · rw [if_pos h4, if_pos h4]
      · rw [if_neg h4, if_neg h4]
        by_cases h5 : N ≤ i ∧ i < e
        · rw [if_pos h5, if_pos (by omega)]
        · rw [if_neg h5, if_neg (by omega)]
theorem zP_merge {G : Nat → va_E} {b N a e : Nat} {x y y0 : va_E} (hb : b < N) (hN : N ≤ a) (h2 : a < e) (hy : zE M0 a = y) : zP (z_up (zP G b x N a) a y0) a y (a + 1) e = zP G b x N e := by
  funext i
  by_cases h : i = a
  · subst h; rw [zP_b, zP_in (by omega) (by omega), hy]
  · rw [show zP (z_up (zP G b x N a) a y0) a y (a + 1) e i = if a + 1 ≤ i ∧ i < e then zE M0 i else z_up (zP G b x N a) a y0 i from if_neg h]
    by_cases h3 : a + 1 ≤ i ∧ i < e
    · rw [if_pos h3]; unfold zP; rw [if_neg (by omega), if_pos (by omega)]
    · rw [if_neg h3, z_up_n _ _ h]
      unfold zP
      by_cases h4 : i = b
      · rw [if_pos h4, if_pos h4]
      · rw [if_neg h4, if_neg h4]
        by_cases h5 : N ≤ i ∧ i < a
        · rw [if_pos h5, if_pos (by omega)]
        · rw [if_neg h5, if_neg (by omega)]
theorem zP_swap {G : Nat → va_E} {b N e a : Nat} {x x2 y : va_E} (h : a ≠ b) : z_up (z_up (zP G b x N e) a y) b x2 = z_up (zP G b x2 N e) a y := by
  funext i
  by_cases h1 : i = b
  · subst h1; rw [z_up_s, z_up_n _ _ (fun q => h q.symm), zP_b]
  · rw [z_up_n _ _ h1]
    by_cases h2 : i = a
    · subst h2; rw [z_up_s, z_up_s]
    · rw [z_up_n _ _ h2, z_up_n _ _ h2]; unfold zP; rw [if_neg h1, if_neg h1]
section
variable {y : z_MD} {d mc ms cells slots pc index n b ci e : Nat} {L : List (Nat × Value)} {st : List Value} {N : Nat} {G : Nat → va_E} {K : z_K} {x y0 : va_E}
def rfs (t n : Nat) (f : Nat → Option Nat) : va_E := .inl (t, n, .inr (.inr (.inr (.inr f))))
/-- an array of references matters below its length -/
theorem z_N.re {a t : Nat} {f f2 : Nat → Option Nat} (ha : a < N) (hG : G a = rfs t n f) (hf : ∀ j, j < n → f j = f2 j) (k : z_N y d mc ms cells slots pc L st N (z_up G a (rfs t n f2)) K) : z_N y d mc ms cells slots pc L st N G K := by
  intro p l e R s m args below meth c D sA cA Hb Q H locs ls C hnE r hc hs hl hw hS
  refine k p l e R s m args below meth c D sA cA Hb Q H locs ls C hnE r hc hs hl ⟨?_, hw.2⟩ hS
  intro j q hj
  by_cases h : j < N
  · rw [z_wl_at h] at hj
    cases hj
    by_cases h2 : j = a
    · subst h2
      rw [z_up_s]
      have := hw.1 j _ (z_wl_at h)
      rw [hG] at this
      have this : H[Hb.size + j]? = some (vp_cell (cA t) (n, .inr (.inr (.inr (.inr (fun j => (f j).map (fun i => Hb.size + i))))))) := this
      show H[Hb.size + j]? = some (vp_cell (cA t) (n, .inr (.inr (.inr (.inr (fun j => (f2 j).map (fun i => Hb.size + i)))))))
      rw [this, vp_cell_q, vp_cell_q]
      rw [arrV_congr (f := fun j => va_rf ((f j).map (fun i => Hb.size + i))) (f2 := fun j => va_rf ((f2 j).map (fun i => Hb.size + i))) (fun j hj => by rw [hf j hj])]
    · rw [z_up_n _ _ h2]; exact hw.1 j _ (z_wl_at h)
  · have : (z_wl Hb.size sA cA N (z_up G a (rfs t n f2)))[j]? = none := by simp [z_wl]; omega
    rw [this] at hj; cases hj
theorem zk_arr {a t : Nat} {f : Nat → Option Nat} (hz : zc a = 100 + t ∧ zl a = n) (h3 : 3 < t) (h7 : t < 7) (hf : ∀ j, j < n → f j = some (zr a j)) (hb : b < N) (hN : N ≤ a) (hae : a < e) (k : z_N y d mc ms cells slots pc L st e (zP G b x N e) K) : z_N y d mc ms cells slots pc L st e (zP (z_up (zP G b x N a) a y0) a (rfs t n f) (a + 1) e) K := by
  refine z_N.re (f2 := fun j => some (zr a j)) hae zP_b hf ?_
  rw [zP_put, zP_merge hb hN hae (by rw [zE_r hz.1 h3 h7, hz.2]; rfl)]
  exact k
theorem zk_aast {a o t : Nat} {r0 : vw_C} {vs : List Value} {f : Nat → Option Nat} {i : Int32} (hd : decode y.2.1 pc = .ok (.aastore, 1)) (ha : a < e) (ho : o < e) (hO : zP G a (rfs t n f) N e o = .inr (ci, vs)) (hv : vwCl[ci]? = some r0) (ht : ∀ cA : Nat → ClassId, (z_tys cA)[t]? = some (cA t, .object r0.1)) (hi : vp_in i n) (k : z_N y d mc ms cells slots (pc + 1) L st e (zP G a (rfs t n (z_up f i.toNatClampNeg (some o))) N e) K) : z_N y d mc ms cells slots pc L (.ref o :: .int i :: .ref a :: st) e (zP G a (rfs t n f) N e) K :=
  zo_aast hd ha zP_b ho hO hv ht hi (by rw [zP_put]; exact k)
theorem zk_anew {E : String} {t : Nat} {v : Int32} (hd : decode y.2.1 pc = .ok (.anewarray index, 3)) (hcl : Cond.classLink y.1.cls index E ∈ z_good) (hao : Cond.arrayOver (.object E) ∈ lw_tbl) (ht : ∀ cA : Nat → ClassId, (z_tys cA)[t]? = some (cA t, .object E)) (hx : ¬ v < 0) (hn0 : v.toNatClampNeg = n) (hby : n * 4 ≤ 536870912) (hcc : cells + 1 ≤ mc) (hss : slots + n ≤ ms) (k : z_N y d mc ms (cells + 1) (slots + n) (pc + 3) L (.ref N :: st) (N + 1) (z_up G N (rfs t n (fun _ => none))) K) : z_N y d mc ms cells slots pc L (.int v :: st) N G K := zo_anew hd hcl hao ht hx hn0 hby hcc hss k
end
theorem zx_tbl {w : Cond} (hw : w ∈ tables_1) : w ∈ lw_tbl := by
  unfold lw_tbl
  exact List.mem_append_right _ hw
