-- ===== node, both sides =====
def gdN (n : zNode) : Prop := n.2.1 ≠ [] ∧ n.2.1.Nodup
theorem gT_good (lv dg : Nat → Int32) : ∀ (f : Nat) (ks : List Nat) (up : Option Nat) (me path : Nat), (∀ k ∈ ks, 0 ≤ lv k) → ks.Nodup → ∀ n ∈ (gT lv dg f ks up me path).2, gdN n
  | 0, ks, up, me, path, _, _ => by simp [gT]
  | f + 1, ks, up, me, path, h0, hn => by
    by_cases hk : ks = []
    · subst hk; simp [gT]
    rw [gT_eq lv dg f hk]
    have fold : ∀ (qs ps : List Nat) (r : zAcc), (∀ k ∈ ps ++ qs, 0 ≤ lv k) → (ps ++ qs).Nodup → acT lv (topL lv 0 ks) ps r → (∀ n ∈ r.2.2.1, gdN n) → ∀ n ∈ (qs.foldl (stT lv dg f me path (topL lv 0 ks)) r).2.2.1, gdN n := by
      intro qs
      induction qs with
      | nil => intro ps r _ _ _ h; exact h
      | cons q qs ih =>
        intro ps r g0 gn ga gg
        refine ih (ps ++ [q]) (stT lv dg f me path (topL lv 0 ks) r q) (by simpa using g0) (by simpa using gn) (acT_step (okT_all lv dg f) (fun j hj => g0 j (List.mem_append_left _ hj)) ga) ?_
        obtain ⟨⟨l, h1, -⟩, -⟩ := ga
        unfold stT
        by_cases e : lv q = topL lv 0 ks
        · rw [if_pos e]
          intro n hn
          rcases List.mem_append.mp hn with w | w
          · exact gg n w
          · refine gT_good lv dg f r.2.1 _ _ _ (fun j hj => g0 j (List.mem_append_left _ (by rw [h1]; exact List.mem_append_right _ hj))) ?_ n w
            have := (List.nodup_append.mp gn).1
            rw [h1] at this
            exact (List.nodup_append.mp this).2.1
        · rw [if_neg e]; exact gg
    have good := fold ks [] (topL lv 0 ks + 1, [], [], [], 0) (by simpa using h0) (by simpa using hn) (acT_0 lv (topL lv 0 ks) _) (fun _ h => by cases h)
    have fin := acT_fold (me := me) (path := path) (okT_all lv dg f) ks [] (topL lv 0 ks + 1, [], [], [], 0) (by simpa using h0) (acT_0 lv (topL lv 0 ks) _)
    rw [List.nil_append] at fin
    generalize ks.foldl (stT lv dg f me path (topL lv 0 ks)) (topL lv 0 ks + 1, [], [], [], 0) = r at fin good
    obtain ⟨⟨l, h1, h5⟩, h2, h3, -⟩ := fin
    obtain ⟨k, hk1, hk2⟩ := topL_hit hk h0
    unfold enT
    intro n hn2
    rcases List.mem_cons.mp hn2 with q | q
    · rw [q]
      refine ⟨fun e => ?_, ?_⟩
      · have e : r.2.2.2.1 = [] := e
        rw [h2] at e
        have : k ∈ ks.filter (fun k => decide (lv k = topL lv 0 ks)) := List.mem_filter.mpr ⟨hk1, by simpa using hk2⟩
        rw [e] at this
        cases this
      · show r.2.2.2.1.Nodup
        rw [h2]
        exact hn.sublist List.filter_sublist
    · rcases List.mem_append.mp q with q | q
      · exact good n q
      · refine gT_good lv dg f r.2.1 _ _ _ (fun j hj => h0 j (by rw [h1]; exact List.mem_append_right _ hj)) ?_ n q
        rw [h1] at hn
        exact (List.nodup_append.mp hn).2.1
def nodV (n : zNode) (w : Nat) : Int32 := if w = 0 then n.1 else if w = 1 then nI n.2.1.length else if w = 2 then nI (n.2.1.headD 0) else if w = 3 then nI (n.2.1.getLastD 0) else if w = 4 then nI n.2.2.1 else if w = 5 then upI n.2.2.2.1 else n.2.2.2.2.1
theorem hd_some {l : List Nat} (h : l ≠ []) : l.head? = some (l.headD 0) := by cases l with
  | nil => exact absurd rfl h
  | cons a l => rfl
theorem ls_some {l : List Nat} (h : l ≠ []) : l.getLast? = some (l.getLastD 0) := by
  rw [List.getLastD_eq_getLast?]
  cases e : l.getLast? with
  | none => exact absurd (List.getLast?_eq_none_iff.mp e) h
  | some a => rfl
theorem nodC_v {M : zMem} {t j : Nat} {ns : List zNode} {n : zNode} (h : nodsC M t 0 ns) (hj : ns[j]? = some n) (hg : gdN n) : M.1 (t + 4) j = nodV n 0 ∧ M.1 (t + 5) j = nodV n 1 ∧ M.1 (t + 6) j = nodV n 2 ∧ M.1 (t + 7) j = nodV n 3 ∧ M.1 (t + 8) j = nodV n 4 ∧ M.1 (t + 9) j = nodV n 5 ∧ M.1 (t + 10) j = nodV n 6 := by
  have q := h j n hj
  rw [Nat.zero_add] at q
  obtain ⟨⟨h4, h5, h6, h7, h8, h9, -⟩, h10⟩ := q
  exact ⟨h4, h5, h6 _ (hd_some hg.1), h7 _ (ls_some hg.1), h8, h9, h10⟩
theorem nodR_v {M : zMem} {j : Nat} {ns : List zNode} {n : zNode} (h : nodsR M 0 0 ns) (hj : ns[j]? = some n) (hg : gdN n) : M.1 247 j = nodV n 0 ∧ M.1 248 j = kbT n.2.1 ∧ M.1 249 j = nodV n 2 ∧ M.1 250 j = nodV n 3 ∧ M.1 251 j = nodV n 4 ∧ M.1 252 j = nodV n 5 ∧ M.1 253 j = nodV n 6 := by
  have q := h j n hj
  simp only [Nat.zero_add] at q
  obtain ⟨⟨h4, h5, h6, h7, h8, h9, -⟩, h10⟩ := q
  rw [hd_some hg.1] at h6
  simp only [Nat.zero_add] at h4 h5 h6 h7 h8 h9
  exact ⟨h4, h5, h6, h7 _ (ls_some hg.1), h8, h9, h10⟩
section
variable {d B p q k : Nat} {M M2 : zMem} {N : zNm} {P : zPl} {F : Nat → Int32} {us : List (Nat → Int32)} {x y z : Int32}
theorem ksP_nd (hP : okP P) : (ksP P F p).Nodup := keysT_nodup hP.2.2.2.2.2.1
theorem trP_good (hP : okP P) : ∀ n ∈ trP P F p, gdN n := gT_good _ _ _ _ _ _ _ (fun k hk => (ksP_mem hP hk).2.1) (ksP_nd hP)
theorem m_nodeV (h : JA B M N F us) (hp : p < mP (plOf N)) {j w : Nat} {n : zNode} (hj : (trP (plOf N) F p)[j]? = some n) (hw : w < 7) {v : Int32} (hv : nodV n w = v) : S_X12_node (d + 40) (nI p) (nI j) (nI w) (wL M 263 0 v.toInt64) (zI (eR B v)) := by
  have h4 := h.m4
  have hl := trP_len (P := plOf N) (F := F) (p := p) h.pc.1
  have hjl := (List.getElem?_eq_some_iff.mp hj).1
  refine t_X12_node (fun M1 e1 => c_X12_isPeer (e1 ▸ (h.out _).w0.r1) h4 ⟨fun _ => ?_, fun e2 => (by rw [inN_nI hp (by omega)] at e2; cases e2)⟩)
  have hw1 : JA B M1 N F us := e1 ▸ (h.out _).w0
  refine e_X12_layTree (d := d + 11) (tt := 0) (by omega) (by omega) hw1.pr (fun M2 a1 a2 l => ?_)
  have lo : LayOnly M1 M2 := l.1
  have e0 : M2.1 229 0 = 0 := by rw [lo.1 229 (by omega), e1, wI_1, if_pos ⟨rfl, rfl⟩]
  have e3 : M2.2 263 0 = v.toInt64 := by rw [lo.2 263 (by omega), e1, wI_2, wL_s]
  have hj2 := (hw1.lay lo).j
  have hg := trP_good (F := F) (p := p) h.pc.1 n (List.mem_of_getElem? hj)
  obtain ⟨b0, b1, b2, b3, b4, b5, b6⟩ := nodR_v a2 hj hg
  refine c_X12_isIn ?_
  rw [a1, show (0 : Int32) = nI 0 from rfl]
  rw [show (decide (¬ nI j < nI 0) && decide (¬ (nI (trP (plOf N) F p).length - 1) < nI j)) = inN (nI j) (trP (plOf N) F p).length from inN_pred (by omega) _, inN_nI hjl (by omega)]
  rw [nI_clamp (by omega)]
  have hin : vp_in (nI j) 48 := nIin (by omega) (by omega)
  have k : ∀ i, i < 7 → nI w = nI i → w = i := fun i hi e => nI_inj (by omega) (by omega) e
  refine ⟨fun _ => ⟨fun e => ⟨hin, zii ⟨?_, e0, e3, hj2⟩⟩, fun e => ⟨hin, c_X12_bits (zii ⟨?_, e0, e3, hj2⟩)⟩, fun e => ⟨hin, zii ⟨?_, e0, e3, hj2⟩⟩, fun e => ⟨hin, zii ⟨?_, e0, e3, hj2⟩⟩, fun e => ⟨hin, zii ⟨?_, e0, e3, hj2⟩⟩, fun e => ⟨hin, zii ⟨?_, e0, e3, hj2⟩⟩, fun e => ⟨hin, zii ⟨?_, e0, e3, hj2⟩⟩, fun f0 f1 f2 f3 f4 f5 f6 => ?_⟩, fun e2 => (by cases e2)⟩
  · rw [b0, ← hv, k 0 (by omega) e]
  · rw [b1, ← hv, k 1 (by omega) e, pop_kbT hg.2 (fun k hk => by have := trP_keys (F := F) (p := p) h.pc.1 n (List.mem_of_getElem? hj) k hk; omega)]; rfl
  · rw [b2, ← hv, k 2 (by omega) e]
  · rw [b3, ← hv, k 3 (by omega) e]
  · rw [b4, ← hv, k 4 (by omega) e]
  · rw [b5, ← hv, k 5 (by omega) e]
  · rw [b6, ← hv, k 6 (by omega) e]
  · have : w = 0 ∨ w = 1 ∨ w = 2 ∨ w = 3 ∨ w = 4 ∨ w = 5 ∨ w = 6 := by omega
    rcases this with rfl | rfl | rfl | rfl | rfl | rfl | rfl
    · exact absurd rfl f0
    · exact absurd rfl f1
    · exact absurd rfl f2
    · exact absurd rfl f3
    · exact absurd rfl f4
    · exact absurd rfl f5
    · exact absurd rfl f6
theorem m_nodeX (h : JA B M N F us) (hp : p < mP (plOf N)) (hx : inN x (trP (plOf N) F p).length = false ∨ inN y 7 = false) : S_X12_node (d + 40) (nI p) x y M (zI (eX B)) := by
  have h4 := h.m4
  have hl := trP_len (P := plOf N) (F := F) (p := p) h.pc.1
  refine t_X12_node (fun M1 e1 => c_X12_isPeer (e1 ▸ h.w0.r1) h4 ⟨fun _ => ?_, fun e2 => (by rw [inN_nI hp (by omega)] at e2; cases e2)⟩)
  have hw1 : JA B M1 N F us := e1 ▸ h.w0
  refine e_X12_layTree (d := d + 11) (tt := 0) (by omega) (by omega) hw1.pr (fun M2 a1 a2 l => ?_)
  have hw2 : JA B M2 N F us := hw1.lay l.1
  refine c_X12_isIn ?_
  rw [a1, inN_pred (by omega) _]
  refine ⟨fun e => ?_, fun _ => m_refuse hw2⟩
  have e7 : inN y 7 = false := by
    rcases hx with g | g
    · rw [e] at g; cases g
    · exact g
  have no : ∀ i, i < 7 → ¬ y = nI i := fun i hi q => by rw [q, inN_nI hi (by omega)] at e7; cases e7
  exact ⟨fun q => absurd q (no 0 (by omega)), fun q => absurd q (no 1 (by omega)), fun q => absurd q (no 2 (by omega)), fun q => absurd q (no 3 (by omega)), fun q => absurd q (no 4 (by omega)), fun q => absurd q (no 5 (by omega)), fun q => absurd q (no 6 (by omega)), fun _ _ _ _ _ _ _ => m_refuse hw2⟩
theorem inN_false {n : Nat} (h : x < 0 ∨ nI n ≤ x) : inN x n = false := by
  unfold inN
  rcases h with h | h <;> simp [h]
theorem inN_true {n : Nat} (h : ¬ x < 0) (h2 : ¬ nI n ≤ x) : inN x n = true := by
  unfold inN; simp only [h, h2, not_false_eq_true, decide_true, Bool.and_self]
theorem le_in {n : Nat} (hn : n + 1 < 2 ^ 31) : nI (n + 1) ≤ x ↔ ¬ x ≤ nI n := by
  have a := nI_toInt (n := n) (by omega)
  have b := nI_toInt hn
  rw [Int32.le_iff_toInt_le, Int32.le_iff_toInt_le, a, b]
  omega
theorem o_node (h : JA B M N F us) : zT m_X11_node (d + 40) 0 [(0, .ref 0), (1, .int x), (2, .int y), (3, .int z)] [] M (zI fun r M1 => S_X12_node (d + 40) x y z (wL M1 263 0 r.toInt64) (zI (eR B r))) (fun M1 => S_X12_node (d + 40) x y z M1 (zI (eX B))) := by
  have h4 := h.m4
  refine tq_node (d := d + 34) (c_X11_isPeer h.c4 ⟨fun e => ?_, fun e => ?_⟩)
  · exact t_X12_node (fun M1 e1 => c_X12_isPeer (e1 ▸ h.w0.r1) h4 ⟨fun e2 => (by rw [e] at e2; cases e2), fun _ => m_refuse (e1 ▸ h.w0)⟩)
  obtain ⟨p, hp, rfl⟩ := inN_of e (by omega)
  have hl := trP_len (P := plOf N) (F := F) (p := p) h.pc.1
  obtain ⟨-, t2, t3⟩ := PC_t63 h.pc (p := p) (by omega)
  refine ⟨fun q => m_nodeX h hp (Or.inl (inN_false (Or.inl q))), fun q1 => ?_⟩
  rw [nI_clamp (by omega), t2]
  refine ⟨nIin (by omega) (by omega), fun q => m_nodeX h hp (Or.inl (inN_false (Or.inr q))), fun q2 => ⟨fun q => m_nodeX h hp (Or.inr (inN_false (Or.inl q))), fun q3 => ⟨fun q4 => ?_, fun q => m_nodeX h hp (Or.inr (inN_false (Or.inr ((le_in (n := 6) (by omega)).mpr q))))⟩⟩⟩
  obtain ⟨j, hj, rfl⟩ := inN_of (inN_true q1 q2) (by omega)
  obtain ⟨w, hw, rfl⟩ := inN_of (n := 7) (inN_true q3 (fun e => (le_in (n := 6) (by omega)).mp e q4)) (by omega)
  have hjs := List.getElem?_eq_getElem hj
  have hg := trP_good (F := F) (p := p) h.pc.1 _ (List.mem_of_getElem? hjs)
  obtain ⟨b0, b1, b2, b3, b4, b5, b6⟩ := nodC_v t3 hjs hg
  have k : ∀ i, i < 7 → nI w = nI i → w = i := fun i hi e => nI_inj (by omega) (by omega) e
  have hin : vp_in (nI j) 24 := nIin (by omega) (by omega)
  have m : ∀ {v : Int32}, nodV _ w = v → _ := fun {v} e => m_nodeV (d := d) h hp hjs hw (v := v) e
  refine t_X9_tell (ids_t63 p (by omega)) ?_
  rw [nI_clamp (by omega)]
  refine ⟨fun e => ⟨hin, zii (zii (m ?_))⟩, fun e => ⟨hin, zii (zii (m ?_))⟩, fun e => ⟨hin, zii (zii (m ?_))⟩, fun e => ⟨hin, zii (zii (m ?_))⟩, fun e => ⟨hin, zii (zii (m ?_))⟩, fun e => ⟨hin, zii (zii (m ?_))⟩, fun f0 f1 f2 f3 f4 f5 => ⟨hin, zii (zii (m ?_))⟩⟩
  · rw [b0, k 0 (by omega) e]
  · rw [b1, k 1 (by omega) e]
  · rw [b2, k 2 (by omega) e]
  · rw [b3, k 3 (by omega) e]
  · rw [b4, k 4 (by omega) e]
  · rw [b5, k 5 (by omega) e]
  · have : w = 0 ∨ w = 1 ∨ w = 2 ∨ w = 3 ∨ w = 4 ∨ w = 5 ∨ w = 6 := by omega
    rcases this with rfl | rfl | rfl | rfl | rfl | rfl | rfl
    · exact absurd rfl f0
    · exact absurd rfl f1
    · exact absurd rfl f2
    · exact absurd rfl f3
    · exact absurd rfl f4
    · exact absurd rfl f5
    · exact b6.symm
end
