-- ===== the model's layNodes =====
def kbT (ks : List Nat) : Int32 := ks.foldl (fun s k => s ||| ((1 : Int32) <<< (nI k &&& 31))) 0
theorem kbT_s (ks : List Nat) (k : Nat) : kbT (ks ++ [k]) = kbT ks ||| ((1 : Int32) <<< (nI k &&& 31)) := by unfold kbT; rw [List.foldl_append]; rfl
def nodR (M : zMem) (o i : Nat) (lv : Int32) (ks : List Nat) (bl : Nat) (up : Option Nat) (path : Nat) : Prop :=
  M.1 247 (o + i) = lv ∧ M.1 248 (o + i) = kbT ks ∧ (M.1 249 (o + i) = match ks.head? with
    | none => -1
    | some k => nI k) ∧ (∀ k, ks.getLast? = some k → M.1 250 (o + i) = nI k) ∧ M.1 251 (o + i) = nI bl ∧ M.1 252 (o + i) = upI up ∧ ∀ k ∈ ks, M.1 254 (o + k) = nI (path + 1)
def nodsR (M : zMem) (o me : Nat) (ns : List zNode) : Prop := ∀ j n, ns[j]? = some n → nodR M o (me + j) n.1 n.2.1 n.2.2.1 n.2.2.2.1 n.2.2.2.2.2 ∧ M.1 253 (o + (me + j)) = n.2.2.2.2.1
def frR (tt m0 : Nat) (up : Option Nat) (ne : Bool) (ks : List Nat) (M M2 : zMem) : Prop :=
  Same (fun z => 246 ≤ z ∧ z ≤ 254) M M2 ∧ (∀ j, j ≠ tt → M2.1 246 j = M.1 246 j) ∧ (∀ z, 247 ≤ z → z ≤ 253 → z ≠ 251 → ∀ j, (j < 24 * tt + m0 ∨ 24 * tt + 24 ≤ j) → M2.1 z j = M.1 z j) ∧ (∀ j, (j < 24 * tt + m0 ∨ 24 * tt + 24 ≤ j) → M2.1 251 j = if ne = true ∧ up.map (fun u => 24 * tt + u) = some j then M.1 251 j + 1 else M.1 251 j) ∧ ∀ j, (∀ k ∈ ks, j ≠ 24 * tt + k) → M2.1 254 j = M.1 254 j
theorem frR_0 (tt m0 : Nat) (up : Option Nat) (ks : List Nat) (M : zMem) : frR tt m0 up false ks M M := ⟨Same.refl _ _, fun _ _ => rfl, fun _ _ _ _ _ _ => rfl, fun _ _ => by simp, fun _ _ => rfl⟩
def liR (tt me : Nat) (up : Option Nat) (top : Int32) (path : Nat) (ps : List Nat) (r : zAcc) (M0 M : zMem) : Prop :=
  M.1 246 tt = nI (me + 1 + r.2.2.1.length) ∧ nodR M (24 * tt) me top r.2.2.2.1 r.2.2.2.2 up path ∧ nodsR M (24 * tt) (me + 1) r.2.2.1 ∧ frR tt me up true ps M0 M
theorem nodR_fr {M M2 : zMem} {tt i m0 : Nat} {lv : Int32} {ks qs : List Nat} {bl path : Nat} {up up2 : Option Nat} {ne : Bool} (h : nodR M (24 * tt) i lv ks bl up path) (hf : frR tt m0 up2 ne qs M M2) (hi : i < m0) (hk : ∀ k ∈ ks, k ∉ qs) : nodR M2 (24 * tt) i lv ks (bl + if ne = true ∧ up2 = some i then 1 else 0) up path := by
  obtain ⟨h4, h5, h6, h7, h8, h9, h11⟩ := h
  obtain ⟨-, -, g3, g4, g5⟩ := hf
  refine ⟨(g3 247 (by omega) (by omega) (by omega) _ (by omega)).trans h4, (g3 248 (by omega) (by omega) (by omega) _ (by omega)).trans h5, (g3 249 (by omega) (by omega) (by omega) _ (by omega)).trans h6, fun k e => (g3 250 (by omega) (by omega) (by omega) _ (by omega)).trans (h7 k e), ?_, (g3 252 (by omega) (by omega) (by omega) _ (by omega)).trans h9, fun k e => (g5 _ (fun k2 hk2 q => hk k e (by rw [show k = k2 by omega]; exact hk2))).trans (h11 k e)⟩
  rw [g4 _ (by omega), h8]
  have e : (up2.map (fun u => 24 * tt + u) = some (24 * tt + i)) ↔ up2 = some i := by
    cases up2 with
    | none => simp
    | some u => simp
  simp only [e]
  split
  · rw [nI_1]
  · rfl
theorem liR_sub {lv dg : Nat → Int32} {tt me path f : Nat} {up : Option Nat} {top : Int32} {ps : List Nat} {r : zAcc} {M0 M M2 : zMem} (h24 : me + 1 + r.2.2.1.length ≤ 24) (hnd : ps.Nodup) (hac : acT lv top ps r) (h : liR tt me up top path ps r M0 M)
    (g : Int32 × List zNode) (hg : g = gT lv dg f r.2.1 (some me) (me + 1 + r.2.2.1.length) (path + 1)) (hf : frR tt (me + 1 + r.2.2.1.length) (some me) (decide (g.2 ≠ [])) r.2.1 M M2) (hn : nodsR M2 (24 * tt) (me + 1 + r.2.2.1.length) g.2) (hc : M2.1 246 tt = nI (me + 1 + r.2.2.1.length + g.2.length)) :
    M2.1 246 tt = nI (me + 1 + (r.2.2.1 ++ g.2).length) ∧ nodR M2 (24 * tt) me top r.2.2.2.1 (r.2.2.2.2 + if g.2 = [] then 0 else 1) up path ∧ nodsR M2 (24 * tt) (me + 1) (r.2.2.1 ++ g.2) ∧ frR tt me up true ps M0 M2 := by
  obtain ⟨a1, a2, a3, a4⟩ := h
  obtain ⟨⟨l, b1, b5⟩, b2, b3, b4⟩ := hac
  have hdis : ∀ k ∈ l, k ∉ r.2.1 := by
    rw [b1] at hnd
    exact fun k h1 h2 => (List.nodup_append.mp hnd).2.2 k h1 k h2 rfl
  refine ⟨by rw [hc, List.length_append, Nat.add_assoc (me + 1)], ?_, ?_, ?_⟩
  · have := nodR_fr a2 hf (by omega) (fun k hk hk2 => b4 k hk2 (by rw [b2] at hk; simpa using (List.mem_filter.mp hk).2))
    have e : (if decide (g.2 ≠ []) = true ∧ some me = some me then 1 else 0) = (if g.2 = [] then 0 else 1 : Nat) := by
      by_cases q : g.2 = [] <;> simp [q]
    rw [e] at this
    exact this
  · intro j n hj
    rcases Nat.lt_or_ge j r.2.2.1.length with hl | hl
    · rw [List.getElem?_append_left hl] at hj
      obtain ⟨c1, c2⟩ := a3 j n hj
      have := nodR_fr c1 hf (by omega) (fun k hk => hdis k (b5 n (List.mem_of_getElem? hj) k hk))
      rw [if_neg (by intro q; have := Option.some.inj q.2; omega), Nat.add_zero] at this
      exact ⟨this, (hf.2.2.1 253 (by omega) (by omega) (by omega) _ (by omega)).trans c2⟩
    · rw [List.getElem?_append_right hl] at hj
      have := hn _ n hj
      rw [show me + 1 + r.2.2.1.length + (j - r.2.2.1.length) = me + 1 + j by omega] at this
      exact this
  · obtain ⟨g1, g2, g3, g4, g5⟩ := hf
    obtain ⟨f1, f2, f3, f4, f5⟩ := a4
    refine ⟨f1.trans g1, fun j hj => (g2 j hj).trans (f2 j hj), fun z z1 z2 z3 j hj => (g3 z z1 z2 z3 j (by omega)).trans (f3 z z1 z2 z3 j hj), fun j hj => ?_, fun j hk => (g5 j (fun k q => hk k (by rw [b1]; exact List.mem_append_right _ q))).trans (f5 j hk)⟩
    rw [g4 j (by omega), if_neg (by intro q; have q2 := q.2; simp at q2; omega)]
    exact f4 j hj
/-- the keys that a peer has, at places of the order -/
def ksR (od : Nat → Nat) (F : Nat → Int32) (p n a b : Nat) : List Nat := ((((List.range n).map od).drop a).take (b - a)).filter (hasF F p)
theorem ksR_s {od : Nat → Nat} {F : Nat → Int32} {p n a i : Nat} (ha : a ≤ i) (hi : i < n) : ksR od F p n a (i + 1) = ksR od F p n a i ++ (if hasF F p (od i) = true then [od i] else []) := by
  unfold ksR
  rw [show i + 1 - a = (i - a) + 1 by omega, List.take_succ, List.filter_append]
  congr 1
  rw [List.getElem?_drop, show a + (i - a) = i by omega, List.getElem?_map, List.getElem?_range hi]
  by_cases h : hasF F p (od i) = true <;> simp [h]
theorem ksR_0 (od : Nat → Nat) (F : Nat → Int32) (p n a : Nat) : ksR od F p n a a = [] := by unfold ksR; rw [Nat.sub_self, List.take_zero]; rfl
theorem ksR_all (od : Nat → Nat) (F : Nat → Int32) (p n : Nat) : ksR od F p n 0 n = keysT od F p n := by unfold ksR keysT; rw [List.drop_zero, Nat.sub_zero, List.take_of_length_le (by simp)]
theorem ksR_sub (od : Nat → Nat) (F : Nat → Int32) (p n a b : Nat) : (ksR od F p n a b).Sublist (keysT od F p n) := by
  unfold ksR keysT
  exact ((List.take_sublist _ _).trans (List.drop_sublist _ _)).filter _
theorem ksR_len (od : Nat → Nat) (F : Nat → Int32) (p n a b : Nat) : (ksR od F p n a b).length ≤ b - a := by
  unfold ksR
  exact Nat.le_trans (List.length_filter_le _ _) (by rw [List.length_take]; omega)
def planR (M : zMem) (n : Nat) (od : Nat → Nat) : Prop :=
  M.1 231 0 = nI n ∧ n ≤ 24 ∧ (∀ i, i < n → M.1 244 i = nI (od i) ∧ od i < n) ∧ (∀ i j, i < n → j < n → od i = od j → i = j) ∧ ∀ k, k < n → 0 ≤ M.1 243 k
theorem topL_m1 {lv : Nat → Int32} {ks : List Nat} (h : ks ≠ []) (h0 : ∀ k ∈ ks, 0 ≤ lv k) : topL lv (-1) ks = topL lv 0 ks := by
  cases ks with
  | nil => exact absurd rfl h
  | cons k ks =>
    have hk := h0 k List.mem_cons_self
    show topL lv (if lv k ≤ -1 then -1 else lv k) ks = topL lv (if lv k ≤ 0 then 0 else lv k) ks
    have h1 : ¬ lv k ≤ -1 := by
      intro q
      have := Int32.le_trans hk q
      exact absurd this (by decide)
    rw [if_neg h1]
    by_cases h2 : lv k ≤ 0
    · rw [if_pos h2, Int32.le_antisymm h2 hk]
    · rw [if_neg h2]
theorem c_X12_greatest {d p a b n : Nat} {od : Nat → Nat} {M : zMem} {Q : Int32 → zMem → Prop} (hp : p < 4) (hpl : planR M n od) (hab : a ≤ b) (hbn : b ≤ n) (h : Q (topL (M.1 243) (-1) (ksR od (fR M) p n a b)) M) : S_X12_greatest (d + 2) (nI p) (nI a) (nI b) M (zI Q) := by
  obtain ⟨e3, h24, hod, hinj, hlv⟩ := hpl
  refine t_X12_greatest ?_
  have key : ∀ (c i : Nat), i + c = b → a ≤ i → S_X12_greatest_6 (d + 2) (nI p) (nI b) (topL (M.1 243) (-1) (ksR od (fR M) p n a i)) (nI i) M (zI Q) := by
    intro c
    induction c with
    | zero =>
      intro i hi hai
      have e : i = b := by omega
      subst e
      exact t_X12_greatest_6 ⟨fun _ => zii h, fun e => absurd (leY rfl (by omega)) e⟩
    | succ c ih =>
      intro i hi hai
      have hk := hod i (by omega)
      have hin : vp_in (nI i) 24 := nIin (by omega) (by omega)
      have hkin : vp_in (nI (od i)) 24 := nIin (by omega) (by omega)
      have next := ih (i + 1) (by omega) (by omega)
      rw [ksR_s hai (by omega)] at next
      refine t_X12_greatest_6 ⟨fun e => absurd e (leN rfl (by omega) (by omega)), fun _ => ⟨hin, ?_⟩⟩
      rw [nI_clamp (by omega), hk.1]
      refine c_X12_hasEntry hp (by omega) ?_
      rw [hk.1, nI_clamp (by omega), nI_1]
      refine ⟨fun e => ?_, fun e => ⟨hin, hkin, ?_⟩⟩
      · rw [e] at next; simpa using next
      · rw [if_pos e] at next
        unfold topL at next ⊢
        rw [List.foldl_append] at next
        refine ⟨fun e2 => ?_, fun e2 => ⟨hin, hkin, ?_⟩⟩
        · simp only [List.foldl_cons, List.foldl_nil, if_pos e2] at next; exact next
        · simp only [List.foldl_cons, List.foldl_nil, if_neg e2] at next; exact next
  have := key (b - a) a (by omega) (Nat.le_refl _)
  rw [ksR_0] at this
  exact this
