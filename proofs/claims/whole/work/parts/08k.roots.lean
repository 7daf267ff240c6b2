/-- of nodes from me on: each is below 'up', or below one ahead of it, a step further down -/
def chT (up : Option Nat) (path me : Nat) (ns : List zNode) : Prop := ∀ j n, ns[j]? = some n → (n.2.2.2.1 = up ∧ n.2.2.2.2.2 = path) ∨ ∃ u n2, n.2.2.2.1 = some (me + u) ∧ u < j ∧ ns[u]? = some n2 ∧ n.2.2.2.2.2 = n2.2.2.2.2.2 + 1
theorem chT_app {up : Option Nat} {path me : Nat} {a b : List zNode} (ha : chT up path me a) (hb : chT up path (me + a.length) b) : chT up path me (a ++ b) := by
  intro j n hj
  rcases Nat.lt_or_ge j a.length with h | h
  · rw [List.getElem?_append_left h] at hj
    rcases ha j n hj with q | ⟨u, n2, q1, q2, q3, q4⟩
    · exact Or.inl q
    · exact Or.inr ⟨u, n2, q1, q2, by rw [List.getElem?_append_left (by omega)]; exact q3, q4⟩
  · rw [List.getElem?_append_right h] at hj
    rcases hb _ n hj with q | ⟨u, n2, q1, q2, q3, q4⟩
    · exact Or.inl q
    · exact Or.inr ⟨a.length + u, n2, by rw [q1, Nat.add_assoc], by omega, by rw [List.getElem?_append_right (by omega), Nat.add_sub_cancel_left]; exact q3, q4⟩
theorem gT_chain (lv dg : Nat → Int32) : ∀ (f : Nat) (ks : List Nat) (up : Option Nat) (me path : Nat), chT up path me (gT lv dg f ks up me path).2
  | 0, ks, up, me, path => fun j n hj => by simp [gT] at hj
  | f + 1, ks, up, me, path => by
    by_cases hk : ks = []
    · subst hk; exact fun j n hj => by simp [gT] at hj
    rw [gT_eq lv dg f hk]
    have step : ∀ (qs : List Nat) (r : zAcc), chT (some me) (path + 1) (me + 1) r.2.2.1 → chT (some me) (path + 1) (me + 1) (qs.foldl (stT lv dg f me path (topL lv 0 ks)) r).2.2.1 := by
      intro qs
      induction qs with
      | nil => intro r h; exact h
      | cons q qs ih =>
        intro r h
        refine ih _ ?_
        unfold stT
        by_cases e : lv q = topL lv 0 ks
        · rw [if_pos e]
          exact chT_app h (gT_chain lv dg f _ _ _ _)
        · rw [if_neg e]; exact h
    have hs := step ks (topL lv 0 ks + 1, [], [], [], 0) (fun j n hj => by simp at hj)
    generalize ks.foldl (stT lv dg f me path (topL lv 0 ks)) (topL lv 0 ks + 1, [], [], [], 0) = r at hs
    have hall := chT_app hs (gT_chain lv dg f r.2.1 (some me) (me + 1 + r.2.2.1.length) (path + 1))
    unfold enT
    intro j n hj
    cases j with
    | zero => cases hj; exact Or.inl ⟨rfl, rfl⟩
    | succ j =>
      rcases hall j n hj with ⟨q1, q2⟩ | ⟨u, n2, q1, q2, q3, q4⟩
      · exact Or.inr ⟨0, _, by rw [q1, Nat.add_zero], by omega, rfl, q2⟩
      · exact Or.inr ⟨u + 1, n2, by rw [q1, show me + 1 + u = me + (u + 1) by omega], by omega, q3, q4⟩
theorem upsT_tree {lv dg : Nat → Int32} {ks : List Nat} (h : (treeT lv dg ks).length ≤ 24) : upsT (treeT lv dg ks) := by
  intro i hi u hu
  rcases gT_chain lv dg 24 ks none 0 0 i _ (nodeT_at hi) with ⟨q1, -⟩ | ⟨v, n2, q1, q2, -, -⟩
  · have hu : (nodeT (treeT lv dg ks) i).2.2.2.1 = some u := hu
    unfold treeT at hu
    rw [q1] at hu; cases hu
  · have hu : (nodeT (treeT lv dg ks) i).2.2.2.1 = some u := hu
    unfold treeT at hu hi h
    rw [q1] at hu
    have := Option.some.inj hu
    omega
/-- a tree as the model holds it in its place tt -/
def treeR (lv dg : Nat → Int32) (M : zMem) (tt : Nat) (ks : List Nat) : Prop := M.1 246 tt = nI (treeT lv dg ks).length ∧ nodsR M (24 * tt) 0 (treeT lv dg ks)
/-- what the laying of a tree in the place tt leaves -/
def layR (tt : Nat) (M M2 : zMem) : Prop := Same (fun z => 246 ≤ z ∧ z ≤ 254) M M2 ∧ (∀ j, j ≠ tt → M2.1 246 j = M.1 246 j) ∧ ∀ z, 247 ≤ z → z ≤ 254 → ∀ j, (j < 24 * tt ∨ 24 * tt + 24 ≤ j) → M2.1 z j = M.1 z j
theorem keysT_lv {M : zMem} {n p : Nat} {od : Nat → Nat} {F : Nat → Int32} (h : planR M n od) : ∀ k ∈ keysT od F p n, k < n ∧ 0 ≤ M.1 243 k := by
  intro k hk
  obtain ⟨i, h1, h2, -⟩ := keysT_mem hk
  have := (h.2.2.1 i h1).2
  exact ⟨by omega, h.2.2.2.2 k (by omega)⟩
theorem c_X12_layTree {d tt p n : Nat} {od : Nat → Nat} {M : zMem} {Q : Int32 → zMem → Prop} (htt : tt < 2) (hp : p < 4) (hpl : planR M n od)
    (h : ∀ M2, treeR (M.1 243) (digF (M.1 242) (fR M) p) M2 tt (keysT od (fR M) p n) → layR tt M M2 → Q (rootT (M.1 243) (digF (M.1 242) (fR M) p) (keysT od (fR M) p n)) M2) : S_X12_layTree (d + 28) (nI tt) (nI p) M (zI Q) := by
  have hl := keysT_len od (fR M) p n
  refine t_X12_layTree ⟨nIin htt (by omega), ?_⟩
  rw [nI_clamp (by omega)]
  rintro M1 rfl
  have r0 : ∀ z, z ≠ 246 → (wI M 246 tt 0).1 z = M.1 z := fun z hz => z_up_n _ _ hz
  rw [r0 231 (by omega), hpl.1]
  refine c_X12_layNodes (lv := M.1 243) (kd := M.1 242) (F := fR M) (p := p) (n := n) (od := od) (a := 0) (me := 0) (path := 0) (up := none) htt hp 24 (planR_same hpl (r0 _ (by omega)) (r0 _ (by omega)) (r0 _ (by omega))) (r0 _ (by omega)) (r0 _ (by omega)) (fR_same (r0 _ (by omega))) (Nat.zero_le _) (Nat.le_refl _) ?_ ?_ ?_ (fun u hu => by cases hu) ?_
  · rw [ksR_all]; have := hpl.2.1; omega
  · rw [ksR_all]; have := hpl.2.1; omega
  · rw [wI_1, if_pos ⟨rfl, rfl⟩]; rfl
  · rw [ksR_all]
    intro M2 f1 f2 f3
    refine zii (h M2 ⟨by rw [f3, Nat.zero_add]; rfl, f2⟩ ⟨((Same.refl _ M).wI (by omega)).trans f1.1, fun j hj => ?_, fun z z1 z2 j hj => ?_⟩)
    · rw [f1.2.1 j hj, wI_1, if_neg (by omega)]
    · by_cases e1 : z = 251
      · subst e1
        rw [f1.2.2.2.1 j (by omega), r0 _ (by omega)]; simp
      · by_cases e2 : z = 254
        · subst e2
          rw [f1.2.2.2.2 j (fun k hk => by have := (keysT_lv hpl k hk).1; have := hpl.2.1; omega), r0 _ (by omega)]
        · rw [f1.2.2.1 z z1 (by omega) e1 j (by omega), r0 _ (by omega)]
theorem layR.rd {tt : Nat} {M M2 : zMem} (h : layR tt M M2) {z : Nat} (hz : z < 246 ∨ 254 < z) : M2.1 z = M.1 z := h.1.1 z (by omega)
theorem treeR.other {lv dg : Nat → Int32} {M M2 : zMem} {tt t2 : Nat} {ks : List Nat} (h : treeR lv dg M t2 ks) (hl : layR tt M M2) (hne : t2 ≠ tt) (h24 : (treeT lv dg ks).length ≤ 24) (hk : ∀ n ∈ treeT lv dg ks, ∀ k ∈ n.2.1, k < 24) : treeR lv dg M2 t2 ks := by
  obtain ⟨-, l2, l3⟩ := hl
  refine ⟨by rw [l2 _ hne]; exact h.1, fun j n hj => ?_⟩
  have hj0 : j < (treeT lv dg ks).length := (List.getElem?_eq_some_iff.mp hj).1
  obtain ⟨⟨w4, w5, w6, w7, w8, w9, w11⟩, w10⟩ := h.2 j n hj
  have rr : ∀ z, 247 ≤ z → z ≤ 254 → ∀ i, i < 24 → M2.1 z (24 * t2 + i) = M.1 z (24 * t2 + i) := fun z z1 z2 i hi => l3 z z1 z2 _ (by omega)
  exact ⟨⟨(rr 247 (by omega) (by omega) _ (by omega)).trans w4, (rr 248 (by omega) (by omega) _ (by omega)).trans w5, (rr 249 (by omega) (by omega) _ (by omega)).trans w6, fun k e => (rr 250 (by omega) (by omega) _ (by omega)).trans (w7 k e), (rr 251 (by omega) (by omega) _ (by omega)).trans w8, (rr 252 (by omega) (by omega) _ (by omega)).trans w9, fun k e => (rr 254 (by omega) (by omega) _ (hk n (List.mem_of_getElem? hj) k e)).trans (w11 k e)⟩, (rr 253 (by omega) (by omega) _ (by omega)).trans w10⟩
/-- the root of a peer, by all that it stands on -/
def rtF (lv kd F : Nat → Int32) (od : Nat → Nat) (n p : Nat) : Int32 := rootT lv (digF kd F p) (keysT od F p n)
def trF (lv kd F : Nat → Int32) (od : Nat → Nat) (n p : Nat) : List zNode := treeT lv (digF kd F p) (keysT od F p n)
/-- nothing of the model but what the laying of trees writes -/
def LayOnly (M M2 : zMem) : Prop := Same (fun z => 246 ≤ z ∧ z ≤ 254) M M2
theorem c_X12_rootOf {d p n : Nat} {od : Nat → Nat} {M : zMem} {Q : Int32 → zMem → Prop} (hp : p < 4) (hpl : planR M n od) (h : ∀ M2, LayOnly M M2 → Q (rtF (M.1 243) (M.1 242) (fR M) od n p) M2) : S_X12_rootOf (d + 29) (nI p) M (zI Q) :=
  t_X12_rootOf (c_X12_layTree (tt := 0) (by omega) hp hpl (fun M2 _ h2 => zii (h M2 h2.1)))
theorem planR_lay {M M2 : zMem} {n : Nat} {od : Nat → Nat} (h : planR M n od) (hl : LayOnly M M2) : planR M2 n od := planR_same h (hl.1 _ (by omega)) (hl.1 _ (by omega)) (hl.1 _ (by omega))
/-- the peers with the same root, as bits; how many different roots -/
def likeF (rt : Nat → Int32) (m p : Nat) : Int32 := bitsF (fun q => decide (rt q = rt p)) m
def manyF (rt : Nat → Int32) (m : Nat) : Int32 := cntF (fun p => decide ((likeF rt m p) &&& (((1 : Int32) <<< (nI p &&& 31)) - 1) = 0)) m
theorem c_X12_rootsLike {d p n m : Nat} {od : Nat → Nat} {M : zMem} {Q : Int32 → zMem → Prop} (hp : p < 4) (hpl : planR M n od) (hm : M.1 231 1 = nI m) (h4 : m ≤ 4) (h : ∀ M2, LayOnly M M2 → Q (likeF (rtF (M.1 243) (M.1 242) (fR M) od n) m p) M2) : S_X12_rootsLike (d + 30) (nI p) M (zI Q) := by
  refine t_X12_rootsLike (c_X12_rootOf hp hpl (fun M1 h1 => ?_))
  have key : ∀ (c i : Nat) (s : Int32) (M1 : zMem), i + c = m → LayOnly M M1 → (∀ M2, LayOnly M M2 → Q (forS (fun k s => if decide (rtF (M.1 243) (M.1 242) (fR M) od n k = rtF (M.1 243) (M.1 242) (fR M) od n p) then s ||| ((1 : Int32) <<< (nI k &&& 31)) else s) c i s) M2) → S_X12_rootsLike_11 (d + 30) (rtF (M.1 243) (M.1 242) (fR M) od n p) s (nI i) M1 (zI Q) := by
    intro c
    induction c with
    | zero =>
      intro i s M1 hi hl hq
      have e : i = m := by omega
      subst e
      exact t_X12_rootsLike_11 ⟨fun _ => zii (hq M1 hl), fun e => absurd (leY (by rw [hl.1 231 (by omega)]; exact hm) (by omega)) e⟩
    | succ c ih =>
      intro i s M1 hi hl hq
      refine t_X12_rootsLike_11 ⟨fun e => absurd e (leN (by rw [hl.1 231 (by omega)]; exact hm) (by omega) (by omega)), fun _ => c_X12_rootOf (by omega) (planR_lay hpl hl) (fun M2 h2 => ?_)⟩
      rw [hl.1 243 (by omega), hl.1 242 (by omega), fR_same (hl.1 231 (by omega)), nI_1]
      refine ⟨fun e => ih (i + 1) s M2 (by omega) (hl.trans h2) (fun M3 h3 => ?_), fun e => ih (i + 1) _ M2 (by omega) (hl.trans h2) (fun M3 h3 => ?_)⟩
      · have := hq M3 h3; simpa [forS, e] using this
      · have := hq M3 h3; simpa [forS, e] using this
  exact key m 0 0 M1 (by omega) h1 h
theorem c_X12_rootMany {d n m : Nat} {od : Nat → Nat} {M : zMem} {Q : Int32 → zMem → Prop} (hpl : planR M n od) (hm : M.1 231 1 = nI m) (h4 : m ≤ 4) (h : ∀ M2, LayOnly M M2 → Q (manyF (rtF (M.1 243) (M.1 242) (fR M) od n) m) M2) : S_X12_rootMany (d + 31) M (zI Q) := by
  refine t_X12_rootMany ?_
  have key : ∀ (c i : Nat) (s : Int32) (M1 : zMem), i + c = m → LayOnly M M1 → (∀ M2, LayOnly M M2 → Q (forS (fun k s => if decide ((likeF (rtF (M.1 243) (M.1 242) (fR M) od n) m k) &&& (((1 : Int32) <<< (nI k &&& 31)) - 1) = 0) then s + 1 else s) c i s) M2) → S_X12_rootMany_4 (d + 31) s (nI i) M1 (zI Q) := by
    intro c
    induction c with
    | zero =>
      intro i s M1 hi hl hq
      have e : i = m := by omega
      subst e
      exact t_X12_rootMany_4 ⟨fun _ => zii (hq M1 hl), fun e => absurd (leY (by rw [hl.1 231 (by omega)]; exact hm) (by omega)) e⟩
    | succ c ih =>
      intro i s M1 hi hl hq
      refine t_X12_rootMany_4 ⟨fun e => absurd e (leN (by rw [hl.1 231 (by omega)]; exact hm) (by omega) (by omega)), fun _ => c_X12_rootsLike (by omega) (planR_lay hpl hl) (by rw [hl.1 231 (by omega)]; exact hm) h4 (fun M2 h2 => ?_)⟩
      rw [hl.1 243 (by omega), hl.1 242 (by omega), fR_same (hl.1 231 (by omega)), nI_1]
      refine ⟨fun e => ih (i + 1) s M2 (by omega) (hl.trans h2) (fun M3 h3 => ?_), fun e => ih (i + 1) _ M2 (by omega) (hl.trans h2) (fun M3 h3 => ?_)⟩
      · have := hq M3 h3; simpa [forS, e] using this
      · have := hq M3 h3; simpa [forS, e] using this
  exact key m 0 0 M (by omega) (Same.refl _ _) h
