-- ===== trees: the mathematics =====
/-- a node: level, its keys, how many below, the one above, digest, how many above it -/
abbrev zNode : Type := Int32 × List Nat × Nat × Option Nat × Int32 × Nat
def upI (o : Option Nat) : Int32 := match o with
  | none => -1
  | some u => nI u
def topL (lv : Nat → Int32) (t : Int32) (ks : List Nat) : Int32 := ks.foldl (fun t k => if lv k ≤ t then t else lv k) t
abbrev zAcc : Type := Int32 × List Nat × List zNode × List Nat × Nat
def gT (lv dg : Nat → Int32) : Nat → List Nat → Option Nat → Nat → Nat → Int32 × List zNode
  | 0, _, _, _, _ => (0, [])
  | _ + 1, [], _, _, _ => (0, [])
  | f + 1, k0 :: ks, up, me, path =>
    let top := topL lv 0 (k0 :: ks)
    let r : zAcc := (k0 :: ks).foldl (fun (r : zAcc) k =>
      if lv k = top then
        let g := gT lv dg f r.2.1 (some me) (me + 1 + r.2.2.1.length) (path + 1)
        (mixF (mixF r.1 g.1) (dg k), [], r.2.2.1 ++ g.2, r.2.2.2.1 ++ [k], r.2.2.2.2 + (if g.2 = [] then 0 else 1))
      else (r.1, r.2.1 ++ [k], r.2.2.1, r.2.2.2.1, r.2.2.2.2)) (top + 1, [], [], [], 0)
    let g := gT lv dg f r.2.1 (some me) (me + 1 + r.2.2.1.length) (path + 1)
    let x := mixF r.1 g.1
    (x, (top, r.2.2.2.1, r.2.2.2.2 + (if g.2 = [] then 0 else 1), up, x, path) :: (r.2.2.1 ++ g.2))
/-- one key more -/
def stT (lv dg : Nat → Int32) (f me path : Nat) (top : Int32) (r : zAcc) (k : Nat) : zAcc :=
  if lv k = top then
    (mixF (mixF r.1 (gT lv dg f r.2.1 (some me) (me + 1 + r.2.2.1.length) (path + 1)).1) (dg k), [], r.2.2.1 ++ (gT lv dg f r.2.1 (some me) (me + 1 + r.2.2.1.length) (path + 1)).2, r.2.2.2.1 ++ [k], r.2.2.2.2 + (if (gT lv dg f r.2.1 (some me) (me + 1 + r.2.2.1.length) (path + 1)).2 = [] then 0 else 1))
  else (r.1, r.2.1 ++ [k], r.2.2.1, r.2.2.2.1, r.2.2.2.2)
/-- the end of a node -/
def enT (lv dg : Nat → Int32) (f me path : Nat) (top : Int32) (up : Option Nat) (r : zAcc) : Int32 × List zNode :=
  (mixF r.1 (gT lv dg f r.2.1 (some me) (me + 1 + r.2.2.1.length) (path + 1)).1, (top, r.2.2.2.1, r.2.2.2.2 + (if (gT lv dg f r.2.1 (some me) (me + 1 + r.2.2.1.length) (path + 1)).2 = [] then 0 else 1), up, mixF r.1 (gT lv dg f r.2.1 (some me) (me + 1 + r.2.2.1.length) (path + 1)).1, path) :: (r.2.2.1 ++ (gT lv dg f r.2.1 (some me) (me + 1 + r.2.2.1.length) (path + 1)).2))
theorem gT_nil (lv dg : Nat → Int32) (f : Nat) (up : Option Nat) (me path : Nat) : gT lv dg f [] up me path = (0, []) := by cases f <;> rfl
theorem gT_eq (lv dg : Nat → Int32) (f : Nat) {ks : List Nat} (h : ks ≠ []) (up : Option Nat) (me path : Nat) : gT lv dg (f + 1) ks up me path = enT lv dg f me path (topL lv 0 ks) up (ks.foldl (stT lv dg f me path (topL lv 0 ks)) (topL lv 0 ks + 1, [], [], [], 0)) := by
  cases ks with
  | nil => exact absurd rfl h
  | cons k0 ks => rfl
theorem topL_in (lv : Nat → Int32) : ∀ (ks : List Nat) (t : Int32), topL lv t ks = t ∨ ∃ k ∈ ks, lv k = topL lv t ks
  | [], t => Or.inl rfl
  | k :: ks, t => by
    show topL lv (if lv k ≤ t then t else lv k) ks = t ∨ _
    by_cases h : lv k ≤ t
    · rw [if_pos h]
      rcases topL_in lv ks t with e | ⟨j, hj, e⟩
      · exact Or.inl e
      · exact Or.inr ⟨j, List.mem_cons_of_mem _ hj, by show _ = topL lv (if lv k ≤ t then t else lv k) ks; rw [if_pos h]; exact e⟩
    · rw [if_neg h]
      refine Or.inr ?_
      rcases topL_in lv ks (lv k) with e | ⟨j, hj, e⟩
      · exact ⟨k, List.mem_cons_self, by show _ = topL lv (if lv k ≤ t then t else lv k) ks; rw [if_neg h, e]⟩
      · exact ⟨j, List.mem_cons_of_mem _ hj, by show _ = topL lv (if lv k ≤ t then t else lv k) ks; rw [if_neg h]; exact e⟩
theorem topL_ge (lv : Nat → Int32) : ∀ (ks : List Nat) (t : Int32), t ≤ topL lv t ks ∧ ∀ k ∈ ks, lv k ≤ topL lv t ks
  | [], t => ⟨Int32.le_refl _, fun _ h => by cases h⟩
  | k :: ks, t => by
    have h0 := topL_ge lv ks (if lv k ≤ t then t else lv k)
    have e : topL lv t (k :: ks) = topL lv (if lv k ≤ t then t else lv k) ks := rfl
    rw [e]
    by_cases h : lv k ≤ t
    · rw [if_pos h] at h0 ⊢
      exact ⟨h0.1, fun j hj => by
        rcases List.mem_cons.mp hj with e | e
        · rw [e]; exact Int32.le_trans h h0.1
        · exact h0.2 j e⟩
    · rw [if_neg h] at h0 ⊢
      exact ⟨Int32.le_trans (Int32.le_of_lt (Int32.not_le.mp h)) h0.1, fun j hj => by
        rcases List.mem_cons.mp hj with e | e
        · rw [e]; exact h0.1
        · exact h0.2 j e⟩
/-- with levels from 0 on, some key is at the top -/
theorem topL_hit {lv : Nat → Int32} {ks : List Nat} (h : ks ≠ []) (h0 : ∀ k ∈ ks, 0 ≤ lv k) : ∃ k ∈ ks, lv k = topL lv 0 ks := by
  rcases topL_in lv ks 0 with e | e
  · cases ks with
    | nil => exact absurd rfl h
    | cons k ks =>
      refine ⟨k, List.mem_cons_self, ?_⟩
      have h1 := (topL_ge lv (k :: ks) 0).2 k List.mem_cons_self
      have h2 := h0 k List.mem_cons_self
      rw [e] at h1 ⊢
      exact Int32.le_antisymm h1 h2
  · exact e
/-- what is known of the state of a node's making, behind the keys ps -/
def acT (lv : Nat → Int32) (top : Int32) (ps : List Nat) (r : zAcc) : Prop :=
  (∃ l, ps = l ++ r.2.1 ∧ ∀ n ∈ r.2.2.1, ∀ k ∈ n.2.1, k ∈ l) ∧ r.2.2.2.1 = ps.filter (fun k => decide (lv k = top)) ∧ r.2.2.1.length + r.2.1.length + r.2.2.2.1.length ≤ ps.length ∧ ∀ k ∈ r.2.1, ¬ lv k = top
/-- of fuel f: no more nodes than keys, and no other keys -/
def okT (lv dg : Nat → Int32) (f : Nat) : Prop := ∀ (ks : List Nat) (up : Option Nat) (me path : Nat), (∀ k ∈ ks, 0 ≤ lv k) → (gT lv dg f ks up me path).2.length ≤ ks.length ∧ ∀ n ∈ (gT lv dg f ks up me path).2, ∀ k ∈ n.2.1, k ∈ ks
theorem acT_step {lv dg : Nat → Int32} {f me path : Nat} {top : Int32} {ps : List Nat} {r : zAcc} {k : Nat} (hok : okT lv dg f) (hp : ∀ k ∈ ps, 0 ≤ lv k) (h : acT lv top ps r) : acT lv top (ps ++ [k]) (stT lv dg f me path top r k) := by
  obtain ⟨⟨l, h1, h5⟩, h2, h3, h4⟩ := h
  unfold stT
  by_cases e : lv k = top
  · rw [if_pos e]
    have hl := hok r.2.1 (some me) (me + 1 + r.2.2.1.length) (path + 1) (fun j hj => hp j (by rw [h1]; exact List.mem_append_right _ hj))
    refine ⟨⟨ps ++ [k], by simp, fun n hn j hj => ?_⟩, ?_, ?_, fun j hj => by cases hj⟩
    · rcases List.mem_append.mp hn with q | q
      · exact List.mem_append_left _ (by rw [h1]; exact List.mem_append_left _ (h5 n q j hj))
      · exact List.mem_append_left _ (by rw [h1]; exact List.mem_append_right _ (hl.2 n q j hj))
    · simp [List.filter_append, h2, e]
    · have := hl.1
      simp only [List.length_append, List.length_singleton, List.length_nil]
      omega
  · rw [if_neg e]
    refine ⟨⟨l, by rw [h1]; simp, h5⟩, ?_, ?_, fun j hj => ?_⟩
    · simp [List.filter_append, h2, e]
    · simp only [List.length_append, List.length_singleton]
      omega
    · rcases List.mem_append.mp hj with e2 | e2
      · exact h4 j e2
      · rw [List.mem_singleton.mp e2]; exact e
theorem acT_fold {lv dg : Nat → Int32} {f me path : Nat} {top : Int32} (hok : okT lv dg f) : ∀ (qs ps : List Nat) (r : zAcc), (∀ k ∈ ps ++ qs, 0 ≤ lv k) → acT lv top ps r → acT lv top (ps ++ qs) (qs.foldl (stT lv dg f me path top) r)
  | [], ps, r, _, h => by simpa using h
  | k :: qs, ps, r, h0, h => by
    have := acT_fold (me := me) (path := path) hok qs (ps ++ [k]) (stT lv dg f me path top r k) (by simpa using h0) (acT_step hok (fun j hj => h0 j (List.mem_append_left _ hj)) h)
    simpa using this
theorem acT_0 (lv : Nat → Int32) (top x : Int32) : acT lv top [] (x, [], [], [], 0) := ⟨⟨[], rfl, fun _ h => by cases h⟩, rfl, Nat.le_refl _, fun _ h => by cases h⟩
theorem okT_all (lv dg : Nat → Int32) : ∀ f, okT lv dg f
  | 0 => fun ks up me path _ => by simp [gT]
  | f + 1 => fun ks up me path h0 => by
    by_cases hk : ks = []
    · subst hk; simp [gT]
    rw [gT_eq lv dg f hk]
    have fin := acT_fold (me := me) (path := path) (okT_all lv dg f) ks [] (topL lv 0 ks + 1, [], [], [], 0) (by simpa using h0) (acT_0 lv (topL lv 0 ks) _)
    rw [List.nil_append] at fin
    generalize ks.foldl (stT lv dg f me path (topL lv 0 ks)) (topL lv 0 ks + 1, [], [], [], 0) = r at fin
    obtain ⟨⟨l, h1, h5⟩, h2, h3, -⟩ := fin
    obtain ⟨k, hk1, hk2⟩ := topL_hit hk h0
    have hpos : 0 < r.2.2.2.1.length := by
      rw [h2]
      exact List.length_pos_of_mem (List.mem_filter.mpr ⟨hk1, by simpa using hk2⟩)
    have hl := okT_all lv dg f r.2.1 (some me) (me + 1 + r.2.2.1.length) (path + 1) (fun j hj => h0 j (by rw [h1]; exact List.mem_append_right _ hj))
    unfold enT
    refine ⟨?_, fun n hn j hj => ?_⟩
    · have := hl.1
      simp only [List.length_cons, List.length_append]
      omega
    · rcases List.mem_cons.mp hn with q | q
      · rw [q] at hj
        have hj : j ∈ r.2.2.2.1 := hj
        rw [h2] at hj
        exact (List.mem_filter.mp hj).1
      · rcases List.mem_append.mp q with q | q
        · rw [h1]; exact List.mem_append_left _ (h5 n q j hj)
        · rw [h1]; exact List.mem_append_right _ (hl.2 n q j hj)
theorem gT_ne (lv dg : Nat → Int32) (f : Nat) {ks : List Nat} (h : ks ≠ []) (up : Option Nat) (me path : Nat) : (gT lv dg (f + 1) ks up me path).2 ≠ [] := by
  rw [gT_eq lv dg f h]
  unfold enT
  simp
-- ===== the class's tree: openNode, addKey, topLevel =====
section
variable {d t i k u n : Nat} {M : zMem}
theorem c_X9_openNode {Q : zMem → Prop} {lv : Int32} {up : Option Nat} (ht : t ∈ iX9) (hi : i < 24) (hu : ∀ u, up = some u → u < i)
    (h : ∀ M2, M2.1 (t + 4) = upd (M.1 (t + 4)) i lv → M2.1 (t + 5) = upd (M.1 (t + 5)) i 0 → M2.1 (t + 9) = upd (M.1 (t + 9)) i (upI up) → M2.1 (t + 8) i = 0 → (∀ j, j ≠ i → M2.1 (t + 8) j = if up = some j then M.1 (t + 8) j + 1 else M.1 (t + 8) j) → Same (fun z => z = t + 4 ∨ z = t + 5 ∨ z = t + 8 ∨ z = t + 9) M M2 → Q M2) :
    S_X9_openNode d t (nI i) lv (upI up) M (zU Q) := by
  have hin : vp_in (nI i) 24 := nIin hi (by omega)
  refine t_X9_openNode ht ⟨hin, ?_⟩
  rintro M1 rfl
  refine ⟨hin, ?_⟩
  rintro M1 rfl
  refine ⟨hin, ?_⟩
  rintro M1 rfl
  refine ⟨hin, ?_⟩
  rintro M1 rfl
  rw [nI_clamp (by omega)]
  have hS : Same (fun z => z = t + 4 ∨ z = t + 5 ∨ z = t + 8 ∨ z = t + 9) M (wI (wI (wI (wI M (t + 4) i lv) (t + 5) i 0) (t + 8) i 0) (t + 9) i (upI up)) := ((((Same.refl _ M).wI (by omega)).wI (by omega)).wI (by omega)).wI (by omega)
  cases up with
  | none =>
    refine ⟨fun e => zuu (h _ ?_ ?_ ?_ ?_ ?_ hS), fun e => absurd rfl e⟩
    · funext j; simp (disch := omega) only [wI_1, upd, true_and, if_neg]
    · funext j; simp (disch := omega) only [wI_1, upd, true_and, if_neg]
    · funext j; simp (disch := omega) only [wI_1, upd, true_and, if_neg]
    · simp [wI_1]
    · intro j hj
      simp [wI_1, hj]
  | some u =>
    have hu1 := hu u rfl
    have hin2 : vp_in (nI u) 24 := nIin (by omega) (by omega)
    refine ⟨fun e => ?_, fun e => ⟨hin2, hin2, ?_⟩⟩
    · have := congrArg Int32.toInt e
      rw [show upI (some u) = nI u from rfl, nI_toInt (by omega)] at this
      have h1 : (-1 : Int32).toInt = -1 := by decide
      omega
    · rintro M1 rfl
      rw [show upI (some u) = nI u from rfl, nI_clamp (by omega)]
      refine zuu (h _ ?_ ?_ ?_ ?_ ?_ (hS.wI (by omega)))
      · funext j; simp (disch := omega) only [wI_1, upd, true_and, if_neg]
      · funext j; simp (disch := omega) only [wI_1, upd, true_and, if_neg]
      · funext j; simp (disch := omega) only [wI_1, upd, true_and, if_neg]; rfl
      · simp [wI_1, show i ≠ u by omega]
      · intro j hj
        by_cases e2 : u = j
        · subst e2; simp [wI_1, hj]
        · simp [wI_1, hj, e2, Ne.symm e2]
theorem c_X9_addKey {Q : zMem → Prop} {n : Nat} (ht : t ∈ iX9) (hi : i < 24) (hk : k < 24) (hn : M.1 (t + 5) i = nI n) (hn2 : n < 24)
    (h : ∀ M2, M2.1 (t + 5) = upd (M.1 (t + 5)) i (nI (n + 1)) → M2.1 (t + 6) = (if n = 0 then upd (M.1 (t + 6)) i (nI k) else M.1 (t + 6)) → M2.1 (t + 7) = upd (M.1 (t + 7)) i (nI k) → M2.1 (t + 11) = upd (M.1 (t + 11)) k (nI i) → Same (fun z => z = t + 5 ∨ z = t + 6 ∨ z = t + 7 ∨ z = t + 11) M M2 → Q M2) :
    S_X9_addKey d t (nI i) (nI k) M (zU Q) := by
  have hin : vp_in (nI i) 24 := nIin hi (by omega)
  have main : ∀ M1 : zMem, M1.1 (t + 5) = M.1 (t + 5) → M1.1 (t + 7) = M.1 (t + 7) → M1.1 (t + 11) = M.1 (t + 11) → M1.1 (t + 6) = (if n = 0 then upd (M.1 (t + 6)) i (nI k) else M.1 (t + 6)) → Same (fun z => z = t + 5 ∨ z = t + 6 ∨ z = t + 7 ∨ z = t + 11) M M1 → S_X9_addKey_16 d t (nI i) (nI k) M1 (zU Q) := by
    intro M1 e5 e7 e11 e6 hS
    refine t_X9_addKey_16 ht ⟨hin, ?_⟩
    rintro M2 rfl
    refine ⟨hin, hin, ?_⟩
    rintro M2 rfl
    refine ⟨nIin hk (by omega), ?_⟩
    rintro M2 rfl
    rw [nI_clamp (by omega), nI_clamp (by omega)]
    refine zuu (h _ ?_ ?_ ?_ ?_ (((hS.wI (by omega)).wI (by omega)).wI (by omega)))
    · rw [← e5]; funext j; simp (disch := omega) only [wI_1, upd, true_and, if_neg]
      rw [e5, hn, nI_1]
    · rw [← e6]; funext j; simp (disch := omega) only [wI_1, if_neg]
    · rw [← e7]; funext j; simp (disch := omega) only [wI_1, upd, true_and, if_neg]
    · rw [← e11]; funext j; simp (disch := omega) only [wI_1, upd, true_and, if_neg]
  refine t_X9_addKey ht ⟨hin, ?_⟩
  rw [nI_clamp (by omega), hn]
  refine ⟨fun e => main M rfl rfl rfl ?_ (Same.refl _ _), fun e => ⟨hin, ?_⟩⟩
  · rw [if_neg (fun q => e (by rw [q]; rfl))]
  · rintro M2 rfl
    have hn0 : n = 0 := by
      rcases Nat.eq_zero_or_pos n with q | q
      · exact q
      · exact absurd e (nI_ne0 q (by omega))
    refine main _ ?_ ?_ ?_ ?_ ((Same.refl _ _).wI (by omega))
    · funext j; simp (disch := omega) only [wI_1, if_neg]
    · funext j; simp (disch := omega) only [wI_1, if_neg]
    · funext j; simp (disch := omega) only [wI_1, if_neg]
    · rw [if_pos hn0]; funext j; simp (disch := omega) only [wI_1, upd, true_and]
end
/-- the class's row of a tree holds the keys rs, with their levels and digests -/
def rowC (lv dg : Nat → Int32) (M : zMem) (t : Nat) (rs : List Nat) : Prop := ∀ i k, rs[i]? = some k → M.1 (t + 1) i = nI k ∧ M.1 (t + 2) i = lv k ∧ M.1 (t + 3) i = dg k
theorem seg_cons {rs : List Nat} {a b k : Nat} (h : rs[a]? = some k) (hab : a < b) : (rs.drop a).take (b - a) = k :: (rs.drop (a + 1)).take (b - (a + 1)) := by
  have h1 : rs.drop a = k :: rs.drop (a + 1) := by
    obtain ⟨hl, he⟩ := List.getElem?_eq_some_iff.mp h
    rw [← he]; exact List.drop_eq_getElem_cons hl
  rw [h1, show b - a = (b - (a + 1)) + 1 by omega, List.take_succ_cons]
theorem c_X9_topLevel {d t a b : Nat} {M : zMem} {Q : Int32 → zMem → Prop} {lv dg : Nat → Int32} {rs : List Nat} (ht : t ∈ iX9) (hr : rowC lv dg M t rs) (hb : b ≤ rs.length) (h24 : rs.length ≤ 24) (h : Q (topL lv 0 ((rs.drop a).take (b - a))) M) (hab : a ≤ b) : S_X9_topLevel d t (nI a) (nI b) M (zI Q) := by
  refine t_X9_topLevel ht ?_
  have key : ∀ (c i : Nat) (s : Int32), i + c = b → Q (topL lv s ((rs.drop i).take (b - i))) M → S_X9_topLevel_5 d t (nI b) s (nI i) M (zI Q) := by
    intro c
    induction c with
    | zero =>
      intro i s hi hq
      have e : i = b := by omega
      subst e
      rw [Nat.sub_self, List.take_zero] at hq
      exact t_X9_topLevel_5 ht ⟨fun _ => zii hq, fun e => absurd (leY rfl (by omega)) e⟩
    | succ c ih =>
      intro i s hi hq
      obtain ⟨k, hk⟩ : ∃ k, rs[i]? = some k := ⟨rs[i]'(by omega), List.getElem?_eq_getElem (by omega)⟩
      rw [seg_cons hk (by omega)] at hq
      have hin : vp_in (nI i) 24 := nIin (by omega) (by omega)
      refine t_X9_topLevel_5 ht ⟨fun e => absurd e (leN rfl (by omega) (by omega)), fun _ => ⟨hin, ?_⟩⟩
      rw [nI_clamp (by omega), (hr i k hk).2.1, nI_1]
      have hq : Q (topL lv (if lv k ≤ s then s else lv k) ((rs.drop (i + 1)).take (b - (i + 1)))) M := hq
      refine ⟨fun e => ih (i + 1) s (by omega) ?_, fun e => ⟨hin, ih (i + 1) _ (by omega) ?_⟩⟩
      · rw [if_pos e] at hq; exact hq
      · rw [if_neg e] at hq; exact hq
  exact key (b - a) a 0 (by omega) h
