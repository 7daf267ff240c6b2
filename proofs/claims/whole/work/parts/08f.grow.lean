-- ===== the class's grow: a whole tree =====
theorem ids_95 : ∀ t, t ∈ iX9 → ∀ g, g ∈ iX5 → g + 6 < t ∨ t + 11 < g := by decide +kernel
theorem ids_93 : ∀ t, t ∈ iX9 → ∀ b, b ∈ iX3 → b + 4 < t ∨ t + 11 < b := by decide +kernel
/-- the keys of a peer's tree, in order -/
def keysT (od : Nat → Nat) (F : Nat → Int32) (p n : Nat) : List Nat := ((List.range n).map od).filter (hasF F p)
theorem keysT_s (od : Nat → Nat) (F : Nat → Int32) (p i : Nat) : keysT od F p (i + 1) = keysT od F p i ++ (if hasF F p (od i) = true then [od i] else []) := by
  unfold keysT
  rw [List.range_succ, List.map_append, List.filter_append]
  congr 1
  by_cases h : hasF F p (od i) = true <;> simp [h]
theorem keysT_len (od : Nat → Nat) (F : Nat → Int32) (p i : Nat) : (keysT od F p i).length ≤ i := by
  unfold keysT
  exact Nat.le_trans (List.length_filter_le _ _) (by simp)
/-- a tree as the class holds it -/
def treeC (lv dg : Nat → Int32) (M : zMem) (t : Nat) (ks : List Nat) : Prop :=
  M.1 t 3 = nI ks.length ∧ (∀ i k, ks[i]? = some k → M.1 (t + 1) i = nI k) ∧ M.1 t 12 = nI (gT lv dg 24 ks none 0 0).2.length ∧ nodsC M t 0 (gT lv dg 24 ks none 0 0).2
/-- the plan as the walk needs it: n keys, in the order od, with levels from 0 on -/
def planC (M : zMem) (g n : Nat) (od : Nat → Nat) : Prop :=
  M.1 g 3 = nI n ∧ n ≤ 24 ∧ (∀ i, i < n → M.1 (g + 5) i = nI (od i) ∧ od i < n) ∧ (∀ i j, i < n → j < n → od i = od j → i = j) ∧ ∀ k, k < n → 0 ≤ M.1 (g + 4) k
theorem keysT_nodup {od : Nat → Nat} {F : Nat → Int32} {p n : Nat} (h : ∀ i j, i < n → j < n → od i = od j → i = j) : (keysT od F p n).Nodup := by
  unfold keysT
  have base : ((List.range n).map od).Nodup := ?_
  · exact base.sublist List.filter_sublist
  unfold List.Nodup
  rw [List.pairwise_map]
  refine List.Pairwise.imp_of_mem (R := fun a b => a < b) ?_ List.pairwise_lt_range
  intro a b ha hb hab e
  have := h a b (List.mem_range.mp ha) (List.mem_range.mp hb) e
  omega
theorem keysT_mem {od : Nat → Nat} {F : Nat → Int32} {p n k : Nat} (h : k ∈ keysT od F p n) : ∃ i, i < n ∧ od i = k ∧ hasF F p k = true := by
  unfold keysT at h
  obtain ⟨h1, h2⟩ := List.mem_filter.mp h
  obtain ⟨i, h3, h4⟩ := List.mem_map.mp h1
  exact ⟨i, List.mem_range.mp h3, h4, h2⟩
theorem c_X9_grow {d t g b p n : Nat} {od : Nat → Nat} {M : zMem} {Q : zMem → Prop} (ht : t ∈ iX9) (hg : g ∈ iX5) (hb : b ∈ iX3) (hp : p < 4) (hpl : planC M g n od)
    (h : ∀ M2, treeC (M.1 (g + 4)) (digF (M.1 (g + 3)) (fC M b) p) M2 t (keysT od (fC M b) p n) → Same (fun z => t ≤ z ∧ z ≤ t + 11) M M2 → Q M2) : S_X9_grow (d + 50) t g b (nI p) M (zU Q) := by
  have hd1 := ids_95 t ht g hg
  have hd2 := ids_93 t ht b hb
  obtain ⟨e3, h24, hod, hinj, hlv⟩ := hpl
  refine t_X9_grow ht hg hb ?_
  rintro M1 rfl M1 rfl
  have key : ∀ (c i : Nat) (M1 : zMem), i + c = n → Same (fun z => t ≤ z ∧ z ≤ t + 11) M M1 → M1.1 t 3 = nI (keysT od (fC M b) p i).length → M1.1 t 12 = nI 0 → rowC (M.1 (g + 4)) (digF (M.1 (g + 3)) (fC M b) p) M1 t (keysT od (fC M b) p i) → S_X9_grow_13 (d + 50) t g b (nI p) (nI i) M1 (zU Q) := by
    intro c
    induction c with
    | zero =>
      intro i M1 hi hS hz hn hr
      have e : i = n := by omega
      subst e
      have hg0 : M1.1 g = M.1 g := hS.1 g (by omega)
      refine t_X9_grow_13 ht hg hb ⟨fun _ => ?_, fun e => absurd (leY (by rw [hg0]; exact e3) (by omega)) e⟩
      rw [hz]
      have hl := keysT_len od (fC M b) p i
      have e4 : ((keysT od (fC M b) p i).drop 0).take ((keysT od (fC M b) p i).length - 0) = keysT od (fC M b) p i := by simp
      refine c_X9_growNode (d := d) (lv := M.1 (g + 4)) (dg := digF (M.1 (g + 3)) (fC M b) p) (rs := keysT od (fC M b) p i) (path := 0) (up := none) (me := 0) (dep := 0) (a := 0) ht (by omega) (keysT_nodup hinj) (fun k hk => ?_) 24 hr (Nat.zero_le _) (Nat.le_refl _) (by omega) (by omega) (by omega) hn (fun u hu => by cases hu) ?_
      · obtain ⟨j, hj1, hj2, -⟩ := keysT_mem hk
        have := (hod j hj1).2
        exact ⟨by omega, hlv k (by omega)⟩
      · rw [e4]
        intro M2 f1 f2 f3
        refine zuu (h M2 ⟨?_, fun j k hj => ?_, ?_, f2⟩ (hS.trans (f1.1.mono (fun i hi => by omega))))
        · rw [f1.2.1 3 (by omega)]; exact hz
        · rw [f1.1.1 (t + 1) (by omega)]; exact (hr j k hj).1
        · rw [f3, Nat.zero_add]
    | succ c ih =>
      intro i M1 hi hS hz hn hr
      have hil : i < n := by omega
      have hk := hod i hil
      have hg0 : M1.1 g = M.1 g := hS.1 g (by omega)
      have hg5 : M1.1 (g + 5) = M.1 (g + 5) := hS.1 (g + 5) (by omega)
      have hin : vp_in (nI i) 24 := nIin (by omega) (by omega)
      have hkin : vp_in (nI (od i)) 24 := nIin (by omega) (by omega)
      have hlen := keysT_len od (fC M b) p i
      refine t_X9_grow_13 ht hg hb ⟨fun e => absurd e (leN (by rw [hg0]; exact e3) hil (by omega)), fun _ => ⟨hin, ?_⟩⟩
      rw [nI_clamp (by omega), hg5, hk.1, nI_clamp (by omega), nI_1]
      refine ⟨hkin, ?_⟩
      rintro M2 rfl
      have hS2 : Same (fun z => t ≤ z ∧ z ≤ t + 11) M (wI M1 (t + 11) (od i) (-1)) := hS.wI (by omega)
      have fF : ∀ M3 : zMem, Same (fun z => t ≤ z ∧ z ≤ t + 11) M M3 → fC M3 b = fC M b := fun M3 h3 => fC_same (fun z h1 h2 => h3.1 z (by omega))
      refine c_X3_has hb hp (by omega) ?_
      rw [fF _ hS2]
      refine ⟨fun e => ih (i + 1) _ (by omega) hS2 ?_ ?_ ?_, fun e => ?_⟩
      · rw [keysT_s, e]; simpa [wI_1] using hz
      · rw [wI_1, if_neg (by omega)]; exact hn
      · rw [keysT_s, e]
        intro j k hj
        have := hr j k (by simpa using hj)
        simpa [wI_1] using this
      · have hz2 : (wI M1 (t + 11) (od i) (-1)).1 t 3 = nI (keysT od (fC M b) p i).length := by rw [wI_1, if_neg (by omega)]; exact hz
        have hn2 : (wI M1 (t + 11) (od i) (-1)).1 t 12 = nI 0 := by rw [wI_1, if_neg (by omega)]; exact hn
        have hr2 : rowC (M.1 (g + 4)) (digF (M.1 (g + 3)) (fC M b) p) (wI M1 (t + 11) (od i) (-1)) t (keysT od (fC M b) p i) := fun j k hj => by
          have := hr j k hj
          simpa [wI_1] using this
        generalize wI M1 (t + 11) (od i) (-1) = M3 at hS2 hz2 hn2 hr2 ⊢
        generalize hks : keysT od (fC M b) p i = ks at hlen hz2 hr2
        have hrin : vp_in (nI ks.length) 24 := nIin (by omega) (by omega)
        rw [hz2]
        refine ⟨hrin, ?_⟩
        rintro M4 rfl
        refine ⟨hkin, ?_⟩
        rw [wI_1, if_neg (by omega), hz2, nI_clamp (by omega)]
        refine ⟨hrin, ?_⟩
        rintro M4 rfl
        have hS4 : Same (fun z => t ≤ z ∧ z ≤ t + 11) M (wI (wI M3 (t + 1) ks.length (nI (od i))) (t + 2) ks.length ((wI M3 (t + 1) ks.length (nI (od i))).1 (g + 4) (od i))) := (hS2.wI (by omega)).wI (by omega)
        refine c_X3_digestOf hb hg hp (by omega) ?_
        rw [fF _ hS4, hS4.1 (g + 3) (by omega)]
        rw [wI_1, if_neg (by omega), wI_1, if_neg (by omega), hz2]
        refine ⟨hrin, ?_⟩
        rw [nI_clamp (by omega)]
        rintro M5 rfl M6 rfl
        refine ih (i + 1) _ (by omega) ((hS4.wI (by omega)).wI (by omega)) ?_ ?_ ?_
        · rw [wI_1, if_pos ⟨rfl, rfl⟩, keysT_s, hks, if_pos e, List.length_append, List.length_singleton]
          simp (disch := omega) only [wI_1, if_neg]
          rw [hz2, nI_1]
        · simp (disch := omega) only [wI_1, if_neg]
          exact hn2
        · rw [keysT_s, hks, if_pos e]
          have hg4 : M3.1 (g + 4) = M.1 (g + 4) := hS2.1 (g + 4) (by omega)
          intro j k hj
          rcases Nat.lt_or_ge j ks.length with hl | hl
          · rw [List.getElem?_append_left hl] at hj
            have := hr2 j k hj
            simp (disch := omega) only [wI_1, if_neg]
            exact this
          · rw [List.getElem?_append_right hl] at hj
            have hj0 : j = ks.length := by
              rcases Nat.lt_or_ge (j - ks.length) 1 with q | q
              · omega
              · rw [List.getElem?_eq_none (by simpa using q)] at hj; cases hj
            subst hj0
            have hk1 : od i = k := by simpa using hj
            subst hk1
            refine ⟨?_, ?_, ?_⟩
            · simp (disch := omega) only [wI_1, if_neg, if_pos, and_self, if_true]
            · simp (disch := omega) only [wI_1, if_neg, if_pos, and_self, if_true]
              rw [hg4]
            · simp (disch := omega) only [wI_1, if_neg, if_pos, and_self, if_true]
  refine key n 0 _ (by omega) (((Same.refl _ M).wI (by omega)).wI (by omega)) ?_ ?_ (fun j k hj => by simp [keysT] at hj)
  · rw [wI_1, if_neg (by omega), wI_1, if_pos ⟨rfl, rfl⟩]; rfl
  · rw [wI_1, if_pos ⟨rfl, rfl⟩]; rfl
