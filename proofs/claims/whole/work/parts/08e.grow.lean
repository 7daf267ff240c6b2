-- ===== the class's growNode =====
def nodC (M : zMem) (t i : Nat) (lv : Int32) (ks : List Nat) (bl : Nat) (up : Option Nat) : Prop :=
  M.1 (t + 4) i = lv ∧ M.1 (t + 5) i = nI ks.length ∧ (∀ k, ks.head? = some k → M.1 (t + 6) i = nI k) ∧ (∀ k, ks.getLast? = some k → M.1 (t + 7) i = nI k) ∧ M.1 (t + 8) i = nI bl ∧ M.1 (t + 9) i = upI up ∧ ∀ k ∈ ks, M.1 (t + 11) k = nI i
def nodsC (M : zMem) (t me : Nat) (ns : List zNode) : Prop := ∀ j n, ns[j]? = some n → nodC M t (me + j) n.1 n.2.1 n.2.2.1 n.2.2.2.1 ∧ M.1 (t + 10) (me + j) = n.2.2.2.2.1
/-- what the making of nodes from m0 on leaves as it was -/
def frC (t m0 : Nat) (up : Option Nat) (ne : Bool) (ks : List Nat) (M M2 : zMem) : Prop :=
  Same (fun z => z = t ∨ (t + 4 ≤ z ∧ z ≤ t + 11)) M M2 ∧ (∀ j, j ≠ 12 → M2.1 t j = M.1 t j) ∧ (∀ z, 4 ≤ z → z ≤ 10 → z ≠ 8 → ∀ j, j < m0 → M2.1 (t + z) j = M.1 (t + z) j) ∧ (∀ j, j < m0 → M2.1 (t + 8) j = if ne = true ∧ up = some j then M.1 (t + 8) j + 1 else M.1 (t + 8) j) ∧ ∀ k, k ∉ ks → M2.1 (t + 11) k = M.1 (t + 11) k
theorem frC_0 (t m0 : Nat) (up : Option Nat) (ks : List Nat) (M : zMem) : frC t m0 up false ks M M := ⟨Same.refl _ _, fun _ _ => rfl, fun _ _ _ _ _ _ => rfl, fun _ _ => by simp, fun _ _ => rfl⟩
theorem rowC_fr {lv dg : Nat → Int32} {M M2 : zMem} {t m0 : Nat} {up : Option Nat} {ne : Bool} {ks rs : List Nat} (h : rowC lv dg M t rs) (hf : frC t m0 up ne ks M M2) : rowC lv dg M2 t rs := by
  intro i k hk
  have h1 := h i k hk
  rw [hf.1.1 (t + 1) (by omega), hf.1.1 (t + 2) (by omega), hf.1.1 (t + 3) (by omega)]
  exact h1
/-- the state of a node's making in the memory -/
def liC (lv dg : Nat → Int32) (t me : Nat) (up : Option Nat) (top : Int32) (ps : List Nat) (r : zAcc) (M0 M : zMem) : Prop :=
  M.1 t 12 = nI (me + 1 + r.2.2.1.length) ∧ nodC M t me top r.2.2.2.1 r.2.2.2.2 up ∧ nodsC M t (me + 1) r.2.2.1 ∧ frC t me up true ps M0 M
theorem nodC_fr {M M2 : zMem} {t i m0 : Nat} {lv : Int32} {ks qs : List Nat} {bl : Nat} {up up2 : Option Nat} {ne : Bool} (h : nodC M t i lv ks bl up) (hf : frC t m0 up2 ne qs M M2) (hi : i < m0) (hk : ∀ k ∈ ks, k ∉ qs) : nodC M2 t i lv ks (bl + if ne = true ∧ up2 = some i then 1 else 0) up := by
  obtain ⟨h4, h5, h6, h7, h8, h9, h11⟩ := h
  obtain ⟨-, -, g3, g4, g5⟩ := hf
  refine ⟨(g3 4 (by omega) (by omega) (by omega) i hi).trans h4, (g3 5 (by omega) (by omega) (by omega) i hi).trans h5, fun k e => (g3 6 (by omega) (by omega) (by omega) i hi).trans (h6 k e), fun k e => (g3 7 (by omega) (by omega) (by omega) i hi).trans (h7 k e), ?_, (g3 9 (by omega) (by omega) (by omega) i hi).trans h9, fun k e => (g5 k (hk k e)).trans (h11 k e)⟩
  rw [g4 i hi, h8]
  split
  · rw [nI_1]
  · rfl
/-- behind the nodes of a stretch -/
theorem liC_sub {lv dg : Nat → Int32} {t me path f : Nat} {up : Option Nat} {top : Int32} {ps : List Nat} {r : zAcc} {M0 M M2 : zMem} (hok : okT lv dg f) (h0 : ∀ k ∈ ps, 0 ≤ lv k) (hnd : ps.Nodup) (hac : acT lv top ps r) (h : liC lv dg t me up top ps r M0 M)
    (g : Int32 × List zNode) (hg : g = gT lv dg f r.2.1 (some me) (me + 1 + r.2.2.1.length) (path + 1)) (hf : frC t (me + 1 + r.2.2.1.length) (some me) (decide (g.2 ≠ [])) r.2.1 M M2) (hn : nodsC M2 t (me + 1 + r.2.2.1.length) g.2) (hc : M2.1 t 12 = nI (me + 1 + r.2.2.1.length + g.2.length)) :
    M2.1 t 12 = nI (me + 1 + (r.2.2.1 ++ g.2).length) ∧ nodC M2 t me top r.2.2.2.1 (r.2.2.2.2 + if g.2 = [] then 0 else 1) up ∧ nodsC M2 t (me + 1) (r.2.2.1 ++ g.2) ∧ frC t me up true ps M0 M2 := by
  obtain ⟨a1, a2, a3, a4⟩ := h
  obtain ⟨⟨l, b1, b5⟩, b2, b3, b4⟩ := hac
  have hdis : ∀ k ∈ l, k ∉ r.2.1 := by
    rw [b1] at hnd
    exact fun k h1 h2 => (List.nodup_append.mp hnd).2.2 k h1 k h2 rfl
  refine ⟨by rw [hc, List.length_append, Nat.add_assoc (me + 1)], ?_, ?_, ?_⟩
  · have := nodC_fr a2 hf (by omega) (fun k hk hk2 => b4 k hk2 (by rw [b2] at hk; simpa using (List.mem_filter.mp hk).2))
    have e : (if decide (g.2 ≠ []) = true ∧ some me = some me then 1 else 0) = (if g.2 = [] then 0 else 1 : Nat) := by
      by_cases q : g.2 = [] <;> simp [q]
    rw [e] at this
    exact this
  · intro j n hj
    rcases Nat.lt_or_ge j r.2.2.1.length with hl | hl
    · rw [List.getElem?_append_left hl] at hj
      obtain ⟨c1, c2⟩ := a3 j n hj
      have := nodC_fr c1 hf (by omega) (fun k hk => hdis k (b5 n (List.mem_of_getElem? hj) k hk))
      rw [if_neg (by intro q; have := Option.some.inj q.2; omega), Nat.add_zero] at this
      exact ⟨this, (hf.2.2.1 10 (by omega) (by omega) (by omega) _ (by omega)).trans c2⟩
    · rw [List.getElem?_append_right hl] at hj
      have := hn _ n hj
      rw [show me + 1 + r.2.2.1.length + (j - r.2.2.1.length) = me + 1 + j by omega] at this
      exact this
  · obtain ⟨g1, g2, g3, g4, g5⟩ := hf
    obtain ⟨f1, f2, f3, f4, f5⟩ := a4
    refine ⟨f1.trans g1, fun j hj => (g2 j hj).trans (f2 j hj), fun z z1 z2 z3 j hj => (g3 z z1 z2 z3 j (by omega)).trans (f3 z z1 z2 z3 j hj), fun j hj => ?_, fun k hk => (g5 k (fun q => hk (by rw [b1]; exact List.mem_append_right _ q))).trans (f5 k hk)⟩
    rw [g4 j (by omega), if_neg (by intro q; have := Option.some.inj q.2; omega)]
    exact f4 j hj
theorem seg_suffix {rs l sg : List Nat} {a i : Nat} (h : (rs.drop a).take (i - a) = l ++ sg) (hi : i ≤ rs.length) (ha : a ≤ i) : (rs.drop (i - sg.length)).take (i - (i - sg.length)) = sg ∧ a ≤ i - sg.length ∧ sg.length ≤ i := by
  have hlen := congrArg List.length h
  rw [List.length_take, List.length_drop, List.length_append] at hlen
  have h1 : l.length + sg.length = i - a := by omega
  refine ⟨?_, by omega, by omega⟩
  have h2 : sg = ((rs.drop a).take (i - a)).drop l.length := by rw [h]; simp
  rw [h2, List.drop_take, List.drop_drop]
  have e1 : a + l.length = i - (List.take (i - a - l.length) (List.drop (a + l.length) rs)).length := by
    rw [List.length_take, List.length_drop]; omega
  rw [← e1]
  congr 1
  omega
theorem nodC_w10 {M : zMem} {t i me : Nat} {lv x : Int32} {ks : List Nat} {bl : Nat} {up : Option Nat} (h : nodC M t i lv ks bl up) : nodC (wI M (t + 10) me x) t i lv ks bl up := by
  obtain ⟨w4, w5, w6, w7, w8, w9, w11⟩ := h
  refine ⟨?_, ?_, fun k e => ?_, fun k e => ?_, ?_, ?_, fun k e => ?_⟩
  · rw [wI_1, if_neg (by omega)]; exact w4
  · rw [wI_1, if_neg (by omega)]; exact w5
  · rw [wI_1, if_neg (by omega)]; exact w6 k e
  · rw [wI_1, if_neg (by omega)]; exact w7 k e
  · rw [wI_1, if_neg (by omega)]; exact w8
  · rw [wI_1, if_neg (by omega)]; exact w9
  · rw [wI_1, if_neg (by omega)]; exact w11 k e
/-- behind a key of the node's own -/
theorem liC_add {t me k : Nat} {up : Option Nat} {top : Int32} {ps ks : List Nat} {sub : List zNode} {bl : Nat} {M0 M M2 : zMem} (hsub : ∀ n ∈ sub, ∀ j ∈ n.2.1, j ≠ k) (h1 : M.1 t 12 = nI (me + 1 + sub.length)) (h2 : nodC M t me top ks bl up) (h3 : nodsC M t (me + 1) sub) (h4 : frC t me up true ps M0 M)
    (a5 : M2.1 (t + 5) = upd (M.1 (t + 5)) me (nI (ks.length + 1))) (a6 : M2.1 (t + 6) = (if ks.length = 0 then upd (M.1 (t + 6)) me (nI k) else M.1 (t + 6))) (a7 : M2.1 (t + 7) = upd (M.1 (t + 7)) me (nI k)) (a11 : M2.1 (t + 11) = upd (M.1 (t + 11)) k (nI me)) (aS : Same (fun z => z = t + 5 ∨ z = t + 6 ∨ z = t + 7 ∨ z = t + 11) M M2) :
    M2.1 t 12 = nI (me + 1 + sub.length) ∧ nodC M2 t me top (ks ++ [k]) bl up ∧ nodsC M2 t (me + 1) sub ∧ frC t me up true (ps ++ [k]) M0 M2 := by
  have s0 := aS.1 t (by omega)
  have s4 := aS.1 (t + 4) (by omega)
  have s8 := aS.1 (t + 8) (by omega)
  have s9 := aS.1 (t + 9) (by omega)
  have s10 := aS.1 (t + 10) (by omega)
  refine ⟨by rw [s0]; exact h1, ?_, ?_, ?_⟩
  · obtain ⟨w4, w5, w6, w7, w8, w9, w11⟩ := h2
    refine ⟨by rw [s4]; exact w4, by rw [a5, upd_s, List.length_append, List.length_singleton], fun j e => ?_, fun j e => ?_, by rw [s8]; exact w8, by rw [s9]; exact w9, fun j e => ?_⟩
    · rw [a6]
      cases ks with
      | nil => cases e; rw [if_pos (show ([] : List Nat).length = 0 from rfl), upd_s]
      | cons q qs => rw [if_neg (by simp)]; exact w6 j (by simpa using e)
    · have : k = j := by simpa using e
      rw [a7, upd_s, this]
    · rw [a11]
      by_cases q : j = k
      · rw [q, upd_s]
      · rw [upd_n _ _ q]
        rcases List.mem_append.mp e with e | e
        · exact w11 j e
        · exact absurd (List.mem_singleton.mp e) q
  · intro j n hj
    obtain ⟨⟨w4, w5, w6, w7, w8, w9, w11⟩, w10⟩ := h3 j n hj
    refine ⟨⟨by rw [s4]; exact w4, by rw [a5, upd_n _ _ (by omega)]; exact w5, fun q e => ?_, fun q e => by rw [a7, upd_n _ _ (by omega)]; exact w7 q e, by rw [s8]; exact w8, by rw [s9]; exact w9, fun q e => by rw [a11, upd_n _ _ (hsub n (List.mem_of_getElem? hj) q e)]; exact w11 q e⟩, by rw [s10]; exact w10⟩
    rw [a6]
    split
    · rw [upd_n _ _ (by omega)]; exact w6 q e
    · exact w6 q e
  · obtain ⟨f1, f2, f3, f4, f5⟩ := h4
    refine ⟨f1.trans (aS.mono (fun i hi => by omega)), fun j hj => by rw [s0]; exact f2 j hj, fun z z1 z2 z3 j hj => ?_, fun j hj => by rw [s8]; exact f4 j hj, fun q hq => ?_⟩
    · refine Eq.trans ?_ (f3 z z1 z2 z3 j hj)
      rcases (show z = 4 ∨ z = 5 ∨ z = 6 ∨ z = 7 ∨ z = 9 ∨ z = 10 by omega) with rfl | rfl | rfl | rfl | rfl | rfl
      · rw [s4]
      · rw [a5, upd_n _ _ (by omega)]
      · rw [a6]; split
        · rw [upd_n _ _ (by omega)]
        · rfl
      · rw [a7, upd_n _ _ (by omega)]
      · rw [s9]
      · rw [s10]
    · rw [a11, upd_n _ _ (fun e => hq (by rw [e]; simp))]
      exact f5 q (fun e => hq (List.mem_append_left _ e))
set_option maxHeartbeats 1000000 in
theorem c_X9_growNode {lv dg : Nat → Int32} {t : Nat} {rs : List Nat} (ht : t ∈ iX9) (h24 : rs.length ≤ 24) (hnd : rs.Nodup) (hrs : ∀ k ∈ rs, k < 24 ∧ 0 ≤ lv k) :
    ∀ (f : Nat) {d a b dep me path : Nat} {up : Option Nat} {M : zMem} {Q : Int32 → zMem → Prop}, rowC lv dg M t rs → a ≤ b → b ≤ rs.length → b - a ≤ f → f + dep ≤ 24 → me + (b - a) ≤ 24 → M.1 t 12 = nI me → (∀ u, up = some u → u < me) →
    (∀ M2, frC t me up (decide ((gT lv dg f ((rs.drop a).take (b - a)) up me path).2 ≠ [])) ((rs.drop a).take (b - a)) M M2 → nodsC M2 t me (gT lv dg f ((rs.drop a).take (b - a)) up me path).2 → M2.1 t 12 = nI (me + (gT lv dg f ((rs.drop a).take (b - a)) up me path).2.length) → Q (gT lv dg f ((rs.drop a).take (b - a)) up me path).1 M2) →
    S_X9_growNode (d + 2 * f + 1) t (nI a) (nI b) (upI up) (nI dep) M (zI Q) := by
  intro f
  induction f with
  | zero =>
    intro d a b dep me path up M Q hr hab hb hf hdep hme hn hu h
    have e : b - a = 0 := by omega
    refine t_X9_growNode ht ⟨fun _ => zii ?_, fun e2 => absurd (nI_le (by omega) (by omega)) e2⟩
    rw [e, List.take_zero] at h
    exact h M (by simpa [gT] using frC_0 t me up [] M) (fun j n hj => by simp [gT] at hj) (by simpa [gT] using hn)
  | succ f ih =>
    intro d a b dep me path up M Q hr hab hb hf hdep hme hn hu h
    rcases Nat.lt_or_ge a b with hlt | hge
    · have hsub : ∀ {i : Nat}, ∀ k ∈ (rs.drop a).take (i - a), k ∈ rs := fun k hk => List.mem_of_mem_drop (List.mem_of_mem_take hk)
      have hne : (rs.drop a).take (b - a) ≠ [] := by
        intro q
        have := congrArg List.length q
        rw [List.length_take, List.length_drop] at this
        simp only [List.length_nil] at this
        omega
      rw [gT_eq lv dg f hne] at h
      have hfuel : d + 2 * (f + 1) + 1 = ((d + 2 * f + 1) + 1) + 1 := by omega
      rw [hfuel]
      refine t_X9_growNode ht ⟨fun e => absurd e (nI_ge hlt (by omega)), fun _ => ⟨fun e => absurd e (by rw [show (24 : Int32) = nI 24 from rfl]; exact nI_nlt (by omega) (by omega)), fun _ => ⟨fun _ => ?_, fun e => absurd (by rw [hn, show (24 : Int32) = nI 24 from rfl]; exact nI_lt (by omega) (by omega)) e⟩⟩⟩
      rintro M1 rfl
      have hr1 : rowC lv dg (wI M t 12 (M.1 t 12 + 1)) t rs := fun i k hk => by
        have := hr i k hk
        simpa [wI_1] using this
      refine c_X9_topLevel ht hr1 hb h24 ?_ hab
      rw [hn]
      refine c_X9_openNode ht (by omega) hu ?_
      intro M2 k4 k5 k9 k8 k8' kS
      refine t_X9_fillNode ht ⟨nIin (by omega) (by omega), ?_⟩
      rw [nI_clamp (n := me) (by omega), k4, upd_s]
      -- the loop
      have loop : ∀ (c i : Nat) (M3 : zMem), i + c = b → a ≤ i → rowC lv dg M3 t rs → liC lv dg t me up (topL lv 0 ((rs.drop a).take (b - a))) ((rs.drop a).take (i - a)) (((rs.drop a).take (i - a)).foldl (stT lv dg f me path (topL lv 0 ((rs.drop a).take (b - a)))) (topL lv 0 ((rs.drop a).take (b - a)) + 1, [], [], [], 0)) M M3 →
          S_X9_fillNode_16 ((d + 2 * f + 1) + 1) t (nI me) (nI b) (nI dep) (((rs.drop a).take (i - a)).foldl (stT lv dg f me path (topL lv 0 ((rs.drop a).take (b - a)))) (topL lv 0 ((rs.drop a).take (b - a)) + 1, [], [], [], 0)).1 (nI (i - (((rs.drop a).take (i - a)).foldl (stT lv dg f me path (topL lv 0 ((rs.drop a).take (b - a)))) (topL lv 0 ((rs.drop a).take (b - a)) + 1, [], [], [], 0)).2.1.length)) (nI i) M3 (zI (fun r30 M31 => vp_in (nI me) 24 ∧ (∀ M33 : zMem, M33 = wI M31 (t + 10) me r30 → vp_in (nI me) 24 ∧ (zI Q (some (.int (M33.1 (t + 10) me))) M33)))) := by
        intro c
        generalize hT : topL lv 0 ((rs.drop a).take (b - a)) = top at h
        induction c with
        | zero =>
          intro i M3 hi hai hr3 hli
          have e : i = b := by omega
          subst e
          have hac := acT_fold (me := me) (path := path) (top := top) (okT_all lv dg f) ((rs.drop a).take (i - a)) [] (top + 1, [], [], [], 0) (by simpa using fun k hk => (hrs k (hsub k hk)).2) (acT_0 lv top _)
          rw [List.nil_append] at hac
          generalize ((rs.drop a).take (i - a)).foldl (stT lv dg f me path top) (top + 1, [], [], [], 0) = r at hac hli h ⊢
          obtain ⟨l, b1, -⟩ := hac.1
          obtain ⟨s1, s2, s3⟩ := seg_suffix b1 hb (by omega)
          have hlen := hac.2.2.1
          rw [List.length_take, List.length_drop] at hlen
          have hpos : 0 < r.2.2.2.1.length := by
            obtain ⟨k, hk1, hk2⟩ := topL_hit hne (fun k hk => (hrs k (hsub k hk)).2)
            rw [hT] at hk2
            rw [hac.2.1]
            exact List.length_pos_of_mem (List.mem_filter.mpr ⟨hk1, by simpa using hk2⟩)
          refine t_X9_fillNode_16 ht ⟨fun _ => ?_, fun e => absurd (leY rfl (by omega)) e⟩
          rw [nI_1]
          refine ih (path := path + 1) (me := me + 1 + r.2.2.1.length) (up := some me) hr3 (by omega) hb (by omega) (by omega) (by omega) hli.1 (fun u hu => by have := Option.some.inj hu; omega) ?_
          rw [s1]
          intro M4 q1 q2 q3
          obtain ⟨p1, p2, p3, p4⟩ := liC_sub (okT_all lv dg f) (fun k hk => (hrs k (hsub k hk)).2) ((hnd.sublist (List.drop_sublist _ _)).sublist (List.take_sublist _ _)) hac hli _ rfl q1 q2 q3
          refine c_X11_mix (zii ⟨nIin (by omega) (by omega), ?_⟩)
          rintro M5 rfl
          refine ⟨nIin (by omega) (by omega), zii ?_⟩
          rw [wI_1, if_pos ⟨rfl, rfl⟩]
          refine h _ ?_ ?_ ?_
          · obtain ⟨f1, f2, f3, f4, f5⟩ := p4
            refine ⟨f1.wI (by omega), fun j hj => by rw [wI_1, if_neg (by omega)]; exact f2 j hj, fun z z1 z2 z3 j hj => by rw [wI_1, if_neg (by omega)]; exact f3 z z1 z2 z3 j hj, fun j hj => ?_, fun k hk => by rw [wI_1, if_neg (by omega)]; exact f5 k hk⟩
            rw [wI_1, if_neg (by omega), f4 j hj]
            simp [enT]
          · intro j n hj
            cases j with
            | zero =>
              cases hj
              refine ⟨nodC_w10 p2, ?_⟩
              rw [wI_1, if_pos ⟨rfl, rfl⟩]
            | succ j =>
              have hj : (r.2.2.1 ++ (gT lv dg f r.2.1 (some me) (me + 1 + r.2.2.1.length) (path + 1)).2)[j]? = some n := hj
              obtain ⟨w1, w2⟩ := p3 j n hj
              rw [show me + (j + 1) = me + 1 + j by omega]
              exact ⟨nodC_w10 w1, by rw [wI_1, if_neg (by omega)]; exact w2⟩
          · rw [wI_1, if_neg (by omega), p1]
            congr 1
            simp only [enT, List.length_cons]
            omega
        | succ c ihc =>
          intro i M3 hi hai hr3 hli
          obtain ⟨k, hk⟩ : ∃ k, rs[i]? = some k := ⟨rs[i]'(by omega), List.getElem?_eq_getElem (by omega)⟩
          have hkk := hrs k (List.mem_of_getElem? hk)
          have hps : (rs.drop a).take (i + 1 - a) = (rs.drop a).take (i - a) ++ [k] := by
            rw [show i + 1 - a = (i - a) + 1 by omega, List.take_succ]
            congr 1
            rw [List.getElem?_drop, show a + (i - a) = i by omega, hk]
            rfl
          have next := ihc (i + 1)
          rw [hps, List.foldl_append] at next
          have hac := acT_fold (me := me) (path := path) (top := top) (okT_all lv dg f) ((rs.drop a).take (i - a)) [] (top + 1, [], [], [], 0) (by simpa using fun k hk => (hrs k (hsub k hk)).2) (acT_0 lv top _)
          rw [List.nil_append] at hac
          generalize ((rs.drop a).take (i - a)).foldl (stT lv dg f me path top) (top + 1, [], [], [], 0) = r at hac hli next ⊢
          simp only [List.foldl_cons, List.foldl_nil] at next
          obtain ⟨l, b1, -⟩ := hac.1
          obtain ⟨s1, s2, s3⟩ := seg_suffix b1 (by omega) (by omega)
          have hlen := hac.2.2.1
          rw [List.length_take, List.length_drop] at hlen
          have hin : vp_in (nI i) 24 := nIin (by omega) (by omega)
          refine t_X9_fillNode_16 ht ⟨fun e => absurd e (leN rfl (by omega) (by omega)), fun _ => ⟨hin, nIin (by omega) (by omega), ?_⟩⟩
          rw [nI_clamp (n := i) (by omega), nI_clamp (n := me) (by omega), (hr3 i k hk).2.1, hli.2.1.1, nI_1]
          refine ⟨fun e => ?_, fun e => ?_⟩
          · have hst : stT lv dg f me path top r k = (r.1, r.2.1 ++ [k], r.2.2.1, r.2.2.2.1, r.2.2.2.2) := by unfold stT; rw [if_neg e]
            rw [hst] at next
            have := next M3 (by omega) (by omega) hr3 ⟨hli.1, hli.2.1, hli.2.2.1, ?_⟩
            · simp only [List.length_append, List.length_singleton] at this
              rw [show i + 1 - (r.2.1.length + 1) = i - r.2.1.length by omega] at this
              exact this
            · obtain ⟨f1, f2, f3, f4, f5⟩ := hli.2.2.2
              exact ⟨f1, f2, f3, f4, fun k hk => f5 k (fun q => hk (List.mem_append_left _ q))⟩
          · rw [nI_1]
            refine ih (path := path + 1) (me := me + 1 + r.2.2.1.length) (up := some me) hr3 (by omega) (by omega) (by omega) (by omega) (by omega) hli.1 (fun u hu => by have := Option.some.inj hu; omega) ?_
            rw [s1]
            intro M4 q1 q2 q3
            obtain ⟨p1, p2, p3, p4⟩ := liC_sub (okT_all lv dg f) (fun k hk => (hrs k (hsub k hk)).2) ((hnd.sublist (List.drop_sublist _ _)).sublist (List.take_sublist _ _)) hac hli _ rfl q1 q2 q3
            have hr4 := rowC_fr hr3 q1
            refine c_X11_mix ⟨hin, c_X11_mix ⟨hin, ?_⟩⟩
            rw [(hr4 i k hk).1, (hr4 i k hk).2.2]
            refine c_X9_addKey ht (by omega) hkk.1 p2.2.1 (by omega) ?_
            intro M5 a5 a6 a7 a11 aS
            have hst : stT lv dg f me path top r k = (mixF (mixF r.1 (gT lv dg f r.2.1 (some me) (me + 1 + r.2.2.1.length) (path + 1)).1) (dg k), [], r.2.2.1 ++ (gT lv dg f r.2.1 (some me) (me + 1 + r.2.2.1.length) (path + 1)).2, r.2.2.2.1 ++ [k], r.2.2.2.2 + (if (gT lv dg f r.2.1 (some me) (me + 1 + r.2.2.1.length) (path + 1)).2 = [] then 0 else 1)) := by unfold stT; rw [if_pos e]
            rw [hst] at next
            have hkps : k ∉ (rs.drop a).take (i - a) := by
              have h1 : ((rs.drop a).take (i + 1 - a)).Nodup := (hnd.sublist (List.drop_sublist _ _)).sublist (List.take_sublist _ _)
              rw [hps] at h1
              exact fun q => (List.nodup_append.mp h1).2.2 k q k (List.mem_singleton.mpr rfl) rfl
            have hok2 := okT_all lv dg f r.2.1 (some me) (me + 1 + r.2.2.1.length) (path + 1) (fun j hj => (hrs j (hsub (i := i) j (by rw [b1]; exact List.mem_append_right _ hj))).2)
            obtain ⟨l2, b2, b5⟩ := hac.1
            have hli5 := liC_add (ps := (rs.drop a).take (i - a)) (M0 := M) (fun n hn j hj e2 => hkps (by
              rw [← e2]
              rcases List.mem_append.mp hn with q | q
              · rw [b2]; exact List.mem_append_left _ (b5 n q j hj)
              · rw [b2]; exact List.mem_append_right _ (hok2.2 n q j hj))) p1 p2 p3 p4 a5 a6 a7 a11 aS
            have hr5 : rowC lv dg M5 t rs := fun i2 k2 hk2 => by
              have := hr4 i2 k2 hk2
              rw [aS.1 (t + 1) (by omega), aS.1 (t + 2) (by omega), aS.1 (t + 3) (by omega)]
              exact this
            have := next M5 (by omega) (by omega) hr5 hli5
            simpa using this
      have e0 : (rs.drop a).take (a - a) = [] := by rw [Nat.sub_self, List.take_zero]
      have := loop (b - a) a M2 (by omega) (Nat.le_refl _) ?_ ?_
      · rw [e0] at this
        simpa using this
      · intro i2 k2 hk2
        have := hr1 i2 k2 hk2
        rw [hn] at this
        rw [kS.1 (t + 1) (by omega), kS.1 (t + 2) (by omega), kS.1 (t + 3) (by omega)]
        exact this
      · rw [e0]
        have u0 : ∀ z, z ≠ t → (wI M t 12 (nI me + 1)).1 z = M.1 z := fun z hz => z_up_n _ _ hz
        refine ⟨?_, ?_, fun j n hj => ?_, ?_⟩
        · rw [kS.1 t (by omega), wI_1, if_pos ⟨rfl, rfl⟩, nI_1]; rfl
        · refine ⟨by rw [k4, upd_s], by rw [k5, upd_s]; rfl, fun k e => ?_, fun k e => ?_, by rw [k8]; rfl, by rw [k9, upd_s], fun k e => ?_⟩
          · simp at e
          · simp at e
          · simp at e
        · simp at hj
        · refine ⟨((Same.refl _ M).wI (by omega)).trans (kS.mono (fun i hi => by omega)), fun j hj => by rw [kS.1 t (by omega), wI_1, if_neg (by omega)], fun z z1 z2 z3 j hj => ?_, fun j hj => ?_, fun k _ => by rw [kS.1 (t + 11) (by omega), u0 _ (by omega)]⟩
          · rcases (show z = 4 ∨ z = 5 ∨ z = 6 ∨ z = 7 ∨ z = 9 ∨ z = 10 by omega) with rfl | rfl | rfl | rfl | rfl | rfl
            · rw [k4, upd_n _ _ (by omega), u0 _ (by omega)]
            · rw [k5, upd_n _ _ (by omega), u0 _ (by omega)]
            · rw [kS.1 (t + 6) (by omega), u0 _ (by omega)]
            · rw [kS.1 (t + 7) (by omega), u0 _ (by omega)]
            · rw [k9, upd_n _ _ (by omega), u0 _ (by omega)]
            · rw [kS.1 (t + 10) (by omega), u0 _ (by omega)]
          · rw [k8' j (by omega), u0 _ (by omega)]; simp
    · have e : b - a = 0 := by omega
      rw [show d + 2 * (f + 1) + 1 = ((d + 2 * f + 1) + 1) + 1 by omega]
      refine t_X9_growNode ht ⟨fun _ => zii ?_, fun e2 => absurd (nI_le hge (by omega)) e2⟩
      rw [e, List.take_zero, gT_nil] at h
      exact h M (frC_0 t me up [] M) (fun j n hj => by simp at hj) hn
