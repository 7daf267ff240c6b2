theorem liR_open {tt me path : Nat} {up : Option Nat} {top x : Int32} {M M2 : zMem} (htt : tt < 2) (hme : me < 24) (hu : ∀ u, up = some u → u < me)
    (h : M2 = wI (wI (wI (wI (wI (wI M 246 tt (nI me + 1)) 247 (24 * tt + me) top) 248 (24 * tt + me) 0) 249 (24 * tt + me) (-1)) 251 (24 * tt + me) 0) 252 (24 * tt + me) (upI up)) (M3 : zMem) (h3 : up = none ∧ M3 = M2 ∨ ∃ u, up = some u ∧ M3 = wI M2 251 (24 * tt + u) (M2.1 251 (24 * tt + u) + 1)) : liR tt me up top path [] (x, [], [], [], 0) M M3 := by
  have hS2 : Same (fun z => 246 ≤ z ∧ z ≤ 254) M M2 := by rw [h]; exact ((((((Same.refl _ M).wI (by omega)).wI (by omega)).wI (by omega)).wI (by omega)).wI (by omega)).wI (by omega)
  have e251 : M3.1 251 (24 * tt + me) = 0 ∧ ∀ j, (j < 24 * tt + me ∨ 24 * tt + 24 ≤ j) → M3.1 251 j = if up.map (fun u => 24 * tt + u) = some j then M.1 251 j + 1 else M.1 251 j := by
    rcases h3 with ⟨rfl, rfl⟩ | ⟨u, rfl, rfl⟩
    · rw [h]
      refine ⟨by simp [wI_1], fun j hj => ?_⟩
      simp (disch := omega) only [wI_1, if_neg, Option.map_none]
      rw [if_neg (by simp)]
    · have hu1 := hu u rfl
      rw [h]
      refine ⟨by simp (disch := omega) only [wI_1, if_neg]; simp, fun j hj => ?_⟩
      by_cases q : j = 24 * tt + u
      · subst q
        simp (disch := omega) only [wI_1, if_neg, Option.map_some]
        simp
      · simp (disch := omega) only [wI_1, if_neg, Option.map_some]
        rw [if_neg (by intro e; have := Option.some.inj e; omega)]
  have oth : ∀ z, z ≠ 251 → M3.1 z = M2.1 z := fun z hz => by
    rcases h3 with ⟨rfl, rfl⟩ | ⟨u, rfl, rfl⟩
    · rfl
    · exact z_up_n _ _ hz
  have hS3 : Same (fun z => 246 ≤ z ∧ z ≤ 254) M M3 := by
    rcases h3 with ⟨rfl, rfl⟩ | ⟨u, rfl, rfl⟩
    · exact hS2
    · exact hS2.wI (by omega)
  refine ⟨?_, ⟨?_, ?_, ?_, fun k e => ?_, ?_, ?_, fun k e => ?_⟩, fun j n hj => ?_, hS3, fun j hj => ?_, fun z z1 z2 z3 j hj => ?_, fun j hj => ?_, fun j _ => ?_⟩
  · rw [oth _ (by omega), h]
    simp (disch := omega) only [wI_1, if_neg, and_self, if_true]
    rw [nI_1]; rfl
  · rw [oth _ (by omega), h]; simp (disch := omega) only [wI_1, if_neg, and_self, if_true]
  · rw [oth _ (by omega), h]; simp (disch := omega) only [wI_1, if_neg, and_self, if_true]; rfl
  · rw [oth _ (by omega), h]; simp (disch := omega) only [wI_1, if_neg, and_self, if_true]; rfl
  · simp at e
  · rw [e251.1]; rfl
  · rw [oth _ (by omega), h]; simp (disch := omega) only [wI_1, if_neg, and_self, if_true]
  · simp at e
  · simp at hj
  · rw [oth _ (by omega), h]; simp (disch := omega) only [wI_1, if_neg]
  · rw [oth _ z3, h]; simp (disch := omega) only [wI_1, if_neg]
  · rw [e251.2 j hj]; simp
  · rw [oth _ (by omega), h]; simp (disch := omega) only [wI_1, if_neg]
set_option maxHeartbeats 1000000 in
theorem c_X12_layNodes {tt p n : Nat} {od : Nat → Nat} {lv kd F : Nat → Int32} (htt : tt < 2) (hp : p < 4) :
    ∀ (f : Nat) {d a b me path : Nat} {up : Option Nat} {M : zMem} {Q : Int32 → zMem → Prop}, planR M n od → M.1 243 = lv → M.1 242 = kd → fR M = F → a ≤ b → b ≤ n → (ksR od F p n a b).length ≤ f → me + (ksR od F p n a b).length ≤ 24 → M.1 246 tt = nI me → (∀ u, up = some u → u < me) →
    (∀ M2, frR tt me up (decide ((gT lv (digF kd F p) f (ksR od F p n a b) up me path).2 ≠ [])) (ksR od F p n a b) M M2 → nodsR M2 (24 * tt) me (gT lv (digF kd F p) f (ksR od F p n a b) up me path).2 → M2.1 246 tt = nI (me + (gT lv (digF kd F p) f (ksR od F p n a b) up me path).2.length) → Q (gT lv (digF kd F p) f (ksR od F p n a b) up me path).1 M2) →
    S_X12_layNodes (d + f + 3) (nI tt) (nI p) (nI a) (nI b) (upI up) (nI path) M (zI Q) := by
  intro f
  induction f with
  | zero =>
    intro d a b me path up M Q hpl hlv hkd hF hab hbn hf hme hn hu h
    have e : ksR od F p n a b = [] := List.eq_nil_of_length_eq_zero (by omega)
    refine t_X12_layNodes (c_X12_greatest (d := d) hp hpl hab hbn ?_)
    rw [hF, e]
    rw [e] at h
    refine ⟨fun q => absurd rfl q, fun _ => zii ?_⟩
    exact h M (by simpa [gT] using frR_0 tt me up [] M) (fun j n hj => by simp [gT] at hj) (by simpa [gT] using hn)
  | succ f ih =>
    intro d a b me path up M Q hpl hlv hkd hF hab hbn hf hme hn hu h
    rw [show d + (f + 1) + 3 = (d + f + 3) + 1 by omega]
    refine t_X12_layNodes (c_X12_greatest (d := d + f + 1) hp hpl hab hbn ?_)
    rw [hF, hlv]
    by_cases hks : ksR od F p n a b = []
    · rw [hks]
      rw [hks, gT_nil] at h
      exact ⟨fun q => absurd rfl q, fun _ => zii (h M (frR_0 tt me up [] M) (fun j n hj => by simp at hj) hn)⟩
    have hmem : ∀ {a b : Nat}, ∀ k ∈ ksR od F p n a b, k < n ∧ 0 ≤ lv k ∧ hasF F p k = true := by
      intro a b k hk
      obtain ⟨i, h1, h2, h3⟩ := keysT_mem ((ksR_sub od F p n a b).subset hk)
      have := (hpl.2.2.1 i h1).2
      exact ⟨by omega, by rw [← hlv]; exact hpl.2.2.2.2 k (by omega), h3⟩
    have h24 := hpl.2.1
    have hndup : ∀ {a b : Nat}, (ksR od F p n a b).Nodup := fun {a b} => (keysT_nodup hpl.2.2.2.1).sublist (ksR_sub od F p n a b)
    rw [topL_m1 hks (fun k hk => (hmem k hk).2.1)]
    have hlpos : 0 < (ksR od F p n a b).length := List.length_pos_iff.mpr hks
    refine ⟨fun _ => ?_, fun q => ?_⟩
    rotate_left
    · have := (topL_ge lv (ksR od F p n a b) 0).1
      rw [q] at this
      exact absurd this (by decide)
    have hin2 : vp_in (nI tt) 2 := nIin htt (by omega)
    have hin48 : vp_in (nI (24 * tt + me)) 48 := nIin (by omega) (by omega)
    refine ⟨hin2, hin2, hin2, ?_⟩
    rw [nI_clamp (by omega), hn, o24, nI_clamp (by omega)]
    rintro M1 rfl
    refine ⟨hin48, ?_⟩
    rintro M1 rfl
    refine ⟨hin48, ?_⟩
    rintro M1 rfl
    refine ⟨hin48, ?_⟩
    rintro M1 rfl
    refine ⟨hin48, ?_⟩
    rintro M1 rfl
    refine ⟨hin48, ?_⟩
    rintro M1 eM1
    generalize hT : topL lv 0 (ksR od F p n a b) = top at eM1 ⊢
    rw [gT_eq lv _ f hks, hT] at h
    -- the loop
    have loop : ∀ (c i s : Nat) (M3 : zMem), i + c = b → a ≤ s → s ≤ i → ksR od F p n s i = ((ksR od F p n a i).foldl (stT lv (digF kd F p) f me path top) (top + 1, [], [], [], 0)).2.1 → liR tt me up top path (ksR od F p n a i) ((ksR od F p n a i).foldl (stT lv (digF kd F p) f me path top) (top + 1, [], [], [], 0)) M M3 →
        S_X12_layNodes_117 ((d + f + 3) + 1) (nI tt) (nI p) (nI b) (nI path) top (nI (24 * tt + me)) ((ksR od F p n a i).foldl (stT lv (digF kd F p) f me path top) (top + 1, [], [], [], 0)).1 (nI s) (nI i) M3 (zI Q) := by
      intro c
      induction c with
      | zero =>
        intro i s M3 hi has hsi hseg hli
        have e : i = b := by omega
        subst e
        have hac := acT_fold (me := me) (path := path) (top := top) (okT_all lv (digF kd F p) f) (ksR od F p n a i) [] (top + 1, [], [], [], 0) (by simpa using fun k hk => (hmem k hk).2.1) (acT_0 lv top _)
        rw [List.nil_append] at hac
        generalize (ksR od F p n a i).foldl (stT lv (digF kd F p) f me path top) (top + 1, [], [], [], 0) = r at hac hli hseg h ⊢
        have hlen := hac.2.2.1
        have hpos : 0 < r.2.2.2.1.length := by
          obtain ⟨k, hk1, hk2⟩ := topL_hit hks (fun k hk => (hmem k hk).2.1)
          rw [hT] at hk2
          rw [hac.2.1]
          exact List.length_pos_of_mem (List.mem_filter.mpr ⟨hk1, by simpa using hk2⟩)
        have hrd : ∀ z, z < 246 → M3.1 z = M.1 z := fun z hz => frR_rd hli.2.2.2 hz
        refine t_X12_layNodes_117 ⟨fun _ => ?_, fun e => absurd (leY rfl (by omega)) e⟩
        rw [nI_1, o24s]
        refine ih (path := path + 1) (me := me + 1 + r.2.2.1.length) (up := some me) (planR_same hpl (hrd _ (by omega)) (hrd _ (by omega)) (hrd _ (by omega))) ((hrd _ (by omega)).trans hlv) ((hrd _ (by omega)).trans hkd) ((fR_same (hrd _ (by omega))).trans hF) hsi hbn (by rw [hseg]; omega) (by rw [hseg]; omega) hli.1 (fun u hu => by have := Option.some.inj hu; omega) ?_
        rw [hseg]
        intro M4 q1 q2 q3
        obtain ⟨p1, p2, p3, p4⟩ := liR_sub (by omega) hndup hac hli _ rfl q1 q2 q3
        refine c_X12_mix ⟨hin48, ?_⟩
        rintro M5 rfl
        rw [nI_clamp (by omega)]
        refine ⟨hin48, zii ?_⟩
        rw [wI_1, if_pos ⟨rfl, rfl⟩]
        refine h _ ?_ ?_ ?_
        · obtain ⟨f1, f2, f3, f4, f5⟩ := p4
          refine ⟨f1.wI (by omega), fun j hj => by rw [wI_1, if_neg (by omega)]; exact f2 j hj, fun z z1 z2 z3 j hj => by rw [wI_1, if_neg (by omega)]; exact f3 z z1 z2 z3 j hj, fun j hj => ?_, fun k hk => by rw [wI_1, if_neg (by omega)]; exact f5 k hk⟩
          rw [wI_1, if_neg (by omega), f4 j hj]
          simp [enT]
        · intro j n hj
          cases j with
          | zero =>
            cases hj
            refine ⟨nodR_w p2, ?_⟩
            rw [wI_1, if_pos ⟨rfl, rfl⟩]
          | succ j =>
            have hj : (r.2.2.1 ++ (gT lv (digF kd F p) f r.2.1 (some me) (me + 1 + r.2.2.1.length) (path + 1)).2)[j]? = some n := hj
            obtain ⟨w1, w2⟩ := p3 j n hj
            rw [show me + (j + 1) = me + 1 + j by omega]
            exact ⟨nodR_w w1, by rw [wI_1, if_neg (by omega)]; exact w2⟩
        · rw [wI_1, if_neg (by omega), p1]
          congr 1
          simp only [enT, List.length_cons]
          omega
      | succ c ihc =>
        intro i s M3 hi has hsi hseg hli
        have hk := hpl.2.2.1 i (by omega)
        have hrd : ∀ z, z < 246 → M3.1 z = M.1 z := fun z hz => frR_rd hli.2.2.2 hz
        have hin : vp_in (nI i) 24 := nIin (by omega) (by omega)
        have hkin : vp_in (nI (od i)) 24 := nIin (by omega) (by omega)
        have hps := ksR_s (od := od) (F := F) (p := p) (n := n) (a := a) (i := i) (by omega) (by omega)
        have hps2 := ksR_s (od := od) (F := F) (p := p) (n := n) (a := s) (i := i) hsi (by omega)
        have next := ihc (i + 1)
        rw [hps] at next
        have hac := acT_fold (me := me) (path := path) (top := top) (okT_all lv (digF kd F p) f) (ksR od F p n a i) [] (top + 1, [], [], [], 0) (by simpa using fun k hk => (hmem k hk).2.1) (acT_0 lv top _)
        rw [List.nil_append] at hac
        refine t_X12_layNodes_117 ⟨fun e => absurd e (leN rfl (by omega) (by omega)), fun _ => ⟨hin, ?_⟩⟩
        rw [nI_clamp (by omega), hrd 244 (by omega), hk.1]
        refine c_X12_hasEntry hp (by omega) ?_
        rw [fR_same (hrd _ (by omega)), hF, nI_1, nI_clamp (by omega), hrd 243 (by omega), hlv]
        refine ⟨fun e => ?_, fun e => ⟨hkin, fun e2 => ?_, fun e2 => ?_⟩⟩
        · rw [e] at next
          simp only [Bool.false_eq_true, if_false, List.append_nil] at next
          exact next s M3 (by omega) has (by omega) (by rw [hps2, e]; simpa using hseg) hli
        · rw [if_pos e, List.foldl_append] at next
          generalize (ksR od F p n a i).foldl (stT lv (digF kd F p) f me path top) (top + 1, [], [], [], 0) = r at hac hli hseg next ⊢
          simp only [List.foldl_cons, List.foldl_nil] at next
          have hlen := hac.2.2.1
          have hlab : (ksR od F p n a i).length + 1 ≤ (ksR od F p n a b).length := by
            have h1 : (ksR od F p n a (i + 1)).length = (ksR od F p n a i).length + 1 := by rw [hps, if_pos e]; simp
            have h2 : (ksR od F p n a (i + 1)).length ≤ (ksR od F p n a b).length := by
              unfold ksR
              refine (List.Sublist.filter _ ?_).length_le
              exact (List.take_prefix_take_left (by omega)).sublist
            omega
          rw [nI_1, o24s]
          refine ih (path := path + 1) (me := me + 1 + r.2.2.1.length) (up := some me) (planR_same hpl (hrd _ (by omega)) (hrd _ (by omega)) (hrd _ (by omega))) ((hrd _ (by omega)).trans hlv) ((hrd _ (by omega)).trans hkd) ((fR_same (hrd _ (by omega))).trans hF) hsi (by omega) (by rw [hseg]; omega) (by rw [hseg]; omega) hli.1 (fun u hu => by have := Option.some.inj hu; omega) ?_
          rw [hseg]
          intro M4 q1 q2 q3
          obtain ⟨p1, p2, p3, p4⟩ := liR_sub (by omega) hndup hac hli _ rfl q1 q2 q3
          have hrd4 : ∀ z, z < 246 → M4.1 z = M.1 z := fun z hz => frR_rd p4 hz
          refine c_X12_mix (c_X12_entryDigest (d := d + f + 2) hp (by omega) ?_)
          rw [hrd4 242 (by omega), hkd, fR_same (hrd4 _ (by omega)), hF]
          refine c_X12_mix ⟨hin48, hin48, ?_⟩
          rw [nI_clamp (by omega)]
          rintro M5 rfl
          have hst : stT lv (digF kd F p) f me path top r (od i) = (mixF (mixF r.1 (gT lv (digF kd F p) f r.2.1 (some me) (me + 1 + r.2.2.1.length) (path + 1)).1) (digF kd F p (od i)), [], r.2.2.1 ++ (gT lv (digF kd F p) f r.2.1 (some me) (me + 1 + r.2.2.1.length) (path + 1)).2, r.2.2.2.1 ++ [od i], r.2.2.2.2 + (if (gT lv (digF kd F p) f r.2.1 (some me) (me + 1 + r.2.2.1.length) (path + 1)).2 = [] then 0 else 1)) := by unfold stT; rw [if_pos e2]
          rw [hst] at next
          have hok2 := okT_all lv (digF kd F p) f r.2.1 (some me) (me + 1 + r.2.2.1.length) (path + 1) (fun j hj => (hmem (a := s) (b := i) j (by rw [hseg]; exact hj)).2.1)
          have hkps : od i ∉ ksR od F p n a i := by
            have h1 : (ksR od F p n a (i + 1)).Nodup := hndup
            rw [hps, if_pos e] at h1
            exact fun q => (List.nodup_append.mp h1).2.2 _ q _ (List.mem_singleton.mpr rfl) rfl
          obtain ⟨l2, b2, b5⟩ := hac.1
          have fin : ∀ M5 : zMem, M5.1 248 = upd (M4.1 248) (24 * tt + me) (M4.1 248 (24 * tt + me) ||| ((1 : Int32) <<< (nI (od i) &&& 31))) → M5.1 249 = (if r.2.2.2.1 = [] then upd (M4.1 249) (24 * tt + me) (nI (od i)) else M4.1 249) → M5.1 250 = M4.1 250 → M5.1 254 = M4.1 254 → Same (fun z => z = 248 ∨ z = 249 ∨ z = 250 ∨ z = 254) M4 M5 → S_X12_layNodes_234 ((d + f + 3) + 1) (nI tt) (nI p) (nI b) (nI path) top (nI (24 * tt + me)) (mixF (mixF r.1 (gT lv (digF kd F p) f r.2.1 (some me) (me + 1 + r.2.2.1.length) (path + 1)).1) (digF kd F p (od i))) (nI i) (nI (od i)) M5 (zI Q) := by
            intro M5 c8 c9 c10 c14 cS
            refine t_X12_layNodes_234 ⟨hin48, ?_⟩
            rintro M6 rfl
            rw [nI_clamp (by omega), o24, nI_1, nI_1, nI_clamp (by omega)]
            refine ⟨nIin (by omega) (by omega), ?_⟩
            rintro M6 rfl
            refine next (i + 1) _ (by omega) (by omega) (Nat.le_refl _) (by rw [ksR_0]) ?_
            refine liR_add (M := M4) (by rw [List.length_append]; have := hok2.1; omega) (by omega) (fun n hn j hj e3 => hkps (by
              rw [← e3]
              rcases List.mem_append.mp hn with q | q
              · rw [b2]; exact List.mem_append_left _ (b5 n q j hj)
              · rw [b2]; exact List.mem_append_right _ (hok2.2 n q j hj))) p1 p2 p3 p4 ?_ ?_ ?_ ?_ ((cS.wI (by omega)).wI (by omega))
            · rw [← c8]; funext j; simp (disch := omega) only [wI_1, if_neg]
            · rw [← c9]; funext j; simp (disch := omega) only [wI_1, if_neg]
            · rw [← c10]; funext j; simp (disch := omega) only [wI_1, if_neg, upd, true_and]
            · rw [← c14]; funext j; simp (disch := omega) only [wI_1, if_neg, upd, true_and]
          have e249 : (wI M4 248 (24 * tt + me) (M4.1 248 (24 * tt + me) ||| ((1 : Int32) <<< (nI (od i) &&& 31)))).1 249 (24 * tt + me) = match r.2.2.2.1.head? with
              | none => -1
              | some k => nI k := by rw [wI_1, if_neg (by omega)]; exact p2.2.2.1
          refine ⟨hin48, fun q => fin _ ?_ ?_ ?_ ?_ ((Same.refl _ _).wI (by omega)), fun q => ⟨hin48, ?_⟩⟩
          · funext j; simp (disch := omega) only [wI_1, upd, true_and]
          · rw [if_neg (fun q2 => q (by rw [e249, q2]; rfl))]
            funext j; simp (disch := omega) only [wI_1, if_neg]
          · funext j; simp (disch := omega) only [wI_1, if_neg]
          · funext j; simp (disch := omega) only [wI_1, if_neg]
          · rintro M6 rfl
            refine fin _ ?_ ?_ ?_ ?_ (((Same.refl _ _).wI (by omega)).wI (by omega))
            · funext j; simp (disch := omega) only [wI_1, upd, true_and, if_neg]
            · have hnil : r.2.2.2.1 = [] := by
                cases hq : r.2.2.2.1 with
                | nil => rfl
                | cons k0 ks0 =>
                  rw [e249, hq] at q
                  have hk0 : k0 < n := (hmem (a := a) (b := i) k0 (by
                    have : k0 ∈ r.2.2.2.1 := by rw [hq]; exact List.mem_cons_self
                    rw [hac.2.1] at this
                    exact (List.mem_filter.mp this).1)).1
                  have q : nI k0 = -1 := q
                  have := congrArg Int32.toInt q
                  rw [nI_toInt (by omega)] at this
                  have h1 : (-1 : Int32).toInt = -1 := by decide
                  omega
              rw [if_pos hnil]
              funext j; simp (disch := omega) only [wI_1, upd, true_and, if_neg]
            · funext j; simp (disch := omega) only [wI_1, if_neg]
            · funext j; simp (disch := omega) only [wI_1, if_neg]
        · rw [if_pos e, List.foldl_append] at next
          generalize (ksR od F p n a i).foldl (stT lv (digF kd F p) f me path top) (top + 1, [], [], [], 0) = r at hac hli hseg next ⊢
          simp only [List.foldl_cons, List.foldl_nil] at next
          have hst : stT lv (digF kd F p) f me path top r (od i) = (r.1, r.2.1 ++ [od i], r.2.2.1, r.2.2.2.1, r.2.2.2.2) := by unfold stT; rw [if_neg e2]
          rw [hst] at next
          refine next s M3 (by omega) has (by omega) (by rw [hps2, if_pos e, hseg]) ⟨hli.1, hli.2.1, hli.2.2.1, ?_⟩
          obtain ⟨f1, f2, f3, f4, f5⟩ := hli.2.2.2
          exact ⟨f1, f2, f3, f4, fun j hk => f5 j (fun k q => hk k (List.mem_append_left _ q))⟩
    have start : ∀ M3, (up = none ∧ M3 = M1 ∨ ∃ u, up = some u ∧ M3 = wI M1 251 (24 * tt + u) (M1.1 251 (24 * tt + u) + 1)) → S_X12_layNodes_117 ((d + f + 3) + 1) (nI tt) (nI p) (nI b) (nI path) top (nI (24 * tt + me)) (top + 1) (nI a) (nI a) M3 (zI Q) := by
      intro M3 h3
      have := loop (b - a) a a M3 (by omega) (Nat.le_refl _) (Nat.le_refl _) (by rw [ksR_0]; rfl) (by rw [ksR_0]; exact liR_open htt (by omega) hu eM1 M3 h3)
      rw [ksR_0] at this
      exact this
    cases up with
    | none => exact ⟨fun _ => start M1 (Or.inl ⟨rfl, rfl⟩), fun q => absurd rfl q⟩
    | some u =>
      have hu1 := hu u rfl
      have hinu : vp_in (nI (24 * tt + u)) 48 := nIin (by omega) (by omega)
      refine ⟨fun q => ?_, fun _ => ?_⟩
      · have := congrArg Int32.toInt q
        rw [show upI (some u) = nI u from rfl, nI_toInt (by omega)] at this
        have h1 : (-1 : Int32).toInt = -1 := by decide
        omega
      · rw [show upI (some u) = nI u from rfl, o24]
        refine ⟨hinu, hinu, ?_⟩
        rintro M2 rfl
        rw [nI_clamp (by omega)]
        exact start _ (Or.inr ⟨u, rfl, rfl⟩)
