theorem bt_fold {k : Nat} (hk : k < 32) : ∀ (ks : List Nat) (s : Int32), (∀ j ∈ ks, j < 32) → bt (ks.foldl (fun s j => s ||| ((1 : Int32) <<< (nI j &&& 31))) s) k = (bt s k || ks.contains k)
  | [], s, _ => by simp
  | j :: ks, s, h => by
    rw [List.foldl_cons, bt_fold hk ks _ (fun i hi => h i (List.mem_cons_of_mem _ hi)), b_or, bit_1 (h j List.mem_cons_self) hk, List.contains_cons, Bool.or_assoc]
    congr 2
theorem bt_kbT {ks : List Nat} {k : Nat} (hk : k < 32) (h : ∀ j ∈ ks, j < 32) : bt (kbT ks) k = ks.contains k := by
  unfold kbT
  rw [bt_fold hk ks 0 h, b_0, Bool.false_or]
theorem bt_gather {ns : List zNode} {set : Int32} {k : Nat} (hk : k < 32) (h : ∀ i, i < ns.length → ∀ j ∈ (nodeT ns i).2.1, j < 32) : ∀ (c i : Nat) (s : Int32), i + c ≤ ns.length → bt (forS (fun i s => if bt set i then s ||| kbT (nodeT ns i).2.1 else s) c i s) k = (bt s k || anyF (fun i => bt set i && (nodeT ns i).2.1.contains k) c i)
  | 0, i, s, _ => by simp [forS, anyF]
  | c + 1, i, s, hc => by
    show bt (forS _ c (i + 1) (if bt set i then s ||| kbT (nodeT ns i).2.1 else s)) k = (bt s k || ((bt set i && (nodeT ns i).2.1.contains k) || anyF _ c (i + 1)))
    rw [bt_gather hk h c (i + 1) _ (by omega)]
    by_cases e : bt set i = true
    · rw [if_pos e, b_or, bt_kbT hk (h i (by omega)), e, Bool.true_and, Bool.or_assoc]
    · rw [if_neg e, Bool.eq_false_iff.mpr e, Bool.false_and, Bool.false_or]
def offR (rule : Int32) (lv kd F : Nat → Int32) (od : Nat → Nat) (n to from_ : Nat) : List Nat :=
  ((List.range n).map od).filter (fun k => inVis (trF lv kd F od n from_) (visT (trF lv kd F od n from_) (trF lv kd F od n to)) k && (!hasF F to k || winR rule (vlF F from_ k) (smF F from_ k) (vlF F to k) (smF F to k)))
/-- only what the laying of trees and offers writes -/
def OffOnly (M M2 : zMem) : Prop := Same (fun z => z = 229 ∨ (246 ≤ z ∧ z ≤ 255)) M M2 ∧ ∀ j, j ≠ 43 → M2.1 229 j = M.1 229 j
theorem c_X12_visitedOf {d p q n : Nat} {od : Nat → Nat} {M : zMem} {Q : Int32 → zMem → Prop} (hp : p < 4) (hq : q < 4) (hpl : planR M n od)
    (h : ∀ M2, treeR (M.1 243) (digF (M.1 242) (fR M) p) M2 0 (keysT od (fR M) p n) → LayOnly M M2 → Q (visT (trF (M.1 243) (M.1 242) (fR M) od n p) (trF (M.1 243) (M.1 242) (fR M) od n q)) M2) : S_X12_visitedOf (d + 29) (nI p) (nI q) M (zI Q) := by
  have hlen : ∀ p, (treeT (M.1 243) (digF (M.1 242) (fR M) p) (keysT od (fR M) p n)).length ≤ 24 := fun p => by
    have h1 := treeT_len (lv := M.1 243) (dg := digF (M.1 242) (fR M) p) (ks := keysT od (fR M) p n) (fun k hk => (keysT_lv hpl k hk).2)
    have h2 := keysT_len od (fR M) p n
    have h3 := hpl.2.1
    omega
  refine t_X12_visitedOf (c_X12_layTree (tt := 0) (by omega) hp hpl (fun M1 t1 l1 => ?_))
  have hpl1 := planR_lay hpl l1.1
  refine c_X12_layTree (tt := 1) (by omega) hq hpl1 (fun M2 t2 l2 => ?_)
  rw [l1.rd (z := 243) (by omega), l1.rd (z := 242) (by omega), fR_same (l1.rd (z := 231) (by omega))] at t2
  have t1' := t1.other l2 (by omega) (hlen p) (fun nd hn k hk => by
    have := (keysT_lv hpl k (treeT_keys (fun k hk => (keysT_lv hpl k hk).2) nd hn k hk)).1
    have := hpl.2.1
    omega)
  exact c_X12_visited (d := d + 27) (hlen p) (hlen q) (upsT_tree (hlen p)) t1'.1 t1'.2 t2.1 t2.2 (zii (h M2 t1' (l1.1.trans l2.1)))
theorem c_X12_layOffers {d p q n : Nat} {od : Nat → Nat} {M : zMem} {Q : zMem → Prop} (hp : p < 4) (hq : q < 4) (hpl : planR M n od)
    (h : ∀ M2, OffOnly M M2 → M2.1 229 43 = nI (offR (M.1 231 4) (M.1 243) (M.1 242) (fR M) od n p q).length → (∀ i k, (offR (M.1 231 4) (M.1 243) (M.1 242) (fR M) od n p q)[i]? = some k → M2.1 255 i = nI k) → Q M2) : S_X12_layOffers (d + 30) (nI p) (nI q) M (zU Q) := by
  refine t_X12_layOffers (c_X12_visitedOf hq hp hpl (fun M1 t1 l1 => ?_))
  have hkeys : ∀ k ∈ keysT od (fR M) q n, k < n ∧ 0 ≤ M.1 243 k := keysT_lv hpl
  have h24 := hpl.2.1
  have hlen : (trF (M.1 243) (M.1 242) (fR M) od n q).length ≤ 24 := by
    have h1 := treeT_len (lv := M.1 243) (dg := digF (M.1 242) (fR M) q) (ks := keysT od (fR M) q n) (fun k hk => (hkeys k hk).2)
    have h2 := keysT_len od (fR M) q n
    unfold trF
    omega
  have hin32 : ∀ i, i < (trF (M.1 243) (M.1 242) (fR M) od n q).length → ∀ j ∈ (nodeT (trF (M.1 243) (M.1 242) (fR M) od n q) i).2.1, j < 32 := fun i hi j hj => by
    have := (hkeys j (treeT_keys (fun k hk => (hkeys k hk).2) _ (List.mem_of_getElem? (nodeT_at hi)) j hj)).1
    omega
  generalize hset : visT (trF (M.1 243) (M.1 242) (fR M) od n q) (trF (M.1 243) (M.1 242) (fR M) od n p) = set
  have first : ∀ (K2 : Int32), (∀ M2, OffOnly M M2 → M2.1 229 43 = 0 → S_X12_layOffers_59 (d + 30) (nI p) (nI q) (forS (fun i s => if bt set i then s ||| kbT (nodeT (trF (M.1 243) (M.1 242) (fR M) od n q) i).2.1 else s) (trF (M.1 243) (M.1 242) (fR M) od n q).length 0 0) 0 M2 (zU Q)) → S_X12_layOffers_13 (d + 30) (nI p) (nI q) set 0 0 M1 (zU Q) := by
    intro _ hK
    refine for_up (S := fun i s => S_X12_layOffers_13 (d + 30) (nI p) (nI q) set s (nI i) M1 (zU Q)) (fin := fun s => ∀ M2, OffOnly M M2 → M2.1 229 43 = 0 → S_X12_layOffers_59 (d + 30) (nI p) (nI q) s 0 M2 (zU Q)) (n := (trF (M.1 243) (M.1 242) (fR M) od n q).length) (fun s hs => ?_) (fun i s hi hs => ?_) (trF (M.1 243) (M.1 242) (fR M) od n q).length 0 0 (by omega) hK
    · refine t_X12_layOffers_13 ⟨fun _ => ?_, fun e => absurd (leY t1.1 (Nat.lt_of_le_of_lt hlen (by omega))) e⟩
      rintro M2 rfl
      refine hs _ ⟨(l1.mono (fun i hi => by omega)).wI (by omega), fun j hj => by rw [wI_1, if_neg (by omega), l1.1 229 (by omega)]⟩ (by rw [wI_1, if_pos ⟨rfl, rfl⟩])
    · refine t_X12_layOffers_13 ⟨fun e => absurd e (leN t1.1 hi (Nat.lt_of_le_of_lt hlen (by omega))), fun _ => c_X12_has (by omega) ?_⟩
      obtain ⟨⟨-, e5, -⟩, -⟩ := t1.2 i _ (nodeT_at hi)
      simp only [Nat.mul_zero, Nat.zero_add] at e5
      rw [nI_1, nI_clamp (by omega), e5]
      refine ⟨fun e => ?_, fun e => ⟨nIin (by omega) (by omega), ?_⟩⟩
      · simpa [e] using hs
      · simpa [e, trF] using hs
  refine first 0 (fun M2 o2 z2 => ?_)
  have hbits : ∀ k, k < 32 → bt (forS (fun i s => if bt set i then s ||| kbT (nodeT (trF (M.1 243) (M.1 242) (fR M) od n q) i).2.1 else s) (trF (M.1 243) (M.1 242) (fR M) od n q).length 0 0) k = inVis (trF (M.1 243) (M.1 242) (fR M) od n q) set k := fun k hk => by
    rw [bt_gather hk hin32 _ _ _ (by omega), b_0, Bool.false_or]; rfl
  generalize (forS (fun i s => if bt set i then s ||| kbT (nodeT (trF (M.1 243) (M.1 242) (fR M) od n q) i).2.1 else s) (trF (M.1 243) (M.1 242) (fR M) od n q).length 0 0) = kb at hbits ⊢
  generalize hf : (fun k => inVis (trF (M.1 243) (M.1 242) (fR M) od n q) set k && (!hasF (fR M) p k || winR (M.1 231 4) (vlF (fR M) q k) (smF (fR M) q k) (vlF (fR M) p k) (smF (fR M) p k))) = fl
  have hoff : offR (M.1 231 4) (M.1 243) (M.1 242) (fR M) od n p q = ((List.range n).map od).filter fl := by unfold offR; rw [hset, hf]
  rw [hoff] at h
  have hol : ((List.range n).map od).length = n := by simp
  have key : ∀ (c i : Nat) (M3 : zMem), i + c = n → OffOnly M M3 → M3.1 229 43 = nI ((((List.range n).map od).take i).filter fl).length → (∀ j k, ((((List.range n).map od).take i).filter fl)[j]? = some k → M3.1 255 j = nI k) → S_X12_layOffers_59 (d + 30) (nI p) (nI q) kb (nI i) M3 (zU Q) := by
    intro c
    induction c with
    | zero =>
      intro i M3 hi ho hz hfd
      have e : i = n := by omega
      rw [e, List.take_of_length_le (by omega)] at hz hfd
      rw [e]
      exact t_X12_layOffers_59 ⟨fun _ => zuu (h M3 ho hz hfd), fun e => absurd (leY (by rw [ho.1.1 231 (by omega)]; exact hpl.1) (by omega)) e⟩
    | succ c ih =>
      intro i M3 hi ho hz hfd
      have hk := hpl.2.2.1 i (by omega)
      have hrd : ∀ z, z < 229 ∨ (229 < z ∧ z < 246) → M3.1 z = M.1 z := fun z hz => ho.1.1 z (by omega)
      have htk : ((List.range n).map od).take (i + 1) = ((List.range n).map od).take i ++ [od i] := by
        rw [List.take_succ, List.getElem?_map, List.getElem?_range (by omega)]; rfl
      have hfll : ((((List.range n).map od).take i).filter fl).length ≤ i := Nat.le_trans (List.length_filter_le _ _) (by rw [List.length_take]; omega)
      have hin : vp_in (nI i) 24 := nIin (by omega) (by omega)
      have skip : fl (od i) = false → S_X12_layOffers_59 (d + 30) (nI p) (nI q) kb (nI (i + 1)) M3 (zU Q) := by
        intro e
        have := ih (i + 1) M3 (by omega) ho
        rw [htk, List.filter_append] at this
        simp only [List.filter_cons, e, List.filter_nil, List.append_nil, Bool.false_eq_true, if_false] at this
        exact this hz hfd
      refine t_X12_layOffers_59 ⟨fun e => absurd e (leN (by rw [hrd 231 (by omega)]; exact hpl.1) (by omega) (by omega)), fun _ => ⟨hin, ?_⟩⟩
      rw [nI_clamp (by omega), hrd 244 (by omega), hk.1]
      refine c_X12_has (by omega) ?_
      rw [hbits _ (by omega), nI_1]
      refine ⟨fun e => skip (by rw [← hf]; show (inVis _ _ _ && _) = false; rw [e]; rfl), fun e => c_X12_isOffer (d := d + 27) hp hq (by omega) ?_⟩
      rw [fR_same (hrd 231 (by omega)), hrd 231 (by omega)]
      have hfk : fl (od i) = (!hasF (fR M) p (od i) || winR (M.1 231 4) (vlF (fR M) q (od i)) (smF (fR M) q (od i)) (vlF (fR M) p (od i)) (smF (fR M) p (od i))) := by
        rw [← hf]; show (inVis _ _ _ && _) = _; rw [e, Bool.true_and]
      rw [← hfk]
      refine ⟨fun e2 => ?_, fun e2 => skip e2⟩
      rw [hz]
      refine ⟨nIin (by omega) (by omega), ?_⟩
      rw [nI_clamp (by omega)]
      rintro M4 rfl M4 rfl
      have := ih (i + 1) (wI (wI M3 255 ((((List.range n).map od).take i).filter fl).length (nI (od i))) 229 43 ((wI M3 255 ((((List.range n).map od).take i).filter fl).length (nI (od i))).1 229 43 + 1)) (by omega) ⟨(ho.1.wI (by omega)).wI (by omega), fun j hj => by rw [wI_1, if_neg (by omega), wI_1, if_neg (by omega)]; exact ho.2 j hj⟩
      rw [htk, List.filter_append] at this
      simp only [List.filter_cons, e2, List.filter_nil, if_true, List.length_append, List.length_singleton] at this
      refine this ?_ (fun j2 k2 hj2 => ?_)
      · rw [wI_1, if_pos ⟨rfl, rfl⟩, wI_1, if_neg (by omega), hz, nI_1]
      · rw [wI_1, if_neg (by omega)]
        rcases Nat.lt_or_ge j2 ((((List.range n).map od).take i).filter fl).length with hl | hl
        · rw [List.getElem?_append_left hl] at hj2
          rw [wI_1, if_neg (by omega)]
          exact hfd j2 k2 hj2
        · rw [List.getElem?_append_right hl] at hj2
          have hj3 : j2 - ((((List.range n).map od).take i).filter fl).length = 0 := by
            rcases Nat.eq_zero_or_pos (j2 - ((((List.range n).map od).take i).filter fl).length) with q | q
            · exact q
            · rw [List.getElem?_eq_none (by rw [List.length_singleton]; exact q)] at hj2; cases hj2
          rw [hj3] at hj2
          have : od i = k2 := by simpa using hj2
          rw [wI_1, if_pos ⟨rfl, by omega⟩, this]
  exact key n 0 M2 (by omega) o2 (by rw [z2]; rfl) (fun j k hj => by simp at hj)
/-- offers are the same, told by either -/
def bndF (F : Nat → Int32) : Prop := ∀ i, i < 96 → (-1 ≤ (F (11 + i)).toInt ∧ (F (11 + i)).toInt ≤ 999) ∧ (0 ≤ (F (107 + i)).toInt ∧ (F (107 + i)).toInt ≤ 1000000000)
theorem off_eq {rule : Int32} {lv kd F : Nat → Int32} {od : Nat → Nat} {n p q : Nat} (hr : rule = 0 ∨ rule = 1 ∨ rule = 2) (hF : bndF F) (hp : p < 4) (hq : q < 4) (hn : n ≤ 24) (hod : ∀ i, i < n → od i < n) (hlv : ∀ k, k < n → 0 ≤ lv k) : offR rule lv kd F od n p q = offF rule lv kd F od n p q := by
  unfold offR offF keysT
  rw [List.filter_filter]
  apply List.filter_congr
  intro k hk
  obtain ⟨i, h1, h2⟩ := List.mem_map.mp hk
  have hk24 : k < 24 := by have := hod i (List.mem_range.mp h1); omega
  have hw : winR rule (vlF F q k) (smF F q k) (vlF F p k) (smF F p k) = winE rule F q p k := win_eq hr (hF (24 * q + k) (by omega)).1 (hF (24 * p + k) (by omega)).1 (hF (24 * q + k) (by omega)).2 (hF (24 * p + k) (by omega)).2
  rw [hw]
  cases hv : inVis (trF lv kd F od n q) (visT (trF lv kd F od n q) (trF lv kd F od n p)) k with
  | false => simp
  | true =>
    rw [inVis_iff] at hv
    obtain ⟨j, g1, -, g3⟩ := hv
    have hlv2 : ∀ k ∈ keysT od F q n, 0 ≤ lv k := fun k hk => by
      obtain ⟨i, a1, a2, -⟩ := keysT_mem hk
      exact hlv k (by have := hod i a1; omega)
    have hm := treeT_keys hlv2 _ (List.mem_of_getElem? (nodeT_at g1)) k g3
    obtain ⟨i2, -, -, hh⟩ := keysT_mem hm
    rw [hh]
    simp
