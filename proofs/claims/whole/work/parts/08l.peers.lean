-- ===== the class's peers: roots, who wins, offers =====
def treesC (M : zMem) (b n : Nat) (od : Nat → Nat) : Prop := ∀ p, p < 4 → treeC (M.1 7) (digF (M.1 6) (fC M (pF b)) p) M (pT b + 1 + 12 * p) (keysT od (fC M (pF b)) p n)
def peersC (M : zMem) (b n m : Nat) (od : Nat → Nat) : Prop := planC M 3 n od ∧ M.1 3 4 = nI m ∧ m ≤ 4 ∧ treesC M b n od
theorem keysT_lvC {M : zMem} {n p : Nat} {od : Nat → Nat} {F : Nat → Int32} (h : planC M 3 n od) : ∀ k ∈ keysT od F p n, k < n ∧ 0 ≤ M.1 7 k := by
  intro k hk
  obtain ⟨i, h1, h2, -⟩ := keysT_mem hk
  have := (h.2.2.1 i h1).2
  exact ⟨by omega, h.2.2.2.2 k (by omega)⟩
theorem trC_len {M : zMem} {n p : Nat} {od : Nat → Nat} {F kd : Nat → Int32} (h : planC M 3 n od) : (trF (M.1 7) kd F od n p).length ≤ 24 := by
  have h1 := treeT_len (lv := M.1 7) (dg := digF kd F p) (ks := keysT od F p n) (fun k hk => (keysT_lvC h k hk).2)
  have h2 := keysT_len od F p n
  have h3 := h.2.1
  unfold trF
  omega
section
variable {d b p q k n m : Nat} {od : Nat → Nat} {M : zMem}
theorem c_X4_rootOf {Q : Int32 → zMem → Prop} (hb : b ∈ iX4) (hp : p < 4) (hP : peersC M b n m od) (h : Q (rtF (M.1 7) (M.1 6) (fC M (pF b)) od n p) M) : S_X4_rootOf d b (nI p) M (zI Q) := by
  obtain ⟨hpl, -, -, ht⟩ := hP
  obtain ⟨t1, t2, t3, t4⟩ := ht p hp
  have hlen := trC_len (p := p) (F := fC M (pF b)) (kd := M.1 6) hpl
  refine t_X4_rootOf hb ⟨nIin hp (by omega), ?_⟩
  rw [nI_clamp (by omega), t3]
  by_cases hk : keysT od (fC M (pF b)) p n = []
  · have e : (gT (M.1 7) (digF (M.1 6) (fC M (pF b)) p) 24 (keysT od (fC M (pF b)) p n) none 0 0).2 = [] := by rw [hk]; rfl
    unfold rtF at h
    rw [hk, rootT_nil] at h
    rw [e]
    exact ⟨fun q => absurd rfl q, fun _ => zii h⟩
  · obtain ⟨nd, h1, h2⟩ := rootT_head (M.1 7) (digF (M.1 6) (fC M (pF b)) p) hk
    have hpos : 0 < (trF (M.1 7) (M.1 6) (fC M (pF b)) od n p).length := (List.getElem?_eq_some_iff.mp h1).1
    refine ⟨fun _ => ⟨nIin hp (by omega), zii ?_⟩, fun e => absurd e (nI_ne0 hpos (Nat.lt_of_le_of_lt hlen (by omega)))⟩
    have := (t4 0 nd h1).2
    rw [Nat.add_zero] at this
    rw [this, h2]
    exact h
theorem c_X4_sameRootBits {Q : Int32 → zMem → Prop} (hb : b ∈ iX4) (hp : p < 4) (hP : peersC M b n m od) (h : Q (likeF (rtF (M.1 7) (M.1 6) (fC M (pF b)) od n) m p) M) : S_X4_sameRootBits (d + 1) b (nI p) M (zI Q) := by
  have hm := hP.2.1
  have h4 := hP.2.2.1
  refine t_X4_sameRootBits hb ?_
  refine for_up (S := fun i s => S_X4_sameRootBits_4 (d + 1) b (nI p) s (nI i) M (zI Q)) (fin := fun s => Q s M) (n := m) (fun s hs => ?_) (fun i s hi hs => ?_) m 0 0 (by omega) h
  · exact t_X4_sameRootBits_4 hb ⟨fun _ => zii hs, fun e => absurd (leY hm (by omega)) e⟩
  · refine t_X4_sameRootBits_4 hb ⟨fun e => absurd e (leN hm hi (by omega)), fun _ => c_X4_rootOf hb (by omega) hP (c_X4_rootOf hb hp hP ⟨fun e => ?_, fun e => ?_⟩)⟩ <;> rw [nI_1] <;> simpa [e] using hs
theorem c_X4_rootKinds {Q : Int32 → zMem → Prop} (hb : b ∈ iX4) (hP : peersC M b n m od) (h : Q (manyF (rtF (M.1 7) (M.1 6) (fC M (pF b)) od n) m) M) : S_X4_rootKinds (d + 2) b M (zI Q) := by
  have hm := hP.2.1
  have h4 := hP.2.2.1
  refine t_X4_rootKinds hb ?_
  refine for_up (S := fun i s => S_X4_rootKinds_4 (d + 2) b s (nI i) M (zI Q)) (fin := fun s => Q s M) (n := m) (fun s hs => ?_) (fun i s hi hs => ?_) m 0 0 (by omega) h
  · exact t_X4_rootKinds_4 hb ⟨fun _ => zii hs, fun e => absurd (leY hm (by omega)) e⟩
  · refine t_X4_rootKinds_4 hb ⟨fun e => absurd e (leN hm hi (by omega)), fun _ => c_X4_sameRootBits hb (by omega) hP ⟨fun e => ?_, fun e => ?_⟩⟩ <;> rw [nI_1] <;> simpa [e] using hs
/-- who wins, by the class's words -/
def winF (rule v s v2 s2 : Int32) : Bool :=
  if rule = 0 then (if s = s2 then decide (¬ v ≤ v2) else decide (¬ s ≤ s2)) else if v = v2 then decide (¬ s ≤ s2) else if rule = 1 then decide (¬ v ≤ v2) else decide (¬ v = -1) && (decide (v2 = -1) || decide (¬ v2 ≤ v))
def winE (rule : Int32) (F : Nat → Int32) (p q k : Nat) : Bool := winF rule (vlF F p k) (smF F p k) (vlF F q k) (smF F q k)
theorem c_X4_winsOver {Q : Bool → zMem → Prop} (hb : b ∈ iX4) (hp : p < 4) (hq : q < 4) (hk : k < 24) (h : Q (winE (M.1 3 2) (fC M (pF b)) p q k) M) : S_X4_winsOver (d + 1) b (nI p) (nI q) (nI k) M (zB Q) := by
  have hf := qX4_1 _ hb
  refine t_X4_winsOver hb (c_X3_valueOf hf hp hk (c_X3_valueOf hf hq hk (c_X3_stampOf hf hp hk (c_X3_stampOf hf hq hk ?_))))
  unfold winE winF at h
  refine ⟨fun e => ⟨fun e2 => ⟨fun e3 => ⟨fun e4 => zbf ?_, fun e4 => ⟨fun e5 => zbt ?_, fun e5 => ⟨fun e6 => zbf ?_, fun e6 => zbt ?_⟩⟩⟩, fun e3 => ⟨fun e4 => zbf ?_, fun e4 => zbt ?_⟩⟩, fun e2 => ⟨fun e4 => zbf ?_, fun e4 => zbt ?_⟩⟩, fun e => ⟨fun e2 => ⟨fun e4 => zbf ?_, fun e4 => zbt ?_⟩, fun e2 => ⟨fun e4 => zbf ?_, fun e4 => zbt ?_⟩⟩⟩
  · rw [if_neg e, if_neg e2, if_neg e3] at h; simpa [e4] using h
  · rw [if_neg e, if_neg e2, if_neg e3] at h; simpa [e4, e5] using h
  · rw [if_neg e, if_neg e2, if_neg e3] at h; simpa [e4, e5, e6] using h
  · rw [if_neg e, if_neg e2, if_neg e3] at h; simpa [e4, e5, e6] using h
  · rw [if_neg e, if_neg e2, if_pos e3] at h; simpa [e4] using h
  · rw [if_neg e, if_neg e2, if_pos e3] at h; simpa [e4] using h
  · rw [if_neg e, if_pos e2] at h; simpa [e4] using h
  · rw [if_neg e, if_pos e2] at h; simpa [e4] using h
  · rw [if_pos e, if_neg e2] at h; simpa [e4] using h
  · rw [if_pos e, if_neg e2] at h; simpa [e4] using h
  · rw [if_pos e, if_pos e2] at h; simpa [e4] using h
  · rw [if_pos e, if_pos e2] at h; simpa [e4] using h
end
/-- the key is in a node that is visited -/
def inVis (ns : List zNode) (set : Int32) (k : Nat) : Bool := anyF (fun i => bt set i && (nodeT ns i).2.1.contains k) ns.length 0
theorem anyF_iff (f : Nat → Bool) : ∀ (c i : Nat), anyF f c i = true ↔ ∃ j, i ≤ j ∧ j < i + c ∧ f j = true
  | 0, i => by
    refine ⟨fun h => (by cases h), fun ⟨j, h1, h2, _⟩ => (by omega)⟩
  | c + 1, i => by
    show (f i || anyF f c (i + 1)) = true ↔ _
    rw [Bool.or_eq_true, anyF_iff f c (i + 1)]
    constructor
    · rintro (h | ⟨j, h1, h2, h3⟩)
      · exact ⟨i, Nat.le_refl _, by omega, h⟩
      · exact ⟨j, by omega, by omega, h3⟩
    · rintro ⟨j, h1, h2, h3⟩
      by_cases e : j = i
      · subst e; exact Or.inl h3
      · exact Or.inr ⟨j, by omega, by omega, h3⟩
theorem inVis_iff (ns : List zNode) (set : Int32) (k : Nat) : inVis ns set k = true ↔ ∃ j, j < ns.length ∧ bt set j = true ∧ k ∈ (nodeT ns j).2.1 := by
  unfold inVis
  rw [anyF_iff]
  constructor
  · rintro ⟨j, -, h2, h3⟩
    rw [Bool.and_eq_true] at h3
    exact ⟨j, by omega, h3.1, by simpa using h3.2⟩
  · rintro ⟨j, h1, h2, h3⟩
    exact ⟨j, by omega, by omega, by rw [Bool.and_eq_true]; exact ⟨h2, by simpa using h3⟩⟩
/-- offers of 'from' to 'to' -/
def offF (rule : Int32) (lv kd F : Nat → Int32) (od : Nat → Nat) (n to from_ : Nat) : List Nat :=
  (keysT od F from_ n).filter (fun k => inVis (trF lv kd F od n from_) (visT (trF lv kd F od n from_) (trF lv kd F od n to)) k && (!hasF F to k || winE rule F from_ to k))
theorem ids_4 : ∀ b, b ∈ iX4 → (pF b + 4 < pT b ∨ pT b + 49 < pF b) ∧ 9 < pT b ∧ pT b + 49 < 229 ∧ (3 + 6 < pF b) := by decide +kernel
theorem c_X4_findOffers {d b p q n m : Nat} {od : Nat → Nat} {M : zMem} {Q : Int32 → zMem → Prop} (hb : b ∈ iX4) (hp : p < 4) (hq : q < 4) (hP : peersC M b n m od)
    (h : ∀ M2, Same (fun z => z = pT b + 49) M M2 → (∀ i k, (offF (M.1 3 2) (M.1 7) (M.1 6) (fC M (pF b)) od n p q)[i]? = some k → M2.1 (pT b + 49) i = nI k) → Q (nI (offF (M.1 3 2) (M.1 7) (M.1 6) (fC M (pF b)) od n p q).length) M2) : S_X4_findOffers (d + 3) b (nI p) (nI q) M (zI Q) := by
  obtain ⟨hpl, hm, h4, ht⟩ := hP
  have hid := ids_4 b hb
  have hlv := fun p => keysT_lvC (p := p) (F := fC M (pF b)) hpl
  obtain ⟨a1, a2, a3, a4⟩ := ht q hq
  obtain ⟨-, -, b3, b4⟩ := ht p hp
  have hl1 := trC_len (p := q) (F := fC M (pF b)) (kd := M.1 6) hpl
  have hl2 := trC_len (p := p) (F := fC M (pF b)) (kd := M.1 6) hpl
  have htt := eX9q _ (qX4_2 _ hb) hq
  refine t_X4_findOffers hb (c_X4_visitedBits (ns := trF (M.1 7) (M.1 6) (fC M (pF b)) od n q) (ot := trF (M.1 7) (M.1 6) (fC M (pF b)) od n p) hb hq hp hl1 hl2 (upsT_tree hl1) a3 a4 b3 b4 ⟨nIin hq (by omega), ?_⟩)
  rw [nI_clamp (by omega)]
  generalize hset : visT (trF (M.1 7) (M.1 6) (fC M (pF b)) od n q) (trF (M.1 7) (M.1 6) (fC M (pF b)) od n p) = set
  generalize hf : (fun k => inVis (trF (M.1 7) (M.1 6) (fC M (pF b)) od n q) set k && (!hasF (fC M (pF b)) p k || winE (M.1 3 2) (fC M (pF b)) q p k)) = fl
  have hoff : offF (M.1 3 2) (M.1 7) (M.1 6) (fC M (pF b)) od n p q = (keysT od (fC M (pF b)) q n).filter fl := by unfold offF; rw [hset, hf]
  rw [hoff] at h
  have hkl := keysT_len od (fC M (pF b)) q n
  have h24 := hpl.2.1
  have key : ∀ (c i : Nat) (M1 : zMem), i + c = (keysT od (fC M (pF b)) q n).length → Same (fun z => z = pT b + 49) M M1 → (∀ j k, (((keysT od (fC M (pF b)) q n).take i).filter fl)[j]? = some k → M1.1 (pT b + 49) j = nI k) → S_X4_findOffers_21 (d + 3) b (nI p) (nI q) set (pT b + 1 + 12 * q) (nI (((keysT od (fC M (pF b)) q n).take i).filter fl).length) (nI i) M1 (zI Q) := by
    intro c
    induction c with
    | zero =>
      intro i M1 hi hS hfd
      have e : i = (keysT od (fC M (pF b)) q n).length := by omega
      rw [e, List.take_length] at hfd ⊢
      exact t_X4_findOffers_21 hb htt ⟨fun _ => zii (h M1 hS hfd), fun e => absurd (leY (by rw [hS.1 _ (by omega)]; exact a1) (by omega)) e⟩
    | succ c ih =>
      intro i M1 hi hS hfd
      have hil : i < (keysT od (fC M (pF b)) q n).length := by omega
      obtain ⟨k, hk⟩ : ∃ k, (keysT od (fC M (pF b)) q n)[i]? = some k := ⟨_, List.getElem?_eq_getElem hil⟩
      have hkm := List.mem_of_getElem? hk
      have hk24 := (hlv q k hkm).1
      have hin : vp_in (nI i) 24 := nIin (by omega) (by omega)
      have htk : (keysT od (fC M (pF b)) q n).take (i + 1) = (keysT od (fC M (pF b)) q n).take i ++ [k] := by
        rw [List.take_succ, hk]; rfl
      have hfl : (((keysT od (fC M (pF b)) q n).take i).filter fl).length ≤ i := Nat.le_trans (List.length_filter_le _ _) (by rw [List.length_take]; omega)
      -- the node of k
      obtain ⟨nd, hn1, hn2⟩ := gT_cover (M.1 7) (digF (M.1 6) (fC M (pF b)) q) 24 (keysT od (fC M (pF b)) q n) none 0 0 (fun j hj => (hlv q j hj).2) (by omega) k hkm
      obtain ⟨j, hj⟩ := List.getElem?_of_mem hn1
      have hj0 : j < (trF (M.1 7) (M.1 6) (fC M (pF b)) od n q).length := (List.getElem?_eq_some_iff.mp hj).1
      have hno := (a4 j nd hj).1.2.2.2.2.2.2 k hn2
      rw [Nat.zero_add] at hno
      have hvis : inVis (trF (M.1 7) (M.1 6) (fC M (pF b)) od n q) set k = bt set j := by
        cases hbt : bt set j with
        | true =>
          rw [inVis_iff]
          refine ⟨j, hj0, hbt, ?_⟩
          have : nodeT (trF (M.1 7) (M.1 6) (fC M (pF b)) od n q) j = nd := by
            have := nodeT_at hj0
            rw [show (trF (M.1 7) (M.1 6) (fC M (pF b)) od n q)[j]? = some nd from hj] at this
            exact (Option.some.inj this).symm
          rw [this]; exact hn2
        | false =>
          refine Bool.eq_false_iff.mpr fun hv => ?_
          rw [inVis_iff] at hv
          obtain ⟨i2, g1, g2, g3⟩ := hv
          have g4 := (a4 i2 _ (nodeT_at g1)).1.2.2.2.2.2.2 k g3
          rw [Nat.zero_add, hno] at g4
          have : j = i2 := (nI_eq (by omega) (by omega)).mp g4
          rw [← this, hbt] at g2; cases g2
      have hfk : fl k = (bt set j && (!hasF (fC M (pF b)) p k || winE (M.1 3 2) (fC M (pF b)) q p k)) := by rw [← hf]; show (inVis _ _ _ && _) = _; rw [hvis]
      have hrd : ∀ z, z ≠ pT b + 49 → M1.1 z = M.1 z := fun z hz => hS.1 z hz
      have hF1 : ∀ M3 : zMem, Same (fun z => z = pT b + 49) M M3 → fC M3 (pF b) = fC M (pF b) := fun M3 h3 => fC_same (fun z z1 z2 => h3.1 z (by omega))
      have skip : fl k = false → S_X4_findOffers_21 (d + 3) b (nI p) (nI q) set (pT b + 1 + 12 * q) (nI (((keysT od (fC M (pF b)) q n).take i).filter fl).length) (nI (i + 1)) M1 (zI Q) := by
        intro e
        have := ih (i + 1) M1 (by omega) hS
        rw [htk, List.filter_append] at this
        simp only [List.filter_cons, e, List.filter_nil, List.append_nil, Bool.false_eq_true, if_false] at this
        exact this hfd
      have take : fl k = true → vp_in (nI (((keysT od (fC M (pF b)) q n).take i).filter fl).length) 24 ∧ ∀ M31 : zMem, M31 = wI M1 (pT b + 49) (((keysT od (fC M (pF b)) q n).take i).filter fl).length (nI k) → S_X4_findOffers_21 (d + 3) b (nI p) (nI q) set (pT b + 1 + 12 * q) (nI ((((keysT od (fC M (pF b)) q n).take i).filter fl).length + 1)) (nI (i + 1)) M31 (zI Q) := by
        intro e
        refine ⟨nIin (by omega) (by omega), ?_⟩
        rintro M3 rfl
        have := ih (i + 1) (wI M1 (pT b + 49) (((keysT od (fC M (pF b)) q n).take i).filter fl).length (nI k)) (by omega) (hS.wI rfl)
        rw [htk, List.filter_append] at this
        simp only [List.filter_cons, e, List.filter_nil, if_true, List.length_append, List.length_singleton] at this
        refine this (fun j2 k2 hj2 => ?_)
        rcases Nat.lt_or_ge j2 (((keysT od (fC M (pF b)) q n).take i).filter fl).length with hl | hl
        · rw [List.getElem?_append_left hl] at hj2
          rw [wI_1, if_neg (by omega)]
          exact hfd j2 k2 hj2
        · rw [List.getElem?_append_right hl] at hj2
          have hj3 : j2 - (((keysT od (fC M (pF b)) q n).take i).filter fl).length = 0 := by
            rcases Nat.eq_zero_or_pos (j2 - (((keysT od (fC M (pF b)) q n).take i).filter fl).length) with q | q
            · exact q
            · rw [List.getElem?_eq_none (by rw [List.length_singleton]; exact q)] at hj2; cases hj2
          rw [hj3] at hj2
          have : k = k2 := by simpa using hj2
          rw [wI_1, if_pos ⟨rfl, by omega⟩, this]
      refine t_X4_findOffers_21 hb htt ⟨fun e => absurd e (leN (by rw [hrd _ (by omega)]; exact a1) hil (by omega)), fun _ => ⟨hin, ?_⟩⟩
      rw [nI_clamp (by omega), hrd _ (by omega), a2 i k hk, nI_clamp (by omega), hrd _ (by omega), hno, nI_1, ushr_bit (by omega)]
      refine ⟨nIin (by omega) (by omega), fun e => skip (by rw [hfk, e]; rfl), fun e => ?_⟩
      have e : bt set j = true := by simpa using e
      refine c_X3_has (qX4_1 _ hb) hp (by omega) ?_
      rw [hF1 M1 hS, nI_clamp (by omega), nI_1]
      refine ⟨fun e2 => take (by rw [hfk, e, e2]; rfl), fun e2 => c_X4_winsOver hb hq hp (by omega) ?_⟩
      rw [hF1 M1 hS, hrd 3 (by omega)]
      refine ⟨fun e3 => skip (by rw [hfk, e, e2, e3]; rfl), fun e3 => take (by rw [hfk, e, e2, e3]; rfl)⟩
  have := key (keysT od (fC M (pF b)) q n).length 0 M (by omega) (Same.refl _ _) (fun j k hj => by simp at hj)
  exact this
