-- ===== roots, digests, visits =====
def treeT (lv dg : Nat → Int32) (ks : List Nat) : List zNode := (gT lv dg 24 ks none 0 0).2
def rootT (lv dg : Nat → Int32) (ks : List Nat) : Int32 := (gT lv dg 24 ks none 0 0).1
theorem rootT_head (lv dg : Nat → Int32) {ks : List Nat} (h : ks ≠ []) : ∃ n, (treeT lv dg ks)[0]? = some n ∧ n.2.2.2.2.1 = rootT lv dg ks := by
  unfold treeT rootT
  rw [show (24 : Nat) = 23 + 1 from rfl, gT_eq lv dg 23 h]
  exact ⟨_, rfl, rfl⟩
theorem rootT_nil (lv dg : Nat → Int32) : rootT lv dg [] = 0 := rfl
theorem treeT_nil (lv dg : Nat → Int32) : treeT lv dg [] = [] := rfl
theorem treeT_len {lv dg : Nat → Int32} {ks : List Nat} (h : ∀ k ∈ ks, 0 ≤ lv k) : (treeT lv dg ks).length ≤ ks.length := (okT_all lv dg 24 ks none 0 0 h).1
theorem treeT_keys {lv dg : Nat → Int32} {ks : List Nat} (h : ∀ k ∈ ks, 0 ≤ lv k) : ∀ n ∈ treeT lv dg ks, ∀ k ∈ n.2.1, k ∈ ks := (okT_all lv dg 24 ks none 0 0 h).2
/-- every key is in a node -/
theorem gT_cover (lv dg : Nat → Int32) : ∀ (f : Nat) (ks : List Nat) (up : Option Nat) (me path : Nat), (∀ k ∈ ks, 0 ≤ lv k) → ks.length ≤ f → ∀ k ∈ ks, ∃ n ∈ (gT lv dg f ks up me path).2, k ∈ n.2.1
  | 0, ks, up, me, path, _, hf, k, hk => by
    have := List.length_pos_of_mem hk
    omega
  | f + 1, ks, up, me, path, h0, hf, k, hk => by
    have hne : ks ≠ [] := fun e => by rw [e] at hk; cases hk
    rw [gT_eq lv dg f hne]
    have hac := acT_fold (me := me) (path := path) (top := topL lv 0 ks) (okT_all lv dg f) ks [] (topL lv 0 ks + 1, [], [], [], 0) (by simpa using h0) (acT_0 lv (topL lv 0 ks) _)
    have hcov : ∀ (qs ps : List Nat) (r : zAcc), (∀ k ∈ ps ++ qs, 0 ≤ lv k) → (ps ++ qs).length ≤ f + 1 → (∀ k ∈ qs, lv k = topL lv 0 ks → True) → acT lv (topL lv 0 ks) ps r → (∃ k ∈ ps ++ qs, lv k = topL lv 0 ks) → (∀ k ∈ ps, k ∈ r.2.1 ∨ k ∈ r.2.2.2.1 ∨ ∃ n ∈ r.2.2.1, k ∈ n.2.1) → ∀ k ∈ ps ++ qs, k ∈ (qs.foldl (stT lv dg f me path (topL lv 0 ks)) r).2.1 ∨ k ∈ (qs.foldl (stT lv dg f me path (topL lv 0 ks)) r).2.2.2.1 ∨ ∃ n ∈ (qs.foldl (stT lv dg f me path (topL lv 0 ks)) r).2.2.1, k ∈ n.2.1 := by
      intro qs
      induction qs with
      | nil => intro ps r _ _ _ _ _ hc k hk; exact hc k (by simpa using hk)
      | cons q qs ih =>
        intro ps r hp hlen _ hac htop hc k hk
        have := ih (ps ++ [q]) (stT lv dg f me path (topL lv 0 ks) r q) (by simpa using hp) (by simpa using hlen) (fun _ _ _ => trivial) (acT_step (okT_all lv dg f) (fun j hj => hp j (List.mem_append_left _ hj)) hac) (by simpa using htop) ?_ k (by simpa using hk)
        · exact this
        · intro j hj
          unfold stT
          by_cases e : lv q = topL lv 0 ks
          · rw [if_pos e]
            rcases List.mem_append.mp hj with hj | hj
            · rcases hc j hj with h1 | h1 | ⟨n, h1, h2⟩
              · refine Or.inr (Or.inr ?_)
                have hlen2 := hac.2.2.1
                simp only [List.length_append, List.length_cons] at hlen
                obtain ⟨l, b1, -⟩ := hac.1
                obtain ⟨n, g1, g2⟩ := gT_cover lv dg f r.2.1 (some me) (me + 1 + r.2.2.1.length) (path + 1) (fun i hi => hp i (List.mem_append_left _ (by rw [b1]; exact List.mem_append_right _ hi))) (by omega) j h1
                exact ⟨n, List.mem_append_right _ g1, g2⟩
              · exact Or.inr (Or.inl (List.mem_append_left _ h1))
              · exact Or.inr (Or.inr ⟨n, List.mem_append_left _ h1, h2⟩)
            · exact Or.inr (Or.inl (List.mem_append_right _ hj))
          · rw [if_neg e]
            rcases List.mem_append.mp hj with hj | hj
            · rcases hc j hj with h1 | h1 | h1
              · exact Or.inl (List.mem_append_left _ h1)
              · exact Or.inr (Or.inl h1)
              · exact Or.inr (Or.inr h1)
            · exact Or.inl (List.mem_append_right _ hj)
    have hfin := hcov ks [] (topL lv 0 ks + 1, [], [], [], 0) (by simpa using h0) (by simpa using hf) (fun _ _ _ => trivial) (acT_0 lv (topL lv 0 ks) _) (by simpa using topL_hit hne h0) (fun _ h => by cases h) k (by simpa using hk)
    rw [List.nil_append] at hac
    generalize ks.foldl (stT lv dg f me path (topL lv 0 ks)) (topL lv 0 ks + 1, [], [], [], 0) = r at hac hfin
    obtain ⟨⟨l, b1, -⟩, b2, b3, -⟩ := hac
    have hpos : 0 < r.2.2.2.1.length := by
      obtain ⟨j, hj1, hj2⟩ := topL_hit hne h0
      rw [b2]
      exact List.length_pos_of_mem (List.mem_filter.mpr ⟨hj1, by simpa using hj2⟩)
    unfold enT
    rcases hfin with h1 | h1 | ⟨n, h1, h2⟩
    · obtain ⟨n, g1, g2⟩ := gT_cover lv dg f r.2.1 (some me) (me + 1 + r.2.2.1.length) (path + 1) (fun i hi => h0 i (by rw [b1]; exact List.mem_append_right _ hi)) (by omega) k h1
      exact ⟨n, List.mem_cons_of_mem _ (List.mem_append_right _ g1), g2⟩
    · exact ⟨_, List.mem_cons_self, h1⟩
    · exact ⟨n, List.mem_cons_of_mem _ (List.mem_append_left _ h1), h2⟩
def nodeT (ns : List zNode) (i : Nat) : zNode := ns.getD i (0, [], 0, none, 0, 0)
theorem nodeT_at {ns : List zNode} {i : Nat} (h : i < ns.length) : ns[i]? = some (nodeT ns i) := by
  unfold nodeT
  rw [List.getD_eq_getElem?_getD, List.getElem?_eq_getElem h]
  rfl
def hasDig (ns : List zNode) (x : Int32) : Bool := anyF (fun i => decide ((nodeT ns i).2.2.2.2.1 = x)) ns.length 0
/-- nodes that are visited, as bits -/
def visT (ns ot : List zNode) : Int32 := forS (fun i s => if (match (nodeT ns i).2.2.2.1 with
    | none => true
    | some u => bt s u) && !hasDig ot (nodeT ns i).2.2.2.2.1 then s ||| ((1 : Int32) <<< (nI i &&& 31)) else s) ns.length 0 0
/-- the nodes above are nodes ahead -/
def upsT (ns : List zNode) : Prop := ∀ i, i < ns.length → ∀ u, (nodeT ns i).2.2.2.1 = some u → u < 24
section
variable {d t t2 b p q n : Nat} {M : zMem}
theorem c_X9_hasDigest {Q : Bool → zMem → Prop} {x : Int32} {ns : List zNode} (ht : t ∈ iX9) (hl : ns.length ≤ 24) (hn : M.1 t 12 = nI ns.length) (hd : nodsC M t 0 ns) (h : Q (hasDig ns x) M) : S_X9_hasDigest d t x M (zB Q) := by
  refine t_X9_hasDigest ht ?_
  refine for_any (S := fun i => S_X9_hasDigest_2 d t x (nI i) M (zB Q)) (T := fun r => Q r M) (n := ns.length) (fun hs => t_X9_hasDigest_2 ht ⟨fun _ => zbf hs, fun e => absurd (leY hn (by omega)) e⟩) (fun i hi hf hs => ?_) (fun i hi hf hs => ?_) ns.length 0 (by omega) h
  · refine t_X9_hasDigest_2 ht ⟨fun e => absurd e (leN hn hi (by omega)), fun _ => ⟨nIin (by omega) (by omega), ?_⟩⟩
    have e10 := (hd i _ (nodeT_at hi)).2
    rw [Nat.zero_add] at e10
    rw [nI_clamp (by omega), e10]
    exact ⟨fun e => absurd (by simpa using hf) e, fun _ => zbt hs⟩
  · refine t_X9_hasDigest_2 ht ⟨fun e => absurd e (leN hn hi (by omega)), fun _ => ⟨nIin (by omega) (by omega), ?_⟩⟩
    have e10 := (hd i _ (nodeT_at hi)).2
    rw [Nat.zero_add] at e10
    rw [nI_clamp (by omega), e10]
    exact ⟨fun e => by rw [nI_1]; exact hs, fun e => absurd e (by simpa using hf)⟩
theorem c_X12_isDigest {Q : Bool → zMem → Prop} {x : Int32} {tt : Nat} {ns : List zNode} (htt : tt < 2) (hl : ns.length ≤ 24) (hn : M.1 246 tt = nI ns.length) (hd : nodsR M (24 * tt) 0 ns) (h : Q (hasDig ns x) M) : S_X12_isDigest d (nI tt) x M (zB Q) := by
  refine t_X12_isDigest ?_
  have hin2 : vp_in (nI tt) 2 := nIin htt (by omega)
  refine for_any (S := fun i => S_X12_isDigest_2 d (nI tt) x (nI i) M (zB Q)) (T := fun r => Q r M) (n := ns.length) (fun hs => t_X12_isDigest_2 ⟨hin2, by rw [nI_clamp (by omega)]; exact ⟨fun _ => zbf hs, fun e => absurd (leY hn (by omega)) e⟩⟩) (fun i hi hf hs => ?_) (fun i hi hf hs => ?_) ns.length 0 (by omega) h
  · refine t_X12_isDigest_2 ⟨hin2, ?_⟩
    have e10 := (hd i _ (nodeT_at hi)).2
    rw [Nat.zero_add] at e10
    rw [nI_clamp (by omega), o24, nI_clamp (by omega), e10]
    exact ⟨fun e => absurd e (leN hn hi (by omega)), fun _ => ⟨nIin (by omega) (by omega), fun e => absurd (by simpa using hf) e, fun _ => zbt hs⟩⟩
  · refine t_X12_isDigest_2 ⟨hin2, ?_⟩
    have e10 := (hd i _ (nodeT_at hi)).2
    rw [Nat.zero_add] at e10
    rw [nI_clamp (by omega), o24, nI_clamp (by omega), e10]
    exact ⟨fun e => absurd e (leN hn hi (by omega)), fun _ => ⟨nIin (by omega) (by omega), fun e => by rw [nI_1]; exact hs, fun e => absurd e (by simpa using hf)⟩⟩
theorem upI_m1 {up : Option Nat} (h : ∀ u, up = some u → u < 24) : upI up = -1 ↔ up = none := by
  cases up with
  | none => exact ⟨fun _ => rfl, fun _ => rfl⟩
  | some u =>
    refine ⟨fun q => ?_, fun q => by cases q⟩
    have h0 := h u rfl
    have := congrArg Int32.toInt q
    rw [show upI (some u) = nI u from rfl, nI_toInt (by omega)] at this
    have h1 : (-1 : Int32).toInt = -1 := by decide
    omega
theorem c_X4_visitedBits {Q : Int32 → zMem → Prop} {ns ot : List zNode} (hb : b ∈ iX4) (hp : p < 4) (hq : q < 4) (hl : ns.length ≤ 24) (hl2 : ot.length ≤ 24) (hu : upsT ns) (hn : M.1 (pT b + 1 + 12 * p) 12 = nI ns.length) (hd : nodsC M (pT b + 1 + 12 * p) 0 ns) (hn2 : M.1 (pT b + 1 + 12 * q) 12 = nI ot.length) (hd2 : nodsC M (pT b + 1 + 12 * q) 0 ot) (h : Q (visT ns ot) M) : S_X4_visitedBits (d + 2) b (nI p) (nI q) M (zI Q) := by
  refine t_X4_visitedBits hb ⟨nIin hp (by omega), nIin hq (by omega), ?_⟩
  rw [nI_clamp (by omega), nI_clamp (by omega)]
  have ht := eX9q _ (qX4_2 _ hb) hp
  have ht2 := eX9q _ (qX4_2 _ hb) hq
  generalize pT b + 1 + 12 * p = t at hn hd ht ⊢
  generalize pT b + 1 + 12 * q = t2 at hn2 hd2 ht2 ⊢
  refine for_up (S := fun i s => S_X4_visitedBits_21 (d + 2) t t2 s (nI i) M (zI Q)) (fin := fun s => Q s M) (n := ns.length) (fun s hs => t_X4_visitedBits_21 ht ht2 ⟨fun _ => zii hs, fun e => absurd (leY hn (by omega)) e⟩) (fun i s hi hs => ?_) ns.length 0 0 (by omega) h
  have hin : vp_in (nI i) 24 := nIin (by omega) (by omega)
  obtain ⟨⟨-, -, -, -, -, e9, -⟩, e10⟩ := hd i _ (nodeT_at hi)
  rw [Nat.zero_add] at e9 e10
  have h55 : (match (nodeT ns i).2.2.2.1 with
      | none => true
      | some u => bt s u) = true → S_X4_visitedBits_55 (d + 2) t t2 s (nI i) M (zI Q) := by
    intro hm
    refine t_X4_visitedBits_55 ht ht2 ⟨hin, ?_⟩
    rw [nI_clamp (by omega), e10, nI_1]
    refine c_X9_hasDigest ht2 hl2 hn2 hd2 ⟨fun e => ?_, fun e => ?_⟩
    · simpa [hm, e] using hs
    · simpa [hm, e] using hs
  refine t_X4_visitedBits_21 ht ht2 ⟨fun e => absurd e (leN hn hi (by omega)), fun _ => ⟨hin, ?_⟩⟩
  rw [nI_clamp (by omega), e9, nI_1]
  refine ⟨fun e => ?_, fun e => ?_⟩
  · rw [upI_m1 (hu i hi)] at e
    exact h55 (by rw [e])
  · rw [upI_m1 (hu i hi)] at e
    cases hup : (nodeT ns i).2.2.2.1 with
    | none => exact absurd hup e
    | some u =>
      have hu24 := hu i hi u hup
      rw [show upI (some u) = nI u from rfl, ushr_bit (by omega)]
      refine ⟨fun e2 => ?_, fun e2 => h55 (by rw [hup]; simpa using e2)⟩
      rw [hup] at hs
      simpa [e2] using hs
theorem c_X12_visited {Q : Int32 → zMem → Prop} {ns ot : List zNode} (hl : ns.length ≤ 24) (hl2 : ot.length ≤ 24) (hu : upsT ns) (hn : M.1 246 0 = nI ns.length) (hd : nodsR M 0 0 ns) (hn2 : M.1 246 1 = nI ot.length) (hd2 : nodsR M 24 0 ot) (h : Q (visT ns ot) M) : S_X12_visited (d + 1) M (zI Q) := by
  refine t_X12_visited ?_
  refine for_up (S := fun i s => S_X12_visited_4 (d + 1) s (nI i) M (zI Q)) (fin := fun s => Q s M) (n := ns.length) (fun s hs => t_X12_visited_4 ⟨fun _ => zii hs, fun e => absurd (leY hn (by omega)) e⟩) (fun i s hi hs => ?_) ns.length 0 0 (by omega) h
  have hin : vp_in (nI i) 48 := nIin (by omega) (by omega)
  obtain ⟨⟨-, -, -, -, -, e9, -⟩, e10⟩ := hd i _ (nodeT_at hi)
  rw [Nat.zero_add, Nat.zero_add] at e9 e10
  have h37 : (match (nodeT ns i).2.2.2.1 with
      | none => true
      | some u => bt s u) = true → S_X12_visited_37 (d + 1) s (nI i) M (zI Q) := by
    intro hm
    refine t_X12_visited_37 ⟨hin, ?_⟩
    rw [nI_clamp (by omega), e10, nI_1]
    refine c_X12_isDigest (tt := 1) (by omega) hl2 hn2 hd2 ⟨fun e => ?_, fun e => ?_⟩
    · simpa [hm, e] using hs
    · simpa [hm, e] using hs
  refine t_X12_visited_4 ⟨fun e => absurd e (leN hn hi (by omega)), fun _ => ⟨hin, ?_⟩⟩
  rw [nI_clamp (by omega), e9, nI_1]
  refine ⟨fun e => ?_, fun e => ⟨hin, ?_⟩⟩
  · rw [upI_m1 (hu i hi)] at e
    exact h37 (by rw [e])
  · rw [upI_m1 (hu i hi)] at e
    cases hup : (nodeT ns i).2.2.2.1 with
    | none => exact absurd hup e
    | some u =>
      have hu24 := hu i hi u hup
      rw [show upI (some u) = nI u from rfl]
      refine c_X12_has (by omega) ⟨fun e2 => ?_, fun e2 => h37 (by rw [hup]; exact e2)⟩
      rw [hup] at hs
      simpa [e2] using hs
end
