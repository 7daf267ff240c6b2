-- ===== plans: what follows from the names, told by both =====
/-- a plan with its names: bits, page, rule, keys, peers -/
abbrev zNm : Type := Nat × Nat × Nat × List (List Nat) × List (List Nat)
def btN (N : zNm) : Nat := N.1
def pgN (N : zNm) : Nat := N.2.1
def ruN (N : zNm) : Nat := N.2.2.1
def kyN (N : zNm) : List (List Nat) := N.2.2.2.1
def prN (N : zNm) : List (List Nat) := N.2.2.2.2
def okN (N : zNm) : Prop := (1 ≤ btN N ∧ btN N ≤ 4) ∧ (1 ≤ pgN N ∧ pgN N ≤ 12) ∧ ruN N ≤ 2 ∧ (kyN N).length ≤ 24 ∧ (prN N).length ≤ 4 ∧ (∀ l ∈ kyN N ++ prN N, wdOK l) ∧ (kyN N ++ prN N).Nodup
def kAt (N : zNm) (k : Nat) : List Nat := (kyN N).getD k []
def pAt (N : zNm) (p : Nat) : List Nat := (prN N).getD p []
def fN (N : zNm) (k : Nat) : Nat := pk7 (kAt N k)
def lvL (b : Nat) (l : List Nat) : Int32 := nI (zrN (dgL l) / b)
def plOf (N : zNm) : zPl := ((kyN N).length, (prN N).length, pgN N, nI (ruN N), fun k => lvL (btN N) (kAt N k), fun k => dgL (kAt N k), odF (fN N) (kyN N).length)
theorem kAt_mem {N : zNm} {k : Nat} (h : k < (kyN N).length) : kAt N k ∈ kyN N := by
  unfold kAt
  rw [List.getD_eq_getElem?_getD, List.getElem?_eq_getElem h]
  exact List.getElem_mem h
theorem pAt_mem {N : zNm} {k : Nat} (h : k < (prN N).length) : pAt N k ∈ prN N := by
  unfold pAt
  rw [List.getD_eq_getElem?_getD, List.getElem?_eq_getElem h]
  exact List.getElem_mem h
theorem kAt_ok {N : zNm} {k : Nat} (hN : okN N) (h : k < (kyN N).length) : wdOK (kAt N k) := hN.2.2.2.2.2.1 _ (List.mem_append_left _ (kAt_mem h))
theorem pAt_ok {N : zNm} {k : Nat} (hN : okN N) (h : k < (prN N).length) : wdOK (pAt N k) := hN.2.2.2.2.2.1 _ (List.mem_append_right _ (pAt_mem h))
theorem fN_inj {N : zNm} (hN : okN N) : ∀ i j, i < (kyN N).length → j < (kyN N).length → fN N i = fN N j → i = j := by
  intro i j hi hj h
  have e := pk7_inj (kAt_ok hN hi) (kAt_ok hN hj) h
  have hn : (kyN N).Nodup := (List.nodup_append.mp hN.2.2.2.2.2.2).1
  unfold kAt at e
  rw [List.getD_eq_getElem?_getD, List.getD_eq_getElem?_getD, List.getElem?_eq_getElem hi, List.getElem?_eq_getElem hj] at e
  have e : (kyN N)[i] = (kyN N)[j] := e
  exact (List.getElem?_inj hi hn).mp (by rw [List.getElem?_eq_getElem hi, List.getElem?_eq_getElem hj, e])
theorem okP_of {N : zNm} (hN : okN N) : okP (plOf N) := by
  refine ⟨hN.2.2.2.1, hN.2.2.2.2.1, hN.2.1, ?_, fun i hi => (odF_ok (fN_inj hN) hi).1, fun i j hi hj h => ?_, fun k _ => ?_⟩
  · have := hN.2.2.1
    rcases (show ruN N = 0 ∨ ruN N = 1 ∨ ruN N = 2 by omega) with e | e | e
    · exact Or.inl (by show nI (ruN N) = 0; rw [e]; rfl)
    · exact Or.inr (Or.inl (by show nI (ruN N) = 1; rw [e]; rfl))
    · exact Or.inr (Or.inr (by show nI (ruN N) = 2; rw [e]; rfl))
  · have h1 := (odF_ok (fN_inj hN) hi).2
    have h2 := (odF_ok (fN_inj hN) hj).2
    have h : odF (fN N) (kyN N).length i = odF (fN N) (kyN N).length j := h
    rw [h, h2] at h1
    exact h1.symm
  · have h1 : zrN (dgL (kAt N k)) ≤ 32 := zrF_le _ 32 0
    have h2 := Nat.div_le_self (zrN (dgL (kAt N k))) (btN N)
    exact nI_pos' (by omega)
section
variable {d : Nat} {M : zMem}
theorem i255 (m : Nat) : nI m &&& 255 = nI (m % 256) := by
  have := pk_and (nI m) (m := 255) 8 (by decide)
  rw [this]
  congr 1
  show (BitVec.ofNat 32 m).toNat % 2 ^ 8 = m % 256
  rw [BitVec.toNat_ofNat]
  omega
theorem c_X5_signOf {Q : Int32 → zMem → Prop} {l : List Nat} {i : Nat} (hl : wdOK l) (hi : i < 7) (h : Q (nI (l.getD i 0)) M) : S_X5_signOf d (lN (pk7 l)) (nI i) M (zI Q) := by
  refine t_X5_signOf (zii ?_)
  have e1 : (8 : Int32) * (6 - nI i) = nI (8 * (6 - i)) := by
    rw [show (6 : Int32) = nI 6 from rfl, pk_sub (by omega), show (8 : Int32) = nI 8 from rfl, pk_mul]
  have h56 := pk7_lt hl
  rw [e1, wb_shr (by omega) (by omega), lN_i, i255, pk7_dig hl hi]
  exact h
theorem getD_in {l : List Nat} (hl : wdOK l) {i : Nat} (hi : i < l.length) : 97 ≤ l.getD i 0 ∧ l.getD i 0 ≤ 122 := by
  rw [List.getD_eq_getElem?_getD, List.getElem?_eq_getElem hi]
  exact hl.2.2 _ (List.getElem_mem hi)
theorem getD_out {l : List Nat} {i : Nat} (hi : l.length ≤ i) : l.getD i 0 = 0 := by
  rw [List.getD_eq_getElem?_getD, List.getElem?_eq_none hi]; rfl
theorem take_at {l : List Nat} {i : Nat} (hi : i < l.length) : l.take (i + 1) = l.take i ++ [l.getD i 0] := by
  rw [List.take_succ, List.getD_eq_getElem?_getD, List.getElem?_eq_getElem hi]; rfl
theorem c_X5_digestOf {Q : Int32 → zMem → Prop} {l : List Nat} (hl : wdOK l) (h : Q (dgL l) M) : S_X5_digestOf (d + 1) (lN (pk7 l)) M (zI Q) := by
  refine t_X5_digestOf ?_
  have h7 := hl.2.1
  have key : ∀ (c i : Nat), i + c = 7 → S_X5_digestOf_5 (d + 1) (lN (pk7 l)) ((l.take i).foldl (fun x c => mixF x (nI c)) (-2128831035)) (nI i) M (zI Q) := by
    intro c
    induction c with
    | zero =>
      intro i hi
      have e : i = 7 := by omega
      subst e
      refine t_X5_digestOf_5 ⟨fun _ => zii ?_, fun q => absurd (by decide) q⟩
      rw [List.take_of_length_le (by omega)]
      exact h
    | succ c ih =>
      intro i hi
      have next := ih (i + 1) (by omega)
      refine t_X5_digestOf_5 ⟨fun q => absurd q (by rw [show (7 : Int32) = nI 7 from rfl]; exact nI_ge (by omega) (by omega)), fun _ => c_X5_signOf hl (by omega) ?_⟩
      rw [nI_1]
      rcases Nat.lt_or_ge i l.length with q | q
      · have := getD_in hl q
        rw [take_at q, List.foldl_append] at next
        exact ⟨fun e => absurd e (nI_ne0 (by omega) (by omega)), fun _ => c_X11_mix next⟩
      · rw [List.take_of_length_le (by omega)] at next
        rw [getD_out q, List.take_of_length_le q]
        exact ⟨fun _ => next, fun e => absurd rfl e⟩
  exact key 7 0 (by omega)
theorem c_X5_levelOf {Q : Int32 → zMem → Prop} {g b : Nat} {x : Int32} (hg : g ∈ iX5) (hb : M.1 g 0 = nI b) (h1 : 1 ≤ b) (h4 : b ≤ 4) (h : Q (nI (zrN x / b)) M) : S_X5_levelOf d g x M (zI Q) := by
  refine t_X5_levelOf hg ?_
  have fin : ∀ i, i ≤ 32 → i = zrN x → S_X5_levelOf_22 d g (nI i) M (zI Q) := by
    intro i hi e
    subst e
    refine t_X5_levelOf_22 hg ⟨fun _ => ?_, fun q => absurd (by rw [hb]; exact nI_le h1 (by omega)) q⟩
    rw [hb]
    exact ⟨nI_ne0 (by omega) (by omega), zii (by rw [pk_div (by omega) (by omega) (by omega)]; exact h)⟩
  have key : ∀ (c i : Nat), i + c = 32 → zrF x c i = zrN x → S_X5_levelOf_2 d g x (nI i) M (zI Q) := by
    intro c
    induction c with
    | zero =>
      intro i hi he
      have e : i = 32 := by omega
      exact t_X5_levelOf_2 hg ⟨fun _ => fin i (by omega) he, fun q => absurd (by rw [e]; decide) q⟩
    | succ c ih =>
      intro i hi he
      have he : (if bt x i = true then i else zrF x c (i + 1)) = zrN x := he
      refine t_X5_levelOf_2 hg ⟨fun q => absurd q (by rw [show (32 : Int32) = nI 32 from rfl]; exact nI_ge (by omega) (by omega)), fun _ => ?_⟩
      rw [ushr_bit (by omega), nI_1]
      refine ⟨fun e => fin i (by omega) ?_, fun e => ih (i + 1) (by omega) ?_⟩
      · rw [if_pos (by simpa using e)] at he; exact he
      · rw [if_neg (by rw [e]; decide)] at he; exact he
  exact key 32 0 (by omega) rfl
/-- the class's plan at g has the names of N; all told from these is there -/
def hdC (M : zMem) (g : Nat) (N : zNm) : Prop := M.1 g 0 = nI (btN N) ∧ M.1 g 1 = nI (pgN N) ∧ M.1 g 2 = nI (ruN N) ∧ M.1 g 3 = nI (kyN N).length ∧ M.1 g 4 = nI (prN N).length ∧ (∀ k, k < (kyN N).length → M.2 (g + 1) k = lN (pk7 (kAt N k))) ∧ ∀ p, p < (prN N).length → M.2 (g + 2) p = lN (pk7 (pAt N p))
def nmC (M : zMem) (g : Nat) (N : zNm) : Prop := hdC M g N ∧ ∀ k, k < (kyN N).length → M.1 (g + 3) k = dgL (kAt N k) ∧ M.1 (g + 4) k = lvL (btN N) (kAt N k) ∧ M.1 (g + 5) k = nI (odP (plOf N) k) ∧ M.1 (g + 6) k = nI (plF (fN N) (kyN N).length k)
theorem nmC_pln {N : zNm} (h : nmC M 3 N) : plnC M (plOf N) := ⟨h.1.2.2.2.1, h.1.2.2.2.2.1, h.1.2.1, h.1.2.2.1, fun k hk => ⟨(h.2 k hk).1, (h.2 k hk).2.1, (h.2 k hk).2.2.1⟩⟩
theorem hdC_same {M2 : zMem} {g : Nat} {N : zNm} (h : hdC M g N) (h1 : M2.1 g = M.1 g) (h2 : ∀ z, z = g + 1 ∨ z = g + 2 → M2.2 z = M.2 z) : hdC M2 g N := by
  unfold hdC
  rw [h1, h2 (g + 1) (by omega), h2 (g + 2) (by omega)]
  exact h
theorem plF_step (f : Nat → Nat) (k i : Nat) : pb (fun j => decide (f j < f k)) (i + 1) = pb (fun j => decide (f j < f k)) i + (if f i < f k then 1 else 0) := by
  show pb (fun j => decide (f j < f k)) i + (if decide (f i < f k) = true then 1 else 0) = _
  by_cases h : f i < f k <;> simp [h]
theorem c_X5_settle {Q : zMem → Prop} {g : Nat} {N : zNm} (hg : g ∈ iX5) (hN : okN N) (hd : hdC M g N) (h : ∀ M2, nmC M2 g N → Same (fun z => g + 3 ≤ z ∧ z ≤ g + 6) M M2 → Q M2) : S_X5_settle (d + 2) g M (zU Q) := by
  have h24 := hN.2.2.2.1
  have hb := hN.1
  have hk := hd.2.2.2.1
  have hS : ∀ M2, Same (fun z => g + 3 ≤ z ∧ z ≤ g + 6) M M2 → hdC M2 g N := fun M2 s => hdC_same hd (s.1 g (by omega)) (fun z hz => s.2 z (by omega))
  refine t_X5_settle hg ?_
  -- the second part: the order
  have second : ∀ (c k : Nat) (M1 : zMem), k + c = (kyN N).length → Same (fun z => g + 3 ≤ z ∧ z ≤ g + 6) M M1 → (∀ j, j < (kyN N).length → M1.1 (g + 3) j = dgL (kAt N j) ∧ M1.1 (g + 4) j = lvL (btN N) (kAt N j)) → (∀ j, j < k → M1.1 (g + 5) (plF (fN N) (kyN N).length j) = nI j ∧ M1.1 (g + 6) j = nI (plF (fN N) (kyN N).length j)) → S_X5_settle_49 (d + 2) g (nI k) M1 (zU Q) := by
    intro c
    induction c with
    | zero =>
      intro k M1 hc s1 a1 a2
      have e : k = (kyN N).length := by omega
      refine t_X5_settle_49 hg ⟨fun _ => zuu (h M1 ⟨hS M1 s1, fun j hj => ?_⟩ s1), fun q => absurd (by rw [(hS M1 s1).2.2.2.1, e]; exact nI_le (Nat.le_refl _) (by omega)) q⟩
      obtain ⟨o1, o2⟩ := odF_ok (fN_inj hN) hj
      refine ⟨(a1 j hj).1, (a1 j hj).2, ?_, (a2 j (by omega)).2⟩
      have := (a2 _ (by rw [e]; exact o1)).1
      rw [o2] at this
      exact this
    | succ c ih =>
      intro k M1 hc s1 a1 a2
      have hk1 : k < (kyN N).length := by omega
      have e3 := (hS M1 s1).2.2.2.1
      refine t_X5_settle_49 hg ⟨fun q => absurd q (leN e3 hk1 (by omega)), fun _ => ?_⟩
      have inner : ∀ (c2 i : Nat), i + c2 = (kyN N).length → S_X5_settle_61 (d + 2) g (nI k) (nI (pb (fun j => decide (fN N j < fN N k)) i)) (nI i) M1 (zU Q) := by
        intro c2
        induction c2 with
        | zero =>
          intro i hi
          have e : i = (kyN N).length := by omega
          subst e
          have hpl := plF_lt (f := fN N) hk1
          unfold plF at hpl
          refine t_X5_settle_61 hg ⟨fun _ => ⟨nIin (by omega) (by omega), ?_⟩, fun q => absurd (leY e3 (by omega)) q⟩
          rw [nI_clamp (by omega)]
          rintro M2 rfl
          refine ⟨nIin (by omega) (by omega), ?_⟩
          rw [nI_clamp (by omega), nI_1]
          rintro M3 rfl
          refine ih (k + 1) _ (by omega) ((s1.wI (by omega)).wI (by omega)) (fun j hj => ?_) (fun j hj => ?_)
          · rw [wI_ne _ (by omega), wI_ne _ (by omega), wI_ne _ (by omega), wI_ne _ (by omega)]
            exact a1 j hj
          · have e5 : (wI (wI M1 (g + 6) k (nI (pb (fun j => decide (fN N j < fN N k)) (kyN N).length))) (g + 5) (pb (fun j => decide (fN N j < fN N k)) (kyN N).length) (nI k)).1 (g + 5) (plF (fN N) (kyN N).length j) = if plF (fN N) (kyN N).length j = plF (fN N) (kyN N).length k then nI k else M1.1 (g + 5) (plF (fN N) (kyN N).length j) := by
              rw [wI_1]
              by_cases q : plF (fN N) (kyN N).length j = plF (fN N) (kyN N).length k
              · rw [if_pos q, if_pos ⟨rfl, q⟩]
              · rw [if_neg q, if_neg (fun w => q w.2), wI_ne _ (by omega)]
            rw [e5, wI_ne (z := g + 6) _ (by omega), wI_1]
            by_cases q : j = k
            · subst q
              rw [if_pos rfl, if_pos ⟨rfl, rfl⟩]
              exact ⟨rfl, rfl⟩
            · rw [if_neg (fun w => q (plF_inj (fN_inj hN) (by omega) hk1 w)), if_neg (fun w => q w.2)]
              exact a2 j (by omega)
        | succ c2 ih2 =>
          intro i hi
          have next := ih2 (i + 1) (by omega)
          have hpi := pb_le (fun j => decide (fN N j < fN N k)) i
          rw [plF_step] at next
          refine t_X5_settle_61 hg ⟨fun q => absurd q (leN e3 (by omega) (by omega)), fun _ => ⟨nIin (by omega) (by omega), nIin (by omega) (by omega), ?_⟩⟩
          have p1 := pk7_lt (kAt_ok hN hk1)
          have p2 := pk7_lt (kAt_ok hN (show i < (kyN N).length by omega))
          rw [nI_clamp (by omega), nI_clamp (by omega), (hS M1 s1).2.2.2.2.2.1 i (by omega), (hS M1 s1).2.2.2.2.2.1 k hk1, lg_cmp_ge, pk_lLE (by omega) (by omega), nI_1, nI_1]
          refine ⟨fun q => ?_, fun q => ?_⟩
          · rw [if_neg (show ¬ fN N i < fN N k by unfold fN; omega)] at next; exact next
          · rw [if_pos (show fN N i < fN N k by unfold fN; omega)] at next; exact next
      exact inner (kyN N).length 0 (by omega)
  -- the first: digests and levels
  have first : ∀ (c k : Nat) (M1 : zMem), k + c = (kyN N).length → Same (fun z => g + 3 ≤ z ∧ z ≤ g + 6) M M1 → (∀ j, j < k → M1.1 (g + 3) j = dgL (kAt N j) ∧ M1.1 (g + 4) j = lvL (btN N) (kAt N j)) → S_X5_settle_2 (d + 2) g (nI k) M1 (zU Q) := by
    intro c
    induction c with
    | zero =>
      intro k M1 hc s1 a1
      have e : k = (kyN N).length := by omega
      subst e
      exact t_X5_settle_2 hg ⟨fun _ => second (kyN N).length 0 M1 (by omega) s1 a1 (fun j hj => by omega), fun q => absurd (leY (hS M1 s1).2.2.2.1 (by omega)) q⟩
    | succ c ih =>
      intro k M1 hc s1 a1
      have hk1 : k < (kyN N).length := by omega
      have hin : vp_in (nI k) 24 := nIin (by omega) (by omega)
      refine t_X5_settle_2 hg ⟨fun q => absurd q (leN (hS M1 s1).2.2.2.1 hk1 (by omega)), fun _ => ⟨hin, ?_⟩⟩
      rw [nI_clamp (by omega), (hS M1 s1).2.2.2.2.2.1 k hk1]
      refine c_X5_digestOf (kAt_ok hN hk1) ⟨hin, ?_⟩
      rintro M2 rfl
      refine ⟨hin, ?_⟩
      rw [wI_1, if_pos ⟨rfl, rfl⟩]
      have s2 : Same (fun z => g + 3 ≤ z ∧ z ≤ g + 6) M (wI M1 (g + 3) k (dgL (kAt N k))) := s1.wI (by omega)
      refine c_X5_levelOf hg (hS _ s2).1 hb.1 hb.2 ⟨hin, ?_⟩
      rintro M3 rfl
      rw [nI_1]
      refine ih (k + 1) _ (by omega) (s2.wI (by omega)) (fun j hj => ?_)
      rw [wI_ne (z := g + 3) _ (by omega), wI_1, wI_1 _ (g + 4)]
      by_cases q : j = k
      · subst q
        rw [if_pos ⟨rfl, rfl⟩, if_pos ⟨rfl, rfl⟩]
        exact ⟨rfl, rfl⟩
      · rw [if_neg (fun w => q w.2), if_neg (fun w => q w.2), wI_ne _ (by omega)]
        exact a1 j (by omega)
  exact first (kyN N).length 0 M (by omega) (Same.refl _ _) (fun j hj => by omega)
-- the model's
theorem b27_snoc (l : List Nat) (c : Nat) : b27 (l ++ [c]) = 27 * b27 l + (c - 96) := by
  unfold b27
  rw [List.map_append, List.map_singleton, fd_snoc]
theorem b27_9 {l : List Nat} (hl : l.length ≤ 7) (h : ∀ c ∈ l, 97 ≤ c ∧ c ≤ 122) : b27 l < 10460353203 := by
  have h1 := fd_lt (B := 27) (l.map (fun c => c - 96)) (fun c hc => by
    obtain ⟨e, he, rfl⟩ := List.mem_map.mp hc
    have := h e he
    omega)
  rw [List.length_map] at h1
  have h2 : 27 ^ l.length ≤ 27 ^ 7 := Nat.pow_le_pow_right (by decide) hl
  have h3 : (27 : Nat) ^ 7 = 10460353203 := by decide
  unfold b27
  omega
theorem c_X12_letters {Q : Int32 → zMem → Prop} {l : List Nat} (hl : l.length ≤ 7) (hc : ∀ c ∈ l, 97 ≤ c ∧ c ≤ 122) (h : Q (nI l.length) M) : S_X12_letters d (lN (b27 l)) M (zI Q) := by
  refine t_X12_letters ?_
  have key : ∀ (n : Nat) (l2 : List Nat) (i : Nat), l2.length = n → l2.length ≤ 7 → (∀ c ∈ l2, 97 ≤ c ∧ c ≤ 122) → Q (nI (i + n)) M → S_X12_letters_4 d (nI i) (lN (b27 l2)) M (zI Q) := by
    intro n
    induction n with
    | zero =>
      intro l2 i hn h7 h2 hq
      have e : l2 = [] := List.eq_nil_of_length_eq_zero hn
      subst e
      refine t_X12_letters_4 ⟨fun _ => zii hq, fun q => absurd ?_ q⟩
      rw [lg_cmp_le]
      exact (by decide : (lN (b27 []) ≤ 0))
    | succ n ih =>
      intro l2 i hn h7 h2 hq
      have hne : l2 ≠ [] := fun e => by rw [e] at hn; simp at hn
      have e := List.dropLast_concat_getLast hne
      have h3 : ∀ c ∈ l2.dropLast, 97 ≤ c ∧ c ≤ 122 := fun c hc => h2 c (List.dropLast_subset _ hc)
      have hlast := h2 _ (List.getLast_mem hne)
      have hl3 : l2.dropLast.length = n := by rw [List.length_dropLast]; omega
      have e2 : b27 l2 = 27 * b27 l2.dropLast + (l2.getLast hne - 96) := by
        conv => lhs; rw [← e]
        exact b27_snoc _ _
      have hlt := b27_9 h7 h2
      refine t_X12_letters_4 ⟨fun q => ?_, fun _ => ?_⟩
      · rw [lg_cmp_le, show (0 : Int64) = lN 0 from rfl, pk_lLE (by omega) (by omega)] at q
        omega
      · rw [nI_1, show (27 : Int64) = lN 27 from rfl, pk_lDiv (by omega) (by omega) (by omega), show b27 l2 / 27 = b27 l2.dropLast by omega]
        exact ih l2.dropLast (i + 1) hl3 (by omega) h3 (by rw [show i + 1 + n = i + (n + 1) by omega]; exact hq)
  exact key l.length l 0 rfl hl hc (by rw [Nat.zero_add]; exact h)
theorem c_X12_long7 {Q : Int64 → zMem → Prop} {l : List Nat} (hl : wdOK l) (h : Q (lN (p27 l)) M) : S_X12_long7 (d + 1) (lN (b27 l)) M (zJ Q) := by
  refine t_X12_long7 (c_X12_letters hl.2.1 hl.2.2 ?_)
  have h7 := hl.2.1
  have key : ∀ (c i w : Nat), i + c = 7 → w * 27 ^ c = p27 l → S_X12_long7_8 (d + 1) (lN w) (nI i) M (zJ Q) := by
    intro c
    induction c with
    | zero =>
      intro i w hi hw
      have e : i = 7 := by omega
      subst e
      rw [Nat.pow_zero, Nat.mul_one] at hw
      rw [hw]
      exact t_X12_long7_8 ⟨fun _ => ⟨_, rfl, h⟩, fun q => absurd (by decide) q⟩
    | succ c ih =>
      intro i w hi hw
      refine t_X12_long7_8 ⟨fun q => absurd q (by rw [show (7 : Int32) = nI 7 from rfl]; exact nI_ge (by omega) (by omega)), fun _ => ?_⟩
      rw [nI_1, show (27 : Int64) = lN 27 from rfl, lN_mul]
      exact ih (i + 1) (w * 27) (by omega) (by rw [Nat.mul_assoc, ← Nat.pow_succ']; exact hw)
  exact key (7 - l.length) l.length (b27 l) (by omega) p27_eq.symm
theorem p27_pow : ∀ i, i < 7 → 27 ^ (6 - i) / 27 = if i < 6 then 27 ^ (6 - (i + 1)) else 0 := by decide
theorem c_X12_digestOf {Q : Int32 → zMem → Prop} {l : List Nat} (hl : wdOK l) (h : Q (dgL l) M) : S_X12_digestOf (d + 2) (lN (b27 l)) M (zI Q) := by
  refine t_X12_digestOf (c_X12_long7 hl (c_X12_letters hl.2.1 hl.2.2 ?_))
  have h7 := hl.2.1
  have hp := p27_lt hl
  have key : ∀ (c i w : Nat), i + c = l.length → (i < l.length → w = 27 ^ (6 - i)) → S_X12_digestOf_20 (d + 2) ((l.take i).foldl (fun x c => mixF x (nI c)) (-2128831035)) (lN (p27 l)) (lN w) (nI c) M (zI Q) := by
    intro c
    induction c with
    | zero =>
      intro i w hi _
      refine t_X12_digestOf_20 ⟨fun _ => zii ?_, fun q => absurd (by decide) q⟩
      rw [List.take_of_length_le (by omega)]
      exact h
    | succ c ih =>
      intro i w hi hw
      have hil : i < l.length := by omega
      have hw := hw hil
      have hg := getD_in hl hil
      have hpos : 0 < 27 ^ (6 - i) := Nat.pow_pos (by decide)
      have hle : 27 ^ (6 - i) ≤ 27 ^ 6 := Nat.pow_le_pow_right (by decide) (by omega)
      have h6 : (27 : Nat) ^ 6 = 387420489 := by decide
      refine t_X12_digestOf_20 ⟨fun q => absurd q (nI_nle (by omega) (by omega)), fun _ => ⟨?_, ?_⟩⟩
      · rw [hw, show (0 : Int64) = lN 0 from rfl, pk_lEQ (by omega) (by omega)]; omega
      · have next := ih (i + 1) (w / 27) (by omega) (fun q => by rw [hw, p27_pow i (by omega), if_pos (by omega)])
        rw [take_at hil, List.foldl_append] at next
        rw [hw] at next ⊢
        have hdiv := Nat.div_le_self (p27 l) (27 ^ (6 - i))
        rw [show (27 : Int64) = lN 27 from rfl, pk_lDiv (a := p27 l) (by omega) hpos (by omega), pk_lRem (by omega) (by omega) (by omega), p27_dig hl hil, lN_i, show (96 : Int32) = nI 96 from rfl, nI_add, show 96 + (l.getD i 0 - 96) = l.getD i 0 by omega, pk_m1, pk_lDiv (by omega) (by omega) (by omega)]
        exact c_X12_mix next
  exact key l.length 0 387420489 (by omega) (fun _ => by decide)
theorem sshr_0 {q : Nat} (hq : q < 32) (x : Int32) : (x >>> (nI q &&& 31)) &&& 1 = 0 ↔ bt x q = false := by
  rw [and1_0, b_sshr q hq x (by omega), if_pos (by omega)]; rfl
theorem c_X12_zeros {Q : Int32 → zMem → Prop} {x : Int32} (h : Q (nI (zrN x)) M) : S_X12_zeros d x M (zI Q) := by
  refine t_X12_zeros ⟨fun e => ?_, fun e => zii ?_⟩
  · have key : ∀ (c i : Nat), i + c = 32 → zrF x c i = zrN x → (∃ j, i ≤ j ∧ j < 32 ∧ bt x j = true) → S_X12_zeros_9 d x (nI i) M (zI Q) := by
      intro c
      induction c with
      | zero => intro i hi _ ⟨j, h1, h2, _⟩; omega
      | succ c ih =>
        intro i hi he hex
        have he : (if bt x i = true then i else zrF x c (i + 1)) = zrN x := he
        refine t_X12_zeros_9 ?_
        rw [sshr_0 (by omega), nI_1]
        refine ⟨fun q => zii ?_, fun q => ih (i + 1) (by omega) ?_ ?_⟩
        · rw [if_pos (by simpa using q)] at he; rw [he]; exact h
        · rw [if_neg (by rw [q]; decide)] at he; exact he
        · obtain ⟨j, h1, h2, h3⟩ := hex
          refine ⟨j, ?_, h2, h3⟩
          rcases Nat.eq_or_lt_of_le h1 with w | w
          · rw [← w, q] at h3; cases h3
          · omega
    refine key 32 0 (by omega) rfl ?_
    refine Classical.byContradiction fun hn => e (b_ext (fun i hi => ?_))
    rw [b_0]
    exact Bool.eq_false_iff.mpr (fun q => hn ⟨i, by omega, hi, q⟩)
  · have : zrN 0 = 32 := by decide
    rw [e, this] at h
    exact h
/-- the model's head, names, and what it lays of keys -/
def hdR (M : zMem) (N : zNm) : Prop := M.1 231 2 = nI (btN N) ∧ M.1 231 3 = nI (pgN N) ∧ M.1 231 4 = nI (ruN N) ∧ M.1 231 0 = nI (kyN N).length ∧ M.1 231 1 = nI (prN N).length ∧ (∀ k, k < (kyN N).length → M.2 237 k = lN (b27 (kAt N k))) ∧ ∀ p, p < (prN N).length → M.2 237 (24 + p) = lN (b27 (pAt N p))
def nmR (M : zMem) (N : zNm) : Prop := hdR M N ∧ ∀ k, k < (kyN N).length → M.1 242 k = dgL (kAt N k) ∧ M.1 243 k = lvL (btN N) (kAt N k) ∧ M.1 244 k = nI (odP (plOf N) k) ∧ M.1 245 k = nI (plF (fN N) (kyN N).length k)
theorem nmR_pln {N : zNm} (h : nmR M N) : plnR M (plOf N) := ⟨h.1.2.2.2.1, h.1.2.2.2.2.1, h.1.2.1, h.1.2.2.1, fun k hk => ⟨(h.2 k hk).1, (h.2 k hk).2.1, (h.2 k hk).2.2.1⟩⟩
theorem hdR_same {M2 : zMem} {N : zNm} (h : hdR M N) (h1 : ∀ j, j < 5 → M2.1 231 j = M.1 231 j) (h2 : M2.2 237 = M.2 237) : hdR M2 N := by
  unfold hdR
  rw [h1 0 (by omega), h1 1 (by omega), h1 2 (by omega), h1 3 (by omega), h1 4 (by omega), h2]
  exact h
theorem c_X12_layKeys {Q : zMem → Prop} {N : zNm} (hN : okN N) (hd : hdR M N) (h : ∀ M2, nmR M2 N → Same (fun z => 242 ≤ z ∧ z ≤ 245) M M2 → Q M2) : S_X12_layKeys (d + 3) M (zU Q) := by
  have h24 := hN.2.2.2.1
  have hb := hN.1
  have hS : ∀ M2, Same (fun z => 242 ≤ z ∧ z ≤ 245) M M2 → hdR M2 N := fun M2 s => hdR_same hd (fun j _ => by rw [s.1 231 (by omega)]) (s.2 237 (by omega))
  refine t_X12_layKeys ?_
  rw [hd.2.2.2.1]
  have key : ∀ (c k : Nat) (M1 : zMem), k + c = (kyN N).length → Same (fun z => 242 ≤ z ∧ z ≤ 245) M M1 → (∀ j, j < k → (M1.1 242 j = dgL (kAt N j) ∧ M1.1 243 j = lvL (btN N) (kAt N j)) ∧ M1.1 244 (plF (fN N) (kyN N).length j) = nI j ∧ M1.1 245 j = nI (plF (fN N) (kyN N).length j)) → S_X12_layKeys_9 (d + 3) (nI (kyN N).length) (nI k) M1 (zU Q) := by
    intro c
    induction c with
    | zero =>
      intro k M1 hc s1 a1
      have e : k = (kyN N).length := by omega
      subst e
      refine t_X12_layKeys_9 ⟨fun _ => zuu (h M1 ⟨hS M1 s1, fun j hj => ?_⟩ s1), fun q => absurd (nI_le (Nat.le_refl _) (by omega)) q⟩
      obtain ⟨o1, o2⟩ := odF_ok (fN_inj hN) hj
      refine ⟨(a1 j hj).1.1, (a1 j hj).1.2, ?_, (a1 j hj).2.2⟩
      have := (a1 _ o1).2.1
      rw [o2] at this
      exact this
    | succ c ih =>
      intro k M1 hc s1 a1
      have hk1 : k < (kyN N).length := by omega
      have hin : vp_in (nI k) 24 := nIin (by omega) (by omega)
      have hin28 : vp_in (nI k) 28 := nIin (by omega) (by omega)
      refine t_X12_layKeys_9 ⟨fun q => absurd q (nI_ge hk1 (by omega)), fun _ => ⟨hin28, ?_⟩⟩
      rw [nI_clamp (by omega), (hS M1 s1).2.2.2.2.2.1 k hk1]
      refine c_X12_digestOf (kAt_ok hN hk1) ⟨hin, ?_⟩
      rintro M2 rfl
      refine ⟨hin, ?_⟩
      rw [wI_1, if_pos ⟨rfl, rfl⟩]
      have s2 : Same (fun z => 242 ≤ z ∧ z ≤ 245) M (wI M1 242 k (dgL (kAt N k))) := s1.wI (by omega)
      refine c_X12_zeros ?_
      have hz : zrN (dgL (kAt N k)) ≤ 32 := zrF_le _ 32 0
      rw [(hS _ s2).1, pk_div (by omega) (by omega) (by omega)]
      refine ⟨nI_ne0 (by omega) (by omega), hin, ?_⟩
      rintro M3 rfl
      have s3 : Same (fun z => 242 ≤ z ∧ z ≤ 245) M (wI (wI M1 242 k (dgL (kAt N k))) 243 k (nI (zrN (dgL (kAt N k)) / btN N))) := s2.wI (by omega)
      have b1 : ∀ j, j < k + 1 → ((wI (wI M1 242 k (dgL (kAt N k))) 243 k (nI (zrN (dgL (kAt N k)) / btN N))).1 242 j = dgL (kAt N j) ∧ (wI (wI M1 242 k (dgL (kAt N k))) 243 k (nI (zrN (dgL (kAt N k)) / btN N))).1 243 j = lvL (btN N) (kAt N j)) := by
        intro j hj
        rw [wI_ne (z := 242) _ (by omega), wI_1, wI_1 _ 243]
        by_cases q : j = k
        · subst q
          rw [if_pos ⟨rfl, rfl⟩, if_pos ⟨rfl, rfl⟩]
          exact ⟨rfl, rfl⟩
        · rw [if_neg (fun w => q w.2), if_neg (fun w => q w.2), wI_ne _ (by omega)]
          exact (a1 j (by omega)).1
      have b2 : ∀ j, j < k → (wI (wI M1 242 k (dgL (kAt N k))) 243 k (nI (zrN (dgL (kAt N k)) / btN N))).1 244 (plF (fN N) (kyN N).length j) = nI j ∧ (wI (wI M1 242 k (dgL (kAt N k))) 243 k (nI (zrN (dgL (kAt N k)) / btN N))).1 245 j = nI (plF (fN N) (kyN N).length j) := by
        intro j hj
        rw [wI_ne _ (by omega), wI_ne _ (by omega), wI_ne _ (by omega), wI_ne _ (by omega)]
        exact (a1 j hj).2
      generalize wI (wI M1 242 k (dgL (kAt N k))) 243 k (nI (zrN (dgL (kAt N k)) / btN N)) = M4 at s3 b1 b2 ⊢
      have inner : ∀ (c2 i : Nat), i + c2 = (kyN N).length → S_X12_layKeys_56 (d + 3) (nI (kyN N).length) (nI k) (nI (pb (fun j => decide (fN N j < fN N k)) i)) (nI i) M4 (zU Q) := by
        intro c2
        induction c2 with
        | zero =>
          intro i hi
          have e : i = (kyN N).length := by omega
          subst e
          have hpl := plF_lt (f := fN N) hk1
          unfold plF at hpl
          refine t_X12_layKeys_56 ⟨fun _ => ⟨nIin (by omega) (by omega), ?_⟩, fun q => absurd (nI_le (Nat.le_refl _) (by omega)) q⟩
          rw [nI_clamp (by omega)]
          rintro M2 rfl
          refine ⟨hin, ?_⟩
          rw [nI_clamp (by omega), nI_1]
          rintro M3 rfl
          refine ih (k + 1) _ (by omega) ((s3.wI (by omega)).wI (by omega)) (fun j hj => ⟨?_, ?_⟩)
          · rw [wI_ne _ (by omega), wI_ne _ (by omega), wI_ne _ (by omega), wI_ne _ (by omega)]
            exact b1 j hj
          · have e5 : (wI M4 244 (pb (fun j => decide (fN N j < fN N k)) (kyN N).length) (nI k)).1 244 (plF (fN N) (kyN N).length j) = if plF (fN N) (kyN N).length j = plF (fN N) (kyN N).length k then nI k else M4.1 244 (plF (fN N) (kyN N).length j) := by
              rw [wI_1]
              by_cases q : plF (fN N) (kyN N).length j = plF (fN N) (kyN N).length k
              · rw [if_pos q, if_pos ⟨rfl, q⟩]
              · rw [if_neg q, if_neg (fun w => q w.2)]
            rw [wI_ne (z := 244) _ (by omega), e5, wI_1, wI_ne (z := 245) _ (by omega)]
            by_cases q : j = k
            · subst q
              rw [if_pos rfl, if_pos ⟨rfl, rfl⟩]
              exact ⟨rfl, rfl⟩
            · rw [if_neg (fun w => q (plF_inj (fN_inj hN) (by omega) hk1 w)), if_neg (fun w => q w.2)]
              exact b2 j (by omega)
        | succ c2 ih2 =>
          intro i hi
          have next := ih2 (i + 1) (by omega)
          have hpi := pb_le (fun j => decide (fN N j < fN N k)) i
          rw [plF_step] at next
          have ho := word_order (kAt_ok hN (show i < (kyN N).length by omega)) (kAt_ok hN hk1)
          have p1 := p27_lt (kAt_ok hN hk1)
          have p2 := p27_lt (kAt_ok hN (show i < (kyN N).length by omega))
          refine t_X12_layKeys_56 ⟨fun q => absurd q (nI_ge (by omega) (by omega)), fun _ => ⟨nIin (by omega) (by omega), ?_⟩⟩
          rw [nI_clamp (by omega), nI_clamp (by omega), (hS M4 s3).2.2.2.2.2.1 i (by omega)]
          refine c_X12_long7 (d := d + 1) (kAt_ok hN (by omega)) ⟨hin28, ?_⟩
          rw [(hS M4 s3).2.2.2.2.2.1 k hk1]
          refine c_X12_long7 (d := d + 1) (kAt_ok hN hk1) ?_
          rw [lg_cmp_ge, pk_lLE (by omega) (by omega), nI_1, nI_1]
          refine ⟨fun q => ?_, fun q => ?_⟩
          · rw [if_neg (show ¬ fN N i < fN N k by unfold fN; rw [ho]; omega)] at next; exact next
          · rw [if_pos (show fN N i < fN N k by unfold fN; rw [ho]; omega)] at next; exact next
      exact inner (kyN N).length 0 (by omega)
  exact key (kyN N).length 0 M (by omega) (Same.refl _ _) (fun j hj => by omega)
end
