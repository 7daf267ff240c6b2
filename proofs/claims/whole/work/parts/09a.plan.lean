-- ===== what trees, roots and offers read =====
theorem topL_congr {lv lv2 : Nat → Int32} (ks : List Nat) : ∀ (t : Int32), (∀ k ∈ ks, lv k = lv2 k) → topL lv t ks = topL lv2 t ks := by
  induction ks with
  | nil =>
    intro t _
    have e1 : topL lv t [] = t := rfl
    have e2 : topL lv2 t [] = t := rfl
    rw [e1, e2]
  | cons k ks ih =>
    intro t h
    have e := h k List.mem_cons_self
    have e1 : topL lv t (k :: ks) = topL lv (if lv k ≤ t then t else lv k) ks := rfl
    have e2 : topL lv2 t (k :: ks) = topL lv2 (if lv2 k ≤ t then t else lv2 k) ks := rfl
    rw [e1, e2, e]
    exact ih _ (fun j hj => h j (List.mem_cons_of_mem _ hj))
theorem gT_congr {lv lv2 dg dg2 : Nat → Int32} (f : Nat) : ∀ (ks : List Nat) (up : Option Nat) (me path : Nat), (∀ k ∈ ks, lv k = lv2 k ∧ dg k = dg2 k) → gT lv dg f ks up me path = gT lv2 dg2 f ks up me path := by
  induction f with
  | zero =>
    intro ks up me path _
    have e1 : gT lv dg 0 ks up me path = (0, []) := rfl
    have e2 : gT lv2 dg2 0 ks up me path = (0, []) := rfl
    rw [e1, e2]
  | succ f ihf =>
    intro ks up me path h
    by_cases hk : ks = []
    · subst hk; rw [gT_nil, gT_nil]
    rw [gT_eq lv dg f hk, gT_eq lv2 dg2 f hk, topL_congr ks 0 (fun k hk => (h k hk).1)]
    generalize topL lv2 0 ks = top
    have step : ∀ (qs : List Nat) (r : zAcc), (∀ k ∈ qs, lv k = lv2 k ∧ dg k = dg2 k) → (∀ k ∈ r.2.1, lv k = lv2 k ∧ dg k = dg2 k) → qs.foldl (stT lv dg f me path top) r = qs.foldl (stT lv2 dg2 f me path top) r ∧ ∀ k ∈ (qs.foldl (stT lv2 dg2 f me path top) r).2.1, lv k = lv2 k ∧ dg k = dg2 k := by
      intro qs
      induction qs with
      | nil =>
        intro r _ hr
        rw [List.foldl_nil, List.foldl_nil]
        exact ⟨rfl, hr⟩
      | cons q qs ih =>
        intro r hq hr
        have e : stT lv dg f me path top r q = stT lv2 dg2 f me path top r q := by
          unfold stT
          rw [ihf r.2.1 (some me) (me + 1 + r.2.2.1.length) (path + 1) hr, (hq q List.mem_cons_self).1, (hq q List.mem_cons_self).2]
        rw [List.foldl_cons, List.foldl_cons, e]
        refine ih _ (fun k hk => hq k (List.mem_cons_of_mem _ hk)) ?_
        unfold stT
        by_cases e2 : lv2 q = top
        · rw [if_pos e2]; exact fun k hk => by cases hk
        · rw [if_neg e2]
          intro k hk
          rcases List.mem_append.mp hk with h1 | h1
          · exact hr k h1
          · rw [List.mem_singleton.mp h1]; exact hq q List.mem_cons_self
    obtain ⟨e1, e2⟩ := step ks (top + 1, [], [], [], 0) h (fun k hk => by cases hk)
    rw [e1]
    unfold enT
    rw [ihf _ (some me) _ (path + 1) e2]
/-- the first 203 numbers alone -/
def cl (F : Nat → Int32) : Nat → Int32 := fun j => if j < 203 then F j else 0
theorem cl_at (F : Nat → Int32) {j : Nat} (h : j < 203) : cl F j = F j := if_pos h
theorem cl_cl (F : Nat → Int32) : cl (cl F) = cl F := by
  funext j
  unfold cl
  split <;> rfl
theorem cl_eq {F G : Nat → Int32} (h : ∀ j, j < 203 → F j = G j) : cl F = cl G := by
  funext j
  unfold cl
  split
  · exact h j (by assumption)
  · rfl
theorem cl_upd (F : Nat → Int32) {j : Nat} (x : Int32) (h : j < 203) : cl (upd F j x) = upd (cl F) j x := by
  funext i
  unfold cl upd
  by_cases e : i = j
  · subst e; simp [h]
  · simp [e]
theorem cl_copy (F G : Nat → Int32) : cl (fun j => if j < 203 then F j else G j) = cl F := cl_eq (fun j h => if_pos h)
section
variable {F : Nat → Int32} {p q k : Nat}
theorem vlF_cl (hp : p < 4) (hk : k < 24) : vlF (cl F) p k = vlF F p k := cl_at F (by omega)
theorem smF_cl (hp : p < 4) (hk : k < 24) : smF (cl F) p k = smF F p k := cl_at F (by omega)
theorem hasF_cl (hp : p < 4) (hk : k < 24) : hasF (cl F) p k = hasF F p k := by unfold hasF; rw [smF_cl hp hk]
theorem goneF_cl (hp : p < 4) (hk : k < 24) : goneF (cl F) p k = goneF F p k := by unfold goneF; rw [hasF_cl hp hk, vlF_cl hp hk]
theorem sameF_cl (hp : p < 4) (hq : q < 4) (hk : k < 24) : sameF (cl F) p q k = sameF F p q k := by unfold sameF; rw [hasF_cl hp hk, vlF_cl hp hk, smF_cl hp hk, vlF_cl hq hk, smF_cl hq hk]
theorem digF_cl {g : Nat → Int32} (hp : p < 4) (hk : k < 24) : digF g (cl F) p k = digF g F p k := by unfold digF; rw [vlF_cl hp hk, smF_cl hp hk]
theorem cutB_cl (hp : p < 4) : cutB (cl F) p q = cutB F p q := by unfold cutB; rw [cl_at F (by omega)]
theorem writeF_cl {v : Int32} (hp : p < 4) (hk : k < 24) : cl (writeF F p k v) = writeF (cl F) p k v := by
  unfold writeF
  rw [cl_upd _ _ (by omega), cl_upd _ _ (by omega), cl_upd _ _ (by omega), cl_at F (by omega)]
theorem takeF_cl (hp : p < 4) (hq : q < 4) (hk : k < 24) : cl (takeF F p q k) = takeF (cl F) p q k := by
  unfold takeF
  rw [cl_upd _ _ (by omega), cl_upd _ _ (by omega), vlF_cl hq hk, smF_cl hq hk]
theorem turnF_cl (hp : p < 4) (hq : q < 4) : cl (turnF F p q) = turnF (cl F) p q := by
  unfold turnF
  rw [cl_upd _ _ (by omega), cl_upd _ _ (by omega), cl_at F (by omega)]
  congr 2
  unfold upd
  rw [cl_at F (by omega)]
end
theorem keysT_congr {od : Nat → Nat} {F G : Nat → Int32} {p n : Nat} (h : ∀ i, i < n → hasF F p (od i) = hasF G p (od i)) : keysT od F p n = keysT od G p n := by
  unfold keysT
  apply List.filter_congr
  intro k hk
  obtain ⟨i, h1, h2⟩ := List.mem_map.mp hk
  rw [← h2]
  exact h i (List.mem_range.mp h1)
theorem keysT_od {od od2 : Nat → Nat} {F : Nat → Int32} {p n : Nat} (h : ∀ i, i < n → od i = od2 i) : keysT od F p n = keysT od2 F p n := by
  unfold keysT
  congr 1
  exact List.map_congr_left (fun i hi => h i (List.mem_range.mp hi))
/-- what is told of a plan: n keys, m peers, page, rule; of each key its level and digest; the order -/
abbrev zPl : Type := Nat × Nat × Nat × Int32 × (Nat → Int32) × (Nat → Int32) × (Nat → Nat)
def nP (P : zPl) : Nat := P.1
def mP (P : zPl) : Nat := P.2.1
def pgP (P : zPl) : Nat := P.2.2.1
def ruP (P : zPl) : Int32 := P.2.2.2.1
def lvP (P : zPl) : Nat → Int32 := P.2.2.2.2.1
def kdP (P : zPl) : Nat → Int32 := P.2.2.2.2.2.1
def odP (P : zPl) : Nat → Nat := P.2.2.2.2.2.2
def okP (P : zPl) : Prop := nP P ≤ 24 ∧ mP P ≤ 4 ∧ (1 ≤ pgP P ∧ pgP P ≤ 12) ∧ (ruP P = 0 ∨ ruP P = 1 ∨ ruP P = 2) ∧ (∀ i, i < nP P → odP P i < nP P) ∧ (∀ i j, i < nP P → j < nP P → odP P i = odP P j → i = j) ∧ ∀ k, k < nP P → 0 ≤ lvP P k
def ksP (P : zPl) (F : Nat → Int32) (p : Nat) : List Nat := keysT (odP P) F p (nP P)
def rtP (P : zPl) (F : Nat → Int32) (p : Nat) : Int32 := rtF (lvP P) (kdP P) F (odP P) (nP P) p
def trP (P : zPl) (F : Nat → Int32) (p : Nat) : List zNode := trF (lvP P) (kdP P) F (odP P) (nP P) p
def offP (P : zPl) (F : Nat → Int32) (p q : Nat) : List Nat := offF (ruP P) (lvP P) (kdP P) F (odP P) (nP P) p q
theorem ksP_mem {P : zPl} {F : Nat → Int32} {p k : Nat} (hP : okP P) (h : k ∈ ksP P F p) : k < nP P ∧ 0 ≤ lvP P k ∧ hasF F p k = true := by
  obtain ⟨i, h1, h2, h3⟩ := keysT_mem h
  have := hP.2.2.2.2.1 i h1
  rw [h2] at this
  exact ⟨this, hP.2.2.2.2.2.2 k this, h3⟩
/-- the class's plan, the model's plan, told by P -/
def plnC (M : zMem) (P : zPl) : Prop := M.1 3 3 = nI (nP P) ∧ M.1 3 4 = nI (mP P) ∧ M.1 3 1 = nI (pgP P) ∧ M.1 3 2 = ruP P ∧ ∀ k, k < nP P → M.1 6 k = kdP P k ∧ M.1 7 k = lvP P k ∧ M.1 8 k = nI (odP P k)
def plnR (M : zMem) (P : zPl) : Prop := M.1 231 0 = nI (nP P) ∧ M.1 231 1 = nI (mP P) ∧ M.1 231 3 = nI (pgP P) ∧ M.1 231 4 = ruP P ∧ ∀ k, k < nP P → M.1 242 k = kdP P k ∧ M.1 243 k = lvP P k ∧ M.1 244 k = nI (odP P k)
/-- peers at b: the facts are F, the trees theirs -/
def stC (M : zMem) (b : Nat) (P : zPl) (F : Nat → Int32) : Prop := cl (fC M (pF b)) = F ∧ ∀ p, p < 4 → treeC (lvP P) (digF (kdP P) F p) M (pT b + 1 + 12 * p) (ksP P F p)
def PC (M : zMem) (b : Nat) (P : zPl) (F : Nat → Int32) : Prop := okP P ∧ plnC M P ∧ stC M b P F
def PR (M : zMem) (P : zPl) (F : Nat → Int32) : Prop := okP P ∧ plnR M P ∧ cl (fR M) = F
theorem digF_congr {g g2 F G : Nat → Int32} {p k : Nat} (hg : g k = g2 k) (h1 : vlF F p k = vlF G p k) (h2 : smF F p k = smF G p k) : digF g F p k = digF g2 G p k := by unfold digF; rw [hg, h1, h2]
/-- trees read no more of the facts than is told of them, and no more of the plan -/
theorem ksP_F {P : zPl} {F G : Nat → Int32} {p : Nat} (hP : okP P) (hp : p < 4) (hF : cl G = F) : keysT (odP P) G p (nP P) = ksP P F p := by
  have h24 := hP.1
  refine keysT_congr (fun i hi => ?_)
  have := hP.2.2.2.2.1 i hi
  rw [← hF, hasF_cl hp (by omega)]
theorem gT_F {P : zPl} {F G lv kd : Nat → Int32} {p : Nat} (hP : okP P) (hp : p < 4) (hF : cl G = F) (hl : ∀ k, k < nP P → kd k = kdP P k ∧ lv k = lvP P k) (f : Nat) (up : Option Nat) (me path : Nat) : gT lv (digF kd G p) f (ksP P F p) up me path = gT (lvP P) (digF (kdP P) F p) f (ksP P F p) up me path := by
  have h24 := hP.1
  refine gT_congr f _ up me path (fun k hk => ?_)
  have := ksP_mem hP hk
  refine ⟨(hl k this.1).2, digF_congr (hl k this.1).1 ?_ ?_⟩
  · rw [← hF, vlF_cl hp (by omega)]
  · rw [← hF, smF_cl hp (by omega)]
theorem rtP_F {P : zPl} {F G lv kd : Nat → Int32} {p : Nat} (hP : okP P) (hp : p < 4) (hF : cl G = F) (hl : ∀ k, k < nP P → kd k = kdP P k ∧ lv k = lvP P k) : rtF lv kd G (odP P) (nP P) p = rtP P F p := by
  unfold rtP rtF rootT
  rw [ksP_F hP hp hF, gT_F hP hp hF hl]
  rfl
theorem trP_F {P : zPl} {F G lv kd : Nat → Int32} {p : Nat} (hP : okP P) (hp : p < 4) (hF : cl G = F) (hl : ∀ k, k < nP P → kd k = kdP P k ∧ lv k = lvP P k) : trF lv kd G (odP P) (nP P) p = trP P F p := by
  unfold trP trF treeT
  rw [ksP_F hP hp hF, gT_F hP hp hF hl]
  rfl
theorem offP_F {P : zPl} {F G lv kd : Nat → Int32} {p q : Nat} (hP : okP P) (hp : p < 4) (hq : q < 4) (hF : cl G = F) (hl : ∀ k, k < nP P → kd k = kdP P k ∧ lv k = lvP P k) : offF (ruP P) lv kd G (odP P) (nP P) p q = offP P F p q := by
  have h24 := hP.1
  unfold offP offF
  rw [trP_F hP hp hF hl, trP_F hP hq hF hl, ksP_F hP hq hF]
  unfold ksP
  apply List.filter_congr
  intro k hk
  have hk2 := ksP_mem hP hk
  unfold winE
  rw [← hF, hasF_cl hp (by omega), vlF_cl hp (by omega), vlF_cl hq (by omega), smF_cl hp (by omega), smF_cl hq (by omega)]
  rfl
theorem treeC_same {lv dg : Nat → Int32} {M M2 : zMem} {t : Nat} {ks : List Nat} (h : treeC lv dg M t ks) (hs : ∀ z, t ≤ z → z ≤ t + 11 → M2.1 z = M.1 z) : treeC lv dg M2 t ks := by
  obtain ⟨h1, h2, h3, h4⟩ := h
  refine ⟨by rw [hs t (by omega) (by omega)]; exact h1, fun i k hk => by rw [hs (t + 1) (by omega) (by omega)]; exact h2 i k hk, by rw [hs t (by omega) (by omega)]; exact h3, fun j n hj => ?_⟩
  have := h4 j n hj
  unfold nodC at this ⊢
  rw [hs (t + 4) (by omega) (by omega), hs (t + 5) (by omega) (by omega), hs (t + 6) (by omega) (by omega), hs (t + 7) (by omega) (by omega), hs (t + 8) (by omega) (by omega), hs (t + 9) (by omega) (by omega), hs (t + 10) (by omega) (by omega), hs (t + 11) (by omega) (by omega)]
  exact this
/-- the objects of the peers at b that deeds change -/
def inB (b z : Nat) : Prop := (pF b ≤ z ∧ z < pF b + 5) ∨ (pT b < z ∧ z ≤ pT b + 49)
/-- those that their trees and facts stand on -/
def inT (b z : Nat) : Prop := (pF b ≤ z ∧ z < pF b + 5) ∨ (pT b < z ∧ z < pT b + 49)
theorem inT_B {b z : Nat} (h : inT b z) : inB b z := by unfold inT at h; unfold inB; omega
theorem stC_same {M M2 : zMem} {b : Nat} {P : zPl} {F : Nat → Int32} (h : stC M b P F) (hs : ∀ z, inT b z → M2.1 z = M.1 z) : stC M2 b P F := by
  refine ⟨?_, fun p hp => treeC_same (h.2 p hp) (fun z h1 h2 => hs z (Or.inr ⟨by omega, by omega⟩))⟩
  rw [fC_same (fun i h1 h2 => hs i (Or.inl ⟨h1, h2⟩))]
  exact h.1
theorem plnC_same {M M2 : zMem} {P : zPl} (h : plnC M P) (hs : ∀ z, z = 3 ∨ z = 6 ∨ z = 7 ∨ z = 8 → M2.1 z = M.1 z) : plnC M2 P := by
  unfold plnC
  rw [hs 3 (by omega), hs 6 (by omega), hs 7 (by omega), hs 8 (by omega)]
  exact h
theorem PC_same {M M2 : zMem} {b : Nat} {P : zPl} {F : Nat → Int32} (h : PC M b P F) (hs : ∀ z, (z = 3 ∨ z = 6 ∨ z = 7 ∨ z = 8) ∨ inT b z → M2.1 z = M.1 z) : PC M2 b P F := ⟨h.1, plnC_same h.2.1 (fun z hz => hs z (Or.inl hz)), stC_same h.2.2 (fun z hz => hs z (Or.inr hz))⟩
theorem plnR_same {M M2 : zMem} {P : zPl} (h : plnR M P) (h1 : ∀ j, j < 5 → M2.1 231 j = M.1 231 j) (hs : ∀ z, z = 242 ∨ z = 243 ∨ z = 244 → M2.1 z = M.1 z) : plnR M2 P := by
  unfold plnR
  rw [h1 0 (by omega), h1 1 (by omega), h1 3 (by omega), h1 4 (by omega), hs 242 (by omega), hs 243 (by omega), hs 244 (by omega)]
  exact h
theorem plnC_plan {M : zMem} {P : zPl} (hP : okP P) (h : plnC M P) : planC M 3 (nP P) (odP P) := ⟨h.1, hP.1, fun i hi => ⟨(h.2.2.2.2 i hi).2.2, hP.2.2.2.2.1 i hi⟩, hP.2.2.2.2.2.1, fun k hk => by rw [(h.2.2.2.2 k hk).2.1]; exact hP.2.2.2.2.2.2 k hk⟩
theorem plnR_plan {M : zMem} {P : zPl} (hP : okP P) (h : plnR M P) : planR M (nP P) (odP P) := ⟨h.1, hP.1, fun i hi => ⟨(h.2.2.2.2 i hi).2.2, hP.2.2.2.2.1 i hi⟩, hP.2.2.2.2.2.1, fun k hk => by rw [(h.2.2.2.2 k hk).2.1]; exact hP.2.2.2.2.2.2 k hk⟩
theorem plnC_kl {M : zMem} {P : zPl} (h : plnC M P) : ∀ k, k < nP P → M.1 6 k = kdP P k ∧ M.1 7 k = lvP P k := fun k hk => ⟨(h.2.2.2.2 k hk).1, (h.2.2.2.2 k hk).2.1⟩
theorem plnR_kl {M : zMem} {P : zPl} (h : plnR M P) : ∀ k, k < nP P → M.1 242 k = kdP P k ∧ M.1 243 k = lvP P k := fun k hk => ⟨(h.2.2.2.2 k hk).1, (h.2.2.2.2 k hk).2.1⟩
theorem treeC_F {P : zPl} {F G lv kd : Nat → Int32} {p t : Nat} {M : zMem} (hP : okP P) (hp : p < 4) (hF : cl G = F) (hl : ∀ k, k < nP P → kd k = kdP P k ∧ lv k = lvP P k) : treeC lv (digF kd G p) M t (keysT (odP P) G p (nP P)) ↔ treeC (lvP P) (digF (kdP P) F p) M t (ksP P F p) := by
  unfold treeC
  rw [ksP_F hP hp hF, gT_F hP hp hF hl]
theorem PC_peers {M : zMem} {b : Nat} {P : zPl} {F : Nat → Int32} (h : PC M b P F) : peersC M b (nP P) (mP P) (odP P) := by
  obtain ⟨hP, hpl, hF, ht⟩ := h
  exact ⟨plnC_plan hP hpl, hpl.2.1, hP.2.1, fun p hp => (treeC_F hP hp hF (plnC_kl hpl)).mpr (ht p hp)⟩
section
variable {d b p q k : Nat} {M : zMem} {P : zPl} {F : Nat → Int32}
theorem e_X4_rootOf {Q : Int32 → zMem → Prop} (hb : b ∈ iX4) (hp : p < 4) (hM : PC M b P F) (h : Q (rtP P F p) M) : S_X4_rootOf d b (nI p) M (zI Q) := by
  refine c_X4_rootOf hb hp (PC_peers hM) ?_
  rw [rtP_F hM.1 hp hM.2.2.1 (plnC_kl hM.2.1)]
  exact h
theorem e_X4_findOffers {Q : Int32 → zMem → Prop} (hb : b ∈ iX4) (hp : p < 4) (hq : q < 4) (hM : PC M b P F)
    (h : ∀ M2, Same (fun z => z = pT b + 49) M M2 → (∀ i k, (offP P F p q)[i]? = some k → M2.1 (pT b + 49) i = nI k) → Q (nI (offP P F p q).length) M2) : S_X4_findOffers (d + 3) b (nI p) (nI q) M (zI Q) := by
  refine c_X4_findOffers hb hp hq (PC_peers hM) ?_
  rw [hM.2.1.2.2.2.1, offP_F hM.1 hp hq hM.2.2.1 (plnC_kl hM.2.1)]
  exact h
/-- the tree of p grown anew; those of others stand as they were, if their entries do -/
theorem e_X9_grow {Q : zMem → Prop} {F0 : Nat → Int32} (hb : b ∈ iX4) (hp : p < 4) (hP : okP P) (hpl : plnC M P) (hF : cl (fC M (pF b)) = F) (ht : ∀ q, q < 4 → q ≠ p → treeC (lvP P) (digF (kdP P) F q) M (pT b + 1 + 12 * q) (ksP P F q))
    (h : ∀ M2, PC M2 b P F → Same (fun z => pT b + 1 + 12 * p ≤ z ∧ z ≤ pT b + 1 + 12 * p + 11) M M2 → Q M2) : S_X9_grow (d + 50) (pT b + 1 + 12 * p) 3 (pF b) (nI p) M (zU Q) := by
  have hid := ids_4 b hb
  refine c_X9_grow (eX9q _ (qX4_2 _ hb) hp) (by decide) (qX4_1 _ hb) hp (plnC_plan hP hpl) (fun M2 h1 h2 => ?_)
  refine h M2 ⟨hP, plnC_same hpl (fun z hz => h2.1 z (by omega)), ?_, fun q hq => ?_⟩ h2
  · rw [fC_same (fun i i1 i2 => h2.1 i (by omega))]; exact hF
  · by_cases e : q = p
    · rw [e]
      exact (treeC_F hP hp hF (plnC_kl hpl)).mp h1
    · exact treeC_same (ht q hq e) (fun z z1 z2 => h2.1 z (by omega))
end
