-- ===== deeds: what they do to the facts; the class's =====
def putD (F : Nat → Int32) (p k : Nat) (v : Int32) : Int32 × (Nat → Int32) := if (hasF F p k && decide (vlF F p k = v)) = true then (1, F) else (0, writeF F p k v)
def dropD (F : Nat → Int32) (p k : Nat) : Int32 × (Nat → Int32) := if (!hasF F p k || goneF F p k) = true then (1, F) else (0, writeF F p k (-1))
def comeF (F : Nat → Int32) (p q : Nat) (ks : List Nat) : Nat → Int32 :=
  let F1 := ks.foldl (fun F k => takeF F p q k) F
  upd (upd (upd F1 0 (F1 0 + 1)) 1 (F1 1 + nI ks.length)) (7 + p) (F1 (7 + p) + nI ks.length)
def pullD (P : zPl) (F : Nat → Int32) (p q : Nat) : Int32 × (Nat → Int32) := if cutB F p q = true then (1, F) else if rtP P F p = rtP P F q then (2, F) else if offP P F p q = [] then (3, F) else (0, comeF F p q ((offP P F p q).take (pgP P)))
def cutD (F : Nat → Int32) (p q : Nat) : Int32 × (Nat → Int32) := if cutB F p q = true then (1, F) else (0, turnF F p q)
def healD (F : Nat → Int32) (p q : Nat) : Int32 × (Nat → Int32) := if cutB F p q = true then (0, turnF F p q) else (1, F)
theorem ksP_q {P : zPl} {F G : Nat → Int32} {q : Nat} (hP : okP P) (h : ∀ k, k < 24 → vlF F q k = vlF G q k ∧ smF F q k = smF G q k) : ksP P F q = ksP P G q := by
  have h24 := hP.1
  refine keysT_congr (fun i hi => ?_)
  have := hP.2.2.2.2.1 i hi
  unfold hasF
  rw [(h _ (by omega)).2]
theorem treeC_q {P : zPl} {F G : Nat → Int32} {q t : Nat} {M : zMem} (hP : okP P) (h : ∀ k, k < 24 → vlF F q k = vlF G q k ∧ smF F q k = smF G q k) (ht : treeC (lvP P) (digF (kdP P) F q) M t (ksP P F q)) : treeC (lvP P) (digF (kdP P) G q) M t (ksP P G q) := by
  have h24 := hP.1
  have e := ksP_q hP h
  have e2 : gT (lvP P) (digF (kdP P) F q) 24 (ksP P F q) none 0 0 = gT (lvP P) (digF (kdP P) G q) 24 (ksP P F q) none 0 0 := gT_congr 24 _ none 0 0 (fun k hk => by
    have := ksP_mem hP hk
    exact ⟨rfl, digF_congr rfl (h k (by omega)).1 (h k (by omega)).2⟩)
  unfold treeC at ht ⊢
  rw [← e, ← e2]
  exact ht
theorem writeF_q {F : Nat → Int32} {p q k : Nat} {v : Int32} (hp : p < 4) (hq : q < 4) (hk : k < 24) (hne : q ≠ p) : ∀ j, j < 24 → vlF F q j = vlF (writeF F p k v) q j ∧ smF F q j = smF (writeF F p k v) q j := by
  intro j hj
  unfold vlF smF writeF
  rw [upd_n _ _ (by omega), upd_n _ _ (by omega), upd_n _ _ (by omega), upd_n _ _ (by omega), upd_n _ _ (by omega), upd_n _ _ (by omega)]
  exact ⟨rfl, rfl⟩
theorem takeF_q {F : Nat → Int32} {p q r k : Nat} (hp : p < 4) (hq : q < 4) (hk : k < 24) (hne : q ≠ p) : ∀ j, j < 24 → vlF F q j = vlF (takeF F p r k) q j ∧ smF F q j = smF (takeF F p r k) q j := by
  intro j hj
  unfold vlF smF takeF
  rw [upd_n _ _ (by omega), upd_n _ _ (by omega), upd_n _ _ (by omega), upd_n _ _ (by omega)]
  exact ⟨rfl, rfl⟩
theorem takes_q {p q r : Nat} (hp : p < 4) (hq : q < 4) (hne : q ≠ p) : ∀ (ks : List Nat) (F : Nat → Int32), (∀ k ∈ ks, k < 24) → ∀ j, j < 24 → vlF F q j = vlF (ks.foldl (fun F k => takeF F p r k) F) q j ∧ smF F q j = smF (ks.foldl (fun F k => takeF F p r k) F) q j
  | [], F, _ => fun _ _ => ⟨rfl, rfl⟩
  | k :: ks, F, h => fun j hj => by
    have h1 := takeF_q (F := F) (r := r) hp hq (h k List.mem_cons_self) hne j hj
    have h2 := takes_q (r := r) hp hq hne ks (takeF F p r k) (fun i hi => h i (List.mem_cons_of_mem _ hi)) j hj
    exact ⟨h1.1.trans h2.1, h1.2.trans h2.2⟩
theorem comeF_q {F : Nat → Int32} {p q r : Nat} {ks : List Nat} (hp : p < 4) (hq : q < 4) (hne : q ≠ p) (h : ∀ k ∈ ks, k < 24) : ∀ j, j < 24 → vlF F q j = vlF (comeF F p r ks) q j ∧ smF F q j = smF (comeF F p r ks) q j := by
  intro j hj
  have h1 := takes_q (r := r) hp hq hne ks F h j hj
  unfold comeF
  unfold vlF smF at h1 ⊢
  simp only []
  rw [upd_n _ _ (by omega), upd_n _ _ (by omega), upd_n _ _ (by omega), upd_n _ _ (by omega), upd_n _ _ (by omega), upd_n _ _ (by omega)]
  exact h1
theorem offP_mem {P : zPl} {F : Nat → Int32} {p q k : Nat} (hP : okP P) (h : k ∈ offP P F p q) : k < nP P ∧ hasF F q k = true := by
  have := ksP_mem hP (List.mem_filter.mp h).1
  exact ⟨this.1, this.2.2⟩
theorem offP_len {P : zPl} {F : Nat → Int32} {p q : Nat} (hP : okP P) : (offP P F p q).length ≤ 24 := by
  have h1 := keysT_len (odP P) F q (nP P)
  have h2 := List.length_filter_le (fun k => inVis (trF (lvP P) (kdP P) F (odP P) (nP P) q) (visT (trF (lvP P) (kdP P) F (odP P) (nP P) q) (trF (lvP P) (kdP P) F (odP P) (nP P) p)) k && (!hasF F p k || winE (ruP P) F q p k)) (keysT (odP P) F q (nP P))
  have h3 := hP.1
  unfold offP offF
  omega
section
variable {d b p q k : Nat} {M : zMem} {P : zPl} {F : Nat → Int32}
theorem PC_has (hM : PC M b P F) (hp : p < 4) (hk : k < 24) : hasF (fC M (pF b)) p k = hasF F p k := by rw [← hM.2.2.1, hasF_cl hp hk]
theorem PC_vl (hM : PC M b P F) (hp : p < 4) (hk : k < 24) : vlF (fC M (pF b)) p k = vlF F p k := by rw [← hM.2.2.1, vlF_cl hp hk]
theorem PC_sm (hM : PC M b P F) (hp : p < 4) (hk : k < 24) : smF (fC M (pF b)) p k = smF F p k := by rw [← hM.2.2.1, smF_cl hp hk]
theorem PC_gone (hM : PC M b P F) (hp : p < 4) (hk : k < 24) : goneF (fC M (pF b)) p k = goneF F p k := by rw [← hM.2.2.1, goneF_cl hp hk]
theorem PC_cut (hM : PC M b P F) (hp : p < 4) (hq : q < 4) : cutF (fC M (pF b)) p q = cutB F p q := by rw [← hM.2.2.1, cutB_cl hp, cutF_B (by omega)]
theorem PR_has (hM : PR M P F) (hp : p < 4) (hk : k < 24) : hasF (fR M) p k = hasF F p k := by rw [← hM.2.2, hasF_cl hp hk]
theorem PR_vl (hM : PR M P F) (hp : p < 4) (hk : k < 24) : vlF (fR M) p k = vlF F p k := by rw [← hM.2.2, vlF_cl hp hk]
theorem PR_sm (hM : PR M P F) (hp : p < 4) (hk : k < 24) : smF (fR M) p k = smF F p k := by rw [← hM.2.2, smF_cl hp hk]
theorem PR_gone (hM : PR M P F) (hp : p < 4) (hk : k < 24) : goneF (fR M) p k = goneF F p k := by rw [← hM.2.2, goneF_cl hp hk]
theorem PR_cut (hM : PR M P F) (hp : p < 4) : cutB (fR M) p q = cutB F p q := by rw [← hM.2.2, cutB_cl hp]
/-- from facts G of which the trees of all but p are right: p's tree grown -/
theorem e_grown {Q : zMem → Prop} {M0 : zMem} {G : Nat → Int32} (hb : b ∈ iX4) (hp : p < 4) (hM : PC M0 b P F) (hS : Same (fun z => pF b ≤ z ∧ z < pF b + 5 ∨ z = pT b + 49) M0 M) (hG : cl (fC M (pF b)) = G) (hq : ∀ q, q < 4 → q ≠ p → ∀ j, j < 24 → vlF F q j = vlF G q j ∧ smF F q j = smF G q j)
    (h : ∀ M2, PC M2 b P G → Same (inB b) M0 M2 → Q M2) : vp_in (nI p) 4 ∧ S_X9_grow (d + 50) (pT b + 1 + 12 * (Int32.toNatClampNeg (nI p))) 3 (pF b) (nI p) M (zU Q) := by
  have hid := ids_4 b hb
  refine ⟨nIin hp (by omega), ?_⟩
  rw [nI_clamp (by omega)]
  refine e_X9_grow (F0 := F) hb hp hM.1 (plnC_same hM.2.1 (fun z hz => hS.1 z (by omega))) hG (fun r hr hne => ?_) (fun M2 h1 h2 => h M2 h1 ?_)
  · refine treeC_q hM.1 (hq r hr hne) (treeC_same (hM.2.2.2 r hr) (fun z z1 z2 => hS.1 z (by omega)))
  · refine (hS.mono (fun i hi => ?_)).trans (h2.mono (fun i hi => ?_))
    · unfold inB; omega
    · unfold inB; omega
theorem e_writeGrow {Q : zMem → Prop} {v : Int32} (hb : b ∈ iX4) (hp : p < 4) (hk : k < 24) (hM : PC M b P F) (h : ∀ M2, PC M2 b P (writeF F p k v) → Same (inB b) M M2 → Q M2) :
    S_X3_write (d + 50) (pF b) (nI p) (nI k) v M (zU (fun M22 => vp_in (nI p) 4 ∧ (S_X9_grow (d + 50) (pT b + 1 + 12 * (Int32.toNatClampNeg (nI p))) 3 (pF b) (nI p) M22 (zU Q)))) := by
  refine c_X3_write (qX4_1 _ hb) hp hk (fun M1 e1 s1 => e_grown (F := F) hb hp hM (s1.mono (fun i hi => Or.inl hi)) ?_ (fun q hq hne => writeF_q hp hq hk hne) h)
  rw [e1, writeF_cl hp hk, hM.2.2.1]
theorem e_X4_tryPut {Q : Int32 → zMem → Prop} {v : Int32} (hb : b ∈ iX4) (hp : p < 4) (hk : k < 24) (hM : PC M b P F) (h : ∀ M2, PC M2 b P (putD F p k v).2 → Same (inB b) M M2 → Q (putD F p k v).1 M2) : S_X4_tryPut (d + 51) b (nI p) (nI k) v M (zI Q) := by
  have w : (hasF F p k && decide (vlF F p k = v)) = false → S_X4_tryPut_27 (d + 51) b (nI p) (nI k) v M (zI Q) := by
    intro e
    refine t_X4_tryPut_27 hb (e_writeGrow hb hp hk hM (fun M2 h1 h2 => zii ?_))
    unfold putD at h
    rw [if_neg (by rw [e]; decide)] at h
    exact h M2 h1 h2
  refine t_X4_tryPut hb (c_X3_has (qX4_1 _ hb) hp hk ?_)
  rw [PC_has hM hp hk]
  refine ⟨fun e => w (by rw [e]; rfl), fun e => c_X3_valueOf (qX4_1 _ hb) hp hk ?_⟩
  rw [PC_vl hM hp hk]
  refine ⟨fun e2 => w (by rw [e, decide_eq_false e2]; rfl), fun e2 => zii ?_⟩
  unfold putD at h
  rw [if_pos (by rw [e, decide_eq_true e2]; rfl)] at h
  exact h M hM (Same.refl _ _)
theorem e_X4_tryDrop {Q : Int32 → zMem → Prop} (hb : b ∈ iX4) (hp : p < 4) (hk : k < 24) (hM : PC M b P F) (h : ∀ M2, PC M2 b P (dropD F p k).2 → Same (inB b) M M2 → Q (dropD F p k).1 M2) : S_X4_tryDrop (d + 51) b (nI p) (nI k) M (zI Q) := by
  refine t_X4_tryDrop hb (c_X3_has (qX4_1 _ hb) hp hk ?_)
  rw [PC_has hM hp hk]
  unfold dropD at h
  refine ⟨fun e => zii ?_, fun e => c_X3_isGone (d := d + 49) (qX4_1 _ hb) hp hk ?_⟩
  · rw [if_pos (by rw [e]; rfl)] at h
    exact h M hM (Same.refl _ _)
  · rw [PC_gone hM hp hk]
    refine ⟨fun e2 => e_writeGrow hb hp hk hM (fun M2 h1 h2 => zii ?_), fun e2 => zii ?_⟩
    · rw [if_neg (by rw [e, e2]; decide)] at h
      exact h M2 h1 h2
    · rw [if_pos (by rw [e, e2]; rfl)] at h
      exact h M hM (Same.refl _ _)
theorem PC_turn {M2 : zMem} (hb : b ∈ iX4) (hp : p < 4) (hq : q < 4) (hM : PC M b P F) (e1 : fC M2 (pF b) = turnF (fC M (pF b)) p q) (hS : Same (fun i => pF b ≤ i ∧ i < pF b + 5) M M2) : PC M2 b P (turnF F p q) ∧ Same (inB b) M M2 := by
  have hid := ids_4 b hb
  refine ⟨⟨hM.1, plnC_same hM.2.1 (fun z hz => hS.1 z (by omega)), ?_, fun r hr => ?_⟩, hS.mono (fun i hi => Or.inl hi)⟩
  · rw [e1, turnF_cl hp hq, hM.2.2.1]
  · refine treeC_q hM.1 (fun j hj => ?_) (treeC_same (hM.2.2.2 r hr) (fun z z1 z2 => hS.1 z (by omega)))
    unfold vlF smF turnF
    rw [upd_n _ _ (by omega), upd_n _ _ (by omega), upd_n _ _ (by omega), upd_n _ _ (by omega)]
    exact ⟨rfl, rfl⟩
theorem e_X4_tryCut {Q : Int32 → zMem → Prop} (hb : b ∈ iX4) (hp : p < 4) (hq : q < 4) (hM : PC M b P F) (h : ∀ M2, PC M2 b P (cutD F p q).2 → Same (inB b) M M2 → Q (cutD F p q).1 M2) : S_X4_tryCut (d + 1) b (nI p) (nI q) M (zI Q) := by
  refine t_X4_tryCut hb (c_X3_areCut (qX4_1 _ hb) hp ?_)
  rw [PC_cut hM hp hq]
  unfold cutD at h
  refine ⟨fun e => c_X3_turnLink (qX4_1 _ hb) hp hq (fun M2 e1 hS => zii ?_), fun e => zii ?_⟩
  · rw [if_neg (by rw [e]; decide)] at h
    obtain ⟨a1, a2⟩ := PC_turn hb hp hq hM e1 hS
    exact h M2 a1 a2
  · rw [if_pos e] at h
    exact h M hM (Same.refl _ _)
theorem e_X4_tryHeal {Q : Int32 → zMem → Prop} (hb : b ∈ iX4) (hp : p < 4) (hq : q < 4) (hM : PC M b P F) (h : ∀ M2, PC M2 b P (healD F p q).2 → Same (inB b) M M2 → Q (healD F p q).1 M2) : S_X4_tryHeal (d + 1) b (nI p) (nI q) M (zI Q) := by
  refine t_X4_tryHeal hb (c_X3_areCut (qX4_1 _ hb) hp ?_)
  rw [PC_cut hM hp hq]
  unfold healD at h
  refine ⟨fun e => c_X3_turnLink (qX4_1 _ hb) hp hq (fun M2 e1 hS => zii ?_), fun e => zii ?_⟩
  · rw [if_pos e] at h
    obtain ⟨a1, a2⟩ := PC_turn hb hp hq hM e1 hS
    exact h M2 a1 a2
  · rw [if_neg (by rw [e]; decide)] at h
    exact h M hM (Same.refl _ _)
theorem minI {a c : Nat} (ha : a < 2 ^ 31) (hc : c < 2 ^ 31) : (if nI a < nI c then nI a else nI c) = nI (min a c) := by
  rcases Nat.lt_or_ge a c with h | h
  · rw [if_pos (nI_lt h hc), Nat.min_eq_left (by omega)]
  · rw [if_neg (nI_nlt h ha), Nat.min_eq_right h]
theorem e_X4_tryPull {Q : Int32 → zMem → Prop} (hb : b ∈ iX4) (hp : p < 4) (hq : q < 4) (hne : p ≠ q) (hM : PC M b P F) (h : ∀ M2, PC M2 b P (pullD P F p q).2 → Same (inB b) M M2 → Q (pullD P F p q).1 M2) : S_X4_tryPull (d + 51) b (nI p) (nI q) M (zI Q) := by
  have hid := ids_4 b hb
  have hf := qX4_1 _ hb
  have hlen := offP_len (F := F) (p := p) (q := q) hM.1
  have hpg := hM.1.2.2.1
  have h24 := hM.1.1
  refine t_X4_tryPull hb (c_X3_areCut hf hp ?_)
  rw [PC_cut hM hp hq]
  unfold pullD at h
  refine ⟨fun e => ?_, fun e => zii ?_⟩
  rotate_left
  · rw [if_pos e] at h
    exact h M hM (Same.refl _ _)
  rw [if_neg (by rw [e]; decide)] at h
  refine e_X4_rootOf hb hp hM (e_X4_rootOf hb hq hM ⟨fun e1 => ?_, fun e1 => zii ?_⟩)
  rotate_left
  · rw [if_pos e1] at h
    exact h M hM (Same.refl _ _)
  rw [if_neg e1] at h
  refine e_X4_findOffers (d := d + 47) hb hp hq hM (fun M1 hS hfd => ?_)
  have e31 : M1.1 3 1 = nI (pgP P) := by rw [hS.1 3 (by omega)]; exact hM.2.1.2.2.1
  rw [e31, minI (by omega) (by omega)]
  refine ⟨fun e2 => ?_, fun e2 => zii ?_⟩
  rotate_left
  · have : offP P F p q = [] := by
      refine List.eq_nil_of_length_eq_zero ?_
      rcases Nat.eq_zero_or_pos (min (pgP P) (offP P F p q).length) with q0 | q0
      · omega
      · exact absurd e2 (nI_ne0 q0 (by omega))
    rw [if_pos this] at h
    exact h M1 (PC_same hM (fun z hz => hS.1 z (by unfold inT at hz; omega))) (hS.mono (fun i hi => Or.inr (by omega)))
  have hno : offP P F p q ≠ [] := fun q0 => e2 (by rw [q0]; simp [nI_0])
  rw [if_neg hno] at h
  have htl : ((offP P F p q).take (pgP P)).length = min (pgP P) (offP P F p q).length := List.length_take
  rw [← htl]
  have hfd2 : ∀ i k, ((offP P F p q).take (pgP P))[i]? = some k → M1.1 (pT b + 49) i = nI k ∧ k < 24 := by
    intro i k hi
    have h1 : (offP P F p q)[i]? = some k := by
      rw [List.getElem?_take] at hi
      split at hi
      · exact hi
      · cases hi
    exact ⟨hfd i k h1, by have := (offP_mem hM.1 (List.mem_of_getElem? h1)).1; omega⟩
  have hmem : ∀ k ∈ (offP P F p q).take (pgP P), k < 24 := fun k hk => by
    obtain ⟨i, hi⟩ := List.getElem?_of_mem hk
    exact (hfd2 i k hi).2
  generalize (offP P F p q).take (pgP P) = ks at h htl hfd2 hmem ⊢
  have hF1 : cl (fC M1 (pF b)) = F := by
    rw [fC_same (fun i i1 i2 => hS.1 i (by omega))]; exact hM.2.2.1
  have key : ∀ (c i : Nat) (M3 : zMem), i + c = ks.length → Same (fun z => pF b ≤ z ∧ z < pF b + 5) M1 M3 → cl (fC M3 (pF b)) = (ks.take i).foldl (fun F k => takeF F p q k) F → S_X4_tryPull_55 (d + 51) b (nI p) (nI q) (nI ks.length) (nI i) M3 (zI Q) := by
    intro c
    induction c with
    | zero =>
      intro i M3 hi hS3 hF3
      have ei : i = ks.length := by omega
      rw [ei, List.take_length] at hF3
      rw [ei]
      refine t_X4_tryPull_55 hb ⟨fun _ => ?_, fun q0 => absurd (nI_le (Nat.le_refl _) (by omega)) q0⟩
      rintro M4 rfl M5 rfl
      refine ⟨nIin hp (by omega), nIin hp (by omega), ?_⟩
      rintro M6 rfl
      rw [nI_clamp (by omega)]
      have hall : Same (fun z => pF b ≤ z ∧ z < pF b + 5) M1 (wI (wI (wI M3 (pF b) 4 (M3.1 (pF b) 4 + 1)) (pF b) 5 ((wI M3 (pF b) 4 (M3.1 (pF b) 4 + 1)).1 (pF b) 5 + nI ks.length)) (pF b + 4) p ((wI (wI M3 (pF b) 4 (M3.1 (pF b) 4 + 1)) (pF b) 5 ((wI M3 (pF b) 4 (M3.1 (pF b) 4 + 1)).1 (pF b) 5 + nI ks.length)).1 (pF b + 4) p + nI ks.length)) := ((hS3.wI (by omega)).wI (by omega)).wI (by omega)
      have := e_grown (d := d) (Q := fun M => zI Q (some (.int 0)) M) (G := comeF F p q ks) hb hp hM ((hS.mono (fun i hi => Or.inr hi)).trans (hall.mono (fun i hi => Or.inl hi))) ?_ (fun r hr hne2 => comeF_q hp hr hne2 hmem) (fun M2 h1 h2 => zii (h M2 h1 h2))
      · rw [nI_clamp (by omega)] at this
        exact this
      · have f0 : ∀ N : zMem, N.1 (pF b) 4 = fC N (pF b) 0 := fun N => rfl
        have f1 : ∀ N : zMem, N.1 (pF b) 5 = fC N (pF b) 1 := fun N => rfl
        have fa : ∀ N : zMem, N.1 (pF b + 4) p = fC N (pF b) (7 + p) := fun N => (fC_a hp).symm
        have w0 : ∀ (N : zMem) (x : Int32), fC (wI N (pF b) 4 x) (pF b) = upd (fC N (pF b)) 0 x := fun N x => fC_wf (i := 0) (by omega)
        have w1 : ∀ (N : zMem) (x : Int32), fC (wI N (pF b) 5 x) (pF b) = upd (fC N (pF b)) 1 x := fun N x => fC_wf (i := 1) (by omega)
        rw [fC_wa hp, fa, w1, f1, w0, f0]
        rw [cl_upd _ _ (by omega), cl_upd _ _ (by omega), cl_upd _ _ (by omega), hF3]
        unfold comeF
        simp only []
        have g : ∀ j, j < 203 → fC M3 (pF b) j = (ks.foldl (fun F k => takeF F p q k) F) j := fun j hj => by rw [← hF3, cl_at _ hj]
        rw [upd_n _ _ (by omega), upd_n _ _ (by omega), upd_n _ _ (by omega), g 0 (by omega), g 1 (by omega), g (7 + p) (by omega)]
    | succ c ih =>
      intro i M3 hi hS3 hF3
      obtain ⟨k, hk⟩ : ∃ k, ks[i]? = some k := ⟨_, List.getElem?_eq_getElem (by omega)⟩
      refine t_X4_tryPull_55 hb ⟨fun q0 => absurd q0 (nI_ge (by omega) (by omega)), fun _ => ⟨nIin (by omega) (by omega), ?_⟩⟩
      rw [nI_clamp (by omega), hS3.1 (pT b + 49) (by omega), (hfd2 i k hk).1, nI_1]
      refine c_X3_take (d := d + 49) hf hp hq (hfd2 i k hk).2 hne (fun M4 e4 s4 => ih (i + 1) M4 (by omega) (hS3.trans s4) ?_)
      rw [e4, takeF_cl hp hq (hfd2 i k hk).2, hF3, List.take_succ, hk]
      simp
  exact key ks.length 0 M1 (by omega) (Same.refl _ _) (by simpa using hF1)
end
