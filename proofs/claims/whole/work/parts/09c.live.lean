-- ===== the model's deeds =====
/-- what the model's deeds change: the row of what is so, trees, offers -/
def LiveOnly (M M2 : zMem) : Prop := Same (fun z => z = 229 ∨ z = 231 ∨ (246 ≤ z ∧ z ≤ 255)) M M2 ∧ (∀ j, j ≠ 43 → M2.1 229 j = M.1 229 j) ∧ ∀ j, j < 202 ∨ 405 ≤ j → M2.1 231 j = M.1 231 j
theorem LiveOnly.refl (M : zMem) : LiveOnly M M := ⟨Same.refl _ _, fun _ _ => rfl, fun _ _ => rfl⟩
theorem LiveOnly.trans {M M2 M3 : zMem} (h : LiveOnly M M2) (h2 : LiveOnly M2 M3) : LiveOnly M M3 := ⟨h.1.trans h2.1, fun j hj => (h2.2.1 j hj).trans (h.2.1 j hj), fun j hj => (h2.2.2 j hj).trans (h.2.2 j hj)⟩
theorem OffOnly.refl (M : zMem) : OffOnly M M := ⟨Same.refl _ _, fun _ _ => rfl⟩
theorem OffOnly.trans {M M2 M3 : zMem} (h : OffOnly M M2) (h2 : OffOnly M2 M3) : OffOnly M M3 := ⟨h.1.trans h2.1, fun j hj => (h2.2 j hj).trans (h.2 j hj)⟩
theorem OffOnly.of {M M2 : zMem} (h : LayOnly M M2) : OffOnly M M2 := ⟨h.mono (fun i hi => by omega), fun j _ => by rw [h.1 229 (by omega)]⟩
theorem OffOnly.live {M M2 : zMem} (h : OffOnly M M2) : LiveOnly M M2 := ⟨h.1.mono (fun i hi => by omega), h.2, fun j _ => by rw [h.1.1 231 (by omega)]⟩
theorem SoOnly.live {M M2 : zMem} (h : SoOnly M M2) : LiveOnly M M2 := ⟨h.1.mono (fun i hi => by omega), fun j _ => by rw [h.1.1 229 (by omega)], h.2⟩
section
variable {d p q k : Nat} {M : zMem} {P : zPl} {F : Nat → Int32}
theorem PR_off {M2 : zMem} (hM : PR M P F) (h : OffOnly M M2) : PR M2 P F := ⟨hM.1, plnR_same hM.2.1 (fun j _ => by rw [h.1.1 231 (by omega)]) (fun z hz => h.1.1 z (by omega)), by rw [fR_same (h.1.1 231 (by omega))]; exact hM.2.2⟩
theorem PR_lay {M2 : zMem} (hM : PR M P F) (h : LayOnly M M2) : PR M2 P F := PR_off hM (OffOnly.of h)
theorem PR_live {M2 : zMem} {G : Nat → Int32} (hM : PR M P F) (h : LiveOnly M M2) (hG : cl (fR M2) = G) : PR M2 P G := ⟨hM.1, plnR_same hM.2.1 (fun j hj => h.2.2 j (by omega)) (fun z hz => h.1.1 z (by omega)), hG⟩
theorem e_X12_rootOf {Q : Int32 → zMem → Prop} (hp : p < 4) (hM : PR M P F) (h : ∀ M2, LayOnly M M2 → Q (rtP P F p) M2) : S_X12_rootOf (d + 29) (nI p) M (zI Q) := by
  refine c_X12_rootOf hp (plnR_plan hM.1 hM.2.1) (fun M2 h2 => ?_)
  rw [rtP_F hM.1 hp hM.2.2 (plnR_kl hM.2.1)]
  exact h M2 h2
/-- the bounds of values and stamps -/
def bdF (F : Nat → Int32) : Prop := ∀ i, i < 96 → (-1 ≤ (F (11 + i)).toInt ∧ (F (11 + i)).toInt ≤ 999) ∧ (0 ≤ (F (107 + i)).toInt ∧ (F (107 + i)).toInt ≤ 1000000000)
theorem offR_F (hM : PR M P F) (hB : bdF F) (hp : p < 4) (hq : q < 4) : offR (M.1 231 4) (M.1 243) (M.1 242) (fR M) (odP P) (nP P) p q = offP P F p q := by
  obtain ⟨hP, hpl, hF⟩ := hM
  rw [off_eq (by rw [hpl.2.2.2.1]; exact hP.2.2.2.1) (fun i hi => ?_) hp hq hP.1 hP.2.2.2.2.1 (plnR_plan hP hpl).2.2.2.2, hpl.2.2.2.1, offP_F hP hp hq hF (plnR_kl hpl)]
  have := hB i hi
  rw [← hF, cl_at _ (by omega), cl_at _ (by omega)] at this
  exact this
theorem e_X12_layOffers {Q : zMem → Prop} (hp : p < 4) (hq : q < 4) (hM : PR M P F) (hB : bdF F)
    (h : ∀ M2, OffOnly M M2 → M2.1 229 43 = nI (offP P F p q).length → (∀ i k, (offP P F p q)[i]? = some k → M2.1 255 i = nI k) → Q M2) : S_X12_layOffers (d + 30) (nI p) (nI q) M (zU Q) := by
  refine c_X12_layOffers hp hq (plnR_plan hM.1 hM.2.1) ?_
  rw [offR_F hM hB hp hq]
  exact h
theorem e_X12_whyPull {Q : Int32 → zMem → Prop} (hp : p < 4) (hq : q < 4) (hM : PR M P F) (hB : bdF F) (h : ∀ M2, OffOnly M M2 → Q (pullD P F p q).1 M2) : S_X12_whyPull (d + 31) (nI p) (nI q) M (zI Q) := by
  refine t_X12_whyPull (c_X12_areCut (d := d + 29) hp (by omega) ?_)
  rw [PR_cut hM hp]
  unfold pullD at h
  refine ⟨fun e => ?_, fun e => zii ?_⟩
  rotate_left
  · rw [if_pos e] at h
    exact h M (OffOnly.refl _)
  rw [if_neg (by rw [e]; decide)] at h
  refine e_X12_rootOf (d := d + 1) hp hM (fun M1 l1 => e_X12_rootOf (d := d + 1) hq (PR_lay hM l1) (fun M2 l2 => ⟨fun e1 => ?_, fun e1 => zii ?_⟩))
  rotate_left
  · rw [if_pos e1] at h
    exact h M2 (OffOnly.of (l1.trans l2))
  rw [if_neg e1] at h
  refine e_X12_layOffers hp hq (PR_lay hM (l1.trans l2)) hB (fun M3 o3 c3 _ => ?_)
  have ho := (OffOnly.of (l1.trans l2)).trans o3
  have hlen := offP_len (F := F) (p := p) (q := q) hM.1
  rw [c3]
  refine ⟨fun e2 => zii ?_, fun e2 => zii ?_⟩
  · rw [if_neg (fun q0 => e2 (by rw [q0]; rfl))] at h
    exact h M3 ho
  · have : offP P F p q = [] := by
      refine List.eq_nil_of_length_eq_zero ?_
      rcases Nat.eq_zero_or_pos (offP P F p q).length with q0 | q0
      · exact q0
      · exact absurd e2 (nI_ne0 q0 (by omega))
    rw [if_pos this] at h
    exact h M3 ho
theorem e_X12_why0 {Q : Int32 → zMem → Prop} {v : Int32} (hp : p < 4) (hk : k < 24) (hM : PR M P F) (h : Q (putD F p k v).1 M) : S_X12_why (d + 2) 0 (nI p) (nI k) v M (zI Q) := by
  refine t_X12_why ⟨fun _ => c_X12_hasEntry hp hk ?_, fun e => absurd e (by decide), fun e => absurd e (by decide), fun e => absurd e (by decide), fun e => absurd rfl e⟩
  unfold putD at h
  rw [PR_has hM hp hk]
  refine ⟨fun e => zii ?_, fun e => c_X12_at ⟨vin (ixL hp hk), ?_⟩⟩
  · rw [if_neg (by rw [e]; simp)] at h; exact h
  · rw [vcl (ixL hp hk), fR_v, show fR M (11 + (24 * p + k)) = vlF (fR M) p k from rfl, PR_vl hM hp hk]
    refine ⟨fun e2 => zii ?_, fun e2 => zii ?_⟩
    · rw [if_neg (by rw [e, decide_eq_false e2]; decide)] at h; exact h
    · rw [if_pos (by rw [e, decide_eq_true e2]; rfl)] at h; exact h
theorem e_X12_why1 {Q : Int32 → zMem → Prop} {v : Int32} (hp : p < 4) (hk : k < 24) (hM : PR M P F) (h : Q (dropD F p k).1 M) : S_X12_why (d + 2) 1 (nI p) (nI k) v M (zI Q) := by
  refine t_X12_why ⟨fun e => absurd e (by decide), fun _ => c_X12_hasEntry hp hk ?_, fun e => absurd e (by decide), fun e => absurd e (by decide), fun _ e => absurd rfl e⟩
  unfold dropD goneF at h
  rw [PR_has hM hp hk]
  refine ⟨fun e => zii ?_, fun e => c_X12_at ⟨vin (ixL hp hk), ?_⟩⟩
  · rw [if_pos (by rw [e]; rfl)] at h; exact h
  · rw [vcl (ixL hp hk), fR_v, show fR M (11 + (24 * p + k)) = vlF (fR M) p k from rfl, PR_vl hM hp hk]
    refine ⟨fun e2 => zii ?_, fun e2 => zii ?_⟩
    · rw [if_neg (by rw [e, decide_eq_false e2]; decide)] at h; exact h
    · rw [if_pos (by rw [e, decide_eq_true e2]; rfl)] at h; exact h
theorem e_X12_why2 {Q : Int32 → zMem → Prop} {v : Int32} (hp : p < 4) (hq : q < 4) (hM : PR M P F) (hB : bdF F) (h : ∀ M2, OffOnly M M2 → Q (pullD P F p q).1 M2) : S_X12_why (d + 32) 2 (nI p) (nI q) v M (zI Q) :=
  t_X12_why ⟨fun e => absurd e (by decide), fun e => absurd e (by decide), fun _ => e_X12_whyPull hp hq hM hB (fun M2 h2 => zii (h M2 h2)), fun e => absurd e (by decide), fun _ _ e => absurd rfl e⟩
theorem e_X12_why3 {Q : Int32 → zMem → Prop} {v : Int32} (hp : p < 4) (hq : q < 4) (hM : PR M P F) (h : Q (cutD F p q).1 M) : S_X12_why (d + 2) 3 (nI p) (nI q) v M (zI Q) := by
  refine t_X12_why ⟨fun e => absurd e (by decide), fun e => absurd e (by decide), fun e => absurd e (by decide), fun _ => c_X12_areCut hp (by omega) ?_, fun _ _ _ e => absurd rfl e⟩
  rw [PR_cut hM hp]
  unfold cutD at h
  refine ⟨fun e => zii ?_, fun e => zii ?_⟩
  · rw [if_neg (by rw [e]; decide)] at h; exact h
  · rw [if_pos e] at h; exact h
theorem e_X12_why4 {Q : Int32 → zMem → Prop} {v : Int32} (hp : p < 4) (hq : q < 4) (hM : PR M P F) (h : Q (healD F p q).1 M) : S_X12_why (d + 2) 4 (nI p) (nI q) v M (zI Q) := by
  refine t_X12_why ⟨fun e => absurd e (by decide), fun e => absurd e (by decide), fun e => absurd e (by decide), fun e => absurd e (by decide), fun _ _ _ _ => c_X12_areCut hp (by omega) ?_⟩
  rw [PR_cut hM hp]
  unfold healD at h
  refine ⟨fun e => zii ?_, fun e => zii ?_⟩
  · rw [if_neg (by rw [e]; decide)] at h; exact h
  · rw [if_pos e] at h; exact h
theorem e_X12_live0 {Q : zMem → Prop} {v : Int32} (hp : p < 4) (hk : k < 24) (hM : PR M P F) (h0 : (putD F p k v).1 = 0) (h : ∀ M2, PR M2 P (putD F p k v).2 → LiveOnly M M2 → Q M2) : S_X12_live (d + 2) 0 (nI p) (nI k) v M (zU Q) := by
  refine t_X12_live ⟨fun _ => c_X12_write hp hk (fun M2 e2 s2 => zuu (h M2 ?_ s2.live)), fun e => absurd e (by decide), fun e => absurd e (by decide), fun e => absurd rfl e⟩
  unfold putD at h0 ⊢
  split
  · rename_i e; rw [if_pos e] at h0; exact absurd h0 (show ¬ ((1 : Int32) = 0) by decide)
  · exact PR_live hM s2.live (by rw [e2, writeF_cl hp hk, hM.2.2])
theorem e_X12_live1 {Q : zMem → Prop} {v : Int32} (hp : p < 4) (hk : k < 24) (hM : PR M P F) (h0 : (dropD F p k).1 = 0) (h : ∀ M2, PR M2 P (dropD F p k).2 → LiveOnly M M2 → Q M2) : S_X12_live (d + 2) 1 (nI p) (nI k) v M (zU Q) := by
  refine t_X12_live ⟨fun e => absurd e (by decide), fun _ => c_X12_write hp hk (fun M2 e2 s2 => zuu (h M2 ?_ s2.live)), fun e => absurd e (by decide), fun _ e => absurd rfl e⟩
  unfold dropD at h0 ⊢
  split
  · rename_i e; rw [if_pos e] at h0; exact absurd h0 (show ¬ ((1 : Int32) = 0) by decide)
  · exact PR_live hM s2.live (by rw [e2, writeF_cl hp hk, hM.2.2])
theorem e_X12_turn {Q : zMem → Prop} {x v : Int32} (hx : ¬ x = 0 ∧ ¬ x = 1 ∧ ¬ x = 2) (hp : p < 4) (hq : q < 4) (hM : PR M P F) (h : ∀ M2, PR M2 P (turnF F p q) → LiveOnly M M2 → Q M2) : S_X12_live (d + 2) x (nI p) (nI q) v M (zU Q) := by
  refine t_X12_live ⟨fun e => absurd e hx.1, fun e => absurd e hx.2.1, fun e => absurd e hx.2.2, fun _ _ _ => ⟨cin hp, cin hp, ?_⟩⟩
  rintro M1 rfl
  refine ⟨cin hq, cin hq, ?_⟩
  rintro M2 rfl
  rw [ccl hp, ccl hq]
  have hS : SoOnly M (wI (wI M 231 (205 + p) (M.1 231 (205 + p) ^^^ ((1 : Int32) <<< (nI q &&& 31)))) 231 (205 + q) ((wI M 231 (205 + p) (M.1 231 (205 + p) ^^^ ((1 : Int32) <<< (nI q &&& 31)))).1 231 (205 + q) ^^^ ((1 : Int32) <<< (nI p &&& 31)))) := ((SoOnly.refl M).w (by omega) (by omega)).w (by omega) (by omega)
  refine zuu (h _ (PR_live hM hS.live ?_) hS.live)
  rw [fR_w (i := 3 + q) (by omega), fR_c, fR_w (i := 3 + p) (by omega), fR_c, fR_w (i := 3 + p) (by omega), ← hM.2.2]
  exact turnF_cl hp hq
theorem e_X12_live3 {Q : zMem → Prop} {v : Int32} (hp : p < 4) (hq : q < 4) (hM : PR M P F) (h0 : (cutD F p q).1 = 0) (h : ∀ M2, PR M2 P (cutD F p q).2 → LiveOnly M M2 → Q M2) : S_X12_live (d + 2) 3 (nI p) (nI q) v M (zU Q) := by
  refine e_X12_turn (by decide) hp hq hM ?_
  unfold cutD at h0 h
  split at h0
  · exact absurd h0 (show ¬ ((1 : Int32) = 0) by decide)
  · rename_i e; rw [if_neg e] at h; exact h
theorem e_X12_live4 {Q : zMem → Prop} {v : Int32} (hp : p < 4) (hq : q < 4) (hM : PR M P F) (h0 : (healD F p q).1 = 0) (h : ∀ M2, PR M2 P (healD F p q).2 → LiveOnly M M2 → Q M2) : S_X12_live (d + 2) 4 (nI p) (nI q) v M (zU Q) := by
  refine e_X12_turn (by decide) hp hq hM ?_
  unfold healD at h0 h
  split at h0
  · rename_i e; rw [if_pos e] at h; exact h
  · exact absurd h0 (show ¬ ((1 : Int32) = 0) by decide)
theorem c_X12_least {Q : Int32 → zMem → Prop} {a c : Nat} (ha : a < 2 ^ 31) (hc : c < 2 ^ 31) (h : Q (nI (min a c)) M) : S_X12_least d (nI a) (nI c) M (zI Q) := by
  refine t_X12_least ⟨fun e => zii ?_, fun e => zii ?_⟩
  · rw [nI_leI hc ha] at e; rw [Nat.min_eq_right e] at h; exact h
  · rw [nI_leI hc ha] at e; rw [Nat.min_eq_left (by omega)] at h; exact h
theorem e_X12_comesOver {Q : zMem → Prop} {ks : List Nat} (hp : p < 4) (hq : q < 4) (hM : PR M P F) (hl : ks.length ≤ 24) (h24 : ∀ k ∈ ks, k < 24) (hc : M.1 229 43 = nI ks.length) (hfd : ∀ i k, ks[i]? = some k → M.1 255 i = nI k)
    (h : ∀ M2, PR M2 P (comeF F p q (ks.take (pgP P))) → LiveOnly M M2 → Q M2) : S_X12_comesOver (d + 1) (nI p) (nI q) M (zU Q) := by
  have hpg := hM.1.2.2.1
  refine t_X12_comesOver ?_
  rw [hc, hM.2.1.2.2.1]
  refine c_X12_least (by omega) (by omega) ?_
  have htl : (ks.take (pgP P)).length = min ks.length (pgP P) := by rw [List.length_take, Nat.min_comm]
  rw [← htl]
  have hfd2 : ∀ i k, (ks.take (pgP P))[i]? = some k → M.1 255 i = nI k ∧ k < 24 := by
    intro i k hi
    have h1 : ks[i]? = some k := by
      rw [List.getElem?_take] at hi
      split at hi
      · exact hi
      · cases hi
    exact ⟨hfd i k h1, h24 k (List.mem_of_getElem? h1)⟩
  have hl2 : (ks.take (pgP P)).length ≤ 24 := by omega
  generalize ks.take (pgP P) = ls at h htl hfd2 hl2 ⊢
  have key : ∀ (c i : Nat) (M3 : zMem), i + c = ls.length → SoOnly M M3 → cl (fR M3) = (ls.take i).foldl (fun F k => takeF F p q k) F → S_X12_comesOver_17 (d + 1) (nI p) (nI q) (nI ls.length) (nI i) M3 (zU Q) := by
    intro c
    induction c with
    | zero =>
      intro i M3 hi hS3 hF3
      have ei : i = ls.length := by omega
      rw [ei, List.take_length] at hF3
      rw [ei]
      refine t_X12_comesOver_17 ⟨fun _ => ?_, fun q0 => absurd (nI_le (Nat.le_refl _) (by omega)) q0⟩
      rintro M4 rfl M5 rfl
      refine ⟨ain hp, ain hp, ?_⟩
      rintro M6 rfl
      rw [acl hp]
      have hall : SoOnly M (wI (wI (wI M3 231 202 (M3.1 231 202 + 1)) 231 203 ((wI M3 231 202 (M3.1 231 202 + 1)).1 231 203 + nI ls.length)) 231 (209 + p) ((wI (wI M3 231 202 (M3.1 231 202 + 1)) 231 203 ((wI M3 231 202 (M3.1 231 202 + 1)).1 231 203 + nI ls.length)).1 231 (209 + p) + nI ls.length)) := ((hS3.w (by omega) (by omega)).w (by omega) (by omega)).w (by omega) (by omega)
      refine zuu (h _ (PR_live hM hall.live ?_) hall.live)
      have f0 : ∀ N : zMem, N.1 231 202 = fR N 0 := fun N => rfl
      have f1 : ∀ N : zMem, N.1 231 203 = fR N 1 := fun N => rfl
      rw [fR_w (i := 7 + p) (by omega), fR_a, fR_w (i := 1) (by omega), f1, fR_w (i := 0) (by omega), f0]
      rw [cl_upd _ _ (by omega), cl_upd _ _ (by omega), cl_upd _ _ (by omega), hF3]
      unfold comeF
      simp only []
      have g : ∀ j, j < 203 → fR M3 j = (ls.foldl (fun F k => takeF F p q k) F) j := fun j hj => by rw [← hF3, cl_at _ hj]
      rw [upd_n _ _ (by omega), upd_n _ _ (by omega), upd_n _ _ (by omega), g 0 (by omega), g 1 (by omega), g (7 + p) (by omega)]
    | succ c ih =>
      intro i M3 hi hS3 hF3
      obtain ⟨k, hk⟩ : ∃ k, ls[i]? = some k := ⟨_, List.getElem?_eq_getElem (by omega)⟩
      obtain ⟨hk1, hk24⟩ := hfd2 i k hk
      have hin : vp_in (nI i) 24 := nIin (by omega) (by omega)
      have a1 := ixL hp hk24
      have a2 := ixL hq hk24
      have r255 : M3.1 255 i = nI k := by rw [hS3.1.1 255 (by omega)]; exact hk1
      refine t_X12_comesOver_17 ⟨fun q0 => absurd q0 (nI_ge (by omega) (by omega)), fun _ => ⟨hin, ?_⟩⟩
      rw [nI_clamp (by omega), r255]
      refine c_X12_at ⟨hin, ?_⟩
      rw [r255]
      refine c_X12_at ⟨vin a2, vin a1, ?_⟩
      rintro M4 rfl
      rw [vcl a1, vcl a2]
      refine ⟨hin, ?_⟩
      have r255' : ∀ (N : zMem) (j : Nat) (x : Int32), N.1 255 i = nI k → (wI N 231 j x).1 255 i = nI k := fun N j x e => by rw [wI_1, if_neg (by omega)]; exact e
      rw [r255' _ _ _ r255]
      refine c_X12_at ⟨hin, ?_⟩
      rw [r255' _ _ _ r255]
      refine c_X12_at ⟨sin a2, sin a1, ?_⟩
      rintro M5 rfl
      rw [scl a1, scl a2, nI_1]
      refine ih (i + 1) _ (by omega) ((hS3.w (by omega) (by omega)).w (by omega) (by omega)) ?_
      rw [fR_w (i := 107 + (24 * p + k)) (by omega), fR_s, fR_w (i := 11 + (24 * p + k)) (by omega), fR_v, upd_n _ _ (by omega)]
      have e5 : upd (upd (fR M3) (11 + (24 * p + k)) (fR M3 (11 + (24 * q + k)))) (107 + (24 * p + k)) (fR M3 (107 + (24 * q + k))) = takeF (fR M3) p q k := rfl
      rw [e5, takeF_cl hp hq hk24, hF3, List.take_succ, hk]
      simp
  exact key ls.length 0 M (by omega) (SoOnly.refl _) (by simpa using hM.2.2)
theorem e_X12_live2 {Q : zMem → Prop} {v : Int32} (hp : p < 4) (hq : q < 4) (hM : PR M P F) (hB : bdF F) (h0 : (pullD P F p q).1 = 0) (h : ∀ M2, PR M2 P (pullD P F p q).2 → LiveOnly M M2 → Q M2) : S_X12_live (d + 31) 2 (nI p) (nI q) v M (zU Q) := by
  refine t_X12_live ⟨fun e => absurd e (by decide), fun e => absurd e (by decide), fun _ => ?_, fun _ _ e => absurd rfl e⟩
  refine e_X12_layOffers hp hq hM hB (fun M1 o1 c1 f1 => e_X12_comesOver (d := d + 29) (ks := offP P F p q) hp hq (PR_off hM o1) (offP_len hM.1) (fun k hk => by have := (offP_mem hM.1 hk).1; have := hM.1.1; omega) c1 f1 (fun M2 h2 l2 => zuu (h M2 ?_ (o1.live.trans l2))))
  unfold pullD at h0 ⊢
  split at h0
  · exact absurd h0 (show ¬ ((1 : Int32) = 0) by decide)
  rename_i e1
  split at h0
  · exact absurd h0 (show ¬ ((2 : Int32) = 0) by decide)
  rename_i e2
  split at h0
  · exact absurd h0 (show ¬ ((3 : Int32) = 0) by decide)
  rename_i e3
  rw [if_neg e1, if_neg e2, if_neg e3]
  exact h2
end
