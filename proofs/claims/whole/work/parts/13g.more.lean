-- ===== now, peer, fresh =====
theorem bt_bitsF (f : Nat → Bool) {j : Nat} (hj : j < 32) : ∀ (c i : Nat) (s : Int32), i + c ≤ 32 → bt (forS (fun k s => if f k then s ||| ((1 : Int32) <<< (nI k &&& 31)) else s) c i s) j = (bt s j || (decide (i ≤ j ∧ j < i + c) && f j))
  | 0, i, s, _ => by
    rw [decide_eq_false (show ¬ (i ≤ j ∧ j < i + 0) by omega)]
    show bt s j = _
    simp
  | c + 1, i, s, h => by
    show bt (forS _ c (i + 1) (if f i then s ||| ((1 : Int32) <<< (nI i &&& 31)) else s)) j = _
    rw [bt_bitsF f hj c (i + 1) _ (by omega)]
    by_cases e : j = i
    · subst e
      rw [decide_eq_false (show ¬ (j + 1 ≤ j ∧ j < j + 1 + c) by omega), decide_eq_true (show j ≤ j ∧ j < j + (c + 1) by omega)]
      cases hf : f j with
      | true => rw [if_pos rfl, b_or, bit_1 hj hj]; simp
      | false => rw [if_neg (by decide)]; simp
    · have e2 : decide (i + 1 ≤ j ∧ j < i + 1 + c) = decide (i ≤ j ∧ j < i + (c + 1)) := decide_eq_decide.mpr (by omega)
      rw [e2]
      cases hf : f i with
      | true => rw [if_pos rfl, b_or, bit_1 (by omega) hj, decide_eq_false e]; simp
      | false => rw [if_neg (by decide)]
theorem bt_orS (g : Nat → Int32) {j : Nat} : ∀ (c i : Nat) (s : Int32), bt (forS (fun p s => s ||| g p) c i s) j = (bt s j || anyF (fun p => bt (g p) j) c i)
  | 0, i, s => by
    show bt s j = (bt s j || false)
    simp
  | c + 1, i, s => by
    show bt (forS (fun p s => s ||| g p) c (i + 1) (s ||| g i)) j = _
    rw [bt_orS g c (i + 1), b_or, Bool.or_assoc]
    rfl
theorem anyF_none : ∀ (c i : Nat), anyF (fun _ => false) c i = false
  | 0, _ => rfl
  | c + 1, i => by
    show (false || anyF (fun _ => false) c (i + 1)) = false
    rw [Bool.false_or, anyF_none c (i + 1)]
theorem torn_eq (sm : Nat → Nat → Bool) {n c : Nat} (hn : n ≤ 24) : forS (fun p s => s ||| bitsF (fun k => sm p k) n) c 1 0 = bitsF (fun k => anyF (fun p => sm p k) c 1) n := by
  apply b_ext
  intro j hj
  rw [bt_orS, b_0, Bool.false_or]
  unfold bitsF
  rw [bt_bitsF _ hj n 0 0 (by omega), b_0, Bool.false_or]
  have : ∀ p, bt (forS (fun k s => if sm p k then s ||| ((1 : Int32) <<< (nI k &&& 31)) else s) n 0 0) j = (decide (0 ≤ j ∧ j < 0 + n) && sm p j) := fun p => by
    rw [bt_bitsF (fun k => sm p k) hj n 0 0 (by omega), b_0, Bool.false_or]
  rw [anyF_congr c 1 (fun p _ _ => this p)]
  cases decide (0 ≤ j ∧ j < 0 + n) with
  | true => simp only [Bool.true_and]
  | false =>
    simp only [Bool.false_and]
    exact anyF_none c 1
section
variable {d B b p q k m : Nat} {M M2 M3 : zMem} {N : zNm} {F G : Nat → Int32} {P : zPl} {us us2 : List (Nat → Int32)} {Q : Int32 → zMem → Prop} {x y z v : Int32}
theorem PC_f (h : PC M b P F) {j : Nat} (hj : j < 203) : fC M (pF b) j = F j := by rw [← h.2.2.1, cl_at _ hj]
theorem PR_f (h : PR M P F) {j : Nat} (hj : j < 203) : M.1 231 (202 + j) = F j := by rw [← h.2.2, cl_at _ hj]; rfl
theorem PC63_f (h : PC M 63 P F) {j : Nat} (hj : j < 203) : fC M 10 j = F j := by have := PC_f h hj; rw [pT63.2.1] at this; exact this
theorem PC63_0 (h : PC M 63 P F) {j : Nat} (hj : j < 3) : M.1 10 (4 + j) = F j := by
  rw [← PC63_f h (show j < 203 by omega)]; unfold fC; rw [if_pos hj]
theorem PC63_3 (h : PC M 63 P F) (hp : p < 4) : M.1 13 p = F (3 + p) := by
  rw [← PC63_f h (show 3 + p < 203 by omega)]; unfold fC; rw [if_neg (by omega), if_pos (by omega), Nat.add_sub_cancel_left]
theorem PC63_7 (h : PC M 63 P F) (hp : p < 4) : M.1 14 p = F (7 + p) := by
  rw [← PC63_f h (show 7 + p < 203 by omega)]; unfold fC; rw [if_neg (by omega), if_neg (by omega), if_pos (by omega), Nat.add_sub_cancel_left]
-- now
def tornS (P : zPl) (F : Nat → Int32) : Int32 := bitsF (fun k => anyF (fun p => !sameF F 0 p k) (mP P - 1) 1) (nP P)
theorem e_X4_tornBits (hb : b ∈ iX4) (hM : PC M b P F) (h : Q (tornS P F) M) : S_X4_tornBits (d + 3) b M (zI Q) := by
  have h24 := hM.1.1
  have h4 := hM.1.2.1
  refine c_X4_tornBits hb hM.2.1.1 h24 hM.2.1.2.1 h4 ?_
  have e : forS (fun p s => s ||| bitsF (fun k => !sameF (fC M (pF b)) 0 p k) (nP P)) (mP P - 1) 1 0 = tornS P F := by
    unfold tornS
    rw [← torn_eq (fun p k => !sameF F 0 p k) h24]
    refine forS_congr _ _ _ (fun p s p1 p2 => ?_)
    congr 1
    refine bitsF_congr (fun k hk => ?_)
    rw [← hM.2.2.1, sameF_cl (by omega) (by omega) (by omega)]
  rw [e]
  exact h
theorem e_X12_now_73 (hM : PR M P F) (h : Q (tornS P F) M) : S_X12_now_73 (d + 4) 0 0 M (zI Q) := by
  have h24 := hM.1.1
  have h4 := hM.1.2.1
  refine for_up (S := fun i s => S_X12_now_73 (d + 4) s (nI i) M (zI Q)) (fin := fun s => Q s M) (n := nP P) (fun s hs => ?_) (fun i s hi hs => ?_) (nP P) 0 0 (by omega) h
  · exact t_X12_now_73 ⟨fun _ => zii hs, fun e => absurd (leY hM.2.1.1 (by omega)) e⟩
  · refine t_X12_now_73 ⟨fun e => absurd e (leN hM.2.1.1 hi (by omega)), fun _ => c_X12_isTorn (by omega) hM.2.1.2.1 h4 ?_⟩
    have e : anyF (fun p => !sameF (fR M) 0 p i) (mP P - 1) 1 = anyF (fun p => !sameF F 0 p i) (mP P - 1) 1 := anyF_congr _ _ (fun p p1 p2 => by rw [← hM.2.2, sameF_cl (by omega) (by omega) (by omega)])
    rw [e, nI_1]
    refine ⟨fun e => ?_, fun e => ?_⟩
    · simp only [e] at hs; exact hs
    · simp only [e] at hs; exact hs
def nowS (P : zPl) (F : Nat → Int32) (x : Int32) : Int32 := if x = 0 then F 0 else if x = 1 then F 1 else if x = 2 then F 2 else if x = 3 then tornS P F else if x = 4 then manyF (rtP P F) (mP P) else -1
theorem m_now (h : JA B M N F us) : S_X12_now (d + 64) x M (zI fun r2 M2 => eqJ B (nowS (plOf N) F x) r2 M2) := by
  refine t_X12_now (fun M1 e1 => ?_)
  have hw : JA B M1 N F us := e1 ▸ h.w0
  refine ⟨fun e => zii ⟨?_, hw.j⟩, fun e => zii ⟨?_, hw.j⟩, fun e => zii ⟨?_, hw.j⟩, fun e => e_X12_now_73 hw.pr ⟨?_, hw.j⟩, fun e => e_X12_rootMany hw.pr (fun M2 l => zii ⟨?_, (hw.lay l).j⟩), fun a0 a1 a2 a3 a4 => zii ⟨?_, hw.j⟩⟩
  · rw [e]; exact PR_f hw.pr (j := 0) (by omega)
  · rw [e]; exact PR_f hw.pr (j := 1) (by omega)
  · rw [e]; exact PR_f hw.pr (j := 2) (by omega)
  · rw [e]; rfl
  · rw [e]; rfl
  · unfold nowS; rw [if_neg a0, if_neg a1, if_neg a2, if_neg a3, if_neg a4]
theorem o_now (h : JA B M N F us) : S_X11_now (d + 64) x M (zI fun r M1 => S_X12_now (d + 64) x M1 (zI fun r2 M2 => eqJ B r r2 M2)) := by
  have fin : ∀ r, r = nowS (plOf N) F x → S_X12_now (d + 64) x M (zI fun r2 M2 => eqJ B r r2 M2) := fun r hr => by rw [hr]; exact m_now h
  refine t_X11_now ⟨fun e => zii (fin _ ?_), fun e => zii (fin _ ?_), fun e => zii (fin _ ?_), fun e => e_X4_tornBits (by decide) h.pc (zii (fin _ ?_)), fun e => e_X4_rootKinds (by decide) h.pc (zii (fin _ ?_)), fun a0 a1 a2 a3 a4 => zii (fin _ ?_)⟩
  · rw [e]; exact PC63_0 h.pc (j := 0) (by omega)
  · rw [e]; exact PC63_0 h.pc (j := 1) (by omega)
  · rw [e]; exact PC63_0 h.pc (j := 2) (by omega)
  · rw [e]; rfl
  · rw [e]; rfl
  · unfold nowS; rw [if_neg a0, if_neg a1, if_neg a2, if_neg a3, if_neg a4]
-- peer
def peerS (P : zPl) (F : Nat → Int32) (p : Nat) (x : Int32) : Int32 := if x = 0 then cntF (hasF F p) (nP P) else if x = 1 then cntF (goneF F p) (nP P) else if x = 2 then nI (trP P F p).length else if x = 3 then (if (trP P F p).length = 0 then -1 else (nodeT (trP P F p) 0).1) else if x = 4 then F (3 + p) else if x = 5 then likeF (rtP P F) (mP P) p else if x = 6 then F (7 + p) else -1
theorem m_peer (h : JA B M N F us) (hp : p < mP (plOf N)) : S_X12_peer (d + 64) (nI p) x M (zI fun r2 M2 => eqJ B (peerS (plOf N) F p x) r2 M2) := by
  have h4 := h.m4
  have h24 := h.n24
  refine t_X12_peer (fun M1 e1 => c_X12_isPeer (e1 ▸ h.w0.r1) h4 ⟨fun _ => ?_, fun e2 => (by rw [inN_nI hp (by omega)] at e2; cases e2)⟩)
  have hw1 : JA B M1 N F us := e1 ▸ h.w0
  refine e_X12_layTree (tt := 0) (by omega) (by omega) hw1.pr (fun M2 a1 a2 a3 => ?_)
  have hw : JA B M2 N F us := hw1.lay a3.1
  have hl := trP_len (P := plOf N) (F := F) (p := p) h.pc.1
  refine ⟨fun e => c_X12_entriesOf (by omega) hw.r0 h24 (zii ⟨?_, hw.j⟩), fun e => c_X12_goneOf (by omega) hw.r0 h24 (zii ⟨?_, hw.j⟩), fun e => zii ⟨?_, hw.j⟩, fun e => ⟨fun q => zii ⟨?_, hw.j⟩, fun q => zii ⟨?_, hw.j⟩⟩, fun e => ⟨rin (o := 205) rfl (by omega) (by omega), zii ⟨?_, hw.j⟩⟩, fun e => e_X12_rootsLike hp hw.pr (fun M3 l => zii ⟨?_, (hw.lay l).j⟩), fun e => ⟨rin (o := 209) rfl (by omega) (by omega), zii ⟨?_, hw.j⟩⟩, fun b0 b1 b2 b3 b4 b5 b6 => zii ⟨?_, hw.j⟩⟩
  · rw [e]; exact cntF_congr (fun k hk => PR_has hw.pr (by omega) (by omega))
  · rw [e]; exact cntF_congr (fun k hk => PR_gone hw.pr (by omega) (by omega))
  · rw [e]; exact a1
  · rw [e]
    have hne : ¬ (trP (plOf N) F p).length = 0 := fun w => q (by rw [a1, w]; rfl)
    have := (a2 0 _ (nodeT_at (Nat.pos_of_ne_zero hne))).1.1
    show M2.1 247 0 = if (trP (plOf N) F p).length = 0 then -1 else (nodeT (trP (plOf N) F p) 0).1
    rw [if_neg hne]
    exact this
  · rw [e]
    have hne : (trP (plOf N) F p).length = 0 := by
      rcases Nat.eq_zero_or_pos (trP (plOf N) F p).length with w | w
      · exact w
      · exact absurd (a1 ▸ q) (nI_ne0 w (by omega))
    show -1 = if (trP (plOf N) F p).length = 0 then -1 else (nodeT (trP (plOf N) F p) 0).1
    rw [if_pos hne]
  · rw [e, rcl (o := 205) (i := p) (x := 205) rfl (by omega), show 205 + p = 202 + (3 + p) by omega]; exact PR_f hw.pr (by omega)
  · rw [e]; rfl
  · rw [e, rcl (o := 209) (i := p) (x := 209) rfl (by omega), show 209 + p = 202 + (7 + p) by omega]; exact PR_f hw.pr (by omega)
  · unfold peerS; rw [if_neg b0, if_neg b1, if_neg b2, if_neg b3, if_neg b4, if_neg b5, if_neg b6]
theorem o_peer (h : JA B M N F us) : S_X11_peer (d + 64) x y M (zI fun r M1 => S_X12_peer (d + 64) x y M1 (zI fun r2 M2 => eqJ B r r2 M2)) := by
  have h4 := h.m4
  have h24 := h.n24
  refine t_X11_peer (c_X11_isPeer h.c4 ⟨fun e => ?_, fun e => zii ?_⟩)
  rotate_left
  · exact t_X12_peer (fun M1 e1 => c_X12_isPeer (e1 ▸ h.w0.r1) h4 ⟨fun e2 => (by rw [e] at e2; cases e2), fun _ => zii ⟨rfl, e1 ▸ h.w0.j⟩⟩)
  obtain ⟨p, hp, e1⟩ := inN_of e (by omega)
  rw [e1, nI_clamp (by omega)]
  have hl := trP_len (P := plOf N) (F := F) (p := p) h.pc.1
  have fin : ∀ r, r = peerS (plOf N) F p y → S_X12_peer (d + 64) (nI p) y M (zI fun r2 M2 => eqJ B r r2 M2) := fun r hr => by rw [hr]; exact m_peer h hp
  obtain ⟨t1, t2, t3⟩ := PC_t63 h.pc (show p < 4 by omega)
  refine ⟨fun e => ⟨nIin (by omega) (by omega), zii (fin _ ?_)⟩, fun e => c_X4_goneCount (by decide) (by omega) h.c3 h24 (zii (fin _ ?_)), fun e => ⟨nIin (by omega) (by omega), zii (fin _ ?_)⟩, fun e => ⟨nIin (by omega) (by omega), fun q => ⟨nIin (by omega) (by omega), zii (fin _ ?_)⟩, fun q => zii (fin _ ?_)⟩, fun e => ⟨nIin (by omega) (by omega), zii (fin _ ?_)⟩, fun e => e_X4_sameRootBits (by decide) hp h.pc (zii (fin _ ?_)), fun e => ⟨nIin (by omega) (by omega), zii (fin _ ?_)⟩, fun b0 b1 b2 b3 b4 b5 b6 => zii (fin _ ?_)⟩
  · rw [e, t1, ksP_cnt h.pc.1]; rfl
  · rw [e]; exact cntF_congr (fun k hk => PC_gone h.pc (by omega) (by omega))
  · rw [e]; exact t2
  · rw [e]
    have hne : ¬ (trP (plOf N) F p).length = 0 := fun w => q (by rw [t2, w]; rfl)
    have := (t3 0 _ (nodeT_at (Nat.pos_of_ne_zero hne))).1.1
    show _ = if (trP (plOf N) F p).length = 0 then -1 else (nodeT (trP (plOf N) F p) 0).1
    rw [if_neg hne]
    exact this
  · rw [e]
    have hne : (trP (plOf N) F p).length = 0 := by
      rcases Nat.eq_zero_or_pos (trP (plOf N) F p).length with w | w
      · exact w
      · exact absurd (t2 ▸ q) (nI_ne0 w (by omega))
    show -1 = if (trP (plOf N) F p).length = 0 then -1 else (nodeT (trP (plOf N) F p) 0).1
    rw [if_pos hne]
  · rw [e]; exact PC63_3 h.pc (by omega)
  · rw [e]; rfl
  · rw [e]; exact PC63_7 h.pc (by omega)
  · unfold peerS; rw [if_neg b0, if_neg b1, if_neg b2, if_neg b3, if_neg b4, if_neg b5, if_neg b6]
end
