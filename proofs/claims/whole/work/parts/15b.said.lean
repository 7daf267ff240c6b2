-- ===== a code holds: the class =====
section
variable {d b p q k m r w v : Nat} {M M2 : zMem} {P : zPl} {F : Nat → Int32} {x y : Int32}
def leafS (P : zPl) (F : Nat → Int32) (k w r v : Nat) : Bool := if w = 17 then tnS P F k else if w = 18 then hldS F v k else if w = 19 then goneF F v k else cmpW P F k w r v
theorem torn_bit (hP : okP P) (hk : k < nP P) : bt (tornS P F) k = tnS P F k := by
  have h24 := hP.1
  unfold tornS tnS bitsF
  rw [bt_bitsF _ (by omega) (nP P) 0 0 (by omega), b_0, Bool.false_or, decide_eq_true (by omega), Bool.true_and]
theorem c_oneHolds {Q : Bool → zMem → Prop} (hM : PC M 63 P F) (hw : 17 ≤ w ∧ w ≤ 23) (hr : r < 256) (hv : v < 32768) (hp : w = 18 ∨ w = 19 → v < 4) (hk : k < nP P) (h : Q (leafS P F k w r v) M) : S_X7_oneHolds (d + 5) 63 (nI k) (nI (w + 256 * r + 65536 * v)) M (zB Q) := by
  have h24 := hM.1.1
  have h4 := hM.1.2.1
  have i4 : 63 ∈ iX4 := by decide
  have f10 : pF 63 = 10 := pT63.2.1
  refine t_X7_oneHolds i4 ?_
  rw [cd_w (by omega) hr hv, cd_r (by omega) hr hv, cd_b (by omega) hr hv, nI_clamp (by omega)]
  rw [show (17 : Int32) = nI 17 from rfl, nI_eq (by omega) (by omega), show (18 : Int32) = nI 18 from rfl, nI_eq (by omega) (by omega), show (19 : Int32) = nI 19 from rfl, nI_eq (by omega) (by omega), show (20 : Int32) = nI 20 from rfl, nI_eq (by omega) (by omega), show (21 : Int32) = nI 21 from rfl, nI_eq (by omega) (by omega), show (22 : Int32) = nI 22 from rfl, nI_eq (by omega) (by omega)]
  unfold leafS at h
  refine ⟨fun e => ?_, fun e => ?_, fun e => ?_, fun e => ?_, fun e => ?_, fun e => ?_, fun a1 a2 a3 a4 a5 a6 => ?_⟩
  · rw [if_pos e, ← torn_bit hM.1 hk] at h
    refine e_X4_tornBits i4 hM ?_
    rw [ushr_bit (by omega)]
    refine ⟨fun z => zbf ?_, fun z => zbt ?_⟩
    · rw [z] at h; exact h
    · cases hb : bt (tornS P F) k with
      | true => rw [hb] at h; exact h
      | false => exact absurd hb z
  · rw [if_neg (by omega), if_pos e] at h
    have hp4 := hp (Or.inl e)
    rw [f10]
    refine c_X3_has (by decide) hp4 (by omega) ?_
    have e1 := PC_has hM hp4 (show k < 24 by omega)
    have e2 := PC_gone hM hp4 (show k < 24 by omega)
    rw [f10] at e1 e2
    rw [e1]
    unfold hldS at h
    refine ⟨fun z => zbf ?_, fun z => c_X3_isGone (by decide) hp4 (by omega) ?_⟩
    · rw [z] at h; exact h
    · rw [e2]
      rw [z, Bool.true_and] at h
      refine ⟨fun y => zbf ?_, fun y => zbt ?_⟩
      · rw [y] at h; exact h
      · rw [y] at h; exact h
  · rw [if_neg (by omega), if_neg (by omega), if_pos e] at h
    have hp4 := hp (Or.inr e)
    rw [f10]
    refine c_X3_isGone (by decide) hp4 (by omega) (zbr ?_)
    have e2 := PC_gone hM hp4 (show k < 24 by omega)
    rw [f10] at e2
    rw [e2]
    exact h
  · rw [if_neg (by omega), if_neg (by omega), if_neg (by omega)] at h
    unfold cmpW at h
    rw [if_pos e] at h
    refine ⟨nIin (by omega) (by omega), c_X7_compares hr (zbr ?_)⟩
    rw [(plnC_kl hM.2.1 k hk).2]
    exact h
  · rw [if_neg (by omega), if_neg (by omega), if_neg (by omega)] at h
    unfold cmpW at h
    rw [if_neg (by omega), if_pos e] at h
    refine c_X4_holderBits i4 (by omega) hM.2.1.2.1 h4 (c_bitCount (c_X7_compares hr (zbr ?_)))
    rw [bitsF_pop h4, cntF_congr (fun p hp => PC_has hM (by omega) (by omega))]
    exact h
  · rw [if_neg (by omega), if_neg (by omega), if_neg (by omega)] at h
    unfold cmpW at h
    rw [if_neg (by omega), if_neg (by omega), if_pos e] at h
    refine c_X4_greatestStamp i4 (by omega) hM.2.1.2.1 h4 (c_X7_compares hr (zbr ?_))
    have : forS (fun p s => if s < smF (fC M (pF 63)) p k then smF (fC M (pF 63)) p k else s) (mP P) 0 0 = latS P F k := forS_congr _ _ _ (fun p s p1 p2 => by rw [PC_sm hM (by omega) (by omega)])
    rw [this]
    exact h
  · rw [if_neg (by omega), if_neg (by omega), if_neg (by omega)] at h
    unfold cmpW at h
    rw [if_neg (by omega), if_neg (by omega), if_neg (by omega)] at h
    exact c_X7_compares hr (zbr h)
end
