def bt (x : Int32) (i : Nat) : Bool := x.toBitVec.getLsbD i
theorem b_ext {x y : Int32} (h : ∀ i, i < 32 → bt x i = bt y i) : x = y := Int32.toBitVec_inj.mp (BitVec.eq_of_getLsbD_eq (fun i hi => h i hi))
theorem b_or (x y : Int32) (i : Nat) : bt (x ||| y) i = (bt x i || bt y i) := by unfold bt; rw [Int32.toBitVec_or, BitVec.getLsbD_or]
theorem b_and (x y : Int32) (i : Nat) : bt (x &&& y) i = (bt x i && bt y i) := by unfold bt; rw [Int32.toBitVec_and, BitVec.getLsbD_and]
theorem b_xor (x y : Int32) (i : Nat) : bt (x ^^^ y) i = (bt x i ^^ bt y i) := by unfold bt; rw [Int32.toBitVec_xor, BitVec.getLsbD_xor]
theorem b_big {x : Int32} {i : Nat} (h : 32 ≤ i) : bt x i = false := BitVec.getLsbD_of_ge _ _ h
theorem b_255 (i : Nat) : bt 255 i = decide (i < 8) := by
  rcases Nat.lt_or_ge i 32 with h | h
  · exact (by decide +kernel : ∀ i, i < 32 → bt 255 i = decide (i < 8)) i h
  · rw [b_big h, decide_eq_false (by omega)]
theorem b_65535 (i : Nat) : bt 65535 i = decide (i < 16) := by
  rcases Nat.lt_or_ge i 32 with h | h
  · exact (by decide +kernel : ∀ i, i < 32 → bt 65535 i = decide (i < 16)) i h
  · rw [b_big h, decide_eq_false (by omega)]
theorem b_m1 : ∀ i, i < 32 → bt (-1) i = true := by decide +kernel
theorem b_0 (i : Nat) : bt 0 i = false := BitVec.getLsbD_zero
theorem s_l : ∀ n, n < 32 → ((nI n &&& 31).toBitVec.smod 32).toNat = n := by decide +kernel
theorem s_u : ∀ n, n < 32 → (((nI n).toUInt32 &&& Int32.toUInt32 31).toBitVec % 32).toNat = n := by decide +kernel
theorem b_shl (n : Nat) (hn : n < 32) (x : Int32) {i : Nat} (hi : i < 32) : bt (x <<< (nI n &&& 31)) i = (decide (n ≤ i) && bt x (i - n)) := by
  unfold bt
  rw [Int32.toBitVec_shiftLeft]
  show (x.toBitVec <<< ((nI n &&& 31).toBitVec.smod 32).toNat).getLsbD i = _
  rw [s_l n hn, BitVec.getLsbD_shiftLeft]
  rcases Nat.lt_or_ge i n with h | h
  · simp [h, Nat.not_le.mpr h]
  · simp [hi, h, Nat.not_lt.mpr h]
theorem b_ushr (n : Nat) (hn : n < 32) (x : Int32) (i : Nat) : bt ((x.toUInt32 >>> ((nI n).toUInt32 &&& Int32.toUInt32 31)).toInt32) i = bt x (n + i) := by
  show (x.toUInt32 >>> ((nI n).toUInt32 &&& Int32.toUInt32 31)).toBitVec.getLsbD i = x.toUInt32.toBitVec.getLsbD (n + i)
  rw [UInt32.toBitVec_shiftRight]
  show (x.toUInt32.toBitVec >>> (((nI n).toUInt32 &&& Int32.toUInt32 31).toBitVec % 32).toNat).getLsbD i = _
  rw [s_u n hn, BitVec.getLsbD_ushiftRight]
theorem b_sshr (n : Nat) (hn : n < 32) (x : Int32) {i : Nat} (hi : i < 32) : bt (x >>> (nI n &&& 31)) i = if n + i < 32 then bt x (n + i) else bt x 31 := by
  unfold bt
  rw [Int32.toBitVec_shiftRight]
  show (x.toBitVec.sshiftRight ((nI n &&& 31).toBitVec.smod 32).toNat).getLsbD i = _
  rw [s_l n hn, BitVec.getLsbD_sshiftRight, BitVec.msb_eq_getLsbD_last]
  simp [hi]
theorem bt_1 (i : Nat) : bt 1 i = decide (i = 0) := by
  rcases Nat.lt_or_ge i 32 with h | h
  · exact (by decide +kernel : ∀ i, i < 32 → bt 1 i = decide (i = 0)) i h
  · rw [b_big h, decide_eq_false (by omega)]
theorem and1_0 (x : Int32) : x &&& 1 = 0 ↔ bt x 0 = false := by
  constructor
  · intro h
    have := congrArg (fun z => bt z 0) h
    simpa [b_and, bt_1, b_0] using this
  · intro h
    apply b_ext
    intro i _
    rw [b_and, bt_1, b_0]
    by_cases e : i = 0
    · subst e; simp [h]
    · simp [e]
theorem and1_1 (x : Int32) : x &&& 1 = 1 ↔ bt x 0 = true := by
  constructor
  · intro h
    have := congrArg (fun z => bt z 0) h
    simpa [b_and, bt_1] using this
  · intro h
    apply b_ext
    intro i _
    rw [b_and, bt_1]
    by_cases e : i = 0
    · subst e; simp [h]
    · simp [e]
theorem ushr_bit {q : Nat} (hq : q < 32) (x : Int32) : ((Int32.toUInt32 x >>> (Int32.toUInt32 (nI q) &&& Int32.toUInt32 31)).toInt32) &&& 1 = 0 ↔ bt x q = false := by
  rw [and1_0, b_ushr q hq]; rfl
theorem sshr_bit {q : Nat} (hq : q < 32) (x : Int32) : (x >>> (nI q &&& 31)) &&& 1 = 1 ↔ bt x q = true := by
  rw [and1_1, b_sshr q hq x (by omega), if_pos (by omega)]; rfl
theorem bit_1 {q : Nat} (hq : q < 32) {i : Nat} (hi : i < 32) : bt ((1 : Int32) <<< (nI q &&& 31)) i = decide (i = q) := by
  rw [b_shl q hq _ hi, bt_1]
  by_cases e : i = q
  · subst e; simp
  · simp only [e, decide_false]
    by_cases e2 : q ≤ i
    · simp [show i - q ≠ 0 by omega]
    · simp [e2]
/-- two of them are cut -/
def cutB (F : Nat → Int32) (p q : Nat) : Bool := bt (F (3 + p)) q
theorem cutF_B {F : Nat → Int32} {p q : Nat} (hq : q < 32) : cutF F p q = cutB F p q := by
  unfold cutF cutB
  cases h : bt (F (3 + p)) q with
  | false => exact decide_eq_false (fun e => e ((ushr_bit hq _).mpr h))
  | true => exact decide_eq_true (fun e => by rw [(ushr_bit hq _).mp e] at h; cases h)
theorem litadd (a b : Nat) : nI a + nI b = nI (a + b) := nI_add a b
section
variable {d p q k : Nat} {M : zMem}
theorem rin {o i n : Nat} {x : Int32} (hx : x = nI o) (h : o + i < n) (hn : n < 2 ^ 31) : vp_in (x + nI i) n := by rw [hx, nI_add]; exact vp_in_nI h hn
theorem rcl {o i : Nat} {x : Int32} (hx : x = nI o) (h : o + i < 2 ^ 31) : (x + nI i).toNatClampNeg = o + i := by rw [hx, nI_add]; exact nI_clamp h
theorem c_X12_at {Q : Int32 → zMem → Prop} (h : Q (nI (24 * p + k)) M) : S_X12_at d (nI p) (nI k) M (zI Q) := by
  refine t_X12_at (zii ?_)
  rw [ix']; exact h
theorem c_X12_mix {Q : Int32 → zMem → Prop} {x y : Int32} (h : Q (mixF x y) M) : S_X12_mix d x y M (zI Q) := t_X12_mix (zii h)
theorem fR_s (M : zMem) (i : Nat) : M.1 231 (309 + i) = fR M (107 + i) := by
  show _ = M.1 231 (202 + (107 + i))
  rw [show 202 + (107 + i) = 309 + i by omega]
theorem fR_v (M : zMem) (i : Nat) : M.1 231 (213 + i) = fR M (11 + i) := by
  show _ = M.1 231 (202 + (11 + i))
  rw [show 202 + (11 + i) = 213 + i by omega]
theorem fR_c (M : zMem) (i : Nat) : M.1 231 (205 + i) = fR M (3 + i) := by
  show _ = M.1 231 (202 + (3 + i))
  rw [show 202 + (3 + i) = 205 + i by omega]
theorem fR_a (M : zMem) (i : Nat) : M.1 231 (209 + i) = fR M (7 + i) := by
  show _ = M.1 231 (202 + (7 + i))
  rw [show 202 + (7 + i) = 209 + i by omega]
theorem fR_0 (M : zMem) (i : Nat) : M.1 231 (202 + i) = fR M i := rfl
theorem sin {i : Nat} (h : i < 96) : vp_in ((309 : Int32) + nI i) 647 := rin (o := 309) rfl (by omega) (by omega)
theorem scl {i : Nat} (h : i < 96) : ((309 : Int32) + nI i).toNatClampNeg = 309 + i := rcl (o := 309) rfl (by omega)
theorem vin {i : Nat} (h : i < 96) : vp_in ((213 : Int32) + nI i) 647 := rin (o := 213) rfl (by omega) (by omega)
theorem vcl {i : Nat} (h : i < 96) : ((213 : Int32) + nI i).toNatClampNeg = 213 + i := rcl (o := 213) rfl (by omega)
theorem cin {i : Nat} (h : i < 4) : vp_in ((205 : Int32) + nI i) 647 := rin (o := 205) rfl (by omega) (by omega)
theorem ccl {i : Nat} (h : i < 4) : ((205 : Int32) + nI i).toNatClampNeg = 205 + i := rcl (o := 205) rfl (by omega)
theorem ain {i : Nat} (h : i < 4) : vp_in ((209 : Int32) + nI i) 647 := rin (o := 209) rfl (by omega) (by omega)
theorem acl {i : Nat} (h : i < 4) : ((209 : Int32) + nI i).toNatClampNeg = 209 + i := rcl (o := 209) rfl (by omega)
theorem c_X12_hasEntry {Q : Bool → zMem → Prop} (hp : p < 4) (hk : k < 24) (h : Q (hasF (fR M) p k) M) : S_X12_hasEntry (d + 1) (nI p) (nI k) M (zB Q) := by
  refine t_X12_hasEntry (c_X12_at ⟨sin (ixL hp hk), ?_⟩)
  rw [scl (ixL hp hk), fR_s]
  unfold hasF smF at h
  exact ⟨fun e => zb0 h (fun q => q e), fun e => zb1 h e⟩
theorem c_X12_entryDigest {Q : Int32 → zMem → Prop} (hp : p < 4) (hk : k < 24) (h : Q (digF (M.1 242) (fR M) p k) M) : S_X12_entryDigest (d + 1) (nI p) (nI k) M (zI Q) := by
  refine t_X12_entryDigest ⟨nIin hk (by omega), c_X12_at ⟨sin (ixL hp hk), c_X12_mix (c_X12_at ⟨vin (ixL hp hk), c_X12_mix (zii ?_)⟩)⟩⟩
  rw [scl (ixL hp hk), vcl (ixL hp hk), nI_clamp (by omega), fR_s, fR_v]
  exact h
theorem c_X12_areSame {Q : Bool → zMem → Prop} (hp : p < 4) (hq : q < 4) (hk : k < 24) (h : Q (sameF (fR M) p q k) M) : S_X12_areSame (d + 2) (nI p) (nI q) (nI k) M (zB Q) := by
  refine t_X12_areSame (c_X12_at ⟨sin (ixL hp hk), c_X12_at ⟨sin (ixL hq hk), ?_⟩⟩)
  rw [scl (ixL hp hk), scl (ixL hq hk), fR_s, fR_s]
  refine ⟨fun e => zbf ?_, fun e => c_X12_hasEntry hp hk ⟨fun e2 => zbt ?_, fun e2 => c_X12_at ⟨vin (ixL hp hk), c_X12_at ⟨vin (ixL hq hk), ?_⟩⟩⟩⟩
  · have e : ¬ smF (fR M) p k = smF (fR M) q k := e
    simpa [sameF, e] using h
  · have e : smF (fR M) p k = smF (fR M) q k := e
    simpa [sameF, e, e2] using h
  · have e : smF (fR M) p k = smF (fR M) q k := e
    rw [vcl (ixL hp hk), vcl (ixL hq hk), fR_v, fR_v]
    refine ⟨fun e3 => zbf ?_, fun e3 => zbt ?_⟩
    · have e3 : ¬ vlF (fR M) p k = vlF (fR M) q k := e3
      simpa [sameF, e, e2, e3] using h
    · have e3 : vlF (fR M) p k = vlF (fR M) q k := e3
      simpa [sameF, e, e2, e3] using h
theorem c_X12_has {Q : Bool → zMem → Prop} {x : Int32} (hq : q < 32) (h : Q (bt x q) M) : S_X12_has d x (nI q) M (zB Q) := by
  refine t_X12_has ⟨fun e => zbf ?_, fun e => zbt ?_⟩
  · rw [sshr_bit hq] at e
    simpa [e] using h
  · rw [sshr_bit hq] at e
    simpa [e] using h
theorem c_X12_areCut {Q : Bool → zMem → Prop} (hp : p < 4) (hq : q < 32) (h : Q (cutB (fR M) p q) M) : S_X12_areCut (d + 1) (nI p) (nI q) M (zB Q) := by
  refine t_X12_areCut ⟨cin hp, ?_⟩
  rw [ccl hp, fR_c]
  exact c_X12_has hq (zbr h)
theorem fR_w {M : zMem} {j i : Nat} {x : Int32} (h : j = 202 + i) : fR (wI M 231 j x) = upd (fR M) i x := by
  funext k
  unfold fR upd
  rw [wI_1]
  by_cases e : k = i
  · rw [if_pos e, if_pos ⟨rfl, by omega⟩]
  · rw [if_neg e, if_neg (by omega)]
/-- only the row 231 has changed, and there only behind 201 -/
def SoOnly (M M2 : zMem) : Prop := Same (fun i => i = 231) M M2 ∧ ∀ j, j < 202 ∨ 405 ≤ j → M2.1 231 j = M.1 231 j
theorem SoOnly.refl (M : zMem) : SoOnly M M := ⟨Same.refl _ _, fun _ _ => rfl⟩
theorem SoOnly.trans {M M2 M3 : zMem} (h : SoOnly M M2) (h2 : SoOnly M2 M3) : SoOnly M M3 := ⟨h.1.trans h2.1, fun j hj => (h2.2 j hj).trans (h.2 j hj)⟩
theorem SoOnly.w {M M2 : zMem} (h : SoOnly M M2) {j : Nat} {x : Int32} (h1 : 202 ≤ j) (h2 : j < 405) : SoOnly M (wI M2 231 j x) := ⟨h.1.wI rfl, fun i hi => by rw [wI_1, if_neg (by omega)]; exact h.2 i hi⟩
theorem c_X12_write {Q : zMem → Prop} {v : Int32} (hp : p < 4) (hk : k < 24) (h : ∀ M2, fR M2 = writeF (fR M) p k v → SoOnly M M2 → Q M2) : S_X12_write (d + 1) (nI p) (nI k) v M (zU Q) := by
  refine t_X12_write ?_
  rintro M1 rfl
  refine c_X12_at ⟨vin (ixL hp hk), ?_⟩
  rintro M1 rfl
  refine c_X12_at ⟨sin (ixL hp hk), ?_⟩
  rintro M1 rfl
  have hi := ixL hp hk
  rw [vcl hi, scl hi]
  refine zuu (h _ ?_ ((((SoOnly.refl M).w (by omega) (by omega)).w (by omega) (by omega)).w (by omega) (by omega)))
  rw [fR_w (i := 107 + (24 * p + k)) (by omega), fR_w (i := 11 + (24 * p + k)) (by omega), fR_w (i := 2) (by omega)]
  unfold writeF
  congr 1
  rw [show (204 : Nat) = 202 + 2 from rfl, fR_0, fR_w (i := 11 + (24 * p + k)) (by omega), upd_n _ _ (by omega), fR_w (i := 2) rfl, upd_s]
  rfl
end
