-- ===== the invariant of a run of calls =====
/-- a SENTENCE: codes one behind the other, and nodes of the model's -/
def relS (m : Nat) : Nat → List Int32 → (Nat → Int32) → Nat → Prop
  | 0, _, _, _ => False
  | f + 1, cs, T, k => k < 60 ∧
    ((cs = [17] ∧ T (4 * k) = 67) ∨
     (∃ w p, (w = 18 ∨ w = 19) ∧ p < m ∧ cs = [nI (w + 65536 * p)] ∧ T (4 * k) = nI (50 + w) ∧ T (4 * k + 1) = nI p) ∨
     (∃ w r b, 20 ≤ w ∧ w ≤ 23 ∧ 60 ≤ r ∧ r ≤ 62 ∧ b ≤ 999 ∧ cs = [nI (w + 256 * r + 65536 * b)] ∧ T (4 * k) = nI (50 + w) ∧ T (4 * k + 2) = nI b ∧ T (4 * k + 3) = nI r) ∨
     (∃ cs1 x, cs = cs1 ++ [16] ∧ T (4 * k) = 1 ∧ T (4 * k + 1) = nI x ∧ relS m f cs1 T x) ∨
     (∃ cs1 cs2 x y, cs = cs1 ++ cs2 ++ [15] ∧ T (4 * k) = 2 ∧ T (4 * k + 1) = nI x ∧ T (4 * k + 2) = nI y ∧ relS m f cs1 T x ∧ relS m f cs2 T y) ∨
     (∃ cs1 cs2 x y, cs = cs1 ++ cs2 ++ [14] ∧ T (4 * k) = 3 ∧ T (4 * k + 1) = nI x ∧ T (4 * k + 2) = nI y ∧ relS m f cs1 T x ∧ relS m f cs2 T y))
/-- how many of the codes are said of a key -/
def lvS (cs : List Int32) : Nat := (cs.filter (fun c => decide (¬ c = 14 ∧ ¬ c = 15 ∧ ¬ c = 16))).length
/-- the class's codes (a row, how many, how many ONES), the model's row from HAS_SENTENCE on -/
def sayOK (m : Nat) (codes : Nat → Int32) (size ones : Int32) (R : Nat → Int32) : Prop :=
  (ones = 0 ∧ R 0 = 0) ∨ (¬ ones = 0 ∧ R 0 = 1 ∧ ∃ cs t, size = nI cs.length ∧ cs.length ≤ 60 ∧ lvS cs ≤ 20 ∧ (∀ i c, cs[i]? = some c → codes i = c) ∧ R 1 = nI t ∧ relS m 60 cs (fun j => R (2 + j)) t)
def tapeJ (M : zMem) : Prop := ∃ tx n, txOK tx n ∧ M.1 0 1 = nI n ∧ M.1 229 2 = nI n ∧ (∀ i, i < n → M.1 1 i &&& 255 = nI (tx i)) ∧ ∀ i, i < n → M.1 230 i = nI (tx i)
def fltJ (M : zMem) : Prop := M.1 0 16 = M.1 229 10 ∧ M.1 0 17 = M.1 229 27
def ofrJ (M : zMem) : Prop := ∃ k, k ≤ 24 ∧ M.1 0 13 = nI k ∧ M.1 229 44 = nI k ∧ ∀ i, i < k → M.1 227 i = M.1 256 i
def tagJ (M : zMem) : Prop := ∃ k, k ≤ 48 ∧ M.1 0 15 = nI k ∧ M.1 229 46 = nI k ∧ ∀ i, i < k → M.1 228 i &&& 255 = M.1 257 i
def refJ (M : zMem) : Prop := M.1 217 3 = M.1 229 49 ∧ ∀ w, w < 4 → M.1 219 w = M.1 259 w
def tldJ (M : zMem) : Prop := M.1 222 7 = M.1 229 54 ∧ M.1 222 8 = M.1 261 0 ∧ M.1 222 9 = M.1 261 1 ∧ M.1 222 10 = M.1 261 2 ∧ M.1 222 11 = M.1 261 3
def sayJ (M : zMem) (m : Nat) : Prop := sayOK m (M.1 16) (M.1 15 1) (M.1 15 2) (fun j => M.1 231 (405 + j))
/-- an image: the class's scene b, the model's rows from o on (numbers) and o2 on (names) -/
def kepJ (B : Nat) (M : zMem) (b o o2 : Nat) : Prop := ∃ N F, okN N ∧ nmC M (b + 1) N ∧ M.1 233 (o + 2) = nI (btN N) ∧ M.1 233 (o + 3) = nI (pgN N) ∧ M.1 233 (o + 4) = nI (ruN N) ∧ M.1 233 (o + 0) = nI (kyN N).length ∧ M.1 233 (o + 1) = nI (prN N).length ∧
  (∀ k, k < (kyN N).length → M.2 239 (o2 + k) = lN (b27 (kAt N k))) ∧ (∀ p, p < (prN N).length → M.2 239 (o2 + (24 + p)) = lN (b27 (pAt N p))) ∧
  cl F = F ∧ cl (fC M (b + 8)) = F ∧ (∀ j, j < 203 → M.1 233 (o + (202 + j)) = F j) ∧ bdG B (prN N).length F ∧ sayOK (prN N).length (M.1 (b + 14)) (M.1 (b + 13) 1) (M.1 (b + 13) 2) (fun j => M.1 233 (o + (405 + j)))
def imgJ (B : Nat) (M : zMem) : Prop := ∀ k, k < 2 → M.1 240 k = M.1 (33 + 15 * k) 3 ∧ (¬ M.1 (33 + 15 * k) 3 = 0 → kepJ B M (33 + 15 * k) (647 * k) (28 * k))
/-- all but what is so and what can be undone -/
def JO (B : Nat) (M : zMem) (N : zNm) : Prop := nmC M 3 N ∧ nmR M N ∧ sayJ M (prN N).length ∧ imgJ B M ∧ tapeJ M ∧ fltJ M ∧ ofrJ M ∧ tagJ M ∧ refJ M ∧ tldJ M
def JC (B : Nat) (M : zMem) (N : zNm) (F : Nat → Int32) : Prop := PC M 63 (plOf N) F ∧ PR M (plOf N) F ∧ bdG B (prN N).length F
def JU (B : Nat) (M : zMem) (N : zNm) (us : List (Nat → Int32)) : Prop := (∃ top, UC M us top) ∧ UR M us ∧ ∀ G ∈ us, cl G = G ∧ bdG B (prN N).length G
def J (B : Nat) (M : zMem) : Prop := ∃ N F us, okN N ∧ JC B M N F ∧ JU B M N us ∧ JO B M N
/-- what a call may change without touching any of JO -/
def SO (M M2 : zMem) : Prop := Same (fun z => (10 ≤ z ∧ z ≤ 14) ∨ (17 ≤ z ∧ z ≤ 31) ∨ (63 ≤ z ∧ z ≤ 218) ∨ (220 ≤ z ∧ z ≤ 226) ∨ z = 229 ∨ z = 231 ∨ z = 232 ∨ (234 ≤ z ∧ z ≤ 236) ∨ z = 238 ∨ z = 241 ∨ (246 ≤ z ∧ z ≤ 255) ∨ z = 258 ∨ z = 260 ∨ z = 262) M M2 ∧
  M2.1 217 3 = M.1 217 3 ∧ (∀ j, 7 ≤ j → M2.1 222 j = M.1 222 j) ∧ (∀ j, j = 2 ∨ j = 10 ∨ j = 27 ∨ j = 44 ∨ j = 46 ∨ j = 49 ∨ j = 54 → M2.1 229 j = M.1 229 j) ∧ ∀ j, j < 5 ∨ 405 ≤ j → M2.1 231 j = M.1 231 j
theorem SO.refl (M : zMem) : SO M M := ⟨Same.refl _ _, rfl, fun _ _ => rfl, fun _ _ => rfl, fun _ _ => rfl⟩
theorem SO.trans {M M2 M3 : zMem} (h : SO M M2) (h2 : SO M2 M3) : SO M M3 := ⟨h.1.trans h2.1, h2.2.1.trans h.2.1, fun j hj => (h2.2.2.1 j hj).trans (h.2.2.1 j hj), fun j hj => (h2.2.2.2.1 j hj).trans (h.2.2.2.1 j hj), fun j hj => (h2.2.2.2.2 j hj).trans (h.2.2.2.2 j hj)⟩
section
variable {B : Nat} {M M2 : zMem} {N : zNm} {F : Nat → Int32} {us : List (Nat → Int32)}
theorem nmC_same {g : Nat} (h : nmC M g N) (h1 : ∀ z, z = g ∨ (g + 3 ≤ z ∧ z ≤ g + 6) → M2.1 z = M.1 z) (h2 : ∀ z, z = g + 1 ∨ z = g + 2 → M2.2 z = M.2 z) : nmC M2 g N := by
  refine ⟨hdC_same h.1 (h1 g (by omega)) h2, fun k hk => ?_⟩
  rw [h1 (g + 3) (by omega), h1 (g + 4) (by omega), h1 (g + 5) (by omega), h1 (g + 6) (by omega)]
  exact h.2 k hk
theorem nmR_same (h : nmR M N) (h1 : ∀ j, j < 5 → M2.1 231 j = M.1 231 j) (h2 : M2.2 237 = M.2 237) (h3 : ∀ z, 242 ≤ z → z ≤ 245 → M2.1 z = M.1 z) : nmR M2 N := by
  refine ⟨hdR_same h.1 h1 h2, fun k hk => ?_⟩
  rw [h3 242 (by omega) (by omega), h3 243 (by omega) (by omega), h3 244 (by omega) (by omega), h3 245 (by omega) (by omega)]
  exact h.2 k hk
theorem JO_same (h : JO B M N) (hs : SO M M2) : JO B M2 N := by
  obtain ⟨a1, a2, a3, a4, a5, a6, a7, a8, a9, a10⟩ := h
  obtain ⟨s1, s2, s3, s4, s5⟩ := hs
  have r : ∀ z, ¬ ((10 ≤ z ∧ z ≤ 14) ∨ (17 ≤ z ∧ z ≤ 31) ∨ (63 ≤ z ∧ z ≤ 218) ∨ (220 ≤ z ∧ z ≤ 226) ∨ z = 229 ∨ z = 231 ∨ z = 232 ∨ (234 ≤ z ∧ z ≤ 236) ∨ z = 238 ∨ z = 241 ∨ (246 ≤ z ∧ z ≤ 255) ∨ z = 258 ∨ z = 260 ∨ z = 262) → M2.1 z = M.1 z := fun z hz => s1.1 z hz
  have l : ∀ z, ¬ ((10 ≤ z ∧ z ≤ 14) ∨ (17 ≤ z ∧ z ≤ 31) ∨ (63 ≤ z ∧ z ≤ 218) ∨ (220 ≤ z ∧ z ≤ 226) ∨ z = 229 ∨ z = 231 ∨ z = 232 ∨ (234 ≤ z ∧ z ≤ 236) ∨ z = 238 ∨ z = 241 ∨ (246 ≤ z ∧ z ≤ 255) ∨ z = 258 ∨ z = 260 ∨ z = 262) → M2.2 z = M.2 z := fun z hz => s1.2 z hz
  refine ⟨nmC_same a1 (fun z hz => r z (by omega)) (fun z hz => l z (by omega)), nmR_same a2 (fun j hj => s5 j (by omega)) (l 237 (by omega)) (fun z z1 z2 => r z (by omega)), ?_, fun k hk => ?_, ?_, ?_, ?_, ?_, ?_, ?_⟩
  · have e : (fun j => M2.1 231 (405 + j)) = (fun j => M.1 231 (405 + j)) := funext fun j => s5 _ (by omega)
    unfold sayJ at a3 ⊢
    rw [r 16 (by omega), r 15 (by omega), e]
    exact a3
  · have hk2 : 33 + 15 * k = 33 ∨ 33 + 15 * k = 48 := by omega
    obtain ⟨b1, b2⟩ := a4 k hk
    rw [r 240 (by omega), r (33 + 15 * k) (by omega)]
    refine ⟨b1, fun q => ?_⟩
    obtain ⟨N2, G, c1, c2, c3, c4, c5, c6, c7, c8, c9, c10, c11, c12, c13, c14⟩ := b2 q
    refine ⟨N2, G, c1, nmC_same c2 (fun z hz => r z (by omega)) (fun z hz => l z (by omega)), ?_⟩
    rw [r 233 (by omega), l 239 (by omega), fC_same (fun z z1 z2 => r z (by omega)), r (33 + 15 * k + 14) (by omega), r (33 + 15 * k + 13) (by omega)]
    exact ⟨c3, c4, c5, c6, c7, c8, c9, c10, c11, c12, c13, c14⟩
  · obtain ⟨tx, n, b1, b2, b3, b4, b5⟩ := a5
    exact ⟨tx, n, b1, by rw [r 0 (by omega)]; exact b2, by rw [s4 2 (by omega)]; exact b3, fun i hi => by rw [r 1 (by omega)]; exact b4 i hi, fun i hi => by rw [r 230 (by omega)]; exact b5 i hi⟩
  · unfold fltJ at a6 ⊢
    rw [r 0 (by omega), s4 10 (by omega), s4 27 (by omega)]
    exact a6
  · obtain ⟨k, b1, b2, b3, b4⟩ := a7
    exact ⟨k, b1, by rw [r 0 (by omega)]; exact b2, by rw [s4 44 (by omega)]; exact b3, fun i hi => by rw [r 227 (by omega), r 256 (by omega)]; exact b4 i hi⟩
  · obtain ⟨k, b1, b2, b3, b4⟩ := a8
    exact ⟨k, b1, by rw [r 0 (by omega)]; exact b2, by rw [s4 46 (by omega)]; exact b3, fun i hi => by rw [r 228 (by omega), r 257 (by omega)]; exact b4 i hi⟩
  · unfold refJ at a9 ⊢
    rw [s2, s4 49 (by omega), r 219 (by omega), r 259 (by omega)]
    exact a9
  · unfold tldJ at a10 ⊢
    rw [s3 7 (by omega), s3 8 (by omega), s3 9 (by omega), s3 10 (by omega), s3 11 (by omega), s4 54 (by omega), r 261 (by omega)]
    exact a10
theorem kepJ_mono {B2 b o o2 : Nat} (h : kepJ B M b o o2) (hB : B ≤ B2) : kepJ B2 M b o o2 := by
  obtain ⟨N2, G, c1, c2, c3, c4, c5, c6, c7, c8, c9, c10, c11, c12, c13, c14⟩ := h
  exact ⟨N2, G, c1, c2, c3, c4, c5, c6, c7, c8, c9, c10, c11, c12, bdG_mono c13 hB (Nat.le_refl _), c14⟩
theorem JO_mono {B2 : Nat} (h : JO B M N) (hB : B ≤ B2) : JO B2 M N := by
  obtain ⟨a1, a2, a3, a4, a5, a6, a7, a8, a9, a10⟩ := h
  exact ⟨a1, a2, a3, fun k hk => ⟨(a4 k hk).1, fun q => kepJ_mono ((a4 k hk).2 q) hB⟩, a5, a6, a7, a8, a9, a10⟩
theorem JC_mono {B2 : Nat} (h : JC B M N F) (hB : B ≤ B2) : JC B2 M N F := ⟨h.1, h.2.1, bdG_mono h.2.2 hB (Nat.le_refl _)⟩
theorem JU_mono {B2 : Nat} (h : JU B M N us) (hB : B ≤ B2) : JU B2 M N us := ⟨h.1, h.2.1, fun G hG => ⟨(h.2.2 G hG).1, bdG_mono (h.2.2 G hG).2 hB (Nat.le_refl _)⟩⟩
theorem J_mono {B2 : Nat} (h : J B M) (hB : B ≤ B2) : J B2 M := by
  obtain ⟨N, F, us, h0, h1, h2, h3⟩ := h
  exact ⟨N, F, us, h0, JC_mono h1 hB, JU_mono h2 hB, JO_mono h3 hB⟩
/-- a call that only reads: trials and rows to work in -/
def RO (M M2 : zMem) : Prop := Same (fun z => (17 ≤ z ∧ z ≤ 31) ∨ (113 ≤ z ∧ z ≤ 169) ∨ z = 217 ∨ z = 218 ∨ (220 ≤ z ∧ z ≤ 226) ∨ z = 229 ∨ z = 231 ∨ z = 232 ∨ z = 235 ∨ z = 236 ∨ z = 238 ∨ z = 241 ∨ (246 ≤ z ∧ z ≤ 255) ∨ z = 258 ∨ z = 260 ∨ z = 262) M M2 ∧
  M2.1 217 3 = M.1 217 3 ∧ (∀ j, 7 ≤ j → M2.1 222 j = M.1 222 j) ∧ (∀ j, j = 2 ∨ j = 10 ∨ j = 25 ∨ j = 27 ∨ j = 44 ∨ j = 46 ∨ j = 49 ∨ j = 54 → M2.1 229 j = M.1 229 j) ∧ ∀ j, j < 5 ∨ 202 ≤ j → M2.1 231 j = M.1 231 j
theorem RO.refl (M : zMem) : RO M M := ⟨Same.refl _ _, rfl, fun _ _ => rfl, fun _ _ => rfl, fun _ _ => rfl⟩
theorem RO.trans {M M2 M3 : zMem} (h : RO M M2) (h2 : RO M2 M3) : RO M M3 := ⟨h.1.trans h2.1, h2.2.1.trans h.2.1, fun j hj => (h2.2.2.1 j hj).trans (h.2.2.1 j hj), fun j hj => (h2.2.2.2.1 j hj).trans (h.2.2.2.1 j hj), fun j hj => (h2.2.2.2.2 j hj).trans (h.2.2.2.2 j hj)⟩
theorem RO.so {M M2 : zMem} (h : RO M M2) : SO M M2 := ⟨h.1.mono (fun i hi => by omega), h.2.1, h.2.2.1, fun j hj => h.2.2.2.1 j (by omega), fun j hj => h.2.2.2.2 j (by omega)⟩
theorem pT63 : pT 63 = 64 ∧ pF 63 = 10 ∧ pT 114 = 120 ∧ pF 114 = 115 := by decide
theorem inT63 {z : Nat} (h : inT 63 z) : (10 ≤ z ∧ z < 15) ∨ (64 < z ∧ z < 113) := by
  unfold inT at h
  rw [pT63.1, pT63.2.1] at h
  omega
theorem inB63 {z : Nat} (h : inB 63 z) : (10 ≤ z ∧ z < 15) ∨ (64 < z ∧ z ≤ 113) := by
  unfold inB at h
  rw [pT63.1, pT63.2.1] at h
  omega
theorem inB114 {z : Nat} (h : inB 114 z) : 115 ≤ z ∧ z ≤ 169 := by
  unfold inB at h
  rw [pT63.2.2.1, pT63.2.2.2] at h
  omega
theorem JC_same (h : JC B M N F) (h1 : ∀ z, z = 3 ∨ z = 6 ∨ z = 7 ∨ z = 8 ∨ (10 ≤ z ∧ z < 15) ∨ (64 < z ∧ z < 113) → M2.1 z = M.1 z) (h2 : ∀ j, j < 5 ∨ (202 ≤ j ∧ j < 405) → M2.1 231 j = M.1 231 j) (h3 : ∀ z, z = 242 ∨ z = 243 ∨ z = 244 → M2.1 z = M.1 z) : JC B M2 N F := by
  refine ⟨PC_same h.1 (fun z hz => h1 z ?_), ⟨h.2.1.1, plnR_same h.2.1.2.1 (fun j hj => h2 j (by omega)) h3, ?_⟩, h.2.2⟩
  · rcases hz with hz | hz
    · omega
    · have := inT63 hz; omega
  · rw [← h.2.1.2.2]
    exact cl_eq (fun j hj => h2 (202 + j) (by omega))
theorem JU_same (h : JU B M N us) (h1 : ∀ z, 170 ≤ z → z < 217 → M2.1 z = M.1 z) (h2 : M2.1 229 25 = M.1 229 25) (h3 : M2.1 234 = M.1 234) : JU B M2 N us := by
  obtain ⟨⟨top, ht⟩, hr, hb⟩ := h
  exact ⟨⟨top, UC_same ht h1⟩, UR_same hr h2 h3, hb⟩
theorem J_ro (h : J B M) (hs : RO M M2) : J B M2 := by
  obtain ⟨N, F, us, h0, h1, h2, h3⟩ := h
  exact ⟨N, F, us, h0, JC_same h1 (fun z hz => hs.1.1 z (by omega)) (fun j hj => hs.2.2.2.2 j (by omega)) (fun z hz => hs.1.1 z (by omega)), JU_same h2 (fun z z1 z2 => hs.1.1 z (by omega)) (hs.2.2.2.1 25 (by omega)) (hs.1.1 234 (by omega)), JO_same h3 hs.so⟩
end
theorem LayOnly.ro {M M2 : zMem} (h : LayOnly M M2) : RO M M2 := ⟨h.mono (fun i hi => by omega), by rw [h.1 217 (by omega)], fun j _ => by rw [h.1 222 (by omega)], fun j _ => by rw [h.1 229 (by omega)], fun j _ => by rw [h.1 231 (by omega)]⟩
theorem OffOnly.ro {M M2 : zMem} (h : OffOnly M M2) : RO M M2 := ⟨h.1.mono (fun i hi => by omega), by rw [h.1.1 217 (by omega)], fun j _ => by rw [h.1.1 222 (by omega)], fun j hj => h.2 j (by omega), fun j _ => by rw [h.1.1 231 (by omega)]⟩
theorem RO.w0 {M M2 : zMem} (h : RO M M2) {x : Int32} : RO M (wI M2 229 0 x) := h.trans ⟨(Same.refl _ M2).wI (by omega), by rw [wI_ne _ (by omega)], fun j _ => by rw [wI_ne _ (by omega)], fun j hj => by rw [wI_1, if_neg (by omega)], fun j _ => by rw [wI_ne _ (by omega)]⟩
theorem RO.trial {M M2 : zMem} (h : Same (inB 114) M M2) : RO M M2 := ⟨h.mono (fun i hi => by have := inB114 hi; omega), by rw [h.1 217 (fun q => by have := inB114 q; omega)], fun j _ => by rw [h.1 222 (fun q => by have := inB114 q; omega)], fun j _ => by rw [h.1 229 (fun q => by have := inB114 q; omega)], fun j _ => by rw [h.1 231 (fun q => by have := inB114 q; omega)]⟩
