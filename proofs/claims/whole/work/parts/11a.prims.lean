-- ===== reading: what is asked of a token =====
/-- a token and the place behind it -/
abbrev zPs : Type := zTk × Nat
abbrev zFt : Type := Nat × Nat
def nx (tx : Nat → Nat) (n most : Nat) (s : zPs) : zPs := nextT tx n most s.2
/-- the word that may be no name, if it is one; the name, if it is one -/
def wdS (s : zPs) : Option Nat := if s.1.1 = 2 then wix s.1.2.2.1 else none
def nmS (s : zPs) : Option (List Nat) := if s.1.1 = 2 ∧ wix s.1.2.2.1 = none then some s.1.2.2.1 else none
def plS (s : zPs) : Nat := s.1.2.1
def sgS (s : zPs) (c : Nat) : Bool := decide (s.1.1 = 4 ∧ s.1.2.2.2 = c)
def numP (lo hi : Nat) (s : zPs) : Sum zFt Nat := if s.1.1 = 3 then (if lo ≤ s.1.2.2.2 ∧ s.1.2.2.2 ≤ hi then .inr s.1.2.2.2 else .inl (2, plS s)) else .inl (1, plS s)
def ixN (names : List (List Nat)) (l : List Nat) : Option Nat := (List.range names.length).find? (fun i => decide (names.getD i [] = l))
def namP (names : List (List Nat)) (s : zPs) : Sum zFt Nat := match nmS s with
  | some l => (match ixN names l with
    | some i => .inr i
    | none => .inl (3, plS s))
  | none => .inl (1, plS s)
def TC (M : zMem) (tx : Nat → Nat) (n most : Nat) (s : zPs) : Prop := RdC M tx n most s.2 ∧ TkC M n most s.1
/-- the model's; behind the end nothing is asked of the place -/
def TR (M : zMem) (tx : Nat → Nat) (n most : Nat) (s : zPs) : Prop := ((∃ b, RdR M tx n most b ∧ (2 ≤ s.1.1 → b = s.2)) ∧ M.1 229 10 = 0) ∧ TkR M s.1
theorem okS_next (tx : Nat → Nat) (n most a : Nat) : (2 ≤ (nextT tx n most a).1.1 → a ≤ (nextT tx n most a).1.2.1 ∧ (nextT tx n most a).1.2.1 < (nextT tx n most a).2) := by
  have h1 := far_ge isW tx (min n most - a) a
  unfold nextT
  generalize far isW tx (min n most - a) a = b at h1
  simp only []
  split
  · intro h
    have h : 2 ≤ (if n ≤ most then 0 else 1) := h
    split at h <;> omega
  · split
    · rename_i hA
      intro _
      have h2 := far_ge isA tx (n - b) b
      have h3 : b < far isA tx (n - b) b := by
        rename_i hlt
        obtain ⟨c, hc⟩ : ∃ c, n - b = c + 1 := ⟨n - b - 1, by omega⟩
        rw [hc, far_s hA]
        have := far_ge isA tx c (b + 1)
        omega
      have e : (runT b (seg tx b (far isA tx (n - b) b))).2.1 = b := by
        unfold runT
        split
        · rfl
        · split <;> rfl
      show a ≤ (runT b (seg tx b (far isA tx (n - b) b))).2.1 ∧ (runT b (seg tx b (far isA tx (n - b) b))).2.1 < far isA tx (n - b) b
      rw [e]
      omega
    · split
      · intro _
        show a ≤ b ∧ b < b + 1
        omega
      · intro h
        have h : 2 ≤ 1 := h
        omega
section
variable {d n most : Nat} {M : zMem} {tx : Nat → Nat} {s : zPs}
theorem e_X6_next {Q : zMem → Prop} (hT : TC M tx n most s) (h : ∀ M2, NxC M M2 → TC M2 tx n most (nx tx n most s) → Q M2) : S_X6_next (d + 2) M (zU Q) :=
  c_X6_next hT.1 (fun M2 h1 h2 h3 => h M2 h1 ⟨h2, h3⟩)
theorem e_X12_go {Q : zMem → Prop} (hT : TR M tx n most s) (h2 : 2 ≤ s.1.1) (h : ∀ M2, NxR M M2 → TR M2 tx n most (nx tx n most s) → Q M2) : S_X12_go (d + 1) M (zU Q) := by
  obtain ⟨⟨⟨b, hR, hb⟩, h10⟩, hk⟩ := hT
  rw [hb h2] at hR
  exact c_X12_go hR (fun M2 b h1 h2 h3 h4 => h M2 h1 ⟨⟨⟨b, h2, h3⟩, (h1.2 10 (by omega)).trans h10⟩, h4⟩)
/-- a fault noted -/
def FlC (M M2 : zMem) : Prop := Same (fun z => z = 220) M M2 ∧ ∀ j, j ≠ 11 → j ≠ 12 → M2.1 220 j = M.1 220 j
theorem c_X6_fail {Q : Bool → zMem → Prop} {k : Int32} (h : ∀ M2, M2.1 220 11 = k → M2.1 220 12 = M.1 220 5 → FlC M M2 → Q false M2) : S_X6_fail d k M (zB Q) := by
  refine t_X6_fail ?_
  rintro M1 rfl M2 rfl
  refine zbf (h _ ?_ ?_ ⟨((Same.refl (fun z => z = 220) M).wI rfl).wI rfl, fun j h1 h2 => ?_⟩)
  · rw [wI_1, if_neg (by omega), wI_1, if_pos ⟨rfl, rfl⟩]
  · rw [wI_1, if_pos ⟨rfl, rfl⟩, wI_1, if_neg (by omega)]
  · rw [wI_1, if_neg (by omega), wI_1, if_neg (by omega)]
/-- the class's fault is this one -/
def ftC (M2 : zMem) (f : zFt) : Prop := M2.1 220 11 = nI f.1 ∧ M2.1 220 12 = nI f.2
theorem e_X6_fail {Q : Bool → zMem → Prop} {k : Nat} (hT : TC M tx n most s) (h : ∀ M2, ftC M2 (k, plS s) → FlC M M2 → Q false M2) : S_X6_fail d (nI k) M (zB Q) :=
  c_X6_fail (fun M2 h1 h2 h3 => h M2 ⟨h1, h2.trans hT.2.1⟩ h3)
theorem TkC_4 (h : TkC M n most s.1) : (M.1 220 4 = 4 ↔ s.1.1 = 3) ∧ (M.1 220 4 = 3 ↔ (s.1.1 = 2 ∧ wix s.1.2.2.1 = none)) := by
  obtain ⟨-, -, h4, k0, k1, k2, k3, k4⟩ := h
  have n3 : ∀ x : Nat, x < 10 → ∀ y : Nat, y < 10 → (nI x = nI y ↔ x = y) := fun x hx y hy => nI_eq (by omega) (by omega)
  rcases (show s.1.1 = 0 ∨ s.1.1 = 1 ∨ s.1.1 = 2 ∨ s.1.1 = 3 ∨ s.1.1 = 4 by omega) with e | e | e | e | e
  · rw [(k0 e).1.1, e]
    exact ⟨⟨fun q => absurd q (by decide), fun q => absurd q (by decide)⟩, ⟨fun q => absurd q (by decide), fun q => absurd q.1 (by decide)⟩⟩
  · rw [e]
    rcases (k1 e).1 with q | q
    · rw [q.1]
      exact ⟨⟨fun q => absurd q (by decide), fun q => absurd q (by decide)⟩, ⟨fun q => absurd q (by decide), fun q => absurd q.1 (by decide)⟩⟩
    · rw [q]
      exact ⟨⟨fun q => absurd q (by decide), fun q => absurd q (by decide)⟩, ⟨fun q => absurd q (by decide), fun q => absurd q.1 (by decide)⟩⟩
  · have h2 := (k2 e).2.2.2
    cases hw : wix s.1.2.2.1 with
    | some i =>
      rw [hw] at h2
      rw [h2.1, e]
      exact ⟨⟨fun q => absurd q (by decide), fun q => absurd q (by decide)⟩, ⟨fun q => absurd q (by decide), fun q => by cases q.2⟩⟩
    | none =>
      rw [hw] at h2
      rw [h2.1, e]
      exact ⟨⟨fun q => absurd q (by decide), fun q => absurd q (by decide)⟩, ⟨fun _ => ⟨rfl, rfl⟩, fun _ => rfl⟩⟩
  · rw [(k3 e).1, e]
    exact ⟨⟨fun _ => rfl, fun _ => rfl⟩, ⟨fun q => absurd q (by decide), fun q => absurd q.1 (by decide)⟩⟩
  · rw [(k4 e).1, e]
    exact ⟨⟨fun q => absurd q (by decide), fun q => absurd q (by decide)⟩, ⟨fun q => absurd q (by decide), fun q => absurd q.1 (by decide)⟩⟩
/-- the class's word at hand -/
theorem TkC_6 (h : TkC M n most s.1) : M.1 220 6 = upI (wdS s) := by
  obtain ⟨-, -, h4, k0, k1, k2, k3, k4⟩ := h
  unfold wdS
  rcases (show s.1.1 = 0 ∨ s.1.1 = 1 ∨ s.1.1 = 2 ∨ s.1.1 = 3 ∨ s.1.1 = 4 by omega) with e | e | e | e | e
  · rw [(k0 e).2.1, if_neg (by omega)]; rfl
  · rw [(k1 e).2.1, if_neg (by omega)]; rfl
  · have h2 := (k2 e).2.2.2
    rw [if_pos e]
    cases hw : wix s.1.2.2.1 with
    | some i => rw [hw] at h2; exact h2.2
    | none => rw [hw] at h2; exact h2.2
  · rw [(k3 e).2.1, if_neg (by omega)]; rfl
  · rw [(k4 e).2.1, if_neg (by omega)]; rfl
theorem TkC_9 (h : TkC M n most s.1) {c : Nat} (hc : 0 < c) (h256 : c < 256) : M.1 220 9 = nI c ↔ sgS s c = true := by
  obtain ⟨-, -, h4, k0, k1, k2, k3, k4⟩ := h
  unfold sgS
  rw [decide_eq_true_iff]
  have hc0 : ¬ (0 : Int32) = nI c := fun q => nI_ne0 hc (by omega) q.symm
  rcases (show s.1.1 = 0 ∨ s.1.1 = 1 ∨ s.1.1 = 2 ∨ s.1.1 = 3 ∨ s.1.1 = 4 by omega) with e | e | e | e | e
  · rw [(k0 e).2.2]; exact ⟨fun q => absurd q hc0, fun q => by omega⟩
  · rw [(k1 e).2.2]; exact ⟨fun q => absurd q hc0, fun q => by omega⟩
  · rw [(k2 e).2.2.1]; exact ⟨fun q => absurd q hc0, fun q => by omega⟩
  · rw [(k3 e).2.2.1]; exact ⟨fun q => absurd q hc0, fun q => by omega⟩
  · have := isS_lt (k4 e).2.2.2
    rw [(k4 e).2.2.1, nI_eq (by omega) (by omega)]
    exact ⟨fun q => ⟨e, q⟩, fun q => q.2⟩
theorem e_X6_passLineEnd {Q : Bool → zMem → Prop} {k : Nat} (hT : TC M tx n most s) (hk : M.1 220 10 = nI k) (hf : sgS s 59 = false → ∀ M2, ftC M2 (1, plS s) → FlC M M2 → Q false M2)
    (hs : sgS s 59 = true → ∀ M2, TC M2 tx n most (nx tx n most s) → M2.1 220 10 = nI (k + 1) → M2.1 220 11 = M.1 220 11 → Same (fun z => z = 220) M M2 → Q true M2) : S_X6_passLineEnd (d + 3) M (zB Q) := by
  refine t_X6_passLineEnd ⟨fun e => ?_, fun e => e_X6_fail (k := 1) hT (fun M2 h1 h2 => zbr (hf ?_ M2 h1 h2))⟩
  · have e2 := (TkC_9 (c := 59) hT.2 (by omega) (by omega)).mp e
    rintro M1 rfl
    have S1 : Same (fun z => z = 220) M (wI M 220 10 (M.1 220 10 + 1)) := (Same.refl _ M).wI rfl
    have hT1 : TC (wI M 220 10 (M.1 220 10 + 1)) tx n most s := by
      refine ⟨RdC_w hT.1 (S1.1 1 (by omega)) (by rw [wI_1, if_neg (by omega)]) (by rw [wI_1, if_neg (by omega)]) (by rw [wI_1, if_neg (by omega)]; exact hT.1.2.2.2.2.2.1) hT.1.2.2.2.2.2.2, ?_⟩
      have := hT.2
      unfold TkC at this ⊢
      rw [wI_2, wI_1, if_neg (by omega), wI_1, if_neg (by omega), wI_1, if_neg (by omega), wI_1, if_neg (by omega), wI_1, if_neg (by omega)]
      exact this
    refine e_X6_next hT1 (fun M2 h1 h2 => zbt (hs e2 M2 h2 ?_ ?_ (S1.trans h1.1)))
    · rw [h1.2 10 (by omega), wI_1, if_pos ⟨rfl, rfl⟩, hk, nI_1]
    · rw [h1.2 11 (by omega), wI_1, if_neg (by omega)]
  · cases q : sgS s 59 with
    | false => rfl
    | true => exact absurd ((TkC_9 (c := 59) hT.2 (by omega) (by omega)).mpr q) e
theorem e_X6_passSign {Q : Bool → zMem → Prop} {c : Nat} (hc : 0 < c) (h256 : c < 256) (hT : TC M tx n most s) (hf : sgS s c = false → ∀ M2, ftC M2 (1, plS s) → FlC M M2 → Q false M2)
    (hs : sgS s c = true → ∀ M2, TC M2 tx n most (nx tx n most s) → NxC M M2 → Q true M2) : S_X6_passSign (d + 3) (nI c) M (zB Q) := by
  refine t_X6_passSign ⟨fun e => ?_, fun e => e_X6_fail (k := 1) hT (fun M2 h1 h2 => zbr (hf ?_ M2 h1 h2))⟩
  · have e2 := (TkC_9 hT.2 hc h256).mp e
    exact e_X6_next hT (fun M2 h1 h2 => zbt (hs e2 M2 h2 h1))
  · cases q : sgS s c with
    | false => rfl
    | true => exact absurd ((TkC_9 hT.2 hc h256).mpr q) e
theorem e_X6_seeNumber {Q : Int32 → zMem → Prop} {lo hi : Nat} (hlo : lo < 1000) (hhi : hi < 1000) (hT : TC M tx n most s) (hf : ∀ f, numP lo hi s = .inl f → ∀ M2, ftC M2 f → FlC M M2 → Q (-1) M2)
    (hs : ∀ v, numP lo hi s = .inr v → v < 1000 → Q (nI v) M) : S_X6_seeNumber (d + 1) (nI lo) (nI hi) M (zI Q) := by
  have h4 := (TkC_4 hT.2).1
  refine t_X6_seeNumber ⟨fun e => ?_, fun e => e_X6_fail (k := 1) hT (fun M2 h1 h2 => zii (hf _ ?_ M2 h1 h2))⟩
  · have e3 := h4.mp e
    obtain ⟨-, -, -, h8, hv⟩ := hT.2.2.2.2.2.2.2.1 e3
    rw [h8, nI_ltI (by omega) (by omega), nI_leI (by omega) (by omega)]
    refine ⟨fun q => e_X6_fail (k := 2) hT (fun M2 h1 h2 => zii (hf _ ?_ M2 h1 h2)), fun q => ⟨fun q2 => zii (hs _ ?_ hv), fun q2 => e_X6_fail (k := 2) hT (fun M2 h1 h2 => zii (hf _ ?_ M2 h1 h2))⟩⟩
    · unfold numP; rw [if_pos e3, if_neg (by omega)]
    · unfold numP; rw [if_pos e3, if_pos (by omega)]
    · unfold numP; rw [if_pos e3, if_neg (by omega)]
  · unfold numP; rw [if_neg (fun q => e (h4.mpr q))]
/-- a search among numbers -/
def ixW (f : Nat → Int64) (m : Nat) (w : Int64) : Option Nat := (List.range m).find? (fun i => decide (f i = w))
theorem find_step {p : Nat → Bool} : ∀ (c i : Nat) (r : Option Nat), (∀ j, j < i → p j = false) → (List.range (i + c)).find? p = r → (c = 0 → r = none) ∧ (0 < c → p i = true → r = some i) := by
  intro c i r hp hr
  refine ⟨fun e => ?_, fun hc hi => ?_⟩
  · subst e
    rw [← hr, List.find?_eq_none]
    intro j hj
    rw [hp j (List.mem_range.mp hj)]; decide
  · rw [← hr]
    have : List.range (i + c) = List.range i ++ (i :: (List.range' (i + 1) (c - 1))) := by
      rw [List.range_eq_range', List.range_eq_range', show c = (c - 1) + 1 by omega, ← List.range'_append_1, List.range'_succ]
      simp
    rw [this, List.find?_append, List.find?_eq_none.mpr (fun j hj => by rw [hp j (List.mem_range.mp hj)]; decide)]
    simp [hi]
theorem c_X5_indexOf {Q : Int32 → zMem → Prop} {b m : Nat} {w : Int64} (hb : zc b = 101 ∧ b < zN) (hm : m ≤ zl b) (hz : zl b < 2 ^ 30) (h : Q (upI (ixW (M.2 b) m w)) M) : S_X5_indexOf d b (nI m) w M (zI Q) := by
  refine t_X5_indexOf hb ?_
  have key : ∀ (c i : Nat), i + c = m → (∀ j, j < i → decide (M.2 b j = w) = false) → S_X5_indexOf_3 d b (nI m) w (nI i) M (zI Q) := by
    intro c
    induction c with
    | zero =>
      intro i hi hj
      have e := (find_step 0 i _ hj rfl).1 rfl
      have e2 : ixW (M.2 b) m w = none := by unfold ixW; rw [← hi]; exact e
      rw [e2] at h
      exact t_X5_indexOf_3 hb ⟨fun _ => zii h, fun q => absurd (nI_le (by omega) (by omega)) q⟩
    | succ c ih =>
      intro i hi hj
      refine t_X5_indexOf_3 hb ⟨fun q => absurd q (nI_ge (by omega) (by omega)), fun _ => ⟨fun q => absurd q (nI_ge (by omega) (by omega)), fun _ => ⟨nIin (by omega) (by omega), ?_⟩⟩⟩
      rw [nI_clamp (by omega), lg_cmp_eq, nI_1]
      refine ⟨fun q => ih (i + 1) (by omega) (fun j hj2 => ?_), fun q => zii ?_⟩
      · rcases Nat.lt_or_ge j i with w | w
        · exact hj j w
        · rw [show j = i by omega]; exact decide_eq_false q
      · have e := (find_step (c + 1) i _ hj rfl).2 (by omega) (decide_eq_true q)
        have e2 : ixW (M.2 b) m w = some i := by unfold ixW; rw [← hi]; exact e
        rw [e2] at h
        exact h
  exact key m 0 (by omega) (fun j hj => by omega)
theorem c_X12_findIn {Q : Int32 → zMem → Prop} {b o m : Nat} {w : Int64} (hb : zc b = 101 ∧ b < zN) (hm : o + m ≤ zl b) (hz : zl b < 2 ^ 30) (h : Q (upI (ixW (fun i => M.2 b (o + i)) m w)) M) : S_X12_findIn d b (nI o) (nI m) w M (zI Q) := by
  refine t_X12_findIn hb ?_
  have key : ∀ (c i : Nat), i + c = m → (∀ j, j < i → decide (M.2 b (o + j) = w) = false) → S_X12_findIn_3 d b (nI o) (nI m) w (nI i) M (zI Q) := by
    intro c
    induction c with
    | zero =>
      intro i hi hj
      have e := (find_step 0 i _ hj rfl).1 rfl
      have e2 : ixW (fun i => M.2 b (o + i)) m w = none := by unfold ixW; rw [← hi]; exact e
      rw [e2] at h
      exact t_X12_findIn_3 hb ⟨fun _ => zii h, fun q => absurd (nI_le (by omega) (by omega)) q⟩
    | succ c ih =>
      intro i hi hj
      refine t_X12_findIn_3 hb ⟨fun q => absurd q (nI_ge (by omega) (by omega)), fun _ => ?_⟩
      rw [nI_add]
      refine ⟨nIin (by omega) (by omega), ?_⟩
      rw [nI_clamp (by omega), lg_cmp_eq, nI_1]
      refine ⟨fun q => ih (i + 1) (by omega) (fun j hj2 => ?_), fun q => zii ?_⟩
      · rcases Nat.lt_or_ge j i with w | w
        · exact hj j w
        · rw [show j = i by omega]; exact decide_eq_false q
      · have e := (find_step (c + 1) i _ hj rfl).2 (by omega) (decide_eq_true q)
        have e2 : ixW (fun i => M.2 b (o + i)) m w = some i := by unfold ixW; rw [← hi]; exact e
        rw [e2] at h
        exact h
  exact key m 0 (by omega) (fun j hj => by omega)
theorem ixW_names {f : Nat → Int64} {g : List Nat → Nat} {names : List (List Nat)} {l : List Nat} (hg : ∀ a b, wdOK a → wdOK b → (g a = g b → a = b)) (hlt : ∀ a, wdOK a → g a < 2 ^ 60) (hn : ∀ x ∈ names, wdOK x) (hl : wdOK l) (hf : ∀ i, i < names.length → f i = lN (g (names.getD i []))) : ixW f names.length (lN (g l)) = ixN names l := by
  unfold ixW ixN
  have key : ∀ L : List Nat, (∀ i ∈ L, i < names.length) → L.find? (fun i => decide (f i = lN (g l))) = L.find? (fun i => decide (names.getD i [] = l)) := by
    intro L
    induction L with
    | nil => intro _; rfl
    | cons i L ih =>
      intro hL
      have hi := hL i List.mem_cons_self
      have hw : wdOK (names.getD i []) := by
        rw [List.getD_eq_getElem?_getD, List.getElem?_eq_getElem hi]
        exact hn _ (List.getElem_mem hi)
      have e : decide (f i = lN (g l)) = decide (names.getD i [] = l) := by
        refine decide_eq_decide.mpr ?_
        have h1 := hlt _ hw
        have h2 := hlt _ hl
        rw [hf i hi, pk_lEQ (by omega) (by omega)]
        exact ⟨fun q => hg _ _ hw hl q, fun q => by rw [q]⟩
      rw [List.find?_cons, List.find?_cons, e, ih (fun j hj => hL j (List.mem_cons_of_mem _ hj))]
  exact key _ (fun i hi => List.mem_range.mp hi)
theorem b27_60 {a : List Nat} (h : wdOK a) : b27 a < 2 ^ 60 := by
  have := b27_9 h.2.1 h.2.2
  omega
theorem pk7_60 {a : List Nat} (h : wdOK a) : pk7 a < 2 ^ 60 := by
  have := pk7_lt h
  omega
theorem ixN_lt {names : List (List Nat)} {l : List Nat} {i : Nat} (h : ixN names l = some i) : i < names.length ∧ names.getD i [] = l := by
  have a1 := List.mem_of_find?_eq_some h
  have a2 := List.find?_some h
  exact ⟨List.mem_range.mp a1, of_decide_eq_true a2⟩
/-- names at hand in a row of the class -/
def nmsC (M : zMem) (b : Nat) (names : List (List Nat)) : Prop := (∀ x ∈ names, wdOK x) ∧ ∀ i, i < names.length → M.2 b i = lN (pk7 (names.getD i []))
theorem e_X6_see {Q : Int32 → zMem → Prop} {b : Nat} {names : List (List Nat)} (hb : zc b = 101 ∧ b < zN) (hm : names.length ≤ zl b) (hz : zl b < 2 ^ 30) (hn : nmsC M b names) (hT : TC M tx n most s) (hf : ∀ f, namP names s = .inl f → ∀ M2, ftC M2 f → FlC M M2 → Q (-1) M2)
    (hs : ∀ v, namP names s = .inr v → v < names.length → Q (nI v) M) : S_X5_indexOf d b (nI names.length) (M.2 220 7) M (zI (fun r21 M22 => zI (fun r21 M22 => S_X6_seen (d + 1) r21 M22 (zI (fun r23 M24 => zI Q (some (.int r23)) M24))) (some (.int r21)) M22)) := by
  refine c_X5_indexOf hb hm hz (zii ?_)
  have h4 := (TkC_4 hT.2).2
  refine t_X6_seen ⟨fun e => ?_, fun e => e_X6_fail (k := 1) hT (fun M2 h1 h2 => zii (zii (hf _ ?_ M2 h1 h2)))⟩
  · have e3 := h4.mp e
    obtain ⟨hw, h7, -, -⟩ := hT.2.2.2.2.2.2.1 e3.1
    have enm : nmS s = some s.1.2.2.1 := by unfold nmS; rw [if_pos e3]
    rw [h7, ixW_names (fun a b ha hb => pk7_inj ha hb) (fun a ha => pk7_60 ha) hn.1 hw hn.2]
    cases hx : ixN names s.1.2.2.1 with
    | none =>
      refine ⟨fun q => absurd rfl q, fun _ => e_X6_fail (k := 3) hT (fun M2 h1 h2 => zii (zii (hf _ ?_ M2 h1 h2)))⟩
      unfold namP; rw [enm]; simp only [hx]
    | some i =>
      have hlt := (ixN_lt hx).1
      have hm1 : ¬ nI i = -1 := by
        intro q0
        have := congrArg Int32.toInt q0
        rw [nI_toInt (by omega)] at this
        have h1 : (-1 : Int32).toInt = -1 := by decide
        omega
      refine ⟨fun _ => zii (zii (hs i ?_ hlt)), fun q => absurd q hm1⟩
      unfold namP; rw [enm]; simp only [hx]
  · unfold namP
    have : nmS s = none := by unfold nmS; rw [if_neg (fun q => e (h4.mpr q))]
    rw [this]
theorem e_X6_seePeer {Q : Int32 → zMem → Prop} {g : Nat} {names : List (List Nat)} (hg : g ∈ iX5) (hc : M.1 g 4 = nI names.length) (hm : names.length ≤ 4) (hn : nmsC M (g + 2) names) (hT : TC M tx n most s) (hf : ∀ f, namP names s = .inl f → ∀ M2, ftC M2 f → FlC M M2 → Q (-1) M2)
    (hs : ∀ v, namP names s = .inr v → v < names.length → Q (nI v) M) : S_X6_seePeer (d + 2) g M (zI Q) := by
  have hq := qX5_6 g hg
  refine t_X6_seePeer hg (t_X5_peerNamed hg ?_)
  rw [hc]
  have := e_X6_see (d := d) (Q := Q) hq.1 (by rw [hq.2]; exact hm) (by rw [hq.2]; decide) hn hT hf hs
  exact this
theorem e_X6_seeKey {Q : Int32 → zMem → Prop} {g : Nat} {names : List (List Nat)} (hg : g ∈ iX5) (hc : M.1 g 3 = nI names.length) (hm : names.length ≤ 24) (hn : nmsC M (g + 1) names) (hT : TC M tx n most s) (hf : ∀ f, namP names s = .inl f → ∀ M2, ftC M2 f → FlC M M2 → Q (-1) M2)
    (hs : ∀ v, namP names s = .inr v → v < names.length → Q (nI v) M) : S_X6_seeKey (d + 2) g M (zI Q) := by
  have hq := qX5_5 g hg
  refine t_X6_seeKey hg (t_X5_keyNamed hg ?_)
  rw [hc]
  have := e_X6_see (d := d) (Q := Q) hq.1 (by rw [hq.2]; exact hm) (by rw [hq.2]; decide) hn hT hf hs
  exact this
end
