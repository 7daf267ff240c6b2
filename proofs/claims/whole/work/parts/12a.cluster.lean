-- ===== a CLUSTER's text: what it tells =====
/-- told once; the plan so far; the facts so far -/
abbrev zCl : Type := (Bool × Bool × Bool) × zNm × (Nat → Int32)
def oneP (w : Nat) (o : Bool × Bool × Bool) : Bool := if w = 0 then o.1 else if w = 1 then o.2.1 else o.2.2
def oneS (w : Nat) (o : Bool × Bool × Bool) : Bool × Bool × Bool := if w = 0 then (true, o.2.1, o.2.2) else if w = 1 then (o.1, true, o.2.2) else (o.1, o.2.1, true)
section
variable (tx : Nat → Nat) (n most : Nat)
def setP (w : Nat) (c : zCl) (s : zPs) : Sum zFt (zCl × zPs) :=
  if oneP w c.1 = true ∨ kyN c.2.1 ≠ [] then .inl (3, plS s)
  else match numP 1 (if w = 0 then 4 else 12) (nx tx n most s) with
    | .inl f => .inl f
    | .inr v => .inr ((oneS w c.1, (if w = 0 then (v, pgN c.2.1, ruN c.2.1, kyN c.2.1, prN c.2.1) else (btN c.2.1, v, ruN c.2.1, kyN c.2.1, prN c.2.1)), c.2.2), nx tx n most (nx tx n most s))
def rulP (c : zCl) (s : zPs) : Sum zFt (zCl × zPs) :=
  if oneP 2 c.1 = true ∨ kyN c.2.1 ≠ [] then .inl (3, plS s)
  else match wdS (nx tx n most s) with
    | some w => if 3 ≤ w ∧ w ≤ 5 then .inr ((oneS 2 c.1, (btN c.2.1, pgN c.2.1, w - 3, kyN c.2.1, prN c.2.1), c.2.2), nx tx n most (nx tx n most s)) else .inl (1, plS (nx tx n most s))
    | none => .inl (1, plS (nx tx n most s))
/-- a new name -/
def newP (c : zCl) (s : zPs) : Sum zFt (List Nat) := match nmS s with
  | none => .inl (1, plS s)
  | some l => if ixN (kyN c.2.1) l = none ∧ ixN (prN c.2.1) l = none then .inr l else .inl (3, plS s)
def keyP (c : zCl) (s : zPs) : Sum zFt (zCl × zPs) :=
  if 24 ≤ (kyN c.2.1).length then .inl (4, plS s)
  else match newP c (nx tx n most s) with
    | .inl f => .inl f
    | .inr l => .inr ((c.1, (btN c.2.1, pgN c.2.1, ruN c.2.1, kyN c.2.1 ++ [l], prN c.2.1), c.2.2), nx tx n most (nx tx n most s))
def perP (c : zCl) (s : zPs) : Sum zFt (zCl × zPs) :=
  if 4 ≤ (prN c.2.1).length then .inl (4, plS s)
  else match newP c (nx tx n most s) with
    | .inl f => .inl f
    | .inr l => .inr ((c.1, (btN c.2.1, pgN c.2.1, ruN c.2.1, kyN c.2.1, prN c.2.1 ++ [l]), c.2.2), nx tx n most (nx tx n most s))
def hasP (c : zCl) (s : zPs) : Sum zFt (zCl × zPs) := match namP (prN c.2.1) (nx tx n most s) with
  | .inl f => .inl f
  | .inr p => match namP (kyN c.2.1) (nx tx n most (nx tx n most s)) with
    | .inl f => .inl f
    | .inr k => if hasF c.2.2 p k = true then .inl (3, plS (nx tx n most (nx tx n most s)))
      else match numP 0 999 (nx tx n most (nx tx n most (nx tx n most s))) with
        | .inl f => .inl f
        | .inr v => .inr ((c.1, c.2.1, writeF c.2.2 p k (nI v)), nx tx n most (nx tx n most (nx tx n most (nx tx n most s))))
def cutP (c : zCl) (s : zPs) : Sum zFt (zCl × zPs) := match namP (prN c.2.1) (nx tx n most s) with
  | .inl f => .inl f
  | .inr p => match namP (prN c.2.1) (nx tx n most (nx tx n most s)) with
    | .inl f => .inl f
    | .inr q => if p = q ∨ cutB c.2.2 p q = true then .inl (3, plS (nx tx n most (nx tx n most s)))
      else .inr ((c.1, c.2.1, turnF c.2.2 p q), nx tx n most (nx tx n most (nx tx n most s)))
def lneP (c : zCl) (s : zPs) : Sum zFt (zCl × zPs) :=
  if wdS s = some 0 then setP tx n most 0 c s else if wdS s = some 1 then setP tx n most 1 c s else if wdS s = some 2 then rulP tx n most c s
  else if wdS s = some 6 then keyP tx n most c s else if wdS s = some 7 then perP tx n most c s else if wdS s = some 8 then hasP tx n most c s else if wdS s = some 9 then cutP tx n most c s else .inl (1, plS s)
/-- a line with its end -/
def linP (c : zCl) (s : zPs) : Sum zFt (zCl × zPs) := match lneP tx n most c s with
  | .inl f => .inl f
  | .inr r => if sgS r.2 59 = true then .inr (r.1, nx tx n most r.2) else .inl (1, plS r.2)
/-- all lines: a fault with its line, or how many there are and what they tell -/
def linsP : Nat → Nat → zCl → zPs → Sum (zFt × Nat) (zCl × Nat)
  | 0, i, _, s => .inl ((1, plS s), i)
  | f + 1, i, c, s => if s.1.1 = 0 then .inr (c, i) else match linP tx n most c s with
    | .inl e => .inl (e, i)
    | .inr r => linsP f (i + 1) r.1 r.2
end
/-- the facts told by texts and deeds: B stamps at most, cuts of m peers, on both sides -/
def bdG (B m : Nat) (F : Nat → Int32) : Prop := (∃ g, g ≤ B ∧ F 2 = nI g) ∧ (∀ i, i < 96 → (-1 ≤ (F (11 + i)).toInt ∧ (F (11 + i)).toInt ≤ 999) ∧ ∃ t, t ≤ B ∧ F (107 + i) = nI t) ∧ (∀ p, p < 4 → ∀ q, m ≤ q → bt (F (3 + p)) q = false) ∧ ∀ p q, p < 4 → q < 4 → cutB F p q = cutB F q p
theorem bdG_bdF {B m : Nat} {F : Nat → Int32} (h : bdG B m F) (hB : B ≤ 1000000000) : bdF F := by
  intro i hi
  obtain ⟨h1, t, h2, h3⟩ := h.2.1 i hi
  refine ⟨h1, ?_⟩
  rw [h3, nI_toInt (by omega)]
  omega
theorem bdG_mono {B B2 m m2 : Nat} {F : Nat → Int32} (h : bdG B m F) (hB : B ≤ B2) (hm : m ≤ m2) : bdG B2 m2 F := by
  obtain ⟨⟨g, g1, g2⟩, h2, h3, h4⟩ := h
  refine ⟨⟨g, by omega, g2⟩, fun i hi => ⟨(h2 i hi).1, ?_⟩, fun p hp q hq => h3 p hp q (by omega), h4⟩
  obtain ⟨t, t1, t2⟩ := (h2 i hi).2
  exact ⟨t, by omega, t2⟩
theorem bdG_write {B m : Nat} {F : Nat → Int32} {p k : Nat} {v : Int32} (h : bdG B m F) (hp : p < 4) (hk : k < 24) (hv : -1 ≤ v.toInt ∧ v.toInt ≤ 999) : bdG (B + 1) m (writeF F p k v) := by
  obtain ⟨⟨g, g1, g2⟩, h2, h3, h4⟩ := h
  have hw : ∀ j, j ≠ 2 → j ≠ 11 + (24 * p + k) → j ≠ 107 + (24 * p + k) → writeF F p k v j = F j := fun j a b c => by unfold writeF; rw [upd_n _ _ c, upd_n _ _ b, upd_n _ _ a]
  refine ⟨⟨g + 1, by omega, ?_⟩, fun i hi => ⟨?_, ?_⟩, fun a ha q hq => ?_, fun a b ha hb => ?_⟩
  · unfold writeF; rw [upd_n _ _ (by omega), upd_n _ _ (by omega), upd_s, g2, nI_1]
  · by_cases e : i = 24 * p + k
    · unfold writeF; rw [upd_n _ _ (by omega), e, upd_s]; exact hv
    · rw [hw _ (by omega) (by omega) (by omega)]; exact (h2 i hi).1
  · by_cases e : i = 24 * p + k
    · exact ⟨g + 1, by omega, by unfold writeF; rw [e, upd_s, g2, nI_1]⟩
    · obtain ⟨t, t1, t2⟩ := (h2 i hi).2
      exact ⟨t, by omega, by rw [hw _ (by omega) (by omega) (by omega)]; exact t2⟩
  · rw [hw _ (by omega) (by omega) (by omega)]; exact h3 a ha q hq
  · unfold cutB
    rw [hw _ (by omega) (by omega) (by omega), hw _ (by omega) (by omega) (by omega)]
    exact h4 a b ha hb
theorem bt_turn {F : Nat → Int32} {p q a i : Nat} (hp : p < 4) (hq : q < 4) (hne : p ≠ q) (ha : a < 4) : bt (turnF F p q (3 + a)) i = (bt (F (3 + a)) i ^^ (decide (a = p ∧ i = q) || decide (a = q ∧ i = p))) := by
  rcases Nat.lt_or_ge i 32 with h32 | h32
  · unfold turnF
    by_cases e : a = q
    · subst e
      rw [upd_s, upd_n _ _ (by omega), b_xor, bit_1 (by omega) h32]
      congr 1
      rw [decide_eq_false (show ¬ (a = p ∧ i = a) by omega), Bool.false_or]
      exact decide_eq_decide.mpr ⟨fun w => ⟨rfl, w⟩, fun w => w.2⟩
    · rw [upd_n _ _ (by omega)]
      by_cases e2 : a = p
      · subst e2
        rw [upd_s, b_xor, bit_1 (by omega) h32]
        congr 1
        rw [decide_eq_false (show ¬ (a = q ∧ i = a) by omega), Bool.or_false]
        exact decide_eq_decide.mpr ⟨fun w => ⟨rfl, w⟩, fun w => w.2⟩
      · rw [upd_n _ _ (by omega), decide_eq_false (show ¬ (a = p ∧ i = q) by omega), decide_eq_false (show ¬ (a = q ∧ i = p) by omega)]
        simp
  · rw [b_big h32, b_big h32, decide_eq_false (show ¬ (a = p ∧ i = q) by omega), decide_eq_false (show ¬ (a = q ∧ i = p) by omega)]
    rfl
theorem bdG_turn {B m : Nat} {F : Nat → Int32} {p q : Nat} (h : bdG B m F) (hm : m ≤ 4) (hp : p < m) (hq : q < m) (hne : p ≠ q) : bdG B m (turnF F p q) := by
  obtain ⟨⟨g, g1, g2⟩, h2, h3, h4⟩ := h
  have hw : ∀ j, j < 3 ∨ 7 ≤ j → turnF F p q j = F j := fun j a => by unfold turnF; rw [upd_n _ _ (by omega), upd_n _ _ (by omega)]
  refine ⟨⟨g, g1, by rw [hw _ (by omega)]; exact g2⟩, fun i hi => ⟨by rw [hw _ (by omega)]; exact (h2 i hi).1, ?_⟩, fun a ha b hb => ?_, fun a b ha hb => ?_⟩
  · obtain ⟨t, t1, t2⟩ := (h2 i hi).2
    exact ⟨t, t1, by rw [hw _ (by omega)]; exact t2⟩
  · rw [bt_turn (by omega) (by omega) hne ha, h3 a ha b hb, decide_eq_false (show ¬ (a = p ∧ b = q) by omega), decide_eq_false (show ¬ (a = q ∧ b = p) by omega)]
    rfl
  · unfold cutB at h4 ⊢
    rw [bt_turn (by omega) (by omega) hne ha, bt_turn (by omega) (by omega) hne hb, h4 a b ha hb, Bool.or_comm]
    congr 1
    congr 1
    · exact decide_eq_decide.mpr ⟨fun w => ⟨w.2, w.1⟩, fun w => ⟨w.2, w.1⟩⟩
    · exact decide_eq_decide.mpr ⟨fun w => ⟨w.2, w.1⟩, fun w => ⟨w.2, w.1⟩⟩
/-- what is so of all that is told -/
def okCl (B : Nat) (c : zCl) : Prop := okN c.2.1 ∧ cl c.2.2 = c.2.2 ∧ bdG B (prN c.2.1).length c.2.2
theorem okN_of {b p r : Nat} {ks ps : List (List Nat)} (h1 : 1 ≤ b ∧ b ≤ 4) (h2 : 1 ≤ p ∧ p ≤ 12) (h3 : r ≤ 2) (h4 : ks.length ≤ 24) (h5 : ps.length ≤ 4) (h6 : ∀ l ∈ ks ++ ps, wdOK l) (h7 : (ks ++ ps).Nodup) : okN (b, p, r, ks, ps) := ⟨h1, h2, h3, h4, h5, h6, h7⟩
theorem ixN_none {names : List (List Nat)} {l : List Nat} (h : ixN names l = none) : l ∉ names := by
  intro q
  obtain ⟨i, hi, e⟩ := List.mem_iff_getElem.mp q
  unfold ixN at h
  rw [List.find?_eq_none] at h
  refine h i (List.mem_range.mpr hi) (decide_eq_true ?_)
  rw [List.getD_eq_getElem?_getD, List.getElem?_eq_getElem hi]
  exact e
theorem cl_id {F : Nat → Int32} (h : cl F = F) : cl F = F := h
