-- ===== a SENTENCE's text: what it tells =====
abbrev zSr : Type := List Int32 × zPs × Nat
/-- the sign that a token is -/
def opS (s : zPs) : Nat := if s.1.1 = 4 then s.1.2.2.2 else 0
/-- what a ONE begins with: its word, 24 for the bracket -/
def sfsP (s : zPs) : Option Nat := if sgS s 40 = true then some 24 else match wdS s with
  | some w => if 16 ≤ w then some w else none
  | none => none
section
variable (tx : Nat → Nat) (n most : Nat) (N : zNm)
def splP (w : Nat) (s : zPs) : Sum zFt (List Int32 × zPs) :=
  if w = 17 then .inr ([17], s) else if w = 18 ∨ w = 19 then (match namP (prN N) s with
    | .inl f => .inl f
    | .inr p => .inr ([nI (w + 65536 * p)], nx tx n most s)) else if 60 ≤ opS s ∧ opS s ≤ 62 then (match numP 0 999 (nx tx n most s) with
    | .inl f => .inl f
    | .inr v => .inr ([nI (w + 256 * opS s + 65536 * v)], nx tx n most (nx tx n most s))) else .inl (1, plS s)
/-- pieces with one word between them -/
def slpP (one : Nat → zPs → Sum zFt zSr) (kw : Nat) : Nat → List Int32 → zPs → Nat → Sum zFt zSr
  | 0, cs, s, o => .inr (cs, s, o)
  | c + 1, cs, s, o => if wdS s = some kw then (match one o (nx tx n most s) with
    | .inl f => .inl f
    | .inr r => slpP one kw c (cs ++ r.1 ++ [nI kw]) r.2.1 r.2.2) else .inr (cs, s, o)
def schP (one : Nat → zPs → Sum zFt zSr) (kw : Nat) (o : Nat) (s : zPs) : Sum zFt zSr := match one o s with
  | .inl f => .inl f
  | .inr r => slpP tx n most one kw (21 - r.2.2) r.1 r.2.1 r.2.2
def sbrP (o : Sum zFt zSr) : Sum zFt zSr := match o with
  | .inl f => .inl f
  | .inr r => if sgS r.2.1 41 = true then .inr (r.1, nx tx n most r.2.1, r.2.2) else .inl (1, plS r.2.1)
def sntP (o : Sum zFt zSr) : Sum zFt zSr := match o with
  | .inl f => .inl f
  | .inr r => .inr (r.1 ++ [16], r.2.1, r.2.2)
def sleP (o : Nat) (q : Sum zFt (List Int32 × zPs)) : Sum zFt zSr := match q with
  | .inl f => .inl f
  | .inr r => .inr (r.1, r.2, o)
def sonP : Nat → Nat → zPs → Sum zFt zSr
  | 0, _, s => match sfsP s with
    | none => .inl (1, plS s)
    | some _ => .inl (4, plS s)
  | e + 1, o, s => match sfsP s with
    | none => .inl (1, plS s)
    | some w => if 20 ≤ o then .inl (4, plS s) else if w = 24 then sbrP tx n most (schP tx n most (schP tx n most (sonP e) 15) 14 (o + 1) (nx tx n most s)) else if w = 16 then sntP (sonP e (o + 1) (nx tx n most s)) else sleP (o + 1) (splP tx n most N w (nx tx n most s))
end
/-- the answer of a reading of a SENTENCE's text -/
def rdS (N : zNm) (tx : Nat → Nat) (n : Nat) : Sum zFt (List Int32 × Nat) := match schP tx n 200 (schP tx n 200 (sonP tx n 200 N 8) 15) 14 0 (nextT tx n 200 0) with
  | .inl f => .inl f
  | .inr r => if r.2.1.1.1 = 0 then .inr (r.1, r.2.2) else .inl (1, plS r.2.1)
section
variable {d n most i k w p : Nat} {N : zNm} {tx : Nat → Nat} {s : zPs} {f : zFt}
theorem lvS_le (a : List Int32) : lvS a ≤ a.length := List.length_filter_le _ _
/-- a piece's answers are in bounds, its faults are faults -/
def OnG (one : Nat → zPs → Sum zFt zSr) : Prop := ∀ o s, o ≤ 20 → (∀ f, one o s = .inl f → okK f) ∧ ∀ r, one o s = .inr r → o < r.2.2 ∧ r.2.2 ≤ 20 ∧ 0 < r.1.length ∧ r.1.length + 1 ≤ 2 * (r.2.2 - o) ∧ lvS r.1 ≤ r.2.2 - o
theorem slpP_g {one : Nat → zPs → Sum zFt zSr} (h : OnG one) {kw : Nat} (hk : kw = 14 ∨ kw = 15) {o0 : Nat} : ∀ (c : Nat) (cs : List Int32) (s : zPs) (o : Nat), o0 < o → o ≤ 20 → 0 < cs.length → cs.length + 1 ≤ 2 * (o - o0) → lvS cs ≤ o - o0 →
    (∀ f, slpP tx n most one kw c cs s o = .inl f → okK f) ∧ ∀ r, slpP tx n most one kw c cs s o = .inr r → o0 < r.2.2 ∧ r.2.2 ≤ 20 ∧ 0 < r.1.length ∧ r.1.length + 1 ≤ 2 * (r.2.2 - o0) ∧ lvS r.1 ≤ r.2.2 - o0 := by
  intro c
  induction c with
  | zero =>
    intro cs s o h1 h2 h3 h4 h5
    unfold slpP
    exact ⟨fun f e => (by cases e), fun r e => by cases e; exact ⟨h1, h2, h3, h4, h5⟩⟩
  | succ c ih =>
    intro cs s o h1 h2 h3 h4 h5
    unfold slpP
    by_cases hw : wdS s = some kw
    rotate_left
    · rw [if_neg hw]
      exact ⟨fun f e => (by cases e), fun r e => by cases e; exact ⟨h1, h2, h3, h4, h5⟩⟩
    rw [if_pos hw]
    have g := h o (nx tx n most s) h2
    cases hr : one o (nx tx n most s) with
    | inl f => exact ⟨fun f2 e => by cases e; exact g.1 f hr, fun r e => by cases e⟩
    | inr r =>
      obtain ⟨g1, g2, g3, g4, g5⟩ := g.2 r hr
      have l1 : lvS [nI kw] = 0 := by rcases hk with rfl | rfl <;> decide
      exact ih _ _ _ (by omega) g2 (by simp only [List.length_append, List.length_singleton]; omega) (by simp only [List.length_append, List.length_singleton]; omega) (by rw [lvS_app, lvS_app, l1]; omega)
theorem schP_g {one : Nat → zPs → Sum zFt zSr} (h : OnG one) {kw : Nat} (hk : kw = 14 ∨ kw = 15) : OnG (schP tx n most one kw) := by
  intro o s ho
  have g := h o s ho
  unfold schP
  cases hr : one o s with
  | inl f => exact ⟨fun f2 e => by cases e; exact g.1 f hr, fun r e => by cases e⟩
  | inr r =>
    obtain ⟨g1, g2, g3, g4, g5⟩ := g.2 r hr
    exact slpP_g h hk _ _ _ _ g1 g2 g3 g4 g5
theorem splP_g (s : zPs) : (∀ f, splP tx n most N w s = .inl f → okK f) ∧ ∀ r, splP tx n most N w s = .inr r → r.1.length = 1 := by
  unfold splP
  split
  · exact ⟨fun f e => (by cases e), fun r e => by cases e; rfl⟩
  split
  · split
    · rename_i f hf; exact ⟨fun f2 e => by cases e; exact namP_k hf, fun r e => by cases e⟩
    · exact ⟨fun f e => (by cases e), fun r e => by cases e; rfl⟩
  split
  · split
    · rename_i f hf; exact ⟨fun f2 e => by cases e; exact numP_k hf, fun r e => by cases e⟩
    · exact ⟨fun f e => (by cases e), fun r e => by cases e; rfl⟩
  · exact ⟨fun f e => by cases e; exact okK_1, fun r e => by cases e⟩
theorem sonP_g : ∀ e, OnG (sonP tx n most N e) := by
  intro e
  induction e with
  | zero =>
    intro o s ho
    unfold sonP
    cases sfsP s with
    | none => exact ⟨fun f e => by cases e; exact okK_1, fun r e => by cases e⟩
    | some w => exact ⟨fun f e => by cases e; exact okK_4, fun r e => by cases e⟩
  | succ e ih =>
    intro o s ho
    unfold sonP
    cases sfsP s with
    | none => exact ⟨fun f e => by cases e; exact okK_1, fun r e => by cases e⟩
    | some w =>
      simp only []
      by_cases h20 : 20 ≤ o
      · rw [if_pos h20]; exact ⟨fun f e => by cases e; exact okK_4, fun r e => by cases e⟩
      rw [if_neg h20]
      by_cases hb : w = 24
      · rw [if_pos hb]
        have g := schP_g (tx := tx) (n := n) (most := most) (schP_g (tx := tx) (n := n) (most := most) ih (Or.inr rfl)) (Or.inl rfl) (o + 1) (nx tx n most s) (by omega)
        cases hr : schP tx n most (schP tx n most (sonP tx n most N e) 15) 14 (o + 1) (nx tx n most s) with
        | inl f => exact ⟨fun f2 e => by cases e; exact g.1 f hr, fun r e => by cases e⟩
        | inr r =>
          obtain ⟨g1, g2, g3, g4, g5⟩ := g.2 r hr
          unfold sbrP
          simp only []
          split
          · exact ⟨fun f e => (by cases e), fun r e => by cases e; exact ⟨by show o < r.2.2; omega, g2, g3, by show r.1.length + 1 ≤ 2 * (r.2.2 - o); omega, by show lvS r.1 ≤ r.2.2 - o; omega⟩⟩
          · exact ⟨fun f e => by cases e; exact okK_1, fun r e => by cases e⟩
      rw [if_neg hb]
      by_cases h16 : w = 16
      · rw [if_pos h16]
        have g := ih (o + 1) (nx tx n most s) (by omega)
        cases hr : sonP tx n most N e (o + 1) (nx tx n most s) with
        | inl f => exact ⟨fun f2 e => by cases e; exact g.1 f hr, fun r e => by cases e⟩
        | inr r =>
          obtain ⟨g1, g2, g3, g4, g5⟩ := g.2 r hr
          refine ⟨fun f e => (by cases e), fun r2 e => ?_⟩
          cases e
          refine ⟨by show o < r.2.2; omega, g2, by simp, ?_, ?_⟩
          · show (r.1 ++ [16]).length + 1 ≤ 2 * (r.2.2 - o)
            rw [List.length_append, List.length_singleton]; omega
          · show lvS (r.1 ++ [16]) ≤ r.2.2 - o
            rw [lvS_app, show lvS [16] = 0 by decide]; omega
      rw [if_neg h16]
      have g := splP_g (tx := tx) (n := n) (most := most) (N := N) (w := w) (nx tx n most s)
      cases hr : splP tx n most N w (nx tx n most s) with
      | inl f => exact ⟨fun f2 e => by cases e; exact g.1 f hr, fun r e => by cases e⟩
      | inr r =>
        have g1 := g.2 r hr
        refine ⟨fun f e => (by cases e), fun r2 e => ?_⟩
        cases e
        have l1 := lvS_le r.1
        exact ⟨by show o < o + 1; omega, by show o + 1 ≤ 20; omega, by show 0 < r.1.length; omega, by show r.1.length + 1 ≤ 2 * (o + 1 - o); omega, by show lvS r.1 ≤ o + 1 - o; omega⟩
theorem rdS_g : (∀ f, rdS N tx n = .inl f → okK f) ∧ ∀ r, rdS N tx n = .inr r → 0 < r.2 ∧ r.2 ≤ 20 ∧ 0 < r.1.length ∧ r.1.length < 60 ∧ lvS r.1 ≤ 20 := by
  unfold rdS
  have g := schP_g (tx := tx) (n := n) (most := 200) (schP_g (tx := tx) (n := n) (most := 200) (sonP_g (tx := tx) (n := n) (most := 200) (N := N) 8) (Or.inr rfl)) (Or.inl rfl) 0 (nextT tx n 200 0) (by omega)
  cases hr : schP tx n 200 (schP tx n 200 (sonP tx n 200 N 8) 15) 14 0 (nextT tx n 200 0) with
  | inl f => exact ⟨fun f2 e => by cases e; exact g.1 f hr, fun r e => by cases e⟩
  | inr r =>
    obtain ⟨g1, g2, g3, g4, g5⟩ := g.2 r hr
    simp only []
    split
    · exact ⟨fun f e => (by cases e), fun r e => by cases e; exact ⟨g1, g2, g3, by show r.1.length < 60; omega, by show lvS r.1 ≤ 20; omega⟩⟩
    · exact ⟨fun f e => by cases e; exact okK_1, fun r e => by cases e⟩
end
/-- the codes cs are the nodes from lo on -/
def ndT (m : Nat) (T : Nat → Int32) : Nat → Nat → List Int32 → Prop
  | 0, _, _ => False
  | f + 1, lo, cs =>
    (cs = [17] ∧ T (4 * lo) = 67) ∨
    (∃ w p, (w = 18 ∨ w = 19) ∧ p < m ∧ cs = [nI (w + 65536 * p)] ∧ T (4 * lo) = nI (50 + w) ∧ T (4 * lo + 1) = nI p) ∨
    (∃ w r b, 20 ≤ w ∧ w ≤ 23 ∧ 60 ≤ r ∧ r ≤ 62 ∧ b ≤ 999 ∧ cs = [nI (w + 256 * r + 65536 * b)] ∧ T (4 * lo) = nI (50 + w) ∧ T (4 * lo + 2) = nI b ∧ T (4 * lo + 3) = nI r) ∨
    (∃ cs1, cs = cs1 ++ [16] ∧ T (4 * (lo + cs1.length)) = 1 ∧ T (4 * (lo + cs1.length) + 1) = nI (lo + cs1.length - 1) ∧ ndT m T f lo cs1) ∨
    (∃ cs1 cs2, cs = cs1 ++ cs2 ++ [15] ∧ T (4 * (lo + cs1.length + cs2.length)) = 2 ∧ T (4 * (lo + cs1.length + cs2.length) + 1) = nI (lo + cs1.length - 1) ∧ T (4 * (lo + cs1.length + cs2.length) + 2) = nI (lo + cs1.length + cs2.length - 1) ∧ ndT m T f lo cs1 ∧ ndT m T f (lo + cs1.length) cs2) ∨
    (∃ cs1 cs2, cs = cs1 ++ cs2 ++ [14] ∧ T (4 * (lo + cs1.length + cs2.length)) = 3 ∧ T (4 * (lo + cs1.length + cs2.length) + 1) = nI (lo + cs1.length - 1) ∧ T (4 * (lo + cs1.length + cs2.length) + 2) = nI (lo + cs1.length + cs2.length - 1) ∧ ndT m T f lo cs1 ∧ ndT m T f (lo + cs1.length) cs2)
section
variable {m : Nat} {T T2 : Nat → Int32}
theorem ndT_len : ∀ {f lo : Nat} {cs : List Int32}, ndT m T f lo cs → 0 < cs.length := by
  intro f lo cs h
  cases f with
  | zero => exact absurd h id
  | succ f =>
    unfold ndT at h
    rcases h with ⟨h, -⟩ | ⟨w, p, -, -, h, -⟩ | ⟨w, r, b, -, -, -, -, -, h, -⟩ | ⟨cs1, h, -⟩ | ⟨cs1, cs2, h, -⟩ | ⟨cs1, cs2, h, -⟩ <;> rw [h] <;> simp only [List.length_append, List.length_singleton] <;> omega
theorem ndT_mono : ∀ {f g lo : Nat} {cs : List Int32}, ndT m T f lo cs → f ≤ g → ndT m T g lo cs := by
  intro f
  induction f with
  | zero => intro g lo cs h; exact absurd h id
  | succ f ih =>
    intro g lo cs h hg
    cases g with
    | zero => omega
    | succ g =>
      unfold ndT at h ⊢
      rcases h with h | h | h | ⟨cs1, h1, h2, h3, h4⟩ | ⟨cs1, cs2, h1, h2, h3, h4, h5, h6⟩ | ⟨cs1, cs2, h1, h2, h3, h4, h5, h6⟩
      · exact Or.inl h
      · exact Or.inr (Or.inl h)
      · exact Or.inr (Or.inr (Or.inl h))
      · exact Or.inr (Or.inr (Or.inr (Or.inl ⟨cs1, h1, h2, h3, ih h4 (by omega)⟩)))
      · exact Or.inr (Or.inr (Or.inr (Or.inr (Or.inl ⟨cs1, cs2, h1, h2, h3, h4, ih h5 (by omega), ih h6 (by omega)⟩))))
      · exact Or.inr (Or.inr (Or.inr (Or.inr (Or.inr ⟨cs1, cs2, h1, h2, h3, h4, ih h5 (by omega), ih h6 (by omega)⟩))))
theorem ndT_agree : ∀ {f lo : Nat} {cs : List Int32}, (∀ j, 4 * lo ≤ j → j < 4 * (lo + cs.length) → T2 j = T j) → ndT m T f lo cs → ndT m T2 f lo cs := by
  intro f
  induction f with
  | zero => intro lo cs _ h; exact absurd h id
  | succ f ih =>
    intro lo cs e h
    unfold ndT at h ⊢
    rcases h with ⟨h1, h2⟩ | ⟨w, p, h1, h2, h3, h4, h5⟩ | ⟨w, r, b, h1, h2, h3, h4, h5, h6, h7, h8, h9⟩ | ⟨cs1, h1, h2, h3, h4⟩ | ⟨cs1, cs2, h1, h2, h3, h4, h5, h6⟩ | ⟨cs1, cs2, h1, h2, h3, h4, h5, h6⟩
    · rw [h1] at e
      rw [List.length_singleton] at e
      exact Or.inl ⟨h1, by rw [e _ (by omega) (by omega)]; exact h2⟩
    · rw [h3] at e
      rw [List.length_singleton] at e
      exact Or.inr (Or.inl ⟨w, p, h1, h2, h3, by rw [e _ (by omega) (by omega)]; exact h4, by rw [e _ (by omega) (by omega)]; exact h5⟩)
    · rw [h6] at e
      rw [List.length_singleton] at e
      exact Or.inr (Or.inr (Or.inl ⟨w, r, b, h1, h2, h3, h4, h5, h6, by rw [e _ (by omega) (by omega)]; exact h7, by rw [e _ (by omega) (by omega)]; exact h8, by rw [e _ (by omega) (by omega)]; exact h9⟩))
    · have el : cs.length = cs1.length + 1 := by rw [h1]; simp
      exact Or.inr (Or.inr (Or.inr (Or.inl ⟨cs1, h1, by rw [e _ (by omega) (by omega)]; exact h2, by rw [e _ (by omega) (by omega)]; exact h3, ih (fun j a b => e j a (by omega)) h4⟩)))
    · have el : cs.length = cs1.length + cs2.length + 1 := by rw [h1]; simp; omega
      exact Or.inr (Or.inr (Or.inr (Or.inr (Or.inl ⟨cs1, cs2, h1, by rw [e _ (by omega) (by omega)]; exact h2, by rw [e _ (by omega) (by omega)]; exact h3, by rw [e _ (by omega) (by omega)]; exact h4, ih (fun j a b => e j a (by omega)) h5, ih (fun j a b => e j (by omega) (by omega)) h6⟩))))
    · have el : cs.length = cs1.length + cs2.length + 1 := by rw [h1]; simp; omega
      exact Or.inr (Or.inr (Or.inr (Or.inr (Or.inr ⟨cs1, cs2, h1, by rw [e _ (by omega) (by omega)]; exact h2, by rw [e _ (by omega) (by omega)]; exact h3, by rw [e _ (by omega) (by omega)]; exact h4, ih (fun j a b => e j a (by omega)) h5, ih (fun j a b => e j (by omega) (by omega)) h6⟩))))
theorem ndT_rel : ∀ {f lo : Nat} {cs : List Int32}, lo + cs.length ≤ 60 → ndT m T f lo cs → relS m f cs T (lo + cs.length - 1) := by
  intro f
  induction f with
  | zero => intro lo cs _ h; exact absurd h id
  | succ f ih =>
    intro lo cs hl h
    unfold ndT at h
    unfold relS
    have h0 : 0 < cs.length := ndT_len (f := f + 1) (show ndT m T (f + 1) lo cs by unfold ndT; exact h)
    refine ⟨by omega, ?_⟩
    rcases h with ⟨h1, h2⟩ | ⟨w, p, h1, h2, h3, h4, h5⟩ | ⟨w, r, b, h1, h2, h3, h4, h5, h6, h7, h8, h9⟩ | ⟨cs1, h1, h2, h3, h4⟩ | ⟨cs1, cs2, h1, h2, h3, h4, h5, h6⟩ | ⟨cs1, cs2, h1, h2, h3, h4, h5, h6⟩
    · have el : lo + cs.length - 1 = lo := by rw [h1]; simp
      rw [el]
      exact Or.inl ⟨h1, h2⟩
    · have el : lo + cs.length - 1 = lo := by rw [h3]; simp
      rw [el]
      exact Or.inr (Or.inl ⟨w, p, h1, h2, h3, h4, h5⟩)
    · have el : lo + cs.length - 1 = lo := by rw [h6]; simp
      rw [el]
      exact Or.inr (Or.inr (Or.inl ⟨w, r, b, h1, h2, h3, h4, h5, h6, h7, h8, h9⟩))
    · have el : cs.length = cs1.length + 1 := by rw [h1]; simp
      have e2 : lo + cs.length - 1 = lo + cs1.length := by omega
      rw [e2]
      exact Or.inr (Or.inr (Or.inr (Or.inl ⟨cs1, lo + cs1.length - 1, h1, h2, h3, ih (by omega) h4⟩)))
    · have el : cs.length = cs1.length + cs2.length + 1 := by rw [h1]; simp; omega
      have e2 : lo + cs.length - 1 = lo + cs1.length + cs2.length := by omega
      rw [e2]
      exact Or.inr (Or.inr (Or.inr (Or.inr (Or.inl ⟨cs1, cs2, _, _, h1, h2, h3, h4, ih (by omega) h5, ih (by omega) h6⟩))))
    · have el : cs.length = cs1.length + cs2.length + 1 := by rw [h1]; simp; omega
      have e2 : lo + cs.length - 1 = lo + cs1.length + cs2.length := by omega
      rw [e2]
      exact Or.inr (Or.inr (Or.inr (Or.inr (Or.inr ⟨cs1, cs2, _, _, h1, h2, h3, h4, ih (by omega) h5, ih (by omega) h6⟩))))
end
