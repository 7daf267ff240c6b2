-- ===== entry, mean, part, both sides =====
section
variable {d B p q k : Nat} {M M2 : zMem} {N : zNm} {P : zPl} {F : Nat → Int32} {us : List (Nat → Int32)} {x y z : Int32}
def entV (P : zPl) (F : Nat → Int32) (p k : Nat) (w : Int32) : Int32 := if w = 0 then vlF F p k else if w = 1 then smF F p k else digF (kdP P) F p k
theorem m_entry (h : JA B M N F us) (hp : p < mP (plOf N)) (hk : k < nP (plOf N)) (hh : hasF F p k = true) (hz : z = 0 ∨ z = 1 ∨ z = 2) {v : Int32} (hv : entV (plOf N) F p k z = v) : S_X12_entry (d + 40) (nI p) (nI k) z (wL M 263 0 v.toInt64) (zI (eR B v)) := by
  have h4 := h.m4
  have h24 := h.n24
  have i96 : 24 * p + k < 96 := by omega
  refine t_X12_entry (fun M1 e1 => c_X12_isPeer (e1 ▸ (h.out _).w0.r1) h4 ⟨fun e2 => (by rw [inN_nI hp (by omega)] at e2; cases e2), fun _ => c_X12_isKey (e1 ▸ (h.out _).w0.r0) h24 ⟨fun e2 => (by rw [inN_nI hk (by omega)] at e2; cases e2), fun _ => c_X12_hasEntry (by omega) (by omega) ?_⟩⟩)
  have hw : JA B M1 N F us := e1 ▸ (h.out _).w0
  have e0 : M1.1 229 0 = 0 := by rw [e1, wI_1, if_pos ⟨rfl, rfl⟩]
  have e3 : M1.2 263 0 = v.toInt64 := by rw [e1, wI_2, wL_s]
  rw [PR_has hw.pr (by omega) (by omega)]
  refine ⟨fun _ => ⟨fun g => c_X12_at ⟨vin i96, zii ⟨?_, e0, e3, hw.j⟩⟩, fun g => c_X12_at ⟨sin i96, zii ⟨?_, e0, e3, hw.j⟩⟩, fun g => c_X12_entryDigest (by omega) (by omega) (zii ⟨?_, e0, e3, hw.j⟩), fun g0 g1 g2 => (by rcases hz with r | r | r; exact absurd r g0; exact absurd r g1; exact absurd r g2)⟩, fun e2 => (by rw [hh] at e2; cases e2)⟩
  · rw [vcl i96, fR_v, ← hv]
    unfold entV
    rw [if_pos g]
    exact PR_vl hw.pr (by omega) (by omega)
  · rw [scl i96, fR_s, ← hv]
    unfold entV
    rw [g, if_neg (by decide), if_pos rfl]
    exact PR_sm hw.pr (by omega) (by omega)
  · rw [← hv]
    unfold entV
    rw [g, if_neg (by decide), if_neg (by decide)]
    exact digF_congr (plnR_kl hw.pr.2.1 k hk).1 (PR_vl hw.pr (by omega) (by omega)) (PR_sm hw.pr (by omega) (by omega))
theorem m_entryX (h : JA B M N F us) (hp : p < mP (plOf N)) (hk : k < nP (plOf N)) (hh : hasF F p k = false ∨ inN z 3 = false) : S_X12_entry (d + 40) (nI p) (nI k) z M (zI (eX B)) := by
  have h4 := h.m4
  have h24 := h.n24
  refine t_X12_entry (fun M1 e1 => c_X12_isPeer (e1 ▸ h.w0.r1) h4 ⟨fun e2 => (by rw [inN_nI hp (by omega)] at e2; cases e2), fun _ => c_X12_isKey (e1 ▸ h.w0.r0) h24 ⟨fun e2 => (by rw [inN_nI hk (by omega)] at e2; cases e2), fun _ => c_X12_hasEntry (by omega) (by omega) ?_⟩⟩)
  have hw : JA B M1 N F us := e1 ▸ h.w0
  rw [PR_has hw.pr (by omega) (by omega)]
  refine ⟨fun e => ?_, fun _ => m_refuse hw⟩
  have e7 : inN z 3 = false := by
    rcases hh with g | g
    · rw [e] at g; cases g
    · exact g
  have no : ∀ i, i < 3 → ¬ z = nI i := fun i hi q => by rw [q, inN_nI hi (by omega)] at e7; cases e7
  exact ⟨fun q => absurd q (no 0 (by omega)), fun q => absurd q (no 1 (by omega)), fun q => absurd q (no 2 (by omega)), fun _ _ _ => m_refuse hw⟩
theorem m_entryK (h : JA B M N F us) (hp : p < mP (plOf N)) (hk : inN y (nP (plOf N)) = false) : S_X12_entry (d + 40) (nI p) y z M (zI (eX B)) := by
  have h4 := h.m4
  have h24 := h.n24
  exact t_X12_entry (fun M1 e1 => c_X12_isPeer (e1 ▸ h.w0.r1) h4 ⟨fun e2 => (by rw [inN_nI hp (by omega)] at e2; cases e2), fun _ => c_X12_isKey (e1 ▸ h.w0.r0) h24 ⟨fun _ => m_refuse (e1 ▸ h.w0), fun e2 => (by rw [hk] at e2; cases e2)⟩⟩)
theorem o_entry (h : JA B M N F us) : zT m_X11_entry (d + 40) 0 [(0, .ref 0), (1, .int x), (2, .int y), (3, .int z)] [] M (zI fun r M1 => S_X12_entry (d + 40) x y z (wL M1 263 0 r.toInt64) (zI (eR B r))) (fun M1 => S_X12_entry (d + 40) x y z M1 (zI (eX B))) := by
  have h4 := h.m4
  have h24 := h.n24
  refine tq_entry (d := d + 34) (c_X11_isPeer h.c4 ⟨fun e => ?_, fun e => ?_⟩)
  · exact t_X12_entry (fun M1 e1 => c_X12_isPeer (e1 ▸ h.w0.r1) h4 ⟨fun _ => m_refuse (e1 ▸ h.w0), fun e2 => (by rw [e] at e2; cases e2)⟩)
  obtain ⟨p, hp, rfl⟩ := inN_of e (by omega)
  refine c_X11_isKey h.c3 ⟨fun f => m_entryK h hp f, fun f => ?_⟩
  obtain ⟨k, hk, rfl⟩ := inN_of f (by omega)
  refine ⟨fun q => m_entryX h hp hk (Or.inr (inN_false (Or.inl q))), fun q1 => ⟨fun q => m_entryX h hp hk (Or.inr (inN_false (Or.inr ((le_in (n := 2) (by omega)).mpr (Int32.not_le.mpr q))))), fun q2 => ?_⟩⟩
  obtain ⟨w, hw, rfl⟩ := inN_of (n := 3) (inN_true q1 (fun e => (le_in (n := 2) (by omega)).mp e (Int32.not_lt.mp q2))) (by omega)
  have hz : nI w = 0 ∨ nI w = 1 ∨ nI w = 2 := by
    have : w = 0 ∨ w = 1 ∨ w = 2 := by omega
    rcases this with rfl | rfl | rfl
    · exact Or.inl rfl
    · exact Or.inr (Or.inl rfl)
    · exact Or.inr (Or.inr rfl)
  have hh := PC_has h.pc (p := p) (k := k) (by omega) (by omega)
  have hv := PC_vl h.pc (p := p) (k := k) (by omega) (by omega)
  have hs := PC_sm h.pc (p := p) (k := k) (by omega) (by omega)
  rw [pT63.2.1] at hh hv hs
  refine c_X3_has (b := 10) (by decide) (by omega) (by omega) ?_
  rw [hh]
  refine ⟨fun g => m_entryX h hp hk (Or.inl g), fun g => ⟨fun e => c_X3_valueOf (b := 10) (by decide) (by omega) (by omega) (zii (m_entry h hp hk g hz ?_)), fun e => ⟨fun e2 => c_X3_stampOf (b := 10) (by decide) (by omega) (by omega) (zii (m_entry h hp hk g hz ?_)), fun e2 => c_X3_digestOf (b := 10) (g := 3) (by decide) (by decide) (by omega) (by omega) (zii (m_entry h hp hk g hz ?_))⟩⟩⟩
  · unfold entV; rw [if_pos e, hv]
  · unfold entV; rw [if_neg e, if_pos e2, hs]
  · unfold entV; rw [if_neg e, if_neg e2]
    exact (digF_congr (plnC_kl h.pc.2.1 k hk).1 hv hs).symm
-- fractions
def frcV (a b : Nat) (w : Int32) : Int32 := nI ((if w = 0 then a else b) / Nat.gcd a b)
theorem c_termOf {Q : Int32 → zMem → Prop} {a b : Nat} (ha : a < 2 ^ 31) (hb0 : 0 < b) (hb : b ≤ 24) (h : Q (frcV a b x) M) : S_X11_termOf d (nI a) (nI b) x M (zI Q) := by
  have hg : 0 < Nat.gcd a b := Nat.gcd_pos_of_pos_right a hb0
  have hgb : Nat.gcd a b ≤ b := Nat.gcd_le_right a hb0
  have fin : S_X11_termOf_39 d (nI a) (nI b) x (nI (Nat.gcd a b)) M (zI Q) := by
    refine t_X11_termOf_39 ⟨fun e => ⟨fun e2 => ⟨e2, zii ?_⟩, fun e2 => absurd e2 (nI_ne0 hg (by omega))⟩, fun e => ⟨fun e2 => ⟨e2, zii ?_⟩, fun e2 => absurd e2 (nI_ne0 hg (by omega))⟩⟩
    · rw [pk_div (by omega) hg (by omega)]; unfold frcV at h; rw [if_neg e] at h; exact h
    · rw [pk_div ha hg (by omega)]; unfold frcV at h; rw [if_pos e] at h; exact h
  have key : ∀ c i u v, i + c = 24 → v ≤ c → u < 2 ^ 31 → Nat.gcd u v = Nat.gcd a b → S_X11_termOf_8 d (nI a) (nI b) x (nI u) (nI v) (nI i) M (zI Q) := by
    intro c
    induction c with
    | zero =>
      intro i u v hi hv hu hg2
      have hi : i + 0 = 24 := hi
      have hv : v ≤ 0 := hv
      have : v = 0 := Nat.le_zero.mp hv
      subst this
      rw [Nat.gcd_zero_right] at hg2
      refine t_X11_termOf_8 ⟨fun _ => hg2 ▸ fin, fun e => absurd (nI_le (a := 24) (b := i) (by omega) (by omega)) e⟩
    | succ c ih =>
      intro i u v hi hv hu hg2
      refine t_X11_termOf_8 ⟨fun e => absurd e (nI_ge (a := i) (b := 24) (by omega) (by omega)), fun _ => ⟨fun e => ?_, fun e => ?_⟩⟩
      · have : v = 0 := by
          rcases Nat.eq_zero_or_pos v with q | q
          · exact q
          · exact absurd e (nI_ge (a := 0) (b := v) q (by omega))
        subst this
        rw [Nat.gcd_zero_right] at hg2
        exact hg2 ▸ fin
      · have hv0 : 0 < v := by
          rcases Nat.eq_zero_or_pos v with q | q
          · subst q; exact absurd (nI_le (a := 0) (b := 0) (by omega) (by omega)) e
          · exact q
        refine ⟨nI_ne0 hv0 (by omega), ?_⟩
        rw [pk_rem hu hv0 (by omega), nI_1]
        have hm := Nat.mod_lt u hv0
        refine ih (i + 1) v (u % v) (by omega) (by omega) (by omega) ?_
        rw [← hg2, Nat.gcd_comm v, ← Nat.gcd_rec]; exact Nat.gcd_comm _ _
  exact t_X11_termOf (key 24 0 a b (by omega) hb ha rfl)
theorem c_common {Q : Int32 → zMem → Prop} : ∀ (b a : Nat), a < 2 ^ 31 → b < 2 ^ 31 → Q (nI (Nat.gcd a b)) M → S_X12_common_4 d (nI a) (nI b) M (zI Q) := by
  intro b
  induction b using Nat.strongRecOn with
  | ind b ih =>
    intro a ha hb h
    refine t_X12_common_4 ⟨fun e => zii ?_, fun e => ⟨e, ?_⟩⟩
    · have : b = 0 := nI_inj (j := 0) hb (by omega) e
      subst this
      rw [Nat.gcd_zero_right] at h
      exact h
    · have hb0 : 0 < b := by
        rcases Nat.eq_zero_or_pos b with q | q
        · subst q; exact absurd rfl e
        · exact q
      rw [pk_rem ha hb0 hb]
      have hm := Nat.mod_lt a hb0
      refine ih (a % b) hm b hb (by omega) ?_
      rw [Nat.gcd_comm b, ← Nat.gcd_rec, Nat.gcd_comm]
      exact h
theorem c_fraction {Q : Int32 → zMem → Prop} {a b : Nat} (ha : a < 2 ^ 31) (hb0 : 0 < b) (hb : b ≤ 24) (h : Q (frcV a b x) M) : S_X12_fraction (d + 1) (nI a) (nI b) x M (zI Q) := by
  have hg : 0 < Nat.gcd a b := Nat.gcd_pos_of_pos_right a hb0
  have hgb : Nat.gcd a b ≤ b := Nat.gcd_le_right a hb0
  refine t_X12_fraction ⟨fun e => t_X12_common (c_common b a ha (by omega) ⟨nI_ne0 hg (by omega), zii ?_⟩), fun e => t_X12_common (c_common b a ha (by omega) ⟨nI_ne0 hg (by omega), zii ?_⟩)⟩
  · rw [pk_div (by omega) hg (by omega)]; unfold frcV at h; rw [if_neg e] at h; exact h
  · rw [pk_div ha hg (by omega)]; unfold frcV at h; rw [if_pos e] at h; exact h
end
