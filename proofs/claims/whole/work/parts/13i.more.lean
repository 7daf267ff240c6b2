-- ===== pulls =====
theorem even_nI {n : Nat} (h : n < 2 ^ 30) : (nI n - nI n / 2 * 2 = 0) ↔ n % 2 = 0 := by
  have e1 : nI n / 2 = nI (n / 2) := by rw [show (2 : Int32) = nI 2 from rfl, pk_div (by omega) (by omega) (by omega)]
  rw [e1, show (2 : Int32) = nI 2 from rfl, pk_mul, pk_sub (by omega)]
  constructor
  · intro w
    have := nI_inj (j := 0) (by omega) (by omega) w
    omega
  · intro w
    rw [show n - n / 2 * 2 = 0 by omega]
    rfl
/-- pulls in turn until the roots are alike -/
def pulS (P : zPl) (a b : Nat) : Nat → Nat → (Nat → Int32) → Int32
  | 0, _, F => if rtP P F a = rtP P F b then 100 else -1
  | c + 1, i, F => if rtP P F a = rtP P F b then nI i else pulS P a b c (i + 1) (if i % 2 = 0 then (pullD P F a b).2 else (pullD P F b a).2)
section
variable {d B b p q k m : Nat} {M M2 M3 : zMem} {N : zNm} {F G : Nat → Int32} {P : zPl} {us us2 : List (Nat → Int32)} {Q : Int32 → zMem → Prop} {x y z v : Int32}
theorem c_pulls {M0 : zMem} (hp : p < 4) (hq : q < 4) (hne : p ≠ q) : ∀ (c i : Nat) (F : Nat → Int32) (M : zMem), i + c = 100 → PC M 114 P F → Same (inB 114) M0 M → (∀ M2, Same (inB 114) M0 M2 → Q (pulS P p q c i F) M2) → S_X11_pulls_39 (d + 64) (nI p) (nI q) (nI i) M (zI Q)
  | 0, i, F, M, hi, hM, hS, h => by
    have e : i = 100 := by omega
    subst e
    refine t_X11_pulls_39 ⟨fun _ => e_X4_rootOf (by decide) hp hM (e_X4_rootOf (by decide) hq hM ⟨fun w => zii ?_, fun w => zii ?_⟩), fun w => absurd (by decide) w⟩
    · have := h M hS; unfold pulS at this; rw [if_neg w] at this; exact this
    · have := h M hS; unfold pulS at this; rw [if_pos w] at this; exact this
  | c + 1, i, F, M, hi, hM, hS, h => by
    refine t_X11_pulls_39 ⟨fun w => absurd w (by rw [show (100 : Int32) = nI 100 from rfl]; exact nI_ge (by omega) (by omega)), fun _ => e_X4_rootOf (by decide) hp hM (e_X4_rootOf (by decide) hq hM ⟨fun w => ⟨fun w2 => ?_, fun w2 => ?_⟩, fun w => zii ?_⟩)⟩
    · rw [even_nI (by omega)] at w2
      refine e_X4_tryPull (by decide) hq hp (fun e => hne e.symm) hM (fun M2 p2 s2 => ?_)
      rw [nI_1]
      refine c_pulls hp hq hne c (i + 1) _ M2 (by omega) p2 (hS.trans s2) ?_
      unfold pulS at h
      rw [if_neg w, if_neg w2] at h
      exact h
    · rw [even_nI (by omega)] at w2
      refine e_X4_tryPull (by decide) hp hq hne hM (fun M2 p2 s2 => ?_)
      rw [nI_1]
      refine c_pulls hp hq hne c (i + 1) _ M2 (by omega) p2 (hS.trans s2) ?_
      unfold pulS at h
      rw [if_neg w, if_pos w2] at h
      exact h
    · have := h M hS; unfold pulS at this; rw [if_pos w] at this; exact this
/-- what the model's trials write ahead of their end -/
def TO (M M2 : zMem) : Prop := Same (fun z => z = 229 ∨ z = 231 ∨ z = 258 ∨ (246 ≤ z ∧ z ≤ 255)) M M2 ∧ (∀ j, j ≠ 43 → j ≠ 50 → M2.1 229 j = M.1 229 j) ∧ ∀ j, j < 202 ∨ 405 ≤ j → M2.1 231 j = M.1 231 j
theorem TO.refl (M : zMem) : TO M M := ⟨Same.refl _ _, fun _ _ _ => rfl, fun _ _ => rfl⟩
theorem TO.trans (h : TO M M2) (h2 : TO M2 M3) : TO M M3 := ⟨h.1.trans h2.1, fun j a b => (h2.2.1 j a b).trans (h.2.1 j a b), fun j a => (h2.2.2 j a).trans (h.2.2 j a)⟩
theorem LiveOnly.to (h : LiveOnly M M2) : TO M M2 := ⟨h.1.mono (fun z hz => by omega), fun j a _ => h.2.1 j a, h.2.2⟩
theorem OffOnly.to (h : OffOnly M M2) : TO M M2 := (OffOnly.live h).to
theorem LayOnly.to (h : LayOnly M M2) : TO M M2 := (OffOnly.of h).to
/-- the end of a trial: what is so comes back -/
theorem m_back (h : JA B M N F us) (hs : Same (fun z => z = 236) M M2) (hsv : ∀ j, j < 203 → M2.1 236 j = fR M j) (ht : TO M2 M3) {Q : zMem → Prop} (hQ : ∀ M4, JA B M4 N F us → M4.1 236 = M2.1 236 → TO M2 M4 → (∀ j, M4.1 231 j = M2.1 231 j) → Q M4) : S_X12_comeBack (d + 1) 236 0 M3 (zU Q) := by
  refine c_X12_comeBack (from_ := 0) (by decide) (by omega) (by decide) (by decide) (fun M4 a1 a2 => ?_)
  have e236 : M3.1 236 = M2.1 236 := ht.1.1 236 (by omega)
  have row : ∀ j, M4.1 231 j = M2.1 231 j := by
    intro j
    have e2 : M2.1 231 = M.1 231 := hs.1 231 (by omega)
    by_cases q4 : j < 202 ∨ 405 ≤ j
    · rw [a2.2 j q4, ht.2.2 j q4]
    · have w := a1 (j - 202) (by omega)
      rw [e236, Nat.zero_add, hsv _ (by omega)] at w
      unfold fR at w
      rw [show 202 + (j - 202) = j by omega] at w
      rw [w, e2]
  have t4 : TO M2 M4 := ht.trans ⟨a2.1.mono (fun z hz => by omega), fun j _ _ => by rw [a2.1.1 229 (by omega)], a2.2⟩
  refine hQ M4 (h.ro ?_) (by rw [a2.1.1 236 (by omega)]; exact e236) t4 row
  refine ⟨(hs.mono (fun z hz => by omega)).trans (t4.1.mono (fun z hz => by omega)), by rw [t4.1.1 217 (by omega), hs.1 217 (by omega)], fun j _ => by rw [t4.1.1 222 (by omega), hs.1 222 (by omega)], fun j hj => by rw [t4.2.1 j (by omega) (by omega), hs.1 229 (by omega)], fun j _ => by rw [row, hs.1 231 (by omega)]⟩
theorem bdF_pull {B m : Nat} (hP : okP P) (hp : p < 4) (hq : q < 4) (h : bdG B m F) : bdG B m (pullD P F p q).2 := bdG_pull hP h hp hq
theorem add_sub_l (a b : Nat) : nI a + nI b - nI b = nI a := Int32.add_sub_cancel _ _
theorem add_sub_r (a b : Nat) : nI a + nI b - nI a = nI b := by
  rw [Int32.add_comm]
  exact Int32.add_sub_cancel _ _
theorem m_pulls (h : JA B M N F us) (hB : B ≤ 1000000000) (hp : p < 4) (hq : q < 4) (hne : p ≠ q) (hs : Same (fun z => z = 236) M M2) (hsv : ∀ j, j < 203 → M2.1 236 j = fR M j) (hQ : ∀ M4, JA B M4 N F us → Q v M4) : ∀ (c i : Nat) (G : Nat → Int32) (M3 : zMem), i + c = 100 → TO M2 M3 → PR M3 (plOf N) G → bdG B m G → pulS (plOf N) p q c i G = v → S_X12_pulls_36 (d + 65) (nI p) (nI q) (nI i) M3 (zI Q)
  | 0, i, G, M3, hi, ht, hr, hg, hv => by
    have e : i = 100 := by omega
    subst e
    unfold pulS at hv
    refine t_X12_pulls_36 ⟨fun _ => t_X12_pulls_105 (e_X12_rootOf (d := d + 35) hp hr (fun M5 l5 => e_X12_rootOf (d := d + 35) hq (PR_lay hr l5) (fun M6 l6 => ?_))), fun w => absurd (by decide) w⟩
    have t6 : TO M2 M6 := ht.trans (l5.to.trans l6.to)
    refine ⟨fun w => m_back h hs hsv t6 (fun M4 j4 _ _ _ => zii ?_), fun w => m_back h hs hsv t6 (fun M4 j4 _ _ _ => zii ?_)⟩
    · rw [if_neg w] at hv; rw [hv]; exact hQ M4 j4
    · rw [if_pos w] at hv; rw [show nI 100 = (100 : Int32) from rfl, hv]; exact hQ M4 j4
  | c + 1, i, G, M3, hi, ht, hr, hg, hv => by
    unfold pulS at hv
    refine t_X12_pulls_36 ⟨fun w => absurd w (by rw [show (100 : Int32) = nI 100 from rfl]; exact nI_ge (by omega) (by omega)), fun _ => e_X12_rootOf (d := d + 35) hp hr (fun M5 l5 => e_X12_rootOf (d := d + 35) hq (PR_lay hr l5) (fun M6 l6 => ?_))⟩
    have t6 : TO M2 M6 := ht.trans (l5.to.trans l6.to)
    have r6 : PR M6 (plOf N) G := PR_lay (PR_lay hr l5) l6
    refine ⟨fun w => ?_, fun w => ⟨fun w2 => ?_, fun w2 => ?_⟩⟩
    · rw [if_pos w] at hv
      refine t_X12_pulls_105 (e_X12_rootOf (d := d + 35) hp r6 (fun M7 l7 => e_X12_rootOf (d := d + 35) hq (PR_lay r6 l7) (fun M8 l8 => ?_)))
      have t8 : TO M2 M8 := t6.trans (l7.to.trans l8.to)
      refine ⟨fun w3 => absurd w w3, fun _ => m_back h hs hsv t8 (fun M4 j4 _ _ _ => zii ?_)⟩
      rw [hv]; exact hQ M4 j4
    · rw [even_nI (by omega)] at w2
      rw [if_neg w, if_neg w2] at hv
      rw [add_sub_l]
      refine e_X12_why2 hq hp r6 (bdG_bdF hg hB) (fun M7 o7 => ⟨fun e => ?_, fun e => ?_⟩)
      · rw [nI_1]
        rw [pullD_F e] at hv
        exact m_pulls h hB hp hq hne hs hsv hQ c (i + 1) G M7 (by omega) (t6.trans o7.to) (PR_off r6 o7) hg hv
      · refine e_X12_live2 hq hp (PR_off r6 o7) (bdG_bdF hg hB) e (fun M8 r8 l8 => ?_)
        rw [nI_1]
        exact m_pulls h hB hp hq hne hs hsv hQ c (i + 1) _ M8 (by omega) (t6.trans (o7.to.trans l8.to)) r8 (bdG_pull hr.1 hg hq hp) hv
    · rw [even_nI (by omega)] at w2
      rw [if_neg w, if_pos w2] at hv
      rw [add_sub_r]
      refine e_X12_why2 hp hq r6 (bdG_bdF hg hB) (fun M7 o7 => ⟨fun e => ?_, fun e => ?_⟩)
      · rw [nI_1]
        rw [pullD_F e] at hv
        exact m_pulls h hB hp hq hne hs hsv hQ c (i + 1) G M7 (by omega) (t6.trans o7.to) (PR_off r6 o7) hg hv
      · refine e_X12_live2 hp hq (PR_off r6 o7) (bdG_bdF hg hB) e (fun M8 r8 l8 => ?_)
        rw [nI_1]
        exact m_pulls h hB hp hq hne hs hsv hQ c (i + 1) _ M8 (by omega) (t6.trans (o7.to.trans l8.to)) r8 (bdG_pull hr.1 hg hp hq) hv
theorem o_pulls (h : JA B M N F us) (hB : B ≤ 1000000000) : S_X11_pulls (d + 64) x y M (zI fun r M1 => S_X12_pulls (d + 65) x y M1 (zI fun r2 M2 => eqJ B r r2 M2)) := by
  have h4 := h.m4
  refine t_X11_pulls (c_X11_areTwo h.c4 ⟨fun e => zii ?_, fun e => ?_⟩)
  · exact t_X12_pulls (fun M1 e1 => c_X12_areTwo (e1 ▸ h.w0.r1) h4 ⟨fun _ => zii ⟨rfl, e1 ▸ h.w0.j⟩, fun e2 => (by rw [e] at e2; cases e2)⟩)
  obtain ⟨p, q, hp, hq, hne, e1, e2⟩ := twoN_of e h4
  rw [e1, e2] at e ⊢
  have hc := PC_cut h.pc (p := p) (q := q) (by omega) (by omega)
  rw [pT63.2.1] at hc
  refine c_X3_areCut (b := 10) (by decide) (by omega) ?_
  rw [hc]
  have model : ∀ M1, JA B M1 N F us → ∀ v, (cutB F p q = true → v = -1) → (cutB F p q = false → v = pulS (plOf N) p q 100 0 F) → S_X12_pulls (d + 65) (nI p) (nI q) M1 (zI fun r2 M2 => eqJ B v r2 M2) := by
    intro M1 h1 v v1 v2
    refine t_X12_pulls (fun M2 f2 => c_X12_areTwo (f2 ▸ h1.w0.r1) h4 ⟨fun e2 => (by rw [e] at e2; cases e2), fun _ => ?_⟩)
    have hw : JA B M2 N F us := f2 ▸ h1.w0
    refine c_X12_areCut (by omega) (by omega) ?_
    rw [PR_cut hw.pr (by omega)]
    refine ⟨fun g => ?_, fun g => zii ⟨(v1 g).symm, hw.j⟩⟩
    refine c_X12_save (from_ := 0) (by decide) (by omega) (by decide) (by decide) (fun M3 a1 a2 a3 => ?_)
    have r3 : PR M3 (plOf N) F := ⟨h.pr.1, plnR_same hw.pr.2.1 (fun j _ => by rw [a3.1 231 (by omega)]) (fun z hz => a3.1 z (by omega)), by rw [fR_same (a3.1 231 (by omega))]; exact hw.pr.2.2⟩
    exact m_pulls (v := v) hw hB (by omega) (by omega) hne a3 (fun j hj => by have := a1 j hj; rw [Nat.zero_add] at this; exact this) (fun M4 j4 => ⟨rfl, j4.j⟩) 100 0 F M3 (by omega) (TO.refl M3) r3 h.2.1.2.2 (v2 g).symm
  refine ⟨fun g => ?_, fun g => zii (model M h _ (fun _ => rfl) (fun w => by rw [g] at w; cases w))⟩
  refine e_X4_copyFrom (b := 114) (b2 := 63) (by decide) (by decide) (by decide) h.pc (fun M1 p1 q1 s1 => ?_)
  exact c_pulls (M0 := M) (by omega) (by omega) hne 100 0 F M1 (by omega) p1 s1 (fun M2 s2 => model M2 (h.ro (RO.trial s2)) _ (fun w => by rw [g] at w; cases w) (fun _ => rfl))
end
