-- ===== a BOOK judged: the model =====
section
variable {d n most i k p B m : Nat} {M M2 M3 : zMem} {N : zNm} {P : zPl} {F G : Nat → Int32} {b : zBk} {us : List (Nat → Int32)} {x y : Int32}
theorem m_go {Q : Int32 → zMem → Prop} (hM : PR M (plOf N) F) (hB : bdF F) (hr : rwR M i b) (hb : okB N b) (hi : i < 40) (h : ∀ M2, PR M2 (plOf N) (ddB (plOf N) F b).2 → TO M M2 → Q (whB (plOf N) F b) M2) : S_X12_goBy (d + 33) (nI (4 * i)) M (zI Q) := by
  have h24 : (kyN N).length ≤ 24 := hM.1.1
  have h4 : (prN N).length ≤ 4 := hM.1.2.1
  have o5 := opB_5 b.1
  have c1 : (nI (4 * i) + 1) = nI (4 * i + 1) := nI_1 _
  have c2 : nI (4 * i) + 2 = nI (4 * i + 2) := by rw [show (2 : Int32) = nI 2 from rfl, nI_add]
  have c3 : nI (4 * i) + 3 = nI (4 * i + 3) := by rw [show (3 : Int32) = nI 3 from rfl, nI_add]
  obtain ⟨r0, r1, r2, r3⟩ := hr
  refine t_X12_goBy ?_
  rw [c1, c2, c3, nI_clamp (by omega), nI_clamp (by omega), nI_clamp (by omega), nI_clamp (by omega), r0, r1, r2, r3]
  refine ⟨nIin (by omega) (by omega), nIin (by omega) (by omega), nIin (by omega) (by omega), nIin (by omega) (by omega), ?_⟩
  have step : ∀ {o a c e : Int32} (D : Int32 × (Nat → Int32)), ddB (plOf N) F b = D → o = nI (opB b.1) → (∀ (Q : Int32 → zMem → Prop), (∀ M2, OffOnly M M2 → Q D.1 M2) → S_X12_why (d + 32) o a c e M (zI Q)) → (∀ (M1 : zMem) (Q : zMem → Prop), D.1 = 0 → PR M1 (plOf N) F → (∀ M2, PR M2 (plOf N) D.2 → LiveOnly M1 M2 → Q M2) → S_X12_live (d + 32) o a c e M1 (zU Q)) → a = nI b.2.1 → c = nI b.2.2.1 → e = nI b.2.2.2 →
      S_X12_why (d + 32) o a c e M (zI (fun r25 M26 => (r25 = 0 → vp_in (nI (4 * i + 1)) 160 ∧ (vp_in (nI (4 * i + 2)) 160 ∧ (vp_in (nI (4 * i + 3)) 160 ∧ (S_X12_live (d + 32) o (M26.1 260 (4 * i + 1)) (M26.1 260 (4 * i + 2)) (M26.1 260 (4 * i + 3)) M26 (zU (fun M32 => zI Q (some (.int 0)) M32)))))) ∧ (¬ (r25 = 0) → zI Q (some (.int ((10 * o) + r25))) M26))) := by
    intro o a c e D hD ho hw hl ea ec ee
    refine hw _ (fun M1 o1 => ⟨fun q => ⟨nIin (by omega) (by omega), nIin (by omega) (by omega), nIin (by omega) (by omega), ?_⟩, fun q => zii ?_⟩)
    · have t : M1.1 260 = M.1 260 := o1.1.1 260 (by omega)
      rw [t, r1, r2, r3, ← ea, ← ec, ← ee]
      refine hl M1 _ q (PR_off hM o1) (fun M2 p2 l2 => zii ?_)
      have := h M2 (by rw [hD]; exact p2) (o1.to.trans l2.to)
      unfold whB at this
      rw [hD, if_pos q] at this
      exact this
    · have hF := ddB_F (P := plOf N) (F := F) (b := b) (by rw [hD]; exact q)
      have := h M1 (by rw [hF]; exact PR_off hM o1) o1.to
      unfold whB at this
      rw [hD, if_neg q] at this
      rw [ho, show (10 : Int32) = nI 10 from rfl, pk_mul]
      exact this
  obtain ⟨h1, h2, h3, h5, h6⟩ := hb
  rcases (show b.1 = 9 ∨ b.1 = 10 ∨ b.1 = 11 ∨ b.1 = 12 ∨ b.1 = 13 by omega) with e | e | e | e | e
  · have q := h5 (by omega)
    have eo : nI (opB b.1) = 3 := by rw [e]; rfl
    rw [eo]
    exact step (cutD F b.2.1 b.2.2.1) (if_pos e) eo.symm (fun Q c => e_X12_why3 (by omega) (by omega) hM (c M (OffOnly.refl M))) (fun M1 Q a c e => e_X12_live3 (by omega) (by omega) c a e) rfl rfl rfl
  · have q := h3 (by omega)
    have eo : nI (opB b.1) = 0 := by rw [e]; rfl
    rw [eo]
    exact step (putD F b.2.1 b.2.2.1 (nI b.2.2.2)) (by unfold ddB; rw [if_neg (by omega), if_pos e]) eo.symm (fun Q c => e_X12_why0 (by omega) (by omega) hM (c M (OffOnly.refl M))) (fun M1 Q a c e => e_X12_live0 (by omega) (by omega) c a e) rfl rfl rfl
  · have q := h3 (by omega)
    have eo : nI (opB b.1) = 1 := by rw [e]; rfl
    rw [eo]
    exact step (dropD F b.2.1 b.2.2.1) (by unfold ddB; rw [if_neg (by omega), if_neg (by omega), if_pos e]) eo.symm (fun Q c => e_X12_why1 (by omega) (by omega) hM (c M (OffOnly.refl M))) (fun M1 Q a c e => e_X12_live1 (by omega) (by omega) c a e) rfl rfl rfl
  · have q := h5 (by omega)
    have eo : nI (opB b.1) = 2 := by rw [e]; rfl
    rw [eo]
    exact step (pullD (plOf N) F b.2.1 b.2.2.1) (by unfold ddB; rw [if_neg (by omega), if_neg (by omega), if_neg (by omega), if_pos e]) eo.symm (fun Q c => e_X12_why2 (by omega) (by omega) hM hB c) (fun M1 Q a c e => e_X12_live2 (by omega) (by omega) c hB a e) rfl rfl rfl
  · have q := h5 (by omega)
    have eo : nI (opB b.1) = 4 := by rw [e]; rfl
    rw [eo]
    exact step (healD F b.2.1 b.2.2.1) (by unfold ddB; rw [if_neg (by omega), if_neg (by omega), if_neg (by omega), if_neg (by omega)]) eo.symm (fun Q c => e_X12_why4 (by omega) (by omega) hM (c M (OffOnly.refl M))) (fun M1 Q a c e => e_X12_live4 (by omega) (by omega) c a e) rfl rfl rfl
/-- the lines in the model's row -/
def rwsR (M : zMem) (bs : List zBk) : Prop := M.1 229 53 = nI bs.length ∧ bs.length ≤ 40 ∧ ∀ i b, bs[i]? = some b → rwR M i b ∧ okB N b
theorem rwsR_to {bs : List zBk} (h : rwsR (N := N) M bs) (ht : TO M M2) : rwsR (N := N) M2 bs := by
  unfold rwsR rwR at h ⊢
  rw [ht.1.1 260 (by omega), ht.2.1 53 (by omega) (by omega)]
  exact h
theorem m_judge {Q : Int32 → zMem → Prop} {all : List zBk} {M0 : zMem} {B : Nat} (hall : rwsR (N := N) M0 all) (hB : B + 1000 ≤ 1000000000)
    (h : ∀ M2, PR M2 (plOf N) (jdS (plOf N) all 0 F).2.2 → TO M0 M2 → S_X12_book_121 (d + 34) x (nI (jdS (plOf N) all 0 F).2.1) (jdS (plOf N) all 0 F).1 M2 (zI Q)) :
    ∀ (bs : List zBk) (i : Nat) (G : Nat → Int32) (M : zMem), i + bs.length = all.length → (∀ j b, bs[j]? = some b → all[i + j]? = some b) → jdS (plOf N) all 0 F = jdS (plOf N) bs i G → PR M (plOf N) G → bdG (B + i) (prN N).length G → TO M0 M → S_X12_book_91 (d + 34) x (nI i) 0 M (zI Q)
  | [], i, G, M, hi, _, hj, hM, hg, hS => by
    have h40 := hall.2.1
    have hr := rwsR_to hall hS
    have hi : i = all.length := hi
    subst hi
    refine t_X12_book_91 ⟨fun _ => ?_, fun q => absurd (leY hr.1 (by omega)) q⟩
    rw [hj] at h
    exact h M hM hS
  | b :: bs, i, G, M, hi, hb, hj, hM, hg, hS => by
    have h40 := hall.2.1
    have hr := rwsR_to hall hS
    have hi : i + (bs.length + 1) = all.length := hi
    have hb0 := hb 0 b rfl
    obtain ⟨q1, q2⟩ := hr.2.2 i b hb0
    rw [jdS_c] at hj
    refine t_X12_book_91 ⟨fun q => absurd q (leN hr.1 (by omega) (by omega)), fun _ => ⟨fun q => absurd rfl q, fun _ => ?_⟩⟩
    rw [i4]
    refine m_go (d := d) hM (bdG_bdF hg (by omega)) q1 q2 (by omega) (fun M2 p2 t2 => ?_)
    by_cases e0 : (ddB (plOf N) G b).1 = 0
    · have w0 : whB (plOf N) G b = 0 := if_pos e0
      rw [if_pos e0] at hj
      rw [w0]
      refine ⟨fun q => absurd rfl q, fun _ => ?_⟩
      rw [nI_1]
      refine m_judge hall hB h bs (i + 1) (ddB (plOf N) G b).2 M2 (by omega) (fun j c hc => ?_) hj p2 (bdG_dd hM.1 q2 hg) (hS.trans t2)
      have := hb (j + 1) c hc
      rw [show i + 1 + j = i + (j + 1) by omega]
      exact this
    · rw [if_neg e0] at hj
      have w0 := whB_ne (P := plOf N) q2 e0
      refine ⟨fun _ => ?_, fun q => absurd q w0⟩
      rw [ddB_F e0] at p2
      have hr2 := rwsR_to hall (hS.trans t2)
      rw [hj] at h
      exact t_X12_book_91 ⟨fun q => absurd q (leN hr2.1 (by omega) (by omega)), fun _ => ⟨fun _ => h M2 p2 (hS.trans t2), fun q => absurd q w0⟩⟩
end
