-- ===== a call that may throw NoSuchElementException, and what the caller makes of it =====
section
variable {p : Program} {l : Launch} {e : Env} {R : Room} {s : State} {m : MethodId} {args : Array Value} {below : List Frame} {meth : Method} {c : Code} {H : Heap} {locs : List Loc} {cells slots mc ms pc : Nat} {Q : State → Prop} {ls : Array Slot} {st0 rest : List Value} {a : Array Value} {y : z_MD} {D : va_G} {sA : Nat → Nat} {cA : Nat → ClassId} {Hb : Heap} {K : z_K} {X : Nat → (Nat → va_E) → Prop}
theorem z_runX (hr : vx_Run p l e R s m args below meth c H locs cells slots mc ms (F0 m pc ls st0) rest (z_Qc y D sA cA Hb K a) (z_XC D sA cA Hb X) (z_A Hb.size)) (hS : va_S (z_A Hb.size) s.heap H locs)
    (kk : ∀ (v : Option Value) (N' : Nat) (G' : Nat → va_E) (H1 : Heap) (locs1 : List Loc), K v N' G' → z_ok y v → z_Wd D sA cA Hb N' G' H1 → va_S (z_A Hb.size) s.heap H1 locs1 → W p l e R s m args below meth c H1 locs1 (cells + mc) (slots + ms) Q (F0 m (pc + 3) ls (v.toList ++ rest)))
    (kx : ∀ (ce : Cell) (q : Addr) (N' : Nat) (G' : Nat → va_E) (H1 : Heap) (locs1 : List Loc), X N' G' → z_Wd D sA cA Hb N' G' H1 → va_S (z_A Hb.size) s.heap H1 locs1 → H1[q]? = some ce → ce.vm = .none → s.vm.findClass z_nse = some ce.cls → vx_W p l e R s m args below meth c H1 locs1 (cells + mc) (slots + ms) Q (F0 m pc ls rest) q) : W p l e R s m args below meth c H locs cells slots Q (F0 m pc ls st0) := by
  intro T hT Xs
  rcases hr T hT Xs with ⟨v, st₀, t, T', L, h0, X', hL, e1, e2, ⟨v', N', G', hv, hp, ho, hb, hz, hk⟩, st⟩ | ⟨q, st₀, t, T', L, E, ce, h0, X', hL, e1, e2, ⟨rfl, ⟨hz, hk⟩, N', G', hp, hb⟩, hce, hcv, hcl, st⟩
  · have hvv : v = v' := by rw [z_v_ok ho] at hv; exact Option.some.inj (by injection hv with h; rw [h])
    subst hvv
    rw [h0] at hz hk
    obtain ⟨t2, a1, b1⟩ := kk v N' G' T'.heap (locs ++ L) hp ho (by rw [e1]; exact hb)
      ⟨Nat.le_trans hS.1 (by rw [e1]; exact hz), fun q h1 h2 => by rw [e1, hk q (Nat.lt_of_lt_of_le h1 hS.1) h2]; exact hS.2.1 q h1 h2, fun q hq => by
        rcases List.mem_append.mp hq with h | h
        · exact hS.2.2 q h
        · exact hL q h⟩ T' rfl X'
    exact ⟨t2, st t2 a1, b1⟩
  · rw [h0] at hz hk
    obtain ⟨t2, a1, b1⟩ := kx ce q N' G' T'.heap (locs ++ L) hp (by rw [e1]; exact hb)
      ⟨Nat.le_trans hS.1 (by rw [e1]; exact hz), fun q h1 h2 => by rw [e1, hk q (Nat.lt_of_lt_of_le h1 hS.1) h2]; exact hS.2.1 q h1 h2, fun q hq => by
        rcases List.mem_append.mp hq with h | h
        · exact hS.2.2 q h
        · exact hL q h⟩ (by rw [e1]; exact hce) hcv hcl T' rfl X'
    exact ⟨t2, st.trans a1, b1⟩
end
/-- the judgement of a method with one handler for NoSuchElementException: from 0 to end, at hp, catch type 13 -/
def z_H (hp : Nat) (y : z_MD) (d mc ms cells slots pc : Nat) (L : List (Nat × Value)) (st : List Value) (N : Nat) (G : Nat → va_E) (K : z_K) : Prop :=
  ∀ (p : Program) (l : Launch) (e : Env) (R : Room) (s : State) (m : MethodId) (args : Array Value) (below : List Frame) (meth : Method) (c : Code) (D : va_G) (sA : Nat → Nat) (cA : Nat → ClassId) (Hb : Heap) (Q : State → Prop) (H : Heap) (locs : List Loc) (ls : Array Slot),
    z_Cx y d p l R s m args meth c D sA cA Hb → c.exceptionTable.toList = tableOf [(0, hp - 3, hp, 13)] →
    (∀ (v : Option Value) (N' : Nat) (G' : Nat → va_E) (H : Heap) (locs : List Loc) (pc : Nat) (ls : Array Slot), K v N' G' → z_ok y v → z_rt y pc v → z_Wd D sA cA Hb N' G' H → va_S (z_A Hb.size) s.heap H locs → W p l e R s m args below meth c H locs mc ms Q (F0 m pc ls (v.toList.map (z_v Hb.size sA)))) →
    mc ≤ R.cells → ms ≤ R.slots → lv_has ls y.2.2.1 (z_L Hb.size sA L) → z_Wd D sA cA Hb N G H → va_S (z_A Hb.size) s.heap H locs →
    W p l e R s m args below meth c H locs cells slots Q (F0 m pc ls (st.map (z_v Hb.size sA)))
section
variable {hp : Nat} {y y2 : z_MD} {d mc ms cells slots pc index n b ci : Nat} {L : List (Nat × Value)} {st As fs : List Value} {N : Nat} {G : Nat → va_E} {K K2 : z_K} {X : Nat → (Nat → va_E) → Prop}
theorem z_H.of (h : z_V y d mc ms cells slots pc L st N G K) : z_H hp y d mc ms cells slots pc L st N G K := by
  intro p l e R s m args below meth c D sA cA Hb Q H locs ls C hx r hc hs hl hw hS
  exact h p l e R s m args below meth c D sA cA Hb Q H locs ls C r hc hs hl hw hS
theorem zh_iconst {n : Int} {v : Int32} (hd : decode y.2.1 pc = .ok (.iconst n, 1)) (hv : Int32.ofInt n = v) (k : z_H hp y d mc ms cells slots (pc + 1) L (.int v :: st) N G K) : z_H hp y d mc ms cells slots pc L st N G K := by
  intro p l e R s m args below meth c D sA cA Hb Q H locs ls C hx r hc hs hl hw hS
  exact lv_iconst C.1 C.2.1 hd hv (k p l e R s m args below meth c D sA cA Hb Q H locs ls C hx r hc hs hl hw hS)
theorem zh_iload_n {j : Fin 4} {i : Nat} {x : Int32} (hd : decode y.2.1 pc = .ok (.iload_n j, 1)) (hi : (j : Nat) = i) (n : Nat) (hk : L[n]? = some (i, .int x)) (k : z_H hp y d mc ms cells slots (pc + 1) L (.int x :: st) N G K) : z_H hp y d mc ms cells slots pc L st N G K := by
  intro p l e R s m args below meth c D sA cA Hb Q H locs ls C hx r hc hs hl hw hS
  exact lv_iload_n C.1 C.2.1 hd hi (z_at hl n hk) (k p l e R s m args below meth c D sA cA Hb Q H locs ls C hx r hc hs hl hw hS)
theorem zh_aload_n {j : Fin 4} {i : Nat} {x : Nat} (hd : decode y.2.1 pc = .ok (.aload_n j, 1)) (hi : (j : Nat) = i) (n : Nat) (hk : L[n]? = some (i, .ref x)) (k : z_H hp y d mc ms cells slots (pc + 1) L (.ref x :: st) N G K) : z_H hp y d mc ms cells slots pc L st N G K := by
  intro p l e R s m args below meth c D sA cA Hb Q H locs ls C hx r hc hs hl hw hS
  exact lv_aload_n C.1 C.2.1 hd hi (z_at hl n hk) (k p l e R s m args below meth c D sA cA Hb Q H locs ls C hx r hc hs hl hw hS)
theorem zh_aload {i : Nat} {x : Nat} (hd : decode y.2.1 pc = .ok (.aload i, 2)) (n : Nat) (hk : L[n]? = some (i, .ref x)) (k : z_H hp y d mc ms cells slots (pc + 2) L (.ref x :: st) N G K) : z_H hp y d mc ms cells slots pc L st N G K := by
  intro p l e R s m args below meth c D sA cA Hb Q H locs ls C hx r hc hs hl hw hS
  exact lv_aload C.1 C.2.1 hd (z_at hl n hk) (k p l e R s m args below meth c D sA cA Hb Q H locs ls C hx r hc hs hl hw hS)
/-- the handler: the exception on the stack -/
def z_X (hp : Nat) (y : z_MD) (d : Nat) (N : Nat) (G : Nat → va_E) (K : z_K) : Prop :=
  ∀ (q : Addr) (p : Program) (l : Launch) (e : Env) (R : Room) (s : State) (m : MethodId) (args : Array Value) (below : List Frame) (meth : Method) (c : Code) (D : va_G) (sA : Nat → Nat) (cA : Nat → ClassId) (Hb : Heap) (Q : State → Prop) (H : Heap) (locs : List Loc) (ls : Array Slot),
    z_Cx y d p l R s m args meth c D sA cA Hb →
    (∀ (v : Option Value) (N' : Nat) (G' : Nat → va_E) (H : Heap) (locs : List Loc) (pc : Nat) (ls : Array Slot), K v N' G' → z_ok y v → z_rt y pc v → z_Wd D sA cA Hb N' G' H → va_S (z_A Hb.size) s.heap H locs → W p l e R s m args below meth c H locs 1 6 Q (F0 m pc ls (v.toList.map (z_v Hb.size sA)))) →
    1 ≤ R.cells → 6 ≤ R.slots → lv_has ls y.2.2.1 [] → z_Wd D sA cA Hb N G H → va_S (z_A Hb.size) s.heap H locs →
    W p l e R s m args below meth c H locs 1 6 Q (F0 m hp ls [.ref q])
theorem z_X.asn {j : Fin 4} {i : Nat} (hd : decode y.2.1 hp = .ok (.astore_n j, 1)) (hi : (j : Nat) = i) (hn : i < y.2.2.1) (k : z_V y d 1 6 1 6 (hp + 1) [] [] N G K) : z_X hp y d N G K := by
  intro q p l e R s m args below meth c D sA cA Hb Q H locs ls C r hc hs hl hw hS
  exact lv_astore_n C.1 C.2.1 hd hi hl hn rfl (fun ls hl => k p l e R s m args below meth c D sA cA Hb Q H locs ls C r hc hs ⟨hl.1, hl.2.1, fun q hq => by cases hq⟩ hw hS)
theorem z_X.asw {i : Nat} (hd : decode y.2.1 hp = .ok (.astore i, 2)) (hn : i < y.2.2.1) (k : z_V y d 1 6 1 6 (hp + 2) [] [] N G K) : z_X hp y d N G K := by
  intro q p l e R s m args below meth c D sA cA Hb Q H locs ls C r hc hs hl hw hS
  exact lv_astore C.1 C.2.1 hd hl hn rfl (fun ls hl => k p l e R s m args below meth c D sA cA Hb Q H locs ls C r hc hs ⟨hl.1, hl.2.1, fun q hq => by cases hq⟩ hw hS)
/-- the call: returned, or caught -/
theorem zh_callX {x : ExceptionTableEntry} (hd : decode y.2.1 pc = .ok (.invokevirtual index, 3)) (hy : z_mth y2 n) (hlk : Cond.methodLink y.1.cls index y2.1 ∈ z_good) (hci0 : (vwCl[ci]?).map (fun q => q.1) = some y2.1.cls) (hb : b < N) (hG : G b = .inr (ci, fs)) (hsel : Cond.instanceMethod y2.1 ∈ z_good ∧ Cond.selects y2.1.cls y2.1 y2.1 ∈ z_good) (hA : As.length = n) (hsl : (lg_sl (.ref b :: As)).length ≤ y2.2.2.1) (hst : (st.map fun v => v.category).sum ≤ 8) (hcl : y.1.cls = RL) (hxt : tableOf [(0, hp - 3, hp, 13)] = [x]) (hcov : covers x pc = true) (hhp : x.handlerPc = hp) (hct : x.catchType = 13)
    (hk : z_T y2 d 1 6 0 0 0 (lv_args 0 (.ref b :: As)) [] N G K2 X)
    (kr : ∀ v N' G', K2 v N' G' → z_V y (d + 1) 1 6 1 6 (pc + 3) L (v.toList ++ st) N' G' K)
    (kt : ∀ N' G', X N' G' → z_X hp y (d + 1) N' G' K) : z_H hp y (d + 1) 1 6 0 0 pc L (As.reverse ++ .ref b :: st) N G K := by
  intro p l e R s m args below meth c D sA cA Hb Q H locs ls C hx r hc hs hl hw hS
  obtain ⟨T, k0, hci⟩ : ∃ (T : u_T) (k : Nat), vwCl[ci]? = some (y2.1.cls, T, k) := by
    cases h : vwCl[ci]? with
    | none => rw [h] at hci0; cases hci0
    | some q => rw [h] at hci0; exact ⟨q.2.1, q.2.2, by rw [← Option.some.inj hci0]⟩
  have hM := z_xMet (l := l) (D := D) (sA := sA) (cA := cA) (Hb := Hb) C.2.2.2.2.1.2 hy.2.2.1 hsl hk
  refine z_runX (vx_runV (As := As.map (z_v Hb.size sA)) (rest := st.map (z_v Hb.size sA)) ⟨C.1, C.2.1, C.2.2.2.1, C.2.2.2.2.2.1, C.2.2.2.2.2.2.1⟩ hM ⟨z_callB C.2.2.2.2.2.2.1 hy hlk C.2.2.2.2.2.2.2.2.2.1 C.2.2.2.2.2.2.2.2.2.2.1, C.2.2.2.2.2.2.1 _ hsel.1, C.2.2.2.2.2.2.1 _ hsel.2⟩ ⟨z_blind, va_recv C.2.2.2.2.2.2.2.1.1 hw.1 (ci := ci) (q0 := b) (q := (y2.1.cls, T, k0)) (fs := fs.map (z_v Hb.size sA)) hci (by rw [z_wl_at hb, hG]; rfl), fun U hU hW => ⟨rfl, by rw [hU]; exact hw, C.2.2.2.2.2.2.2.1.warm hW, by rw [hU]; exact Nat.le_trans C.2.2.2.2.2.2.2.2.1 hS.1⟩⟩ rfl (by rw [List.length_map]; exact hA) hl.1 (by rw [List.map_append, List.map_reverse]; rfl) (z_stk hst) hd ⟨Nat.le_trans (by omega) hc, Nat.le_trans (by omega) hs⟩) hS (fun v N' G' H1 locs1 hk ho hw hS => ?_) (fun ce q N' G' H1 locs1 hX hw hS hce hcv hcE => ?_)
  · have h := kr v N' G' hk p l e R s m args below meth c D sA cA Hb Q H1 locs1 ls C r hc hs hl hw hS
    rw [List.map_append, show v.toList.map (z_v Hb.size sA) = v.toList by rw [← Option.toList_map, z_v_ok ho]] at h
    exact h
  · refine vx_catch (own := RL) (name := z_nse) (E := z_nse) (hcl ▸ C.2.2.2.2.2.1) [] x [] (by rw [hx, hxt]; rfl) (fun z hz => by cases hz) hcov (by rw [hct]; decide) ?_ ?_ hce hcv hcE ?_
    · rw [hct]; exact C.2.2.2.2.2.2.1 _ (z_int6 13 (by decide +kernel) (by decide +kernel))
    · exact z_word C (i6_in 20 (by decide +kernel)) (by decide +kernel)
    · rw [hhp]
      exact kt N' G' hX q p l e R s m args below meth c D sA cA Hb Q H1 locs1 ls C r hc hs ⟨hl.1, hl.2.1, fun q hq => by cases hq⟩ hw hS
end
