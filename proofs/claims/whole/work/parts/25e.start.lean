-- ===== the start: the words of nest mates, the texts, all together =====
theorem i2_in {w : Cond} (i : Nat) (h : tables_1_2[i]? = some w) : w ∈ lw_tbl := by
  have h2 : w ∈ tables_1_2 := List.mem_of_getElem? h
  unfold lw_tbl tables_1
  simp only [List.mem_append]
  exact Or.inr (Or.inr (Or.inl h2))
theorem i3_in {w : Cond} (i : Nat) (h : tables_1_3[i]? = some w) : w ∈ lw_tbl := by
  have h2 : w ∈ tables_1_3 := List.mem_of_getElem? h
  unfold lw_tbl tables_1
  simp only [List.mem_append]
  exact Or.inr (Or.inr (Or.inr (Or.inl h2)))
theorem i4_in {w : Cond} (i : Nat) (h : tables_1_4[i]? = some w) : w ∈ lw_tbl := by
  have h2 : w ∈ tables_1_4 := List.mem_of_getElem? h
  unfold lw_tbl tables_1
  simp only [List.mem_append]
  exact Or.inr (Or.inr (Or.inr (Or.inr (Or.inl h2))))
theorem w_n0 : Cond.methodLinkNest RX11 19 yX8_init RX11 ∈ lw_tbl := z_inL1 35 (by decide +kernel)
theorem w_n1 : Cond.methodLinkNest RX8 9 yX5_init RX11 ∈ lw_tbl := z_inL1 41 (by decide +kernel)
theorem w_n2 : Cond.methodLinkNest RX8 18 yX3_init RX11 ∈ lw_tbl := z_inL1 111 (by decide +kernel)
theorem w_n3 : Cond.methodLinkNest RX8 25 yX7_init RX11 ∈ lw_tbl := z_inL1 148 (by decide +kernel)
theorem w_n4 : Cond.methodLinkNest RX4 11 yX9_init RX11 ∈ lw_tbl := z_inL1 192 (by decide +kernel)
theorem w_n5 : Cond.methodLinkNest RX11 50 yX3_init RX11 ∈ lw_tbl := i2_in 26 (by decide +kernel)
theorem w_n6 : Cond.methodLinkNest RX10 24 yX3_init RX11 ∈ lw_tbl := i2_in 35 (by decide +kernel)
theorem w_n7 : Cond.methodLinkNest RX11 63 yX2_init RX11 ∈ lw_tbl := i2_in 49 (by decide +kernel)
theorem w_n8 : Cond.methodLinkNest RX5 70 yX11_mix RX11 ∈ lw_tbl := i3_in 159 (by decide +kernel)
theorem w_n9 : Cond.methodLinkNest RX3 56 yX11_mix RX11 ∈ lw_tbl := i3_in 217 (by decide +kernel)
theorem w_n10 : Cond.methodLinkNest RX9 94 yX11_mix RX11 ∈ lw_tbl := i3_in 238 (by decide +kernel)
theorem w_nest {s : State} {args : Array Value} (hts : ∀ w ∈ lw_tbl, w.before args s = true) : ∀ q ∈ z_nest, va_Nw (.methodLinkNest q.1 q.2.1 q.2.2.1 q.2.2.2) s := by
  have h : ∀ q ∈ z_nest, Cond.methodLinkNest q.1 q.2.1 q.2.2.1 q.2.2.2 ∈ lw_tbl := List.forall_mem_cons.mpr ⟨w_n0, List.forall_mem_cons.mpr ⟨w_n1, List.forall_mem_cons.mpr ⟨w_n2, List.forall_mem_cons.mpr ⟨w_n3, List.forall_mem_cons.mpr ⟨w_n4, List.forall_mem_cons.mpr ⟨w_n5, List.forall_mem_cons.mpr ⟨w_n6, List.forall_mem_cons.mpr ⟨w_n7, List.forall_mem_cons.mpr ⟨w_n8, List.forall_mem_cons.mpr ⟨w_n9, List.forall_mem_cons.mpr ⟨w_n10, fun _ h => absurd h List.not_mem_nil⟩⟩⟩⟩⟩⟩⟩⟩⟩⟩⟩
  exact fun q hq => va_Nw.of rfl (hts _ (h q hq))
theorem w_tx (i : Nat) (hi : i < 9) : Cond.stringRef RX11 (z_txK.getD i 0) (z_txT.getD i "") ∈ lw_tbl := by
  rcases (show i = 0 ∨ i = 1 ∨ i = 2 ∨ i = 3 ∨ i = 4 ∨ i = 5 ∨ i = 6 ∨ i = 7 ∨ i = 8 by omega) with rfl | rfl | rfl | rfl | rfl | rfl | rfl | rfl | rfl
  · exact i4_in 239 (by decide +kernel)
  · exact z_inL5 56 (by decide +kernel)
  · exact z_inL5 62 (by decide +kernel)
  · exact i6_in 57 (by decide +kernel)
  · exact i6_in 90 (by decide +kernel)
  · exact i6_in 98 (by decide +kernel)
  · exact i6_in 109 (by decide +kernel)
  · exact i6_in 121 (by decide +kernel)
  · exact i6_in 132 (by decide +kernel)
theorem w_R {s : State} {args : Array Value} {adK : Nat → Nat} (hts : ∀ w ∈ lw_tbl, w.before args s = true) (hK : ∀ i : Nat, i < 9 → (tmX i).eval args s none [] s = some (.ref (adK i))) (i : Nat) (hi : i < 9) : vk_R RX11 (z_txK.getD i 0) (z_txT.getD i "") (adK i) s := vk_R.of (hts _ (w_tx i hi)) (hK i hi)
/-- where the launch's objects are -/
def w_sA (t b : Nat) (adK adV : Nat → Nat) : Nat → Nat := fun k => if k = 0 then t else if k ≤ 9 then adK (k - 1) else if k ≤ 18 then adV (k - 10) else b
theorem w_sA_k {t b i : Nat} {adK adV : Nat → Nat} (h : i < 9) : w_sA t b adK adV (1 + i) = adK i := by
  unfold w_sA
  rw [if_neg (by omega), if_pos (by omega), show 1 + i - 1 = i by omega]
theorem w_sA_v {t b i : Nat} {adK adV : Nat → Nat} (h : i < 9) : w_sA t b adK adV (10 + i) = adV i := by
  unfold w_sA
  rw [if_neg (by omega), if_neg (by omega), if_pos (by omega), show 10 + i - 10 = i by omega]
theorem w_sA_b {t b : Nat} {adK adV : Nat → Nat} : w_sA t b adK adV 19 = b := rfl
theorem w_sA_t {t b : Nat} {adK adV : Nat → Nat} : w_sA t b adK adV 0 = t := rfl
theorem w_S {t b : Nat} {adK adV : Nat → Nat} {A : Nat → Prop} {U : State} {H : Heap} (h : vk_S 9 z_txN z_txB adK adV A U H) : vk_S 9 z_txN z_txB (fun i => w_sA t b adK adV (1 + i)) (fun i => w_sA t b adK adV (10 + i)) A U H := by
  refine ⟨fun i hi => ?_, fun i j hi hj e => h.2 i j hi hj ?_⟩
  · have q := h.1 i hi
    simp only [w_sA_k hi, w_sA_v hi]
    exact q
  · simp only [w_sA_k hi, w_sA_k hj] at e
    exact e
theorem w_warm (s : State) : s.WarmedH s.vm := ⟨rfl, rfl, fun d k h => ⟨k, h, rfl, rfl, fun i => Or.inl rfl, Or.inl ⟨rfl, rfl⟩⟩⟩
theorem w_En {s : State} {b : Nat} (hts : ∀ w ∈ lw_tbl, w.before #[Value.ref b] s = true) (hgv : (Jvm.Cond.and given_1 narrow_1).before #[Value.ref b] s = true) : ∃ (D : va_G) (sA : Nat → Nat) (cA : Nat → ClassId), z_En D sA cA s.heap s ∧ sA 19 = b := by
  have hA : ∀ a : Nat, a < s.heap.size → ¬ z_A s.heap.size a := fun a h => Nat.not_le.mpr h
  obtain ⟨D, hD⟩ := w_Kn (fun w hw => hts w (z_tb hw))
  obtain ⟨cA, hcA⟩ := w_tys hts
  obtain ⟨t, ht, hT⟩ := w_WORDS hgv hA
  obtain ⟨adK, adV, hS, hK⟩ := w_texts hgv hA
  have hZ := w_Z (hts _ (i3_in 46 (by decide +kernel))) (hts _ (z_tb zy_12)) ht hA
  have hOr : z_Or (w_sA t b adK adV) s := ⟨b, hts, hgv, hT, w_S hS, fun i hi => by rw [w_sA_k hi]; exact w_R hts hK i hi⟩
  exact ⟨D, w_sA t b adK adV, cA, ⟨⟨hD, hcA⟩, w_nest hts, va_Nw.of rfl (hts _ (i3_in 45 (by decide +kernel))), hZ, s, rfl, w_warm s, hOr⟩, rfl⟩
theorem w_flags {l : Launch} (h : l.flags = flags0) : l.stackTraces = false := by
  unfold Jvm.Launch.stackTraces
  rw [h]
  decide
