/-! heaps, alike, apart -/
theorem pub_heaps : Pub_heaps Rel := by
  rintro wX wM ⟨N, S, A, T, y, D, h⟩ v0
  have hR := h
  obtain ⟨hN, hX, hM, hT, h2, hS, h12⟩ := h
  have hM0 : NetM (am_set wM 0 0 0 (nI 0)) N S A := hM.k (KM0 wM)
  have h8 := hN.2.1
  by_cases c0 : ∃ k, k < 4 ∧ v0 = nI k
  rotate_left
  · refine pub_same hR (-nI 1) ?_ ?_ (KX.rf _) (KM0 wM)
    · simp only [mX5_heaps, X_sort_f _ c0, cl_mk, nm_mk, pu_mk, lit, if_true, if_false, ne_eq, not_false_eq_true, not_true_eq_false, nI_add, nI_or, nI_and, Bool.false_eq_true, ne01, ne10, nI_m1', Nat.or_zero]
    · simp only [mX6_heaps, M_sort_f _ c0, cl_mk, nm_mk, pu_mk, lit, if_true, if_false, ne_eq, not_false_eq_true, not_true_eq_false, nI_add, nI_or, nI_and, Bool.false_eq_true, ne01, ne10, nI_m1', Nat.or_zero]
  obtain ⟨s, hs, rfl⟩ := c0
  have hF : ∀ k, k < N → seenS N S s k < 2 ^ N := fun k hk => seenS_lt hN hk
  obtain ⟨w2, f1, f2, f3⟩ := M_splits hM0 hN hs
  have k1 := lookX_K wX N S s N
  obtain ⟨w3, g1, g2, g3⟩ := X_heapUp (hX.k k1) hN (lookX_V wX N S s) hF
  have g4 := X_howManyHeaps h8 g3
  rw [repC_end hN.1 h8 N (Nat.le_refl N)] at g4
  refine pub_same hR (nI (repC N (seenS N S s) A 9 N)) ?_ ?_ (k1.tr g2) ((KM0 wM).tr f2)
  · simp only [mX5_heaps, X_sort_t _ hs, X_look hX hN hs, g1, g4, cl_mk, nm_mk, pu_mk, lit, if_true, if_false, ne_eq, not_false_eq_true, not_true_eq_false, nI_add, nI_or, nI_and, Bool.false_eq_true, ne01, ne10, nI_m1', Nat.or_zero]
  · simp only [mX6_heaps, M_sort_t _ hs, f1, cl_mk, nm_mk, pu_mk, lit, if_true, if_false, ne_eq, not_false_eq_true, not_true_eq_false, nI_add, nI_or, nI_and, Bool.false_eq_true, ne01, ne10, nI_m1', Nat.or_zero]
section AL
variable {wX wM : AW} {N : Nat} {S A : Nat → Nat}
theorem apart_both (hX : NetX wX N S A) (hM : NetM wM N S A) (hN : NetOK N S A) {s a b : Nat} (hs : s < 4) (ha : a < N) (hb : b < N) : ∃ x wX2 wM2, mX5_depthApart (nI a) (nI b) (nI s) wX = some (x, wX2) ∧ KX wX wX2 ∧ (∃ z, mX6_splits (nI s) wM = some (z, wM2)) ∧ KM wM wM2 ∧ (∀ f : Int32 → Option (Int32 × AW), rd 64 (wM2.1 0 50) (nI (8 * a + b)) f = f x) := by
  have h8 := hN.2.1
  have hF : ∀ k, k < N → seenS N S s k < 2 ^ N := fun k hk => seenS_lt hN hk
  obtain ⟨w2, f1, f2, f3⟩ := M_splits hM hN hs
  have k1 := lookX_K wX N S s N
  obtain ⟨x, w3, g1, g2, g3⟩ := X_depthApart (hX.k k1) hN (lookX_V wX N S s) hF ha hb
  refine ⟨x, w3, w2, ?_, k1.tr g2, ⟨_, f1⟩, f2, fun f => ?_⟩
  · simp only [mX5_depthApart, X_look hX hN hs, g1, cl_mk, nm_mk, pu_mk, lit, if_true, if_false, ne_eq, not_false_eq_true, not_true_eq_false, nI_add, nI_or, nI_and, Bool.false_eq_true, ne01, ne10, nI_m1', Nat.or_zero]
  · rw [rd_in (by omega) (by decide), f3 _ (by omega)]
    unfold lvC
    rw [show (8 * a + b) / 8 = a by omega, show (8 * a + b) % 8 = b by omega, if_pos ⟨ha, hb⟩, lvF_dep hN.1 h8 ha hb g3]
end AL
theorem pub_apart : Pub_apart Rel := by
  rintro wX wM ⟨N, S, A, T, y, D, h⟩ v0 v1 v2
  have hR := h
  obtain ⟨hN, hX, hM, hT, h2, hS, h12⟩ := h
  have hM0 : NetM (am_set wM 0 0 0 (nI 0)) N S A := hM.k (KM0 wM)
  by_cases c0 : ∃ k, k < N ∧ v0 = nI k
  rotate_left
  · refine pub_same hR (-nI 1) ?_ ?_ (KX.rf _) (KM0 wM)
    · simp only [mX5_apart, X_has_f hX hN c0, cl_mk, nm_mk, pu_mk, lit, if_true, if_false, ne_eq, not_false_eq_true, not_true_eq_false, nI_add, nI_or, nI_and, Bool.false_eq_true, ne01, ne10, nI_m1', Nat.or_zero]
    · simp only [mX6_apart, M_world_f hM0 hN c0, cl_mk, nm_mk, pu_mk, lit, if_true, if_false, ne_eq, not_false_eq_true, not_true_eq_false, nI_add, nI_or, nI_and, Bool.false_eq_true, ne01, ne10, nI_m1', Nat.or_zero]
  obtain ⟨a, ha, rfl⟩ := c0
  by_cases c1 : ∃ k, k < N ∧ v1 = nI k
  rotate_left
  · refine pub_same hR (-nI 1) ?_ ?_ (KX.rf _) (KM0 wM)
    · simp only [mX5_apart, X_has_t hX hN ha, X_has_f hX hN c1, cl_mk, nm_mk, pu_mk, lit, if_true, if_false, ne_eq, not_false_eq_true, not_true_eq_false, nI_add, nI_or, nI_and, Bool.false_eq_true, ne01, ne10, nI_m1', Nat.or_zero]
    · simp only [mX6_apart, M_world_t hM0 hN ha, M_world_f hM0 hN c1, cl_mk, nm_mk, pu_mk, lit, if_true, if_false, ne_eq, not_false_eq_true, not_true_eq_false, nI_add, nI_or, nI_and, Bool.false_eq_true, ne01, ne10, nI_m1', Nat.or_zero]
  obtain ⟨b, hb, rfl⟩ := c1
  by_cases c2 : ∃ k, k < 4 ∧ v2 = nI k
  rotate_left
  · refine pub_same hR (-nI 1) ?_ ?_ (KX.rf _) (KM0 wM)
    · simp only [mX5_apart, X_has_t hX hN ha, X_has_t hX hN hb, X_sort_f _ c2, cl_mk, nm_mk, pu_mk, lit, if_true, if_false, ne_eq, not_false_eq_true, not_true_eq_false, nI_add, nI_or, nI_and, Bool.false_eq_true, ne01, ne10, nI_m1', Nat.or_zero]
    · simp only [mX6_apart, M_world_t hM0 hN ha, M_world_t hM0 hN hb, M_sort_f _ c2, cl_mk, nm_mk, pu_mk, lit, if_true, if_false, ne_eq, not_false_eq_true, not_true_eq_false, nI_add, nI_or, nI_and, Bool.false_eq_true, ne01, ne10, nI_m1', Nat.or_zero]
  obtain ⟨s, hs, rfl⟩ := c2
  obtain ⟨x, wX2, wM2, g1, g2, ⟨z, g3⟩, g4, g5⟩ := apart_both hX hM0 hN hs ha hb
  refine pub_same hR x ?_ ?_ g2 ((KM0 wM).tr g4)
  · simp only [mX5_apart, X_has_t hX hN ha, X_has_t hX hN hb, X_sort_t _ hs, g1, cl_mk, nm_mk, pu_mk, lit, if_true, if_false, ne_eq, not_false_eq_true, not_true_eq_false, nI_add, nI_or, nI_and, Bool.false_eq_true, ne01, ne10, nI_m1', Nat.or_zero]
  · simp only [mX6_apart, M_world_t hM0 hN ha, M_world_t hM0 hN hb, M_sort_t _ hs, g3, pk_mul, g5, cl_mk, nm_mk, pu_mk, lit, if_true, if_false, ne_eq, not_false_eq_true, not_true_eq_false, nI_add, nI_or, nI_and, Bool.false_eq_true, ne01, ne10, nI_m1', Nat.or_zero]
theorem pub_alike : Pub_alike Rel := by
  rintro wX wM ⟨N, S, A, T, y, D, h⟩ v0 v1 v2
  have hR := h
  obtain ⟨hN, hX, hM, hT, h2, hS, h12⟩ := h
  have hM0 : NetM (am_set wM 0 0 0 (nI 0)) N S A := hM.k (KM0 wM)
  by_cases c0 : ∃ k, k < N ∧ v0 = nI k
  rotate_left
  · refine pub_same hR (-nI 1) ?_ ?_ (KX.rf _) (KM0 wM)
    · simp only [mX5_alike, X_has_f hX hN c0, cl_mk, nm_mk, pu_mk, lit, if_true, if_false, ne_eq, not_false_eq_true, not_true_eq_false, nI_add, nI_or, nI_and, Bool.false_eq_true, ne01, ne10, nI_m1', Nat.or_zero]
    · simp only [mX6_alike, M_world_f hM0 hN c0, cl_mk, nm_mk, pu_mk, lit, if_true, if_false, ne_eq, not_false_eq_true, not_true_eq_false, nI_add, nI_or, nI_and, Bool.false_eq_true, ne01, ne10, nI_m1', Nat.or_zero]
  obtain ⟨a, ha, rfl⟩ := c0
  by_cases c1 : ∃ k, k < N ∧ v1 = nI k
  rotate_left
  · refine pub_same hR (-nI 1) ?_ ?_ (KX.rf _) (KM0 wM)
    · simp only [mX5_alike, X_has_t hX hN ha, X_has_f hX hN c1, cl_mk, nm_mk, pu_mk, lit, if_true, if_false, ne_eq, not_false_eq_true, not_true_eq_false, nI_add, nI_or, nI_and, Bool.false_eq_true, ne01, ne10, nI_m1', Nat.or_zero]
    · simp only [mX6_alike, M_world_t hM0 hN ha, M_world_f hM0 hN c1, cl_mk, nm_mk, pu_mk, lit, if_true, if_false, ne_eq, not_false_eq_true, not_true_eq_false, nI_add, nI_or, nI_and, Bool.false_eq_true, ne01, ne10, nI_m1', Nat.or_zero]
  obtain ⟨b, hb, rfl⟩ := c1
  by_cases c2 : ∃ k, k < 4 ∧ v2 = nI k
  rotate_left
  · refine pub_same hR (-nI 1) ?_ ?_ (KX.rf _) (KM0 wM)
    · simp only [mX5_alike, X_has_t hX hN ha, X_has_t hX hN hb, X_sort_f _ c2, cl_mk, nm_mk, pu_mk, lit, if_true, if_false, ne_eq, not_false_eq_true, not_true_eq_false, nI_add, nI_or, nI_and, Bool.false_eq_true, ne01, ne10, nI_m1', Nat.or_zero]
    · simp only [mX6_alike, M_world_t hM0 hN ha, M_world_t hM0 hN hb, M_sort_f _ c2, cl_mk, nm_mk, pu_mk, lit, if_true, if_false, ne_eq, not_false_eq_true, not_true_eq_false, nI_add, nI_or, nI_and, Bool.false_eq_true, ne01, ne10, nI_m1', Nat.or_zero]
  obtain ⟨s, hs, rfl⟩ := c2
  obtain ⟨x, wX2, wM2, g1, g2, ⟨z, g3⟩, g4, g5⟩ := apart_both hX hM0 hN hs ha hb
  by_cases q : x = -nI 9
  · refine pub_same hR (nI 1) ?_ ?_ g2 ((KM0 wM).tr g4)
    · simp only [mX5_alike, mX5_alike_48, mX5_whether, X_has_t hX hN ha, X_has_t hX hN hb, X_sort_t _ hs, g1, q, cl_mk, nm_mk, pu_mk, lit, if_true, if_false, ne_eq, not_false_eq_true, not_true_eq_false, nI_add, nI_or, nI_and, Bool.false_eq_true, ne01, ne10, nI_m1', Nat.or_zero]
    · simp only [mX6_alike, M_world_t hM0 hN ha, M_world_t hM0 hN hb, M_sort_t _ hs, g3, pk_mul, g5, q, cl_mk, nm_mk, pu_mk, lit, if_true, if_false, ne_eq, not_false_eq_true, not_true_eq_false, nI_add, nI_or, nI_and, Bool.false_eq_true, ne01, ne10, nI_m1', Nat.or_zero]
  · refine pub_same hR (nI 0) ?_ ?_ g2 ((KM0 wM).tr g4)
    · simp only [mX5_alike, mX5_alike_48, mX5_whether, X_has_t hX hN ha, X_has_t hX hN hb, X_sort_t _ hs, g1, q, cl_mk, nm_mk, pu_mk, lit, if_true, if_false, ne_eq, not_false_eq_true, not_true_eq_false, nI_add, nI_or, nI_and, Bool.false_eq_true, ne01, ne10, nI_m1', Nat.or_zero]
    · simp only [mX6_alike, M_world_t hM0 hN ha, M_world_t hM0 hN hb, M_sort_t _ hs, g3, pk_mul, g5, q, cl_mk, nm_mk, pu_mk, lit, if_true, if_false, ne_eq, not_false_eq_true, not_true_eq_false, nI_add, nI_or, nI_and, Bool.false_eq_true, ne01, ne10, nI_m1', Nat.or_zero]
