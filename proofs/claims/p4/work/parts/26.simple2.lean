/-! seen, worlds, type -/
theorem pub_seen : Pub_seen Rel := by
  rintro wX wM ⟨N, S, A, T, y, D, h⟩ v0 v1
  have hR := h
  obtain ⟨hN, hX, hM, hT, h2, hS, h12⟩ := h
  have hM0 : NetM (am_set wM 0 0 0 (nI 0)) N S A := hM.k (KM0 wM)
  have h8 := hN.2.1
  by_cases c0 : ∃ k, k < 4 ∧ v0 = nI k
  rotate_left
  · refine pub_same hR (-nI 1) ?_ ?_ (KX.rf _) (KM0 wM)
    · simp only [mX5_seen, X_sort_f _ c0, cl_mk, nm_mk, pu_mk, lit, if_true, if_false, ne_eq, not_false_eq_true, not_true_eq_false, nI_add, nI_or, nI_and, Bool.false_eq_true, ne01, ne10, nI_m1', Nat.or_zero]
    · simp only [mX6_seen, M_sort_f _ c0, cl_mk, nm_mk, pu_mk, lit, if_true, if_false, ne_eq, not_false_eq_true, not_true_eq_false, nI_add, nI_or, nI_and, Bool.false_eq_true, ne01, ne10, nI_m1', Nat.or_zero]
  obtain ⟨s, hs, rfl⟩ := c0
  by_cases c1 : ∃ k, k < N ∧ v1 = nI k
  rotate_left
  · refine pub_same hR (-nI 1) ?_ ?_ (KX.rf _) (KM0 wM)
    · simp only [mX5_seen, X_sort_t _ hs, X_has_f hX hN c1, cl_mk, nm_mk, pu_mk, lit, if_true, if_false, ne_eq, not_false_eq_true, not_true_eq_false, nI_add, nI_or, nI_and, Bool.false_eq_true, ne01, ne10, nI_m1', Nat.or_zero]
    · simp only [mX6_seen, M_sort_t _ hs, M_world_f hM0 hN c1, cl_mk, nm_mk, pu_mk, lit, if_true, if_false, ne_eq, not_false_eq_true, not_true_eq_false, nI_add, nI_or, nI_and, Bool.false_eq_true, ne01, ne10, nI_m1', Nat.or_zero]
  obtain ⟨k, hk, rfl⟩ := c1
  have eat : mX5_at 12 1 (nI s) wX = some (am_ask s, wX) := by
    rw [at_in wX (show s < 4 from hs) (by decide), h12]
  refine ⟨nI (seenS N S s k), am_setL wX (wX.2 + (am_ask s).toInt64), am_setL (am_set wM 0 0 0 (nI 0)) (wM.2 + (am_ask s).toInt64), ?_, ?_, N, S, A, T, y, D, hN, hX, hM0, ?_, ?_, ?_, h12⟩
  · have e := X_seenBy (w := am_setL wX (wX.2 + (am_ask s).toInt64)) hX hN hs hk
    simp only [mX5_seen, X_sort_t _ hs, X_has_t hX hN hk, eat, puL_mk, e, cl_mk, nm_mk, pu_mk, lit, if_true, if_false, ne_eq, not_false_eq_true, not_true_eq_false, nI_add, nI_or, nI_and, Bool.false_eq_true, ne01, ne10, nI_m1', Nat.or_zero]
  · have e := M_seenOf (w := am_setL (am_set wM 0 0 0 (nI 0)) (wM.2 + (am_ask s).toInt64)) hM0 hN hs hk
    have z : ∀ i j : Nat, i < 4 → j < 4 → i ≠ j → (nI i = nI j) = False := fun i j hi hj hne => eq_false (fun e => hne ((nI_eq (by omega) (by omega)).mp e))
    match s, hs, e with
    | 0, _, e => simp only [mX6_seen, mX6_seen_60, M_sort_t _ (show 0 < 4 by decide), M_world_t hM0 hN hk, puL_mk, cl_mk, nm_mk, pu_mk, lit, if_true, if_false, ne_eq, not_false_eq_true, not_true_eq_false, nI_add, nI_or, nI_and, Bool.false_eq_true, ne01, ne10, nI_m1', Nat.or_zero]; exact congrArg (fun q => cl q fun x w => some (x, w)) e
    | 1, _, e => simp only [mX6_seen, mX6_seen_60, M_sort_t _ (show 1 < 4 by decide), M_world_t hM0 hN hk, puL_mk, cl_mk, nm_mk, pu_mk, lit, if_true, if_false, ne_eq, not_false_eq_true, not_true_eq_false, nI_add, nI_or, nI_and, Bool.false_eq_true, ne01, ne10, nI_m1', Nat.or_zero]; exact congrArg (fun q => cl q fun x w => some (x, w)) e
    | 2, _, e => simp only [mX6_seen, mX6_seen_60, M_sort_t _ (show 2 < 4 by decide), M_world_t hM0 hN hk, puL_mk, z 2 0 (by decide) (by decide) (by decide), z 2 1 (by decide) (by decide) (by decide), cl_mk, nm_mk, pu_mk, lit, if_true, if_false, ne_eq, not_false_eq_true, not_true_eq_false, nI_add, nI_or, nI_and, Bool.false_eq_true, ne01, ne10, nI_m1', Nat.or_zero]; exact congrArg (fun q => cl q fun x w => some (x, w)) e
    | 3, _, e => simp only [mX6_seen, mX6_seen_60, M_sort_t _ (show 3 < 4 by decide), M_world_t hM0 hN hk, puL_mk, z 3 0 (by decide) (by decide) (by decide), z 3 1 (by decide) (by decide) (by decide), z 3 2 (by decide) (by decide) (by decide), cl_mk, nm_mk, pu_mk, lit, if_true, if_false, ne_eq, not_false_eq_true, not_true_eq_false, nI_add, nI_or, nI_and, Bool.false_eq_true, ne01, ne10, nI_m1', Nat.or_zero]; exact congrArg (fun q => cl q fun x w => some (x, w)) e
  · exact hT.c rfl rfl rfl rfl
  · show wX.2 + _ = wM.2 + _
    rw [h2]
  · exact fun i hi => (hS i hi).c rfl (fun a h8 _ => am_get_row (Or.inr (by omega)))
theorem X_begin (w : AW) (v : Int32) : mX0_begin v w = some ((), setRow (setRow (am_set w 1 0 2 v) 1 1 (fun _ => nI 0) 8) 1 2 (fun _ => nI 0) 4) := by
  have e2 : ∀ w : AW, mX0_begin_30 FU (nI 0) w = some ((), setRow w 1 2 (fun _ => nI 0) 4) := by
    intro w
    refine loopE (fun n (s : Int32 × AW) => mX0_begin_30 n s.1 s.2) 4 (fun k => (nI k, setRow w 1 2 (fun _ => nI 0) k)) _ ?_ ?_ FU 0 (Nat.zero_le _) (FU_gt (by omega))
    · intro n k hk
      have c1 : ¬ nI 4 ≤ nI k := nI_ge hk (by decide)
      have e := put_in (o := 1) (a := 2) (i := k) (x := nI 0) (setRow w 1 2 (fun _ => nI 0) k) (by rw [aL_1_2]; exact hk) (by rw [aL_1_2]; decide)
      simp only [mX0_begin_30, c1, e, cl_mk, nm_mk, pu_mk, lit, if_true, if_false, ne_eq, not_false_eq_true, not_true_eq_false, nI_add, nI_or, nI_and, Bool.false_eq_true, ne01, ne10, nI_m1', Nat.or_zero]
      rfl
    · intro n
      have c1 : nI 4 ≤ nI 4 := by decide
      simp only [mX0_begin_30, c1, cl_mk, nm_mk, pu_mk, lit, if_true, if_false, ne_eq, not_false_eq_true, not_true_eq_false, nI_add, nI_or, nI_and, Bool.false_eq_true, ne01, ne10, nI_m1', Nat.or_zero]
  simp only [mX0_begin, cl_mk, nm_mk, pu_mk, lit, if_true, if_false, ne_eq, not_false_eq_true, not_true_eq_false, nI_add, nI_or, nI_and, Bool.false_eq_true, ne01, ne10, nI_m1', Nat.or_zero]
  refine loopE (fun n (s : Int32 × AW) => mX0_begin_7 n s.1 s.2) 8 (fun k => (nI k, setRow (am_set w 1 0 2 v) 1 1 (fun _ => nI 0) k)) _ ?_ ?_ FU 0 (Nat.zero_le _) (FU_gt (by omega))
  · intro n k hk
    have c1 : ¬ nI 8 ≤ nI k := nI_ge hk (by decide)
    have e := put_in (o := 1) (a := 1) (i := k) (x := nI 0) (setRow (am_set w 1 0 2 v) 1 1 (fun _ => nI 0) k) (by rw [aL_1_1]; exact hk) (by rw [aL_1_1]; decide)
    simp only [mX0_begin_7, c1, e, cl_mk, nm_mk, pu_mk, lit, if_true, if_false, ne_eq, not_false_eq_true, not_true_eq_false, nI_add, nI_or, nI_and, Bool.false_eq_true, ne01, ne10, nI_m1', Nat.or_zero]
    rfl
  · intro n
    have c1 : nI 8 ≤ nI 8 := by decide
    simp only [mX0_begin_7, c1, e2, cl_mk, nm_mk, pu_mk, lit, if_true, if_false, ne_eq, not_false_eq_true, not_true_eq_false, nI_add, nI_or, nI_and, Bool.false_eq_true, ne01, ne10, nI_m1', Nat.or_zero]
theorem M_worlds29 (w : AW) (v : Int32) : mX6_worlds_29 v FU (nI 0) w = some (v, setRow (setRow w 0 4 (fun _ => nI 0) 8) 0 5 (fun _ => nI 0) 4) := by
  have e2 : ∀ w : AW, mX6_worlds_50 v FU (nI 0) w = some (v, setRow w 0 5 (fun _ => nI 0) 4) := by
    intro w
    refine loopE (fun n (s : Int32 × AW) => mX6_worlds_50 v n s.1 s.2) 4 (fun k => (nI k, setRow w 0 5 (fun _ => nI 0) k)) _ ?_ ?_ FU 0 (Nat.zero_le _) (FU_gt (by omega))
    · intro n k hk
      have c1 : ¬ nI 4 ≤ nI k := nI_ge hk (by decide)
      simp only [mX6_worlds_50, c1, wr_in hk (show 4 < 2 ^ 31 by decide), cl_mk, nm_mk, pu_mk, lit, if_true, if_false, ne_eq, not_false_eq_true, not_true_eq_false, nI_add, nI_or, nI_and, Bool.false_eq_true, ne01, ne10, nI_m1', Nat.or_zero]
      rfl
    · intro n
      have c1 : nI 4 ≤ nI 4 := by decide
      simp only [mX6_worlds_50, c1, cl_mk, nm_mk, pu_mk, lit, if_true, if_false, ne_eq, not_false_eq_true, not_true_eq_false, nI_add, nI_or, nI_and, Bool.false_eq_true, ne01, ne10, nI_m1', Nat.or_zero]
  refine loopE (fun n (s : Int32 × AW) => mX6_worlds_29 v n s.1 s.2) 8 (fun k => (nI k, setRow w 0 4 (fun _ => nI 0) k)) _ ?_ ?_ FU 0 (Nat.zero_le _) (FU_gt (by omega))
  · intro n k hk
    have c1 : ¬ nI 8 ≤ nI k := nI_ge hk (by decide)
    simp only [mX6_worlds_29, c1, wr_in hk (show 8 < 2 ^ 31 by decide), cl_mk, nm_mk, pu_mk, lit, if_true, if_false, ne_eq, not_false_eq_true, not_true_eq_false, nI_add, nI_or, nI_and, Bool.false_eq_true, ne01, ne10, nI_m1', Nat.or_zero]
    rfl
  · intro n
    have c1 : nI 8 ≤ nI 8 := by decide
    simp only [mX6_worlds_29, c1, e2, cl_mk, nm_mk, pu_mk, lit, if_true, if_false, ne_eq, not_false_eq_true, not_true_eq_false, nI_add, nI_or, nI_and, Bool.false_eq_true, ne01, ne10, nI_m1', Nat.or_zero]
set_option maxRecDepth 100000 in
theorem pub_worlds : Pub_worlds Rel := by
  rintro wX wM ⟨N, S, A, T, y, D, h⟩ v0
  have hR := h
  obtain ⟨hN, hX, hM, hT, h2, hS, h12⟩ := h
  have hM0 : NetM (am_set wM 0 0 0 (nI 0)) N S A := hM.k (KM0 wM)
  by_cases c0 : v0 < nI 1
  · refine pub_same hR (-nI 1) ?_ ?_ (KX.rf _) (KM0 wM)
    · simp only [mX5_worlds, c0, cl_mk, nm_mk, pu_mk, lit, if_true, if_false, ne_eq, not_false_eq_true, not_true_eq_false, nI_add, nI_or, nI_and, Bool.false_eq_true, ne01, ne10, nI_m1', Nat.or_zero]
    · simp only [mX6_worlds, M_inO (lo := 1) (hi := 8) _ (Or.inl c0), cl_mk, nm_mk, pu_mk, lit, if_true, if_false, ne_eq, not_false_eq_true, not_true_eq_false, nI_add, nI_or, nI_and, Bool.false_eq_true, ne01, ne10, nI_m1', Nat.or_zero]
  by_cases c1 : v0 ≤ nI 8
  rotate_left
  · refine pub_same hR (-nI 1) ?_ ?_ (KX.rf _) (KM0 wM)
    · simp only [mX5_worlds, c0, c1, cl_mk, nm_mk, pu_mk, lit, if_true, if_false, ne_eq, not_false_eq_true, not_true_eq_false, nI_add, nI_or, nI_and, Bool.false_eq_true, ne01, ne10, nI_m1', Nat.or_zero]
    · have c2 : nI 8 < v0 := Int32.not_le.mp c1
      simp only [mX6_worlds, M_inO (lo := 1) (hi := 8) _ (Or.inr c2), cl_mk, nm_mk, pu_mk, lit, if_true, if_false, ne_eq, not_false_eq_true, not_true_eq_false, nI_add, nI_or, nI_and, Bool.false_eq_true, ne01, ne10, nI_m1', Nat.or_zero]
  obtain ⟨n, hn1, hn8, rfl⟩ : ∃ n, 1 ≤ n ∧ n ≤ 8 ∧ v0 = nI n := by
    have q : ¬ v0 < 0 := fun q => c0 (Int32.lt_trans q (by decide))
    obtain ⟨n, hn, rfl⟩ := nI_of q
    refine ⟨n, ?_, (nI_leI hn (by decide)).mp c1, rfl⟩
    rcases Nat.lt_or_ge n 1 with r | r
    · exact absurd (nI_lt r (by decide)) c0
    · exact r
  have e8 := M_inL (lo := 1) (hi := 8) (am_set wM 0 0 0 (nI 0)) hn1 hn8 (by decide)
  refine ⟨nI N, setRow (setRow (am_set wX 1 0 2 (nI n)) 1 1 (fun _ => nI 0) 8) 1 2 (fun _ => nI 0) 4, setRow (setRow (am_set (am_set wM 0 0 0 (nI 0)) 0 0 2 (nI n)) 0 4 (fun _ => nI 0) 8) 0 5 (fun _ => nI 0) 4, ?_, ?_, n, (fun _ => 0), (fun _ => 0), T, y, D, ⟨hn1, hn8, fun _ => Nat.two_pow_pos n, fun _ _ => rfl, fun _ => Nat.two_pow_pos n⟩, ?_, ?_, ?_, ?_, ?_, ?_⟩
  · simp only [mX5_worlds, c0, c1, X_size hX, X_begin, cl_mk, nm_mk, pu_mk, lit, if_true, if_false, ne_eq, not_false_eq_true, not_true_eq_false, nI_add, nI_or, nI_and, Bool.false_eq_true, ne01, ne10, nI_m1', Nat.or_zero]
  · simp only [mX6_worlds, e8, hM0.1, M_worlds29, cl_mk, nm_mk, pu_mk, lit, if_true, if_false, ne_eq, not_false_eq_true, not_true_eq_false, nI_add, nI_or, nI_and, Bool.false_eq_true, ne01, ne10, nI_m1', Nat.or_zero]
  · refine ⟨?_, fun k hk => ?_, fun i hi => ?_⟩
    · rw [setRow_row (by decide), setRow_row (by decide), am_get_self]
    · rw [setRow_row (by decide), setRow_in 8 hk]
    · rw [setRow_in 4 hi]
  · refine ⟨?_, fun k hk => ?_, fun i hi => ?_⟩
    · rw [setRow_row (by decide), setRow_row (by decide), am_get_self]
    · rw [setRow_row (by decide), setRow_in 8 hk]
    · rw [setRow_in 4 hi]
  · refine hT.c ?_ ?_ ?_ ?_
    · rw [setRow_row (by decide), setRow_row (by decide)]; rfl
    · rw [setRow_row (by decide), setRow_row (by decide)]; rfl
    · rw [setRow_row (by decide), setRow_row (by decide)]; rfl
    · rw [setRow_row (by decide), setRow_row (by decide)]; rfl
  · rw [setRow_2, setRow_2, setRow_2, setRow_2]
    exact h2
  · refine fun i hi => (hS i hi).c ?_ (fun a h8 _ => ?_)
    · funext a
      rw [setRow_row (by omega), setRow_row (by omega), am_get_row (by omega)]
    · rw [setRow_row (by omega), setRow_row (by omega), am_get_row (by omega), am_get_row (by omega)]
  · rw [setRow_row (by decide), setRow_row (by decide)]
    exact h12
