/-! a net as one sort sees it -/
section LK
variable {w : AW} {N : Nat} {S A : Nat → Nat}
theorem aL_2_1 : am_aL false 2 1 = 8 := rfl
theorem aL_2_3 : am_aL false 2 3 = 8 := rfl
theorem aL_2_4 : am_aL false 2 4 = 8 := rfl
def lookX (w : AW) (N : Nat) (S : Nat → Nat) (sort : Nat) (k : Nat) : AW := setRow (am_set w 2 0 4 (nI N)) 2 1 (fun k => nI (seenS N S sort k)) k
theorem lookX_K (w : AW) (N : Nat) (S : Nat → Nat) (sort : Nat) : ∀ k, KX w (lookX w N S sort k)
  | 0 => (KX.rf w).set (Or.inl ⟨by decide, by decide⟩)
  | k + 1 => (lookX_K w N S sort k).set (Or.inl ⟨by decide, by decide⟩)
theorem X_look (h : NetX w N S A) (hN : NetOK N S A) {sort : Nat} (hs : sort < 4) : mX4_look (nI sort) w = some ((), lookX w N S sort N) := by
  have h8 := hN.2.1
  simp only [mX4_look, X_size h, cl_mk, nm_mk, pu_mk, lit, if_true, if_false, ne_eq, not_false_eq_true, not_true_eq_false, nI_add, nI_or, nI_and, Bool.false_eq_true, ne01, ne10, nI_m1', Nat.or_zero]
  refine loopE (fun n (s : Int32 × AW) => mX4_look_10 (nI sort) n s.1 s.2) N (fun k => (nI k, lookX w N S sort k)) _ ?_ ?_ FU 0 (Nat.zero_le _) (FU_gt (by omega))
  · intro n k hk
    have c1 : ¬ nI N ≤ nI k := nI_ge hk (by omega)
    have hK := lookX_K w N S sort k
    have e0 : (lookX w N S sort k).1 2 0 4 = nI N := by
      unfold lookX
      rw [setRow_row (by decide)]
      exact am_get_self _ _ _ _ _
    have e1 := X_seenBy (h.k hK) hN hs hk
    have e2 : ∀ x, mX5_put 2 1 (nI k) x (lookX w N S sort k) = some ((), am_set (lookX w N S sort k) 2 1 k x) := fun x => put_in _ (by rw [aL_2_1]; omega) (by rw [aL_2_1]; decide)
    simp only [mX4_look_10, e0, c1, e1, e2, cl_mk, nm_mk, pu_mk, lit, if_true, if_false, ne_eq, not_false_eq_true, not_true_eq_false, nI_add, nI_or, nI_and, Bool.false_eq_true, ne01, ne10, nI_m1', Nat.or_zero]
    rfl
  · intro n
    have c1 : nI N ≤ nI N := nI_le (Nat.le_refl N) (by omega)
    have e0 : (lookX w N S sort N).1 2 0 4 = nI N := by
      unfold lookX
      rw [setRow_row (by decide)]
      exact am_get_self _ _ _ _ _
    simp only [mX4_look_10, e0, c1, cl_mk, nm_mk, pu_mk, lit, if_true, if_false, ne_eq, not_false_eq_true, not_true_eq_false, nI_add, nI_or, nI_and, Bool.false_eq_true, ne01, ne10, nI_m1', Nat.or_zero]
def lookM (w : AW) (N : Nat) (S : Nat → Nat) (sort : Nat) (k : Nat) : AW := setRow w 0 47 (fun k => nI (seenS N S sort k)) k
theorem lookM_K (w : AW) (N : Nat) (S : Nat → Nat) (sort : Nat) : ∀ k, KM w (lookM w N S sort k)
  | 0 => KM.rf w
  | k + 1 => (lookM_K w N S sort k).set (Or.inl (by decide))
theorem M_looks (h : NetM w N S A) (hN : NetOK N S A) {sort : Nat} (hs : sort < 4) : mX6_looks (nI sort) w = some ((), lookM w N S sort N) := by
  have h8 := hN.2.1
  unfold mX6_looks
  refine loopE (fun n (s : Int32 × AW) => mX6_looks_2 (nI sort) n s.1 s.2) N (fun k => (nI k, lookM w N S sort k)) _ ?_ ?_ FU 0 (Nat.zero_le _) (FU_gt (by omega))
  · intro n k hk
    have c1 : ¬ nI N ≤ nI k := nI_ge hk (by omega)
    have hM := h.k (lookM_K w N S sort k)
    have e1 := M_seenOf hM hN hs hk
    simp only [mX6_looks_2, hM.1, c1, e1, wr_in (show k < 8 by omega) (show 8 < 2 ^ 31 by decide), cl_mk, nm_mk, pu_mk, lit, if_true, if_false, ne_eq, not_false_eq_true, not_true_eq_false, nI_add, nI_or, nI_and, Bool.false_eq_true, ne01, ne10, nI_m1', Nat.or_zero]
    rfl
  · intro n
    have hM := h.k (lookM_K w N S sort N)
    have c1 : nI N ≤ nI N := nI_le (Nat.le_refl N) (by omega)
    simp only [mX6_looks_2, hM.1, c1, cl_mk, nm_mk, pu_mk, lit, if_true, if_false, ne_eq, not_false_eq_true, not_true_eq_false, nI_add, nI_or, nI_and, Bool.false_eq_true, ne01, ne10, nI_m1', Nat.or_zero]
end LK
/-- the view looks at a net by rows Fr -/
def ViewX (w : AW) (N : Nat) (Fr : Nat → Nat) : Prop := w.1 2 0 4 = nI N ∧ ∀ k, k < N → w.1 2 1 k = nI (Fr k)
def ViewM (w : AW) (N : Nat) (Fr : Nat → Nat) : Prop := ∀ k, k < N → w.1 0 47 k = nI (Fr k)
theorem lookX_V (w : AW) (N : Nat) (S : Nat → Nat) (sort : Nat) : ViewX (lookX w N S sort N) N (seenS N S sort) := by
  refine ⟨?_, fun k hk => ?_⟩
  · unfold lookX
    rw [setRow_row (by decide)]
    exact am_get_self _ _ _ _ _
  · exact setRow_in N hk
theorem lookM_V (w : AW) (N : Nat) (S : Nat → Nat) (sort : Nat) : ViewM (lookM w N S sort N) N (seenS N S sort) := fun k hk => setRow_in N hk
