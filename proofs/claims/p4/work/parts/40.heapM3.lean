/-! the model's heaps: the first round -/
theorem am_set_set {w : AW} {o a i : Nat} {x y : Int32} : am_set (am_set w o a i x) o a i y = am_set w o a i y := by
  unfold am_set
  refine Prod.ext ?_ rfl
  funext o' a' i'
  by_cases h : o' = o ∧ a' = a ∧ i' = i
  · show (if _ then _ else _) = (if _ then _ else _)
    rw [if_pos h, if_pos h]
  · show (if _ then _ else (if _ then _ else _)) = (if _ then _ else _)
    rw [if_neg h, if_neg h, if_neg h]
def h0M (w : AW) (A : Nat → Nat) (k : Nat) : AW := setRow w 0 48 (fun a => nI (sA A a 4)) k
theorem h0M_K (w : AW) (A : Nat → Nat) : ∀ k, KM w (h0M w A k)
  | 0 => KM.rf w
  | k + 1 => (h0M_K w A k).set (Or.inl (by decide))
section H0
variable {w : AW} {N : Nat} {S A Fr : Nat → Nat}
theorem M_splits24 (h : NetM w N S A) (hN : NetOK N S A) {k : Nat} (hk : k < N) (k7 : Int32 → AW → Option (Int32 × AW)) : mX6_splits_24 k7 (nI k) FU (nI 0) (am_set w 0 48 k (nI 0)) = k7 (nI (k + 1)) (am_set w 0 48 k (nI (sA A k 4))) := by
  have h8 := hN.2.1
  have h256 := two_le h8
  refine loopE (fun n (s : Int32 × AW) => mX6_splits_24 k7 (nI k) n s.1 s.2) 4 (fun i => (nI i, am_set w 0 48 k (nI (sA A k i)))) _ ?_ ?_ FU 0 (Nat.zero_le _) (FU_gt (by omega))
  · intro n i hi
    have c1 : ¬ nI 4 ≤ nI i := nI_ge hi (by decide)
    have hA := hN.2.2.2.2 i
    have hM : NetM (am_set w 0 48 k (nI (sA A k i))) N S A := h.k ((KM.rf w).set (Or.inl (by decide)))
    have hs := sA_lt A k i
    have hp : (2 : Nat) ^ i ≤ 8 := Nat.le_trans (Nat.pow_le_pow_right (by decide) (show i ≤ 3 by omega)) (by decide)
    have r1 : ∀ f : Int32 → Option (Int32 × AW), rd 8 ((am_set w 0 48 k (nI (sA A k i))).1 0 48) (nI k) f = f (nI (sA A k i)) := fun f => by
      rw [rd_in (by omega) (by decide), am_get_self]
    cases q : (A i).testBit k
    · have e1 : nI 0 <<< nI (i &&& 31) = nI 0 := by rw [shlN (by omega) (by omega), Nat.zero_mul]
      simp only [mX6_splits_24, c1, r1, M_atom hM hi, shr_f (show k < 32 by omega) (show A i < 2 ^ 31 by omega) q, e1, wr_in (show k < 8 by omega) (show 8 < 2 ^ 31 by decide), am_set_set, sA, q, bN_f, Nat.zero_mul, Nat.add_zero, cl_mk, nm_mk, pu_mk, lit, if_true, if_false, ne_eq, not_false_eq_true, not_true_eq_false, nI_add, nI_or, nI_and, Bool.false_eq_true, ne01, ne10, nI_m1', Nat.or_zero]
    · have e1 : nI 1 <<< nI (i &&& 31) = nI (2 ^ i) := by rw [shlN (by omega) (by omega), Nat.one_mul]
      simp only [mX6_splits_24, c1, r1, M_atom hM hi, shr_t (show k < 32 by omega) (show A i < 2 ^ 31 by omega) q, e1, wr_in (show k < 8 by omega) (show 8 < 2 ^ 31 by decide), am_set_set, sA, q, bN_t, Nat.one_mul, cl_mk, nm_mk, pu_mk, lit, if_true, if_false, ne_eq, not_false_eq_true, not_true_eq_false, nI_add, nI_or, nI_and, Bool.false_eq_true, ne01, ne10, nI_m1', Nat.or_zero]
  · intro n
    have c1 : nI 4 ≤ nI 4 := by decide
    simp only [mX6_splits_24, c1, cl_mk, nm_mk, pu_mk, lit, if_true, if_false, ne_eq, not_false_eq_true, not_true_eq_false, nI_add, nI_or, nI_and, Bool.false_eq_true, ne01, ne10, nI_m1', Nat.or_zero]
theorem M_splits7 (h : NetM w N S A) (hN : NetOK N S A) : mX6_splits_7 FU (nI 0) w = mX6_splits_64 FU (nI 0) (h0M w A N) := by
  have h8 := hN.2.1
  refine loopE (fun n (s : Int32 × AW) => mX6_splits_7 n s.1 s.2) N (fun k => (nI k, h0M w A k)) _ ?_ ?_ FU 0 (Nat.zero_le _) (FU_gt (by omega))
  · intro n k hk
    have c1 : ¬ nI N ≤ nI k := nI_ge hk (by omega)
    have hM : NetM (h0M w A k) N S A := h.k (h0M_K w A k)
    have e1 := M_splits24 hM hN hk (mX6_splits_7 n)
    simp only [mX6_splits_7, hM.1, c1, wr_in (show k < 8 by omega) (show 8 < 2 ^ 31 by decide), e1, cl_mk, nm_mk, pu_mk, lit, if_true, if_false, ne_eq, not_false_eq_true, not_true_eq_false, nI_add, nI_or, nI_and, Bool.false_eq_true, ne01, ne10, nI_m1', Nat.or_zero]
    rfl
  · intro n
    have hM : NetM (h0M w A N) N S A := h.k (h0M_K w A N)
    have c1 : nI N ≤ nI N := nI_le (Nat.le_refl N) (by omega)
    simp only [mX6_splits_7, hM.1, c1, cl_mk, nm_mk, pu_mk, lit, if_true, if_false, ne_eq, not_false_eq_true, not_true_eq_false, nI_add, nI_or, nI_and, Bool.false_eq_true, ne01, ne10, nI_m1', Nat.or_zero]
end H0
