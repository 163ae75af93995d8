/-! the class's heaps, round by round -/
theorem lst_ex {E : Nat → Nat → Bool} {w : Nat} (h : E w w = true) : ∃ v, v ≤ w ∧ E v w = true ∧ ∀ u, u < v → E u w = false := by
  obtain ⟨v, hv, hmin⟩ := pk_least (fun v => E v w = true) ⟨w, h⟩
  refine ⟨v, ?_, hv, fun u hu => ?_⟩
  · rcases Nat.lt_or_ge w v with q | q
    · exact absurd h (hmin w q)
    · exact q
  · cases q : E u w
    · rfl
    · exact absurd q (hmin u hu)
noncomputable def lst (E : Nat → Nat → Bool) (w : Nat) : Nat := if h : E w w = true then Classical.choose (lst_ex h) else w
theorem lst_spec {E : Nat → Nat → Bool} {w : Nat} (h : E w w = true) : lst E w ≤ w ∧ E (lst E w) w = true ∧ ∀ u, u < lst E w → E u w = false := by
  unfold lst
  rw [dif_pos h]
  exact Classical.choose_spec (lst_ex h)
section H2
variable {w : AW} {N : Nat} {S A Fr : Nat → Nat}
theorem lst_rep {r v : Nat} : isRep N Fr A r (lst (er N Fr A r) v) = true := by
  obtain ⟨h1, h2, h3⟩ := lst_spec ((er_eqv (N := N) (Fr := Fr) (A := A) r).1 v)
  refine isRep_iff.mpr (fun u hu => ?_)
  cases q : er N Fr A r u (lst (er N Fr A r) v)
  · rfl
  · have := (er_eqv r).2.2 _ _ _ q h2
    rw [h3 u hu] at this
    cases this
theorem lst_Nm (r : Nat) (h8 : N ≤ 8) : Nm N (er N Fr A r) (lst (er N Fr A r)) := by
  refine ⟨fun a b ha hb => ⟨fun h => ?_, fun h => ?_⟩, fun a ha => ?_⟩
  · have h1 := (lst_spec ((er_eqv (N := N) (Fr := Fr) (A := A) r).1 a)).2.1
    have h2 := (lst_spec ((er_eqv (N := N) (Fr := Fr) (A := A) r).1 b)).2.1
    rw [h] at h1
    exact (er_eqv r).2.2 _ _ _ ((er_eqv r).2.1 _ _ h1) h2
  · have h1 := (lst_spec ((er_eqv (N := N) (Fr := Fr) (A := A) r).1 a)).2.1
    have h2 := (lst_spec ((er_eqv (N := N) (Fr := Fr) (A := A) r).1 b)).2.1
    exact rep_uniq lst_rep lst_rep ((er_eqv r).2.2 _ _ _ ((er_eqv r).2.2 _ _ _ h1 h) ((er_eqv r).2.1 _ _ h2))
  · have := (lst_spec ((er_eqv (N := N) (Fr := Fr) (A := A) r).1 a)).1
    omega
theorem X_sameAtoms (h : NetX w N S A) (hN : NetOK N S A) {a b : Nat} (ha : a < 8) (hb : b < 8) : mX4_sameAtoms (nI a) (nI b) w = some (nI (bN (e0 A a b)), w) := by
  have h8 := hN.2.1
  have h256 := two_le h8
  unfold mX4_sameAtoms
  have hat : mX0_atoms w = some ((), w) := rfl
  have e := loopAll (fun n v => mX4_sameAtoms_2 (nI a) (nI b) n v w) 4 (fun i => (A i).testBit a == (A i).testBit b) (some (nI 1, w)) (some (nI 0, w)) (by decide) ?_ ?_ ?_
  · refine Eq.trans e ?_
    unfold e0
    cases allT (fun i => (A i).testBit a == (A i).testBit b) 4 <;> rfl
  · intro n k hk ho
    have c1 : ¬ nI 4 ≤ nI k := nI_ge hk (by decide)
    have hA := hN.2.2.2.2 k
    rw [beq_iff_eq] at ho
    simp only [mX4_sameAtoms_2, c1, hat, atoms_at h hk, bit_eq w (show A k < 2 ^ 32 by omega) (show a < 32 by omega), bit_eq w (show A k < 2 ^ 32 by omega) (show b < 32 by omega), ho, cl_mk, nm_mk, pu_mk, lit, if_true, if_false, ne_eq, not_false_eq_true, not_true_eq_false, nI_add, nI_or, nI_and, Bool.false_eq_true, ne01, ne10, nI_m1', Nat.or_zero]
  · intro n k hk ho
    have c1 : ¬ nI 4 ≤ nI k := nI_ge hk (by decide)
    have hA := hN.2.2.2.2 k
    cases qa : (A k).testBit a
    · cases qb : (A k).testBit b
      · rw [qa, qb] at ho; cases ho
      · simp only [mX4_sameAtoms_2, c1, hat, atoms_at h hk, bit_f w (show A k < 2 ^ 32 by omega) (show a < 32 by omega) qa, bit_t w (show A k < 2 ^ 32 by omega) (show b < 32 by omega) qb, cl_mk, nm_mk, pu_mk, lit, if_true, if_false, ne_eq, not_false_eq_true, not_true_eq_false, nI_add, nI_or, nI_and, Bool.false_eq_true, ne01, ne10, nI_m1', Nat.or_zero]
    · cases qb : (A k).testBit b
      · simp only [mX4_sameAtoms_2, c1, hat, atoms_at h hk, bit_t w (show A k < 2 ^ 32 by omega) (show a < 32 by omega) qa, bit_f w (show A k < 2 ^ 32 by omega) (show b < 32 by omega) qb, cl_mk, nm_mk, pu_mk, lit, if_true, if_false, ne_eq, not_false_eq_true, not_true_eq_false, nI_add, nI_or, nI_and, Bool.false_eq_true, ne01, ne10, nI_m1', Nat.or_zero]
      · rw [qa, qb] at ho; cases ho
  · intro n
    have c1 : nI 4 ≤ nI 4 := by decide
    simp only [mX4_sameAtoms_2, c1, cl_mk, nm_mk, pu_mk, lit, if_true, if_false, ne_eq, not_false_eq_true, not_true_eq_false, nI_add, nI_or, nI_and, Bool.false_eq_true, ne01, ne10, nI_m1', Nat.or_zero]
def HS (w : AW) (N : Nat) (Fr A : Nat → Nat) (r : Nat) : Prop := ViewX w N Fr ∧ HeapX w N (lst (er N Fr A r))
noncomputable def hrow (w : AW) (a : Nat) (E : Nat → Nat → Bool) (k : Nat) : AW := setRow w 2 a (fun k => nI (lst E k)) k
theorem hrow_K (w : AW) (a : Nat) (E : Nat → Nat → Bool) : ∀ k, KX w (hrow w a E k)
  | 0 => KX.rf w
  | k + 1 => (hrow_K w a E k).set (Or.inl ⟨by decide, by decide⟩)
theorem hrow_V {a : Nat} {E : Nat → Nat → Bool} (hV : ViewX w N Fr) (h : a ≠ 0 ∧ a ≠ 1) (k : Nat) : ViewX (hrow w a E k) N Fr := by
  refine ⟨?_, fun j hj => ?_⟩
  · unfold hrow
    rw [setRow_row (by omega)]
    exact hV.1
  · unfold hrow
    rw [setRow_row (by omega)]
    exact hV.2 j hj
theorem X_heapByAtoms (h : NetX w N S A) (hN : NetOK N S A) (hV : ViewX w N Fr) : ∃ w2, mX4_heapByAtoms w = some ((), w2) ∧ KX w w2 ∧ HS w2 N Fr A 0 := by
  have h8 := hN.2.1
  refine ⟨hrow w 3 (er N Fr A 0) N, ?_, hrow_K _ _ _ _, hrow_V hV (by decide) N, fun k hk => setRow_in N hk⟩
  unfold mX4_heapByAtoms
  refine loopE (fun n (s : Int32 × AW) => mX4_heapByAtoms_2 n s.1 s.2) N (fun k => (nI k, hrow w 3 (er N Fr A 0) k)) _ ?_ ?_ FU 0 (Nat.zero_le _) (FU_gt (by omega))
  · intro n k hk
    have c1 : ¬ nI N ≤ nI k := nI_ge hk (by omega)
    have hVk := hrow_V (E := er N Fr A 0) (a := 3) hV (by decide) k
    have hXk := h.k (hrow_K w 3 (er N Fr A 0) k)
    obtain ⟨l1, l2, l3⟩ := lst_spec ((er_eqv (N := N) (Fr := Fr) (A := A) 0).1 k)
    have hput : ∀ x, mX5_put 2 3 (nI k) x (hrow w 3 (er N Fr A 0) k) = some ((), am_set (hrow w 3 (er N Fr A 0) k) 2 3 k x) := fun x => put_in _ (by rw [aL_2_3]; omega) (by rw [aL_2_3]; decide)
    have inner : mX4_heapByAtoms_12 (mX4_heapByAtoms_2 n) (nI k) FU (nI 0) (hrow w 3 (er N Fr A 0) k) = mX4_heapByAtoms_2 n (nI (k + 1)) (hrow w 3 (er N Fr A 0) (k + 1)) := by
      refine loopE (fun n2 v => mX4_heapByAtoms_12 (mX4_heapByAtoms_2 n) (nI k) n2 v (hrow w 3 (er N Fr A 0) k)) (lst (er N Fr A 0) k) nI _ ?_ ?_ FU 0 (Nat.zero_le _) (FU_gt (by omega))
      · intro n2 v hv
        have d1 : ¬ nI k ≤ nI v := nI_ge (by omega) (by omega)
        have e1 := X_sameAtoms hXk hN (a := v) (b := k) (by omega) (by omega)
        have e2 : e0 A v k = false := l3 v hv
        rw [e2] at e1
        simp only [mX4_heapByAtoms_12, d1, e1, bN_f, cl_mk, nm_mk, pu_mk, lit, if_true, if_false, ne_eq, not_false_eq_true, not_true_eq_false, nI_add, nI_or, nI_and, Bool.false_eq_true, ne01, ne10, nI_m1', Nat.or_zero]
      · intro n2
        by_cases q : lst (er N Fr A 0) k = k
        · have d1 : nI k ≤ nI (lst (er N Fr A 0) k) := by rw [q]; exact nI_le (Nat.le_refl k) (by omega)
          simp only [mX4_heapByAtoms_12, mX4_heapByAtoms_32, d1, hput, cl_mk, nm_mk, pu_mk, lit, if_true, if_false, ne_eq, not_false_eq_true, not_true_eq_false, nI_add, nI_or, nI_and, Bool.false_eq_true, ne01, ne10, nI_m1', Nat.or_zero]
          rfl
        · have d1 : ¬ nI k ≤ nI (lst (er N Fr A 0) k) := nI_ge (by omega) (by omega)
          have e1 := X_sameAtoms hXk hN (a := lst (er N Fr A 0) k) (b := k) (by omega) (by omega)
          have e2 : e0 A (lst (er N Fr A 0) k) k = true := l2
          rw [e2] at e1
          simp only [mX4_heapByAtoms_12, mX4_heapByAtoms_32, d1, e1, bN_t, hput, cl_mk, nm_mk, pu_mk, lit, if_true, if_false, ne_eq, not_false_eq_true, not_true_eq_false, nI_add, nI_or, nI_and, Bool.false_eq_true, ne01, ne10, nI_m1', Nat.or_zero]
          rfl
    simp only [mX4_heapByAtoms_2, hVk.1, c1, cl_mk, nm_mk, pu_mk, lit, if_true, if_false, ne_eq, not_false_eq_true, not_true_eq_false, nI_add, nI_or, nI_and, Bool.false_eq_true, ne01, ne10, nI_m1', Nat.or_zero]
    exact inner
  · intro n
    have c1 : nI N ≤ nI N := nI_le (Nat.le_refl N) (by omega)
    have hVk := hrow_V (E := er N Fr A 0) (a := 3) hV (by decide) N
    simp only [mX4_heapByAtoms_2, hVk.1, c1, cl_mk, nm_mk, pu_mk, lit, if_true, if_false, ne_eq, not_false_eq_true, not_true_eq_false, nI_add, nI_or, nI_and, Bool.false_eq_true, ne01, ne10, nI_m1', Nat.or_zero]
theorem X_heapFiner (h1 : 1 ≤ N) (h8 : N ≤ 8) (hF : ∀ k, k < N → Fr k < 2 ^ N) {r : Nat} (hS : HS w N Fr A r) : ∃ w2, mX4_heapFiner w = some ((), w2) ∧ KX w w2 ∧ HS w2 N Fr A (r + 1) := by
  obtain ⟨hV, hH⟩ := hS
  have hn := lst_Nm (N := N) (Fr := Fr) (A := A) r h8
  refine ⟨hrow (hrow w 4 (er N Fr A (r + 1)) N) 3 (er N Fr A (r + 1)) N, ?_, (hrow_K _ _ _ _).tr (hrow_K _ _ _ _), hrow_V (hrow_V hV (by decide) N) (by decide) N, fun k hk => setRow_in N hk⟩
  have second : ∀ w0, w0 = hrow w 4 (er N Fr A (r + 1)) N → mX4_heapFiner_49 FU (nI 0) w0 = some ((), hrow w0 3 (er N Fr A (r + 1)) N) := by
    intro w0 hw0
    refine loopE (fun n (s : Int32 × AW) => mX4_heapFiner_49 n s.1 s.2) N (fun k => (nI k, hrow w0 3 (er N Fr A (r + 1)) k)) _ ?_ ?_ FU 0 (Nat.zero_le _) (FU_gt (by omega))
    · intro n k hk
      have c1 : ¬ nI N ≤ nI k := nI_ge hk (by omega)
      have hVk : ViewX (hrow w0 3 (er N Fr A (r + 1)) k) N Fr := hrow_V (by rw [hw0]; exact hrow_V hV (by decide) N) (by decide) k
      have hat : mX5_at 2 4 (nI k) (hrow w0 3 (er N Fr A (r + 1)) k) = some (nI (lst (er N Fr A (r + 1)) k), hrow w0 3 (er N Fr A (r + 1)) k) := by
        rw [at_in _ (by rw [aL_2_4]; omega) (by rw [aL_2_4]; decide)]
        unfold hrow
        rw [setRow_row (by decide), hw0]
        unfold hrow
        rw [setRow_in N hk]
      have hput : ∀ x, mX5_put 2 3 (nI k) x (hrow w0 3 (er N Fr A (r + 1)) k) = some ((), am_set (hrow w0 3 (er N Fr A (r + 1)) k) 2 3 k x) := fun x => put_in _ (by rw [aL_2_3]; omega) (by rw [aL_2_3]; decide)
      simp only [mX4_heapFiner_49, hVk.1, c1, hat, hput, cl_mk, nm_mk, pu_mk, lit, if_true, if_false, ne_eq, not_false_eq_true, not_true_eq_false, nI_add, nI_or, nI_and, Bool.false_eq_true, ne01, ne10, nI_m1', Nat.or_zero]
      rfl
    · intro n
      have c1 : nI N ≤ nI N := nI_le (Nat.le_refl N) (by omega)
      have hVk : ViewX (hrow w0 3 (er N Fr A (r + 1)) N) N Fr := hrow_V (by rw [hw0]; exact hrow_V hV (by decide) N) (by decide) N
      simp only [mX4_heapFiner_49, hVk.1, c1, cl_mk, nm_mk, pu_mk, lit, if_true, if_false, ne_eq, not_false_eq_true, not_true_eq_false, nI_add, nI_or, nI_and, Bool.false_eq_true, ne01, ne10, nI_m1', Nat.or_zero]
  unfold mX4_heapFiner
  refine loopE (fun n (s : Int32 × AW) => mX4_heapFiner_2 n s.1 s.2) N (fun k => (nI k, hrow w 4 (er N Fr A (r + 1)) k)) _ ?_ ?_ FU 0 (Nat.zero_le _) (FU_gt (by omega))
  · intro n k hk
    have c1 : ¬ nI N ≤ nI k := nI_ge hk (by omega)
    have hVk := hrow_V (E := er N Fr A (r + 1)) (a := 4) hV (by decide) k
    have hHk : HeapX (hrow w 4 (er N Fr A (r + 1)) k) N (lst (er N Fr A r)) := fun j hj => by
      unfold hrow
      rw [setRow_row (by decide)]
      exact hH j hj
    obtain ⟨l1, l2, l3⟩ := lst_spec ((er_eqv (N := N) (Fr := Fr) (A := A) (r + 1)).1 k)
    have hput : ∀ x, mX5_put 2 4 (nI k) x (hrow w 4 (er N Fr A (r + 1)) k) = some ((), am_set (hrow w 4 (er N Fr A (r + 1)) k) 2 4 k x) := fun x => put_in _ (by rw [aL_2_4]; omega) (by rw [aL_2_4]; decide)
    have inner : mX4_heapFiner_12 (mX4_heapFiner_2 n) (nI k) FU (nI 0) (hrow w 4 (er N Fr A (r + 1)) k) = mX4_heapFiner_2 n (nI (k + 1)) (hrow w 4 (er N Fr A (r + 1)) (k + 1)) := by
      refine loopE (fun n2 v => mX4_heapFiner_12 (mX4_heapFiner_2 n) (nI k) n2 v (hrow w 4 (er N Fr A (r + 1)) k)) (lst (er N Fr A (r + 1)) k) nI _ ?_ ?_ FU 0 (Nat.zero_le _) (FU_gt (by omega))
      · intro n2 v hv
        have d1 : ¬ nI k ≤ nI v := nI_ge (by omega) (by omega)
        have e1 := X_sameHeaps hVk hHk h8 hF hn (a := v) (b := k) (by omega) hk
        have e2 : (er N Fr A r v k && (goB N Fr (er N Fr A r) v k && goB N Fr (er N Fr A r) k v)) = false := l3 v hv
        rw [e2] at e1
        simp only [mX4_heapFiner_12, d1, e1, bN_f, cl_mk, nm_mk, pu_mk, lit, if_true, if_false, ne_eq, not_false_eq_true, not_true_eq_false, nI_add, nI_or, nI_and, Bool.false_eq_true, ne01, ne10, nI_m1', Nat.or_zero]
      · intro n2
        by_cases q : lst (er N Fr A (r + 1)) k = k
        · have d1 : nI k ≤ nI (lst (er N Fr A (r + 1)) k) := by rw [q]; exact nI_le (Nat.le_refl k) (by omega)
          simp only [mX4_heapFiner_12, mX4_heapFiner_32, d1, hput, cl_mk, nm_mk, pu_mk, lit, if_true, if_false, ne_eq, not_false_eq_true, not_true_eq_false, nI_add, nI_or, nI_and, Bool.false_eq_true, ne01, ne10, nI_m1', Nat.or_zero]
          rfl
        · have d1 : ¬ nI k ≤ nI (lst (er N Fr A (r + 1)) k) := nI_ge (by omega) (by omega)
          have e1 := X_sameHeaps hVk hHk h8 hF hn (a := lst (er N Fr A (r + 1)) k) (b := k) (by omega) hk
          have e2 : (er N Fr A r (lst (er N Fr A (r + 1)) k) k && (goB N Fr (er N Fr A r) (lst (er N Fr A (r + 1)) k) k && goB N Fr (er N Fr A r) k (lst (er N Fr A (r + 1)) k))) = true := l2
          rw [e2] at e1
          simp only [mX4_heapFiner_12, mX4_heapFiner_32, d1, e1, bN_t, hput, cl_mk, nm_mk, pu_mk, lit, if_true, if_false, ne_eq, not_false_eq_true, not_true_eq_false, nI_add, nI_or, nI_and, Bool.false_eq_true, ne01, ne10, nI_m1', Nat.or_zero]
          rfl
    simp only [mX4_heapFiner_2, hVk.1, c1, cl_mk, nm_mk, pu_mk, lit, if_true, if_false, ne_eq, not_false_eq_true, not_true_eq_false, nI_add, nI_or, nI_and, Bool.false_eq_true, ne01, ne10, nI_m1', Nat.or_zero]
    exact inner
  · intro n
    have c1 : nI N ≤ nI N := nI_le (Nat.le_refl N) (by omega)
    have hVk := hrow_V (E := er N Fr A (r + 1)) (a := 4) hV (by decide) N
    simp only [mX4_heapFiner_2, hVk.1, c1, cl_mk, nm_mk, pu_mk, lit, if_true, if_false, ne_eq, not_false_eq_true, not_true_eq_false, nI_add, nI_or, nI_and, Bool.false_eq_true, ne01, ne10, nI_m1', Nat.or_zero]
    exact second _ rfl
end H2
