/-! tell -/
def pkF (st a : Nat) : Nat → Nat
  | 0 => 0
  | n + 1 => if st.testBit n = true then pkF st a n ||| bN (a.testBit n) * 2 ^ (cntB st n) else pkF st a n
theorem pkF_lt (st a : Nat) : ∀ n, pkF st a n < 2 ^ (cntB st n)
  | 0 => Nat.one_pos
  | n + 1 => by
    have ih := pkF_lt st a n
    show (if st.testBit n = true then pkF st a n ||| bN (a.testBit n) * 2 ^ (cntB st n) else pkF st a n) < 2 ^ (cntB st n + (if st.testBit n = true then 1 else 0))
    cases q : st.testBit n
    · simp only [Bool.false_eq_true, if_false, Nat.add_zero]
      exact ih
    · simp only [if_true]
      refine or_lt (Nat.lt_of_lt_of_le ih (Nat.pow_le_pow_right (by decide) (by omega))) ?_
      have h2 : 2 ^ cntB st n < 2 ^ (cntB st n + 1) := Nat.pow_lt_pow_right (by decide) (by omega)
      have := bN_lt (a.testBit n)
      rcases (show bN (a.testBit n) = 0 ∨ bN (a.testBit n) = 1 by omega) with z | z
      · rw [z, Nat.zero_mul]; exact Nat.two_pow_pos _
      · rw [z, Nat.one_mul]; exact h2
theorem cnt_high {st N n : Nat} (h : st < 2 ^ N) (hn : N ≤ n) : cntB st n = cntB st N := by
  obtain ⟨d, rfl⟩ := Nat.exists_eq_add_of_le hn
  clear hn
  induction d with
  | zero => rfl
  | succ d ih =>
    show cntB st (N + d) + (if st.testBit (N + d) = true then 1 else 0) = _
    rw [bits_of_lt h (by omega), ih]
    rfl
theorem pkF_high {st a N n : Nat} (h : st < 2 ^ N) (hn : N ≤ n) : pkF st a n = pkF st a N := by
  obtain ⟨d, rfl⟩ := Nat.exists_eq_add_of_le hn
  clear hn
  induction d with
  | zero => rfl
  | succ d ih =>
    show (if st.testBit (N + d) = true then _ else pkF st a (N + d)) = _
    rw [bits_of_lt h (by omega), ih]
    rfl
theorem cnt_mono (st : Nat) {a b : Nat} (h : a ≤ b) : cntB st a ≤ cntB st b := by
  obtain ⟨d, rfl⟩ := Nat.exists_eq_add_of_le h
  clear h
  induction d with
  | zero => exact Nat.le_refl _
  | succ d ih => exact Nat.le_trans ih (Nat.le_add_right _ _)
/-- the rows closed up in place, of the first n worlds -/
def kpS (N st : Nat) (S : Nat → Nat) : Nat → Nat → Nat
  | 0 => S
  | n + 1 => fun k => if st.testBit n = true ∧ k = cntB st n then pkF st (S n) N else kpS N st S n k
theorem kpS_high {N st : Nat} {S : Nat → Nat} : ∀ n k, n ≤ k → kpS N st S n k = S k := by
  intro n
  induction n with
  | zero => intro k _; rfl
  | succ n ih =>
    intro k hk
    have := cntB_le st n
    show (if st.testBit n = true ∧ k = cntB st n then _ else kpS N st S n k) = S k
    rw [if_neg (by omega), ih k (by omega)]
theorem kpS_lt {N st : Nat} {S : Nat → Nat} : ∀ n k, k < cntB st n → kpS N st S n k < 2 ^ (cntB st N) := by
  intro n
  induction n with
  | zero => intro k hk; exact absurd hk (Nat.not_lt_zero k)
  | succ n ih =>
    intro k hk
    show (if st.testBit n = true ∧ k = cntB st n then _ else kpS N st S n k) < _
    split
    · exact pkF_lt st (S n) N
    · rename_i h
      refine ih k ?_
      unfold cntB at hk
      split at hk
      · rename_i h2
        have : k ≠ cntB st n := fun e => h ⟨h2, e⟩
        omega
      · omega
def kpW (W : AW) (o a N st : Nat) (S : Nat → Nat) : Nat → AW
  | 0 => W
  | n + 1 => if st.testBit n = true then am_set (kpW W o a N st S n) o a (cntB st n) (nI (pkF st (S n) N)) else kpW W o a N st S n
section KW
variable {W : AW} {o a N st : Nat} {S : Nat → Nat}
theorem kpW_row {o' a' : Nat} (h : o' ≠ o ∨ a' ≠ a) : ∀ n, (kpW W o a N st S n).1 o' a' = W.1 o' a'
  | 0 => rfl
  | n + 1 => by
    unfold kpW
    split
    · exact (am_get_row h).trans (kpW_row h n)
    · exact kpW_row h n
theorem kpW_2 : ∀ n, (kpW W o a N st S n).2 = W.2
  | 0 => rfl
  | n + 1 => by
    unfold kpW
    split
    · exact kpW_2 n
    · exact kpW_2 n
theorem kpW_in (h : ∀ k, k < 8 → W.1 o a k = nI (S k)) : ∀ n k, k < 8 → (kpW W o a N st S n).1 o a k = nI (kpS N st S n k) := by
  intro n
  induction n with
  | zero => exact h
  | succ n ih =>
    intro k hk
    unfold kpW kpS
    by_cases q : st.testBit n = true
    · rw [if_pos q]
      by_cases e : k = cntB st n
      · rw [if_pos ⟨q, e⟩, ← e, am_get_self]
      · rw [if_neg (fun z => e z.2), am_get_other e]
        exact ih k hk
    · rw [if_neg q, if_neg (fun z => q z.1)]
      exact ih k hk
end KW
section TL
variable {w : AW} {N : Nat} {S A : Nat → Nat}
theorem bit_B {a k : Nat} (w : AW) (ha : a < 2 ^ 32) (hk : k < 32) : mX5_bit (nI a) (nI k) w = some (nI (bN (a.testBit k)), w) := by
  rw [bit_eq w ha hk]
  rfl
theorem pk_small {st a n : Nat} (hn : n < 8) : bN (a.testBit n) * 2 ^ (cntB st n) < 2 ^ 32 := by
  have h1 := cntB_le st n
  have h2 : 2 ^ cntB st n ≤ 2 ^ 8 := Nat.pow_le_pow_right (by decide) (by omega)
  have := bN_lt (a.testBit n)
  rcases (show bN (a.testBit n) = 0 ∨ bN (a.testBit n) = 1 by omega) with z | z
  · rw [z]; omega
  · rw [z]; omega
theorem X_closedUp (hz : w.1 1 0 2 = nI N) (h8 : N ≤ 8) {st a : Nat} (hst : st < 2 ^ N) (ha : a < 2 ^ N) : mX0_closedUp (nI a) (nI st) w = some (nI (pkF st a N), w) := by
  have h256 := two_le h8
  unfold mX0_closedUp
  refine loopE (fun n (s : Int32 × Int32 × Int32) => mX0_closedUp_8 (nI a) (nI st) n s.1 s.2.1 s.2.2 w) N (fun k => (nI (pkF st a k), nI (cntB st k), nI k)) _ ?_ ?_ FU 0 (Nat.zero_le _) (FU_gt (by omega))
  · intro n k hk
    have c1 : ¬ nI N ≤ nI k := nI_ge hk (by omega)
    have hc := cntB_le st k
    cases q : st.testBit k
    · simp only [mX0_closedUp_8, mX0_closedUp_44, hz, c1, bit_f w (show st < 2 ^ 32 by omega) (show k < 32 by omega) q, pkF, cntB, q, Nat.add_zero, cl_mk, nm_mk, pu_mk, lit, if_true, if_false, ne_eq, not_false_eq_true, not_true_eq_false, nI_add, nI_or, nI_and, Bool.false_eq_true, ne01, ne10, nI_m1', Nat.or_zero]
    · simp only [mX0_closedUp_8, mX0_closedUp_44, hz, c1, bit_t w (show st < 2 ^ 32 by omega) (show k < 32 by omega) q, bit_B w (show a < 2 ^ 32 by omega) (show k < 32 by omega), shlN (show cntB st k < 32 by omega) (pk_small (st := st) (a := a) (show k < 8 by omega)), pkF, cntB, q, cl_mk, nm_mk, pu_mk, lit, if_true, if_false, ne_eq, not_false_eq_true, not_true_eq_false, nI_add, nI_or, nI_and, Bool.false_eq_true, ne01, ne10, nI_m1', Nat.or_zero]
  · intro n
    have c1 : nI N ≤ nI N := nI_le (Nat.le_refl N) (by omega)
    simp only [mX0_closedUp_8, hz, c1, cl_mk, nm_mk, pu_mk, lit, if_true, if_false, ne_eq, not_false_eq_true, not_true_eq_false, nI_add, nI_or, nI_and, Bool.false_eq_true, ne01, ne10, nI_m1', Nat.or_zero]
theorem shr_B {a k : Nat} (hk : k < 32) (h : a < 2 ^ 31) : nI a >>> nI (k &&& 31) &&& nI 1 = nI (bN (a.testBit k)) := shr_bit hk h
theorem M_packed (h8 : N ≤ 8) {st a : Nat} (hst : st < 2 ^ N) (ha : a < 2 ^ N) : mX6_packed (nI a) (nI st) w = some (nI (pkF st a N), w) := by
  have h256 := two_le h8
  rw [← pkF_high (n := 8) hst h8]
  unfold mX6_packed
  refine loopE (fun n (s : Int32 × Int32 × Int32) => mX6_packed_7 (nI a) (nI st) n s.1 s.2.1 s.2.2 w) 8 (fun k => (nI (pkF st a k), nI (cntB st k), nI k)) _ ?_ ?_ FU 0 (Nat.zero_le _) (FU_gt (by omega))
  · intro n k hk
    have c1 : ¬ nI 8 ≤ nI k := nI_ge hk (by omega)
    have hc := cntB_le st k
    cases q : st.testBit k
    · simp only [mX6_packed_7, mX6_packed_38, c1, shr_f (show k < 32 by omega) (show st < 2 ^ 31 by omega) q, pkF, cntB, q, Nat.add_zero, cl_mk, nm_mk, pu_mk, lit, if_true, if_false, ne_eq, not_false_eq_true, not_true_eq_false, nI_add, nI_or, nI_and, Bool.false_eq_true, ne01, ne10, nI_m1', Nat.or_zero]
    · simp only [mX6_packed_7, mX6_packed_38, c1, shr_t (show k < 32 by omega) (show st < 2 ^ 31 by omega) q, shr_B (show k < 32 by omega) (show a < 2 ^ 31 by omega), shlN (show cntB st k < 32 by omega) (pk_small (st := st) (a := a) (show k < 8 by omega)), pkF, cntB, q, cl_mk, nm_mk, pu_mk, lit, if_true, if_false, ne_eq, not_false_eq_true, not_true_eq_false, nI_add, nI_or, nI_and, Bool.false_eq_true, ne01, ne10, nI_m1', Nat.or_zero]
  · intro n
    have c1 : nI 8 ≤ nI 8 := by decide
    simp only [mX6_packed_7, c1, cl_mk, nm_mk, pu_mk, lit, if_true, if_false, ne_eq, not_false_eq_true, not_true_eq_false, nI_add, nI_or, nI_and, Bool.false_eq_true, ne01, ne10, nI_m1', Nat.or_zero]
def tlX (w : AW) (N st : Nat) (S A : Nat → Nat) : AW := am_set (setRow (setAt (kpW w 1 1 N st S N) 1 1 (cntB st N) (fun _ => nI 0) (N - cntB st N)) 1 2 (fun i => nI (pkF st (A i) N)) 4) 1 0 2 (nI (cntB st N))
theorem X_keep (h : NetX w N S A) (hN : NetOK N S A) {st : Nat} (hst : st < 2 ^ N) : mX0_keep (nI st) w = some ((), tlX w N st S A) := by
  have h8 := hN.2.1
  have h256 := two_le h8
  have hcN := cntB_le st N
  have e3 : ∀ W, W.1 1 0 2 = nI N → (∀ i, i < 4 → W.1 1 2 i = nI (A i)) → mX0_keep_80 (nI st) (nI (cntB st N)) FU (nI 0) W = some ((), am_set (setRow W 1 2 (fun i => nI (pkF st (A i) N)) 4) 1 0 2 (nI (cntB st N))) := by
    intro W hz hA
    refine loopE (fun n (s : Int32 × AW) => mX0_keep_80 (nI st) (nI (cntB st N)) n s.1 s.2) 4 (fun k => (nI k, setRow W 1 2 (fun i => nI (pkF st (A i) N)) k)) _ ?_ ?_ FU 0 (Nat.zero_le _) (FU_gt (by omega))
    · intro n k hk
      have c1 : ¬ nI 4 ≤ nI k := nI_ge hk (by omega)
      have e1 : mX5_at 1 2 (nI k) (setRow W 1 2 (fun i => nI (pkF st (A i) N)) k) = some (nI (A k), setRow W 1 2 (fun i => nI (pkF st (A i) N)) k) := by
        rw [at_in _ (by rw [aL_1_2]; exact hk) (by rw [aL_1_2]; decide), setRow_out k (Nat.le_refl k), hA k hk]
      have e2 := X_closedUp (w := setRow W 1 2 (fun i => nI (pkF st (A i) N)) k) (by rw [setRow_row (by decide), hz]) h8 hst (hN.2.2.2.2 k)
      have e4 : ∀ x, mX5_put 1 2 (nI k) x (setRow W 1 2 (fun i => nI (pkF st (A i) N)) k) = some ((), am_set (setRow W 1 2 (fun i => nI (pkF st (A i) N)) k) 1 2 k x) := fun x => put_in _ (by rw [aL_1_2]; exact hk) (by rw [aL_1_2]; decide)
      simp only [mX0_keep_80, c1, e1, e2, e4, cl_mk, nm_mk, pu_mk, lit, if_true, if_false, ne_eq, not_false_eq_true, not_true_eq_false, nI_add, nI_or, nI_and, Bool.false_eq_true, ne01, ne10, nI_m1', Nat.or_zero]
      rfl
    · intro n
      have c1 : nI 4 ≤ nI 4 := by decide
      simp only [mX0_keep_80, c1, cl_mk, nm_mk, pu_mk, lit, if_true, if_false, ne_eq, not_false_eq_true, not_true_eq_false, nI_add, nI_or, nI_and, Bool.false_eq_true, ne01, ne10, nI_m1', Nat.or_zero]
  have e2 : ∀ W, W.1 1 0 2 = nI N → (∀ i, i < 4 → W.1 1 2 i = nI (A i)) → mX0_keep_55 (nI st) (nI (cntB st N)) FU (nI (cntB st N)) W = some ((), am_set (setRow (setAt W 1 1 (cntB st N) (fun _ => nI 0) (N - cntB st N)) 1 2 (fun i => nI (pkF st (A i) N)) 4) 1 0 2 (nI (cntB st N))) := by
    intro W hz hA
    refine loopE (fun n (s : Int32 × AW) => mX0_keep_55 (nI st) (nI (cntB st N)) n s.1 s.2) (N - cntB st N) (fun k => (nI (cntB st N + k), setAt W 1 1 (cntB st N) (fun _ => nI 0) k)) _ ?_ ?_ FU 0 (Nat.zero_le _) (FU_gt (by omega))
    · intro n k hk
      have c1 : ¬ nI N ≤ nI (cntB st N + k) := nI_ge (by omega) (by omega)
      have hz2 : (setAt W 1 1 (cntB st N) (fun _ => nI 0) k).1 1 0 2 = nI N := by rw [setAt_row (by decide), hz]
      have e4 : ∀ x, mX5_put 1 1 (nI (cntB st N + k)) x (setAt W 1 1 (cntB st N) (fun _ => nI 0) k) = some ((), am_set (setAt W 1 1 (cntB st N) (fun _ => nI 0) k) 1 1 (cntB st N + k) x) := fun x => put_in _ (by rw [aL_1_1]; omega) (by rw [aL_1_1]; decide)
      simp only [mX0_keep_55, hz2, c1, e4, Nat.add_assoc, cl_mk, nm_mk, pu_mk, lit, if_true, if_false, ne_eq, not_false_eq_true, not_true_eq_false, nI_add, nI_or, nI_and, Bool.false_eq_true, ne01, ne10, nI_m1', Nat.or_zero]
      rfl
    · intro n
      have c1 : nI N ≤ nI (cntB st N + (N - cntB st N)) := nI_le (by omega) (by omega)
      have hz2 : (setAt W 1 1 (cntB st N) (fun _ => nI 0) (N - cntB st N)).1 1 0 2 = nI N := by rw [setAt_row (by decide), hz]
      have g := e3 (setAt W 1 1 (cntB st N) (fun _ => nI 0) (N - cntB st N)) hz2 (fun i hi => by rw [setAt_row (by decide), hA i hi])
      simp only [mX0_keep_55, hz2, c1, cl_mk, nm_mk, pu_mk, lit, if_true, if_false, ne_eq, not_false_eq_true, not_true_eq_false, nI_add, nI_or, nI_and, Bool.false_eq_true, ne01, ne10, nI_m1', Nat.or_zero]
      exact g
  unfold mX0_keep
  refine loopE (fun n (s : Int32 × Int32 × AW) => mX0_keep_4 (nI st) n s.1 s.2.1 s.2.2) N (fun k => (nI (cntB st k), nI k, kpW w 1 1 N st S k)) _ ?_ ?_ FU 0 (Nat.zero_le _) (FU_gt (by omega))
  · intro n k hk
    have c1 : ¬ nI N ≤ nI k := nI_ge hk (by omega)
    have hz2 : (kpW w 1 1 N st S k).1 1 0 2 = nI N := by rw [kpW_row (by decide), h.1]
    have hck := cntB_le st k
    cases q : st.testBit k
    · have e5 : kpW w 1 1 N st S (k + 1) = kpW w 1 1 N st S k := by
        show (if st.testBit k = true then _ else _) = _
        rw [q]
        rfl
      simp only [mX0_keep_4, mX0_keep_47, hz2, c1, bit_f _ (show st < 2 ^ 32 by omega) (show k < 32 by omega) q, cntB, q, Nat.add_zero, e5, cl_mk, nm_mk, pu_mk, lit, if_true, if_false, ne_eq, not_false_eq_true, not_true_eq_false, nI_add, nI_or, nI_and, Bool.false_eq_true, ne01, ne10, nI_m1', Nat.or_zero]
    · have e5 : kpW w 1 1 N st S (k + 1) = am_set (kpW w 1 1 N st S k) 1 1 (cntB st k) (nI (pkF st (S k) N)) := by
        show (if st.testBit k = true then _ else _) = _
        rw [q]
        rfl
      have e1 : mX5_at 1 1 (nI k) (kpW w 1 1 N st S k) = some (nI (S k), kpW w 1 1 N st S k) := by
        rw [at_in _ (by rw [aL_1_1]; omega) (by rw [aL_1_1]; decide), kpW_in h.2.1 k k (by omega), kpS_high k k (Nat.le_refl k)]
      have e2 := X_closedUp (w := kpW w 1 1 N st S k) hz2 h8 hst (hN.2.2.1 k)
      have e4 : ∀ x, mX5_put 1 1 (nI (cntB st k)) x (kpW w 1 1 N st S k) = some ((), am_set (kpW w 1 1 N st S k) 1 1 (cntB st k) x) := fun x => put_in _ (by rw [aL_1_1]; omega) (by rw [aL_1_1]; decide)
      simp only [mX0_keep_4, mX0_keep_47, hz2, c1, bit_t _ (show st < 2 ^ 32 by omega) (show k < 32 by omega) q, e1, e2, e4, cntB, q, e5, cl_mk, nm_mk, pu_mk, lit, if_true, if_false, ne_eq, not_false_eq_true, not_true_eq_false, nI_add, nI_or, nI_and, Bool.false_eq_true, ne01, ne10, nI_m1', Nat.or_zero]
  · intro n
    have c1 : nI N ≤ nI N := nI_le (Nat.le_refl N) (by omega)
    have hz2 : (kpW w 1 1 N st S N).1 1 0 2 = nI N := by rw [kpW_row (by decide), h.1]
    have g := e2 (kpW w 1 1 N st S N) hz2 (fun i hi => by rw [kpW_row (by decide), h.2.2 i hi])
    simp only [mX0_keep_4, hz2, c1, cl_mk, nm_mk, pu_mk, lit, if_true, if_false, ne_eq, not_false_eq_true, not_true_eq_false, nI_add, nI_or, nI_and, Bool.false_eq_true, ne01, ne10, nI_m1', Nat.or_zero]
    exact g
def tlM (w : AW) (N st : Nat) (S A : Nat → Nat) : AW := am_set (setAt (setRow (kpW w 0 4 N st S N) 0 5 (fun i => nI (pkF st (A i) N)) 4) 0 4 (cntB st N) (fun _ => nI 0) (8 - cntB st N)) 0 0 2 (nI (cntB st N))
theorem M_tell32 (h : NetM w N S A) (hN : NetOK N S A) {st : Nat} (hst : st < 2 ^ N) : mX6_tell_32 (nI st) FU (nI 0) (nI 0) w = some (nI (cntB st N), tlM w N st S A) := by
  have h8 := hN.2.1
  have h256 := two_le h8
  have hcN := cntB_le st N
  have e3 : ∀ W, mX6_tell_113 (nI (cntB st N)) FU (nI (cntB st N)) W = some (nI (cntB st N), am_set (setAt W 0 4 (cntB st N) (fun _ => nI 0) (8 - cntB st N)) 0 0 2 (nI (cntB st N))) := by
    intro W
    refine loopE (fun n (s : Int32 × AW) => mX6_tell_113 (nI (cntB st N)) n s.1 s.2) (8 - cntB st N) (fun k => (nI (cntB st N + k), setAt W 0 4 (cntB st N) (fun _ => nI 0) k)) _ ?_ ?_ FU 0 (Nat.zero_le _) (FU_gt (by omega))
    · intro n k hk
      have c1 : ¬ nI 8 ≤ nI (cntB st N + k) := nI_ge (by omega) (by omega)
      simp only [mX6_tell_113, c1, wr_in (show cntB st N + k < 8 by omega) (show 8 < 2 ^ 31 by decide), Nat.add_assoc, cl_mk, nm_mk, pu_mk, lit, if_true, if_false, ne_eq, not_false_eq_true, not_true_eq_false, nI_add, nI_or, nI_and, Bool.false_eq_true, ne01, ne10, nI_m1', Nat.or_zero]
      rfl
    · intro n
      have c1 : nI 8 ≤ nI (cntB st N + (8 - cntB st N)) := nI_le (by omega) (by omega)
      simp only [mX6_tell_113, c1, am_get_self, cl_mk, nm_mk, pu_mk, lit, if_true, if_false, ne_eq, not_false_eq_true, not_true_eq_false, nI_add, nI_or, nI_and, Bool.false_eq_true, ne01, ne10, nI_m1', Nat.or_zero]
  have e2 : ∀ W, (∀ i, i < 4 → W.1 0 5 i = nI (A i)) → mX6_tell_80 (nI st) (nI (cntB st N)) FU (nI 0) W = some (nI (cntB st N), am_set (setAt (setRow W 0 5 (fun i => nI (pkF st (A i) N)) 4) 0 4 (cntB st N) (fun _ => nI 0) (8 - cntB st N)) 0 0 2 (nI (cntB st N))) := by
    intro W hA
    refine loopE (fun n (s : Int32 × AW) => mX6_tell_80 (nI st) (nI (cntB st N)) n s.1 s.2) 4 (fun k => (nI k, setRow W 0 5 (fun i => nI (pkF st (A i) N)) k)) _ ?_ ?_ FU 0 (Nat.zero_le _) (FU_gt (by omega))
    · intro n k hk
      have c1 : ¬ nI 4 ≤ nI k := nI_ge hk (by omega)
      have r1 : ∀ f : Int32 → Option (Int32 × AW), rd 4 ((setRow W 0 5 (fun i => nI (pkF st (A i) N)) k).1 0 5) (nI k) f = f (nI (A k)) := fun f => by
        rw [rd_in hk (by decide), setRow_out k (Nat.le_refl k), hA k hk]
      have e2 := M_packed (w := setRow W 0 5 (fun i => nI (pkF st (A i) N)) k) h8 hst (hN.2.2.2.2 k)
      simp only [mX6_tell_80, c1, r1, e2, wr_in hk (show 4 < 2 ^ 31 by decide), cl_mk, nm_mk, pu_mk, lit, if_true, if_false, ne_eq, not_false_eq_true, not_true_eq_false, nI_add, nI_or, nI_and, Bool.false_eq_true, ne01, ne10, nI_m1', Nat.or_zero]
      rfl
    · intro n
      have c1 : nI 4 ≤ nI 4 := by decide
      simp only [mX6_tell_80, c1, e3, cl_mk, nm_mk, pu_mk, lit, if_true, if_false, ne_eq, not_false_eq_true, not_true_eq_false, nI_add, nI_or, nI_and, Bool.false_eq_true, ne01, ne10, nI_m1', Nat.or_zero]
  refine loopE (fun n (s : Int32 × Int32 × AW) => mX6_tell_32 (nI st) n s.1 s.2.1 s.2.2) N (fun k => (nI (cntB st k), nI k, kpW w 0 4 N st S k)) _ ?_ ?_ FU 0 (Nat.zero_le _) (FU_gt (by omega))
  · intro n k hk
    have c1 : ¬ nI N ≤ nI k := nI_ge hk (by omega)
    have hz2 : (kpW w 0 4 N st S k).1 0 0 2 = nI N := by rw [kpW_row (by decide), h.1]
    have hck := cntB_le st k
    cases q : st.testBit k
    · have e5 : kpW w 0 4 N st S (k + 1) = kpW w 0 4 N st S k := by
        show (if st.testBit k = true then _ else _) = _
        rw [q]
        rfl
      simp only [mX6_tell_32, mX6_tell_71, hz2, c1, shr_f (show k < 32 by omega) (show st < 2 ^ 31 by omega) q, cntB, q, Nat.add_zero, e5, cl_mk, nm_mk, pu_mk, lit, if_true, if_false, ne_eq, not_false_eq_true, not_true_eq_false, nI_add, nI_or, nI_and, Bool.false_eq_true, ne01, ne10, nI_m1', Nat.or_zero]
    · have e5 : kpW w 0 4 N st S (k + 1) = am_set (kpW w 0 4 N st S k) 0 4 (cntB st k) (nI (pkF st (S k) N)) := by
        show (if st.testBit k = true then _ else _) = _
        rw [q]
        rfl
      have r1 : ∀ f : Int32 → Option (Int32 × AW), rd 8 ((kpW w 0 4 N st S k).1 0 4) (nI k) f = f (nI (S k)) := fun f => by
        rw [rd_in (by omega) (by decide), kpW_in h.2.1 k k (by omega), kpS_high k k (Nat.le_refl k)]
      have e2 := M_packed (w := kpW w 0 4 N st S k) h8 hst (hN.2.2.1 k)
      simp only [mX6_tell_32, mX6_tell_71, hz2, c1, shr_t (show k < 32 by omega) (show st < 2 ^ 31 by omega) q, r1, e2, wr_in (show cntB st k < 8 by omega) (show 8 < 2 ^ 31 by decide), cntB, q, e5, cl_mk, nm_mk, pu_mk, lit, if_true, if_false, ne_eq, not_false_eq_true, not_true_eq_false, nI_add, nI_or, nI_and, Bool.false_eq_true, ne01, ne10, nI_m1', Nat.or_zero]
  · intro n
    have c1 : nI N ≤ nI N := nI_le (Nat.le_refl N) (by omega)
    have hz2 : (kpW w 0 4 N st S N).1 0 0 2 = nI N := by rw [kpW_row (by decide), h.1]
    have g := e2 (kpW w 0 4 N st S N) (fun i hi => by rw [kpW_row (by decide), h.2.2 i hi])
    simp only [mX6_tell_32, hz2, c1, cl_mk, nm_mk, pu_mk, lit, if_true, if_false, ne_eq, not_false_eq_true, not_true_eq_false, nI_add, nI_or, nI_and, Bool.false_eq_true, ne01, ne10, nI_m1', Nat.or_zero]
    exact g
end TL
theorem pub_tell : Pub_tell Rel := by
  rintro wX wM ⟨N, S, A, T, y, D, h⟩ v0
  have hR := h
  obtain ⟨hN, hX, hM, hT, h2, hS, h12⟩ := h
  have hM0 : NetM (am_set wM 0 0 0 (nI 0)) N S A := hM.k (KM0 wM)
  have h8 := hN.2.1
  have h256 := two_le h8
  by_cases c0 : ∃ k, k < 6 ∧ v0 = nI k
  rotate_left
  · refine pub_same hR (-nI 1) ?_ ?_ (KX.rf _) (KM0 wM)
    · simp only [mX5_tell, X_sen_f _ c0, nS_none, cl_mk, nm_mk, pu_mk, lit, if_true, if_false, ne_eq, not_false_eq_true, not_true_eq_false, nI_add, nI_or, nI_and, Bool.false_eq_true, ne01, ne10, nI_m1', Nat.or_zero]
    · simp only [mX6_tell, M_sen_f _ c0, cl_mk, nm_mk, pu_mk, lit, if_true, if_false, ne_eq, not_false_eq_true, not_true_eq_false, nI_add, nI_or, nI_and, Bool.false_eq_true, ne01, ne10, nI_m1', Nat.or_zero]
  obtain ⟨i, hi, rfl⟩ := c0
  have hcl := cls_sen i hi
  obtain ⟨wX2, f1, f2⟩ := X_where hX hN hi (hS i hi).1 (hS i hi).2.1 (s := 0) (by decide)
  obtain ⟨w3, g1, g2⟩ := M_held hM0 hN hi (hS i hi).1 ((hS i hi).2.2.k (KM0 wM))
  have hst : holdV N A (seenS N S 0) (D i) < 2 ^ N := holdV_lt hN.2.2.2.2 (hS i hi).1
  generalize holdV N A (seenS N S 0) (D i) = st at f1 g1 hst
  by_cases q : st = 0
  · subst q
    refine pub_same hR (-nI 2) ?_ ?_ f2 ((KM0 wM).tr g2)
    · simp only [mX5_tell, X_sen_t _ hi, nS_some hcl, f1, cl_mk, nm_mk, pu_mk, lit, if_true, if_false, ne_eq, not_false_eq_true, not_true_eq_false, nI_add, nI_or, nI_and, Bool.false_eq_true, ne01, ne10, nI_m1', Nat.or_zero]
    · simp only [mX6_tell, M_sen_t _ hi, g1, cl_mk, nm_mk, pu_mk, lit, if_true, if_false, ne_eq, not_false_eq_true, not_true_eq_false, nI_add, nI_or, nI_and, Bool.false_eq_true, ne01, ne10, nI_m1', Nat.or_zero]
  have q2 : (nI st = nI 0) = False := eq_false (fun z => q ((nI_eq (by omega) (by decide)).mp z))
  have hc1 : 1 ≤ cntB st N := by
    rcases Nat.eq_zero_or_pos (cntB st N) with z | z
    · exfalso
      apply q
      refine zero_iff_bits.mpr (fun k => ?_)
      cases e : st.testBit k
      · rfl
      · rcases Nat.lt_or_ge k N with y | y
        · have := cntB_pos y e; omega
        · rw [bits_of_lt hst y] at e; cases e
    · exact z
  have hc2 := cntB_le st N
  obtain ⟨hN', hX', hM', hT', h2', hS', h12'⟩ := hR.k f2 ((KM0 wM).tr g2)
  have e1 := X_keep hX' hN hst
  have e2 := M_tell32 hM' hN hst
  have ez : mX0_size (tlX wX2 N st S A) = some (nI (cntB st N), tlX wX2 N st S A) := by
    unfold mX0_size tlX
    rw [am_get_self]
  refine ⟨nI (cntB st N), tlX wX2 N st S A, tlM w3 N st S A, ?_, ?_, cntB st N, (fun k => if k < cntB st N then kpS N st S N k else 0), (fun i => pkF st (A i) N), T, y, D, ⟨hc1, by omega, fun k => ?_, fun k hk => ?_, fun i => pkF_lt st (A i) N⟩, ⟨?_, fun k hk => ?_, fun i hi => ?_⟩, ⟨?_, fun k hk => ?_, fun i hi => ?_⟩, ?_, ?_, ?_, ?_⟩
  · simp only [mX5_tell, X_sen_t _ hi, nS_some hcl, f1, q2, e1, ez, cl_mk, nm_mk, pu_mk, lit, if_true, if_false, ne_eq, not_false_eq_true, not_true_eq_false, nI_add, nI_or, nI_and, Bool.false_eq_true, ne01, ne10, nI_m1', Nat.or_zero]
  · simp only [mX6_tell, M_sen_t _ hi, g1, q2, cl_mk, nm_mk, pu_mk, lit, if_true, if_false, ne_eq, not_false_eq_true, not_true_eq_false, nI_add, nI_or, nI_and, Bool.false_eq_true, ne01, ne10, nI_m1', Nat.or_zero]
    exact e2
  · show (if k < cntB st N then kpS N st S N k else 0) < _
    split
    · rename_i hk
      exact kpS_lt N k hk
    · exact Nat.two_pow_pos _
  · show (if k < cntB st N then kpS N st S N k else 0) = 0
    rw [if_neg (by omega)]
  · unfold tlX
    rw [am_get_self]
  · unfold tlX
    rw [am_get_row (by decide), setRow_row (by decide)]
    dsimp only
    by_cases z : k < cntB st N
    · rw [if_pos z, setAt_out z, kpW_in hX'.2.1 N k hk]
    · rw [if_neg z]
      by_cases z2 : k < N
      · have g := setAt_in (w := kpW wX2 1 1 N st S N) (o := 1) (a := 1) (z0 := cntB st N) (i := k - cntB st N) (f := fun _ => nI 0) (N - cntB st N) (by omega)
        rw [show cntB st N + (k - cntB st N) = k by omega] at g
        exact g
      · have g : ∀ n, n ≤ N - cntB st N → (setAt (kpW wX2 1 1 N st S N) 1 1 (cntB st N) (fun _ => nI 0) n).1 1 1 k = (kpW wX2 1 1 N st S N).1 1 1 k := by
          intro n
          induction n with
          | zero => intro _; rfl
          | succ n ih => intro hn; exact (am_get_other (by omega)).trans (ih (by omega))
        rw [g _ (Nat.le_refl _), kpW_in hX'.2.1 N k hk, kpS_high N k (by omega), hN.2.2.2.1 k (by omega)]
  · unfold tlX
    rw [am_get_row (by decide), setRow_in 4 hi]
  · unfold tlM
    rw [am_get_self]
  · unfold tlM
    rw [am_get_row (by decide)]
    dsimp only
    by_cases z : k < cntB st N
    · rw [if_pos z, setAt_out z, setRow_row (by decide), kpW_in hM'.2.1 N k hk]
    · rw [if_neg z]
      have g := setAt_in (w := setRow (kpW w3 0 4 N st S N) 0 5 (fun i => nI (pkF st (A i) N)) 4) (o := 0) (a := 4) (z0 := cntB st N) (i := k - cntB st N) (f := fun _ => nI 0) (8 - cntB st N) (by omega)
      rw [show cntB st N + (k - cntB st N) = k by omega] at g
      exact g
  · unfold tlM
    rw [am_get_row (by decide), setAt_row (by decide), setRow_in 4 hi]
  · refine hT'.c ?_ ?_ ?_ ?_
    · unfold tlX
      rw [am_get_row (by decide), setRow_row (by decide), setAt_row (by decide), kpW_row (by decide)]
    · unfold tlX
      rw [am_get_row (by decide), setRow_row (by decide), setAt_row (by decide), kpW_row (by decide)]
    · unfold tlM
      rw [am_get_other (by decide), setAt_row (by decide), setRow_row (by decide), kpW_row (by decide)]
    · unfold tlM
      rw [am_get_row (by decide), setAt_row (by decide), setRow_row (by decide), kpW_row (by decide)]
  · have s2 : ∀ (w : AW) (o a z0 : Nat) (f : Nat → Int32) (n : Nat), (setAt w o a z0 f n).2 = w.2 := by
      intro w o a z0 f n
      induction n with
      | zero => rfl
      | succ n ih => exact ih
    unfold tlX tlM
    rw [am_set_2, am_set_2, setRow_2, s2, s2, setRow_2, kpW_2, kpW_2]
    exact h2'
  · refine fun i hi => (hS' i hi).c ?_ (fun a h8 h16 => ?_)
    · unfold tlX
      rw [am_row_ne (by omega)]
      funext a
      rw [setRow_row (by omega), setAt_row (by omega), kpW_row (by omega)]
    · unfold tlM
      rw [am_get_row (by omega), setAt_row (by omega), setRow_row (by omega), kpW_row (by omega)]
  · unfold tlX
    rw [am_get_row (by decide), setRow_row (by decide), setAt_row (by decide), kpW_row (by decide)]
    exact h12'
