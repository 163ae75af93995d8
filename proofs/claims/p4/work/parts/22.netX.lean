/-! the class's net -/
def NetX (w : AW) (N : Nat) (S A : Nat → Nat) : Prop := w.1 1 0 2 = nI N ∧ (∀ k, k < 8 → w.1 1 1 k = nI (S k)) ∧ (∀ i, i < 4 → w.1 1 2 i = nI (A i))
def NetOK (N : Nat) (S A : Nat → Nat) : Prop := 1 ≤ N ∧ N ≤ 8 ∧ (∀ k, S k < 2 ^ N) ∧ (∀ k, N ≤ k → S k = 0) ∧ (∀ i, A i < 2 ^ N)
theorem two_le {N : Nat} (h : N ≤ 8) : 2 ^ N ≤ 256 := Nat.le_trans (Nat.pow_le_pow_right (by decide) h) (by decide)
theorem aL_1_1 : am_aL false 1 1 = 8 := rfl
theorem aL_1_2 : am_aL false 1 2 = 4 := rfl
theorem ne01 : (nI 0 = nI 1) = False := by
  rw [eq_iff_iff]
  constructor
  · intro h
    rw [nI_eq (by decide) (by decide)] at h
    omega
  · exact False.elim
theorem ne10 : (nI 1 = nI 0) = False := by
  rw [eq_iff_iff]
  constructor
  · intro h
    rw [nI_eq (by decide) (by decide)] at h
    omega
  · exact False.elim
theorem bit_t {a k : Nat} (w : AW) (ha : a < 2 ^ 32) (hk : k < 32) (h : a.testBit k = true) : mX5_bit (nI a) (nI k) w = some (nI 1, w) := by
  rw [bit_eq w ha hk, h]
  rfl
theorem bit_f {a k : Nat} (w : AW) (ha : a < 2 ^ 32) (hk : k < 32) (h : a.testBit k = false) : mX5_bit (nI a) (nI k) w = some (nI 0, w) := by
  rw [bit_eq w ha hk, h]
  rfl
theorem shlN {a k : Nat} (hk : k < 32) (h : a * 2 ^ k < 2 ^ 32) : nI a <<< nI (k &&& 31) = nI (a * 2 ^ k) := by
  rw [← nI_and]
  exact nI_shl hk h
theorem shrN {a k : Nat} (hk : k < 32) (h : a < 2 ^ 31) : nI a >>> nI (k &&& 31) = nI (a / 2 ^ k) := by
  rw [← nI_and]
  exact nI_shr hk h
theorem one_shl {k : Nat} (hk : k < 31) : nI 1 <<< nI (k &&& 31) = nI (2 ^ k) := by
  rw [shlN (by omega) (by rw [Nat.one_mul]; exact Nat.pow_lt_pow_right (by decide) (by omega)), Nat.one_mul]
section NX
variable {w : AW} {N : Nat} {S A : Nat → Nat}
theorem sees_at (h : NetX w N S A) {k : Nat} (hk : k < 8) : mX5_at 1 1 (nI k) w = some (nI (S k), w) := by
  rw [at_in w (by rw [aL_1_1]; exact hk) (by rw [aL_1_1]; decide), h.2.1 k hk]
theorem atoms_at (h : NetX w N S A) {k : Nat} (hk : k < 4) : mX5_at 1 2 (nI k) w = some (nI (A k), w) := by
  rw [at_in w (by rw [aL_1_2]; exact hk) (by rw [aL_1_2]; decide), h.2.2 k hk]
theorem X_size (h : NetX w N S A) : mX0_size w = some (nI N, w) := by
  unfold mX0_size
  rw [h.1]
theorem full_nI (hN : NetOK N S A) : nI 1 <<< nI (N &&& 31) - nI 1 = nI (2 ^ N - 1) := by
  rw [one_shl (by have := hN.2.1; omega)]
  exact pk_sub (Nat.two_pow_pos N)
theorem X_all (h : NetX w N S A) (hN : NetOK N S A) : mX0_all w = some (nI (2 ^ N - 1), w) := by
  unfold mX0_all
  simp only [lit, h.1, nI_and]
  rw [full_nI hN]
theorem X_has (h : NetX w N S A) (hN : NetOK N S A) (v : Int32) : (∃ k, k < N ∧ v = nI k ∧ mX0_has v w = some (1, w)) ∨ ((¬ ∃ k, k < N ∧ v = nI k) ∧ mX0_has v w = some (0, w)) := by
  unfold mX0_has
  rw [h.1]
  rcases pk_ix v (n := N) (by have := hN.2.1; omega) with q | q | ⟨k, hk, rfl⟩
  · refine Or.inr ⟨?_, by rw [if_pos q]⟩
    rintro ⟨k, hk, rfl⟩
    exact nI_pos (by have := hN.2.1; omega) q
  · by_cases h0 : v < 0
    · refine Or.inr ⟨?_, by rw [if_pos h0]⟩
      rintro ⟨k, hk, rfl⟩
      exact nI_pos (by have := hN.2.1; omega) h0
    · refine Or.inr ⟨?_, by rw [if_neg h0, if_pos q]⟩
      rintro ⟨k, hk, rfl⟩
      exact nI_ge hk (by have := hN.2.1; omega) q
  · refine Or.inl ⟨k, hk, rfl, ?_⟩
    rw [if_neg (nI_pos (by have := hN.2.1; omega)), if_neg (nI_ge hk (by have := hN.2.1; omega))]
theorem X_stepFrom (h : NetX w N S A) (hN : NetOK N S A) {m : Nat} (hm : m < 2 ^ 32) : mX0_stepFrom (nI m) w = some (nI (stepF N S m), w) := by
  obtain ⟨h1, h8, hS, hS0, hA⟩ := hN
  unfold mX0_stepFrom
  refine loopE (fun n (s : Int32 × Int32) => mX0_stepFrom_4 (nI m) n s.1 s.2 w) N (fun k => (nI (orF (fun k => if m.testBit k then S k else 0) k), nI k)) _ ?_ ?_ FU 0 (Nat.zero_le _) (FU_gt (by omega))
  · intro n k hk
    have c1 : ¬ nI N ≤ nI k := nI_ge hk (by omega)
    cases e : m.testBit k
    · simp only [mX0_stepFrom_4, mX0_stepFrom_32, h.1, c1, bit_f w hm (show k < 32 by omega) e, orF, e, cl_mk, nm_mk, pu_mk, lit, if_true, if_false, ne_eq, not_false_eq_true, not_true_eq_false, nI_add, nI_or, nI_and, Bool.false_eq_true, ne01, ne10, nI_m1', Nat.or_zero]
    · simp only [mX0_stepFrom_4, mX0_stepFrom_32, h.1, c1, bit_t w hm (show k < 32 by omega) e, sees_at h (show k < 8 by omega), orF, e, cl_mk, nm_mk, pu_mk, lit, if_true, if_false, ne_eq, not_false_eq_true, not_true_eq_false, nI_add, nI_or, nI_and, Bool.false_eq_true, ne01, ne10, nI_m1', Nat.or_zero]
  · intro n
    simp only [mX0_stepFrom_4, h.1]
    rw [if_pos (nI_le (Nat.le_refl N) (by omega))]
    rfl
theorem X_stepInto (h : NetX w N S A) (hN : NetOK N S A) {m : Nat} (hm : m < 2 ^ 31) : mX0_stepInto (nI m) w = some (nI (stepI N S m), w) := by
  obtain ⟨h1, h8, hS, hS0, hA⟩ := hN
  have h256 := two_le h8
  unfold mX0_stepInto
  refine loopE (fun n (s : Int32 × Int32) => mX0_stepInto_4 (nI m) n s.1 s.2 w) N (fun k => (nI (orF (fun k => if S k &&& m = 0 then 0 else 2 ^ k) k), nI k)) _ ?_ ?_ FU 0 (Nat.zero_le _) (FU_gt (by omega))
  · intro n k hk
    have c1 : ¬ nI N ≤ nI k := nI_ge hk (by omega)
    have hlt : S k &&& m < 2 ^ 31 := Nat.lt_of_le_of_lt Nat.and_le_right hm
    by_cases e : S k &&& m = 0
    · simp only [mX0_stepInto_4, mX0_stepInto_31, h.1, c1, sees_at h (show k < 8 by omega), orF, e, cl_mk, nm_mk, pu_mk, lit, if_true, if_false, ne_eq, not_false_eq_true, not_true_eq_false, nI_add, nI_or, nI_and, Bool.false_eq_true, ne01, ne10, nI_m1', Nat.or_zero]
    · have e2 : ¬ nI (S k &&& m) = nI 0 := by rw [nI_eq hlt (by decide)]; exact e
      simp only [mX0_stepInto_4, mX0_stepInto_31, h.1, c1, sees_at h (show k < 8 by omega), orF, e, e2, one_shl (show k < 31 by omega), cl_mk, nm_mk, pu_mk, lit, if_true, if_false, ne_eq, not_false_eq_true, not_true_eq_false, nI_add, nI_or, nI_and, Bool.false_eq_true, ne01, ne10, nI_m1', Nat.or_zero]
  · intro n
    simp only [mX0_stepInto_4, h.1]
    rw [if_pos (nI_le (Nat.le_refl N) (by omega))]
    rfl
theorem X_farFrom (h : NetX w N S A) (hN : NetOK N S A) {m : Nat} (hm : m < 2 ^ N) : mX0_farFrom (nI m) w = some (nI (farI N S m N), w) := by
  have h8 := hN.2.1
  have h256 := two_le h8
  unfold mX0_farFrom
  refine loopE (fun n (s : Int32 × Int32) => mX0_farFrom_4 n s.1 s.2 w) N (fun k => (nI (farI N S m k), nI k)) _ ?_ ?_ FU 0 (Nat.zero_le _) (FU_gt (by omega))
  · intro n k hk
    have := farI_lt (n := k) hN.2.2.1 hm
    have c1 : ¬ nI N ≤ nI k := nI_ge hk (by omega)
    simp only [mX0_farFrom_4, h.1, c1, X_stepFrom h hN (show farI N S m k < 2 ^ 32 by omega), cl_mk, nm_mk, pu_mk, lit, if_true, if_false, ne_eq, not_false_eq_true, not_true_eq_false, nI_add, nI_or, nI_and, Bool.false_eq_true, ne01, ne10, nI_m1', Nat.or_zero]
    rfl
  · intro n
    simp only [mX0_farFrom_4, h.1]
    rw [if_pos (nI_le (Nat.le_refl N) (by omega))]
theorem X_bothWays (h : NetX w N S A) (hN : NetOK N S A) {m : Nat} (hm : m < 2 ^ N) : mX0_bothWaysFrom (nI m) w = some (nI (bothI N S m N), w) := by
  have h8 := hN.2.1
  have h256 := two_le h8
  unfold mX0_bothWaysFrom
  refine loopE (fun n (s : Int32 × Int32) => mX0_bothWaysFrom_4 n s.1 s.2 w) N (fun k => (nI (bothI N S m k), nI k)) _ ?_ ?_ FU 0 (Nat.zero_le _) (FU_gt (by omega))
  · intro n k hk
    have := bothI_lt (n := k) hN.2.2.1 hm
    have c1 : ¬ nI N ≤ nI k := nI_ge hk (by omega)
    simp only [mX0_bothWaysFrom_4, h.1, c1, X_stepFrom h hN (show bothI N S m k < 2 ^ 32 by omega), X_stepInto h hN (show bothI N S m k < 2 ^ 31 by omega), cl_mk, nm_mk, pu_mk, lit, if_true, if_false, ne_eq, not_false_eq_true, not_true_eq_false, nI_add, nI_or, nI_and, Bool.false_eq_true, ne01, ne10, nI_m1', Nat.or_zero]
    rfl
  · intro n
    simp only [mX0_bothWaysFrom_4, h.1]
    rw [if_pos (nI_le (Nat.le_refl N) (by omega))]
/-- seen by a sort -/
def seenS (N : Nat) (S : Nat → Nat) (sort k : Nat) : Nat := if sort = 0 then S k else if sort = 1 then S k ||| 2 ^ k else if sort = 2 then farI N S (2 ^ k) N else bothI N S (2 ^ k) N
theorem seenS_lt (hN : NetOK N S A) {sort k : Nat} (hk : k < N) : seenS N S sort k < 2 ^ N := by
  unfold seenS
  have := pow_lt_of hk
  split
  · exact hN.2.2.1 k
  · split
    · exact or_lt (hN.2.2.1 k) this
    · split
      · exact farI_lt hN.2.2.1 this
      · exact bothI_lt hN.2.2.1 this
theorem X_seenBy (h : NetX w N S A) (hN : NetOK N S A) {sort k : Nat} (hs : sort < 4) (hk : k < N) : mX0_seenBy (nI sort) (nI k) w = some (nI (seenS N S sort k), w) := by
  have h8 := hN.2.1
  have p1 : (nI 1 = nI 0) = False := ne10
  have z : ∀ i j : Nat, i < 4 → j < 4 → i ≠ j → (nI i = nI j) = False := fun i j hi hj hne => eq_false (fun e => hne ((nI_eq (by omega) (by omega)).mp e))
  have hp := pow_lt_of hk
  unfold seenS
  match sort, hs with
  | 0, _ => simp only [mX0_seenBy, sees_at h (show k < 8 by omega), cl_mk, nm_mk, pu_mk, lit, if_true, if_false, ne_eq, not_false_eq_true, not_true_eq_false, nI_add, nI_or, nI_and, Bool.false_eq_true, ne01, ne10, nI_m1', Nat.or_zero]
  | 1, _ => simp only [mX0_seenBy, sees_at h (show k < 8 by omega), one_shl (show k < 31 by omega), Nat.succ_ne_self, cl_mk, nm_mk, pu_mk, lit, if_true, if_false, ne_eq, not_false_eq_true, not_true_eq_false, nI_add, nI_or, nI_and, Bool.false_eq_true, ne01, ne10, nI_m1', Nat.or_zero]
  | 2, _ => simp only [mX0_seenBy, X_farFrom h hN hp, one_shl (show k < 31 by omega), z 2 0 (by decide) (by decide) (by decide), z 2 1 (by decide) (by decide) (by decide), cl_mk, nm_mk, pu_mk, lit, if_true, if_false, ne_eq, not_false_eq_true, not_true_eq_false, nI_add, nI_or, nI_and, Bool.false_eq_true, ne01, ne10, nI_m1', Nat.or_zero]; rfl
  | 3, _ => simp only [mX0_seenBy, X_bothWays h hN hp, one_shl (show k < 31 by omega), z 3 0 (by decide) (by decide) (by decide), z 3 1 (by decide) (by decide) (by decide), z 3 2 (by decide) (by decide) (by decide), cl_mk, nm_mk, pu_mk, lit, if_true, if_false, ne_eq, not_false_eq_true, not_true_eq_false, nI_add, nI_or, nI_and, Bool.false_eq_true, ne01, ne10, nI_m1', Nat.or_zero]; rfl
end NX
