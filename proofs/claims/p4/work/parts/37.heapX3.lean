/-! the class's heaps: all rounds, how many, how deep -/
theorem lst_iff {E : Nat → Nat → Bool} {w : Nat} (h : E w w = true) : lst E w = w ↔ ∀ u, u < w → E u w = false := by
  obtain ⟨h1, h2, h3⟩ := lst_spec h
  constructor
  · intro e u hu
    exact h3 u (by rw [e]; exact hu)
  · intro g
    rcases Nat.lt_or_ge (lst E w) w with q | q
    · rw [g _ q] at h2; cases h2
    · omega
def DepIs (N : Nat) (Fr A : Nat → Nat) (a b : Nat) (x : Int32) : Prop := (∃ r, r ≤ N ∧ er N Fr A r a b = false ∧ (∀ s, s < r → er N Fr A s a b = true) ∧ x = nI r) ∨ ((∀ s, s ≤ N → er N Fr A s a b = true) ∧ x = -9)
section H3
variable {N : Nat} {S A Fr : Nat → Nat}
theorem X_heapUp7 (h1 : 1 ≤ N) (h8 : N ≤ 8) (hF : ∀ k, k < N → Fr k < 2 ^ N) : ∀ (d k n : Nat) (w : AW), N = k + d → d < n → HS w N Fr A k → ∃ w2, mX4_heapUp_7 n (nI k) w = some ((), w2) ∧ KX w w2 ∧ HS w2 N Fr A N := by
  intro d
  induction d with
  | zero =>
    intro k n w e hn hS
    obtain ⟨n, rfl⟩ : ∃ m, n = m + 1 := ⟨n - 1, by omega⟩
    have e2 : N = k := by omega
    subst e2
    have c1 : nI N ≤ nI N := nI_le (Nat.le_refl N) (by omega)
    refine ⟨w, ?_, KX.rf w, hS⟩
    simp only [mX4_heapUp_7, hS.1.1, c1, cl_mk, nm_mk, pu_mk, lit, if_true, if_false, ne_eq, not_false_eq_true, not_true_eq_false, nI_add, nI_or, nI_and, Bool.false_eq_true, ne01, ne10, nI_m1', Nat.or_zero]
  | succ d ih =>
    intro k n w e hn hS
    obtain ⟨n, rfl⟩ : ∃ m, n = m + 1 := ⟨n - 1, by omega⟩
    have c1 : ¬ nI N ≤ nI k := nI_ge (by omega) (by omega)
    obtain ⟨w2, g1, g2, g3⟩ := X_heapFiner h1 h8 hF hS
    obtain ⟨w3, f1, f2, f3⟩ := ih (k + 1) n w2 (by omega) (by omega) g3
    refine ⟨w3, ?_, g2.tr f2, f3⟩
    simp only [mX4_heapUp_7, hS.1.1, c1, g1, cl_mk, nm_mk, pu_mk, lit, if_true, if_false, ne_eq, not_false_eq_true, not_true_eq_false, nI_add, nI_or, nI_and, Bool.false_eq_true, ne01, ne10, nI_m1', Nat.or_zero]
    exact f1
theorem X_heapUp {w : AW} (h : NetX w N S A) (hN : NetOK N S A) (hV : ViewX w N Fr) (hF : ∀ k, k < N → Fr k < 2 ^ N) : ∃ w2, mX4_heapUp w = some ((), w2) ∧ KX w w2 ∧ HS w2 N Fr A N := by
  have h8 := hN.2.1
  obtain ⟨w1, g1, g2, g3⟩ := X_heapByAtoms h hN hV
  obtain ⟨w2, f1, f2, f3⟩ := X_heapUp7 hN.1 h8 hF N 0 FU w1 (by omega) (FU_gt (by omega)) g3
  refine ⟨w2, ?_, g2.tr f2, f3⟩
  simp only [mX4_heapUp, g1, cl_mk, nm_mk, pu_mk, lit, if_true, if_false, ne_eq, not_false_eq_true, not_true_eq_false, nI_add, nI_or, nI_and, Bool.false_eq_true, ne01, ne10, nI_m1', Nat.or_zero]
  exact f1
theorem X_howManyHeaps {w : AW} {r : Nat} (h8 : N ≤ 8) (hS : HS w N Fr A r) : mX4_howManyHeaps w = some (nI (repC N Fr A r N), w) := by
  unfold mX4_howManyHeaps
  refine loopE (fun n (s : Int32 × Int32) => mX4_howManyHeaps_4 n s.1 s.2 w) N (fun k => (nI (repC N Fr A r k), nI k)) _ ?_ ?_ FU 0 (Nat.zero_le _) (FU_gt (by omega))
  · intro n k hk
    have c1 : ¬ nI N ≤ nI k := nI_ge hk (by omega)
    have hr := (er_eqv (N := N) (Fr := Fr) (A := A) r).1 k
    have hl := (lst_spec hr).1
    cases q : isRep N Fr A r k
    · have e1 : lst (er N Fr A r) k ≠ k := fun z => by
        have := isRep_iff.mpr ((lst_iff hr).mp z)
        rw [q] at this; cases this
      have e2 : (nI (lst (er N Fr A r) k) = nI k) = False := eq_false (fun z => e1 ((nI_eq (by omega) (by omega)).mp z))
      simp only [mX4_howManyHeaps_4, mX4_howManyHeaps_27, hS.1.1, c1, heap_at hS.2 h8 hk, e2, repC, q, bN_f, Nat.add_zero, cl_mk, nm_mk, pu_mk, lit, if_true, if_false, ne_eq, not_false_eq_true, not_true_eq_false, nI_add, nI_or, nI_and, Bool.false_eq_true, ne01, ne10, nI_m1', Nat.or_zero]
    · have e1 : lst (er N Fr A r) k = k := (lst_iff hr).mpr (isRep_iff.mp q)
      simp only [mX4_howManyHeaps_4, mX4_howManyHeaps_27, hS.1.1, c1, heap_at hS.2 h8 hk, e1, repC, q, bN_t, cl_mk, nm_mk, pu_mk, lit, if_true, if_false, ne_eq, not_false_eq_true, not_true_eq_false, nI_add, nI_or, nI_and, Bool.false_eq_true, ne01, ne10, nI_m1', Nat.or_zero]
  · intro n
    have c1 : nI N ≤ nI N := nI_le (Nat.le_refl N) (by omega)
    simp only [mX4_howManyHeaps_4, hS.1.1, c1, cl_mk, nm_mk, pu_mk, lit, if_true, if_false, ne_eq, not_false_eq_true, not_true_eq_false, nI_add, nI_or, nI_and, Bool.false_eq_true, ne01, ne10, nI_m1', Nat.or_zero]
theorem X_depth8 (h1 : 1 ≤ N) (h8 : N ≤ 8) (hF : ∀ k, k < N → Fr k < 2 ^ N) {a b : Nat} (ha : a < N) (hb : b < N) : ∀ (d k n : Nat) (w : AW), N + 1 = k + d → d < n → HS w N Fr A k → (∀ s, s < k → er N Fr A s a b = true) → ∃ x w2, mX4_depthApart_8 (nI a) (nI b) n (nI k) w = some (x, w2) ∧ KX w w2 ∧ DepIs N Fr A a b x := by
  intro d
  induction d with
  | zero =>
    intro k n w e hn hS hall
    obtain ⟨n, rfl⟩ : ∃ m, n = m + 1 := ⟨n - 1, by omega⟩
    have e2 : k = N + 1 := by omega
    subst e2
    have c1 : nI N < nI (N + 1) := nI_lt (by omega) (by omega)
    refine ⟨-9, w, ?_, KX.rf w, Or.inr ⟨fun s hs => hall s (by omega), rfl⟩⟩
    simp only [mX4_depthApart_8, hS.1.1, c1, cl_mk, nm_mk, pu_mk, lit, if_true, if_false, ne_eq, not_false_eq_true, not_true_eq_false, nI_add, nI_or, nI_and, Bool.false_eq_true, ne01, ne10, nI_m1', Nat.or_zero]
  | succ d ih =>
    intro k n w e hn hS hall
    obtain ⟨n, rfl⟩ : ∃ m, n = m + 1 := ⟨n - 1, by omega⟩
    have c1 : ¬ nI N < nI k := nI_nlt (by omega) (by omega)
    have hn2 := lst_Nm (N := N) (Fr := Fr) (A := A) k h8
    cases q : er N Fr A k a b
    · have e2 : (nI (lst (er N Fr A k) a) = nI (lst (er N Fr A k) b)) = False := eq_false (fun z => by
        have := (hn2.1 a b ha hb).mp ((nI_eq (by have := hn2.2 a ha; omega) (by have := hn2.2 b hb; omega)).mp z)
        rw [q] at this; cases this)
      refine ⟨nI k, w, ?_, KX.rf w, Or.inl ⟨k, by omega, q, hall, rfl⟩⟩
      simp only [mX4_depthApart_8, hS.1.1, c1, heap_at hS.2 h8 ha, heap_at hS.2 h8 hb, e2, cl_mk, nm_mk, pu_mk, lit, if_true, if_false, ne_eq, not_false_eq_true, not_true_eq_false, nI_add, nI_or, nI_and, Bool.false_eq_true, ne01, ne10, nI_m1', Nat.or_zero]
    · have e2 : lst (er N Fr A k) a = lst (er N Fr A k) b := (hn2.1 a b ha hb).mpr q
      obtain ⟨w2, g1, g2, g3⟩ := X_heapFiner h1 h8 hF hS
      obtain ⟨x, w3, f1, f2, f3⟩ := ih (k + 1) n w2 (by omega) (by omega) g3 (fun s hs => by
        by_cases z : s = k
        · subst z; exact q
        · exact hall s (by omega))
      refine ⟨x, w3, ?_, g2.tr f2, f3⟩
      simp only [mX4_depthApart_8, hS.1.1, c1, heap_at hS.2 h8 ha, heap_at hS.2 h8 hb, e2, g1, cl_mk, nm_mk, pu_mk, lit, if_true, if_false, ne_eq, not_false_eq_true, not_true_eq_false, nI_add, nI_or, nI_and, Bool.false_eq_true, ne01, ne10, nI_m1', Nat.or_zero]
      exact f1
theorem X_depthApart {w : AW} (h : NetX w N S A) (hN : NetOK N S A) (hV : ViewX w N Fr) (hF : ∀ k, k < N → Fr k < 2 ^ N) {a b : Nat} (ha : a < N) (hb : b < N) : ∃ x w2, mX4_depthApart (nI a) (nI b) w = some (x, w2) ∧ KX w w2 ∧ DepIs N Fr A a b x := by
  have h8 := hN.2.1
  obtain ⟨w1, g1, g2, g3⟩ := X_heapByAtoms h hN hV
  obtain ⟨x, w2, f1, f2, f3⟩ := X_depth8 hN.1 h8 hF ha hb (N + 1) 0 FU w1 (by omega) (FU_gt (by omega)) g3 (fun s hs => by omega)
  refine ⟨x, w2, ?_, g2.tr f2, f3⟩
  simp only [mX4_depthApart, g1, cl_mk, nm_mk, pu_mk, lit, if_true, if_false, ne_eq, not_false_eq_true, not_true_eq_false, nI_add, nI_or, nI_and, Bool.false_eq_true, ne01, ne10, nI_m1', Nat.or_zero]
  exact f1
end H3
