/-! the class's heaps -/
def Nm (N : Nat) (E : Nat → Nat → Bool) (g : Nat → Nat) : Prop := (∀ a b, a < N → b < N → (g a = g b ↔ E a b = true)) ∧ ∀ a, a < N → g a < 31
def hseen (N : Nat) (Fr g : Nat → Nat) (a : Nat) : Nat := orF (fun k => if (Fr a).testBit k then 2 ^ (g k) else 0) N
theorem tb_hseen {N : Nat} {Fr g : Nat → Nat} {a j : Nat} : (hseen N Fr g a).testBit j = true ↔ ∃ k, k < N ∧ (Fr a).testBit k = true ∧ g k = j := by
  unfold hseen
  rw [tb_orF]
  constructor
  · rintro ⟨k, h1, h2⟩
    split at h2
    · rename_i h
      rw [tb_pow, decide_eq_true_eq] at h2
      exact ⟨k, h1, h, h2⟩
    · rw [Nat.zero_testBit] at h2; cases h2
  · rintro ⟨k, h1, h2, h3⟩
    exact ⟨k, h1, by rw [if_pos h2, tb_pow, decide_eq_true_eq]; exact h3⟩
theorem hseen_lt {N : Nat} {Fr g : Nat → Nat} {a : Nat} (hg : ∀ a, a < N → g a < 31) : hseen N Fr g a < 2 ^ 31 := orF_lt (fun k hk => by
  split
  · exact pow_lt_of (hg k hk)
  · decide)
theorem hseen_eq {N : Nat} {Fr g : Nat → Nat} {E : Nat → Nat → Bool} (hn : Nm N E g) {a b : Nat} : hseen N Fr g a = hseen N Fr g b ↔ (goB N Fr E a b = true ∧ goB N Fr E b a = true) := by
  rw [goB_iff, goB_iff]
  constructor
  · intro h
    refine ⟨fun v hv q => ?_, fun v hv q => ?_⟩
    · have : (hseen N Fr g b).testBit (g v) = true := by rw [← h]; exact tb_hseen.mpr ⟨v, hv, q, rfl⟩
      obtain ⟨u, u1, u2, u3⟩ := tb_hseen.mp this
      exact ⟨u, u1, u2, (hn.1 v u hv u1).mp u3.symm⟩
    · have : (hseen N Fr g a).testBit (g v) = true := by rw [h]; exact tb_hseen.mpr ⟨v, hv, q, rfl⟩
      obtain ⟨u, u1, u2, u3⟩ := tb_hseen.mp this
      exact ⟨u, u1, u2, (hn.1 v u hv u1).mp u3.symm⟩
  · rintro ⟨h1, h2⟩
    apply sub_antisymm
    · intro j hj
      obtain ⟨v, v1, v2, rfl⟩ := tb_hseen.mp hj
      obtain ⟨u, u1, u2, u3⟩ := h1 v v1 v2
      exact tb_hseen.mpr ⟨u, u1, u2, ((hn.1 v u v1 u1).mpr u3).symm⟩
    · intro j hj
      obtain ⟨v, v1, v2, rfl⟩ := tb_hseen.mp hj
      obtain ⟨u, u1, u2, u3⟩ := h2 v v1 v2
      exact tb_hseen.mpr ⟨u, u1, u2, ((hn.1 v u v1 u1).mpr u3).symm⟩
section HX
variable {w : AW} {N : Nat} {Fr g : Nat → Nat}
def HeapX (w : AW) (N : Nat) (g : Nat → Nat) : Prop := ∀ k, k < N → w.1 2 3 k = nI (g k)
theorem heap_at (h : HeapX w N g) (h8 : N ≤ 8) {k : Nat} (hk : k < N) : mX5_at 2 3 (nI k) w = some (nI (g k), w) := by
  rw [at_in w (by rw [aL_2_3]; omega) (by rw [aL_2_3]; decide), h k hk]
theorem from_at (h : ViewX w N Fr) (h8 : N ≤ 8) {k : Nat} (hk : k < N) : mX5_at 2 1 (nI k) w = some (nI (Fr k), w) := by
  rw [at_in w (by rw [aL_2_1]; omega) (by rw [aL_2_1]; decide), h.2 k hk]
theorem X_heapsSeen (hV : ViewX w N Fr) (hH : HeapX w N g) (h8 : N ≤ 8) (hF : ∀ k, k < N → Fr k < 2 ^ N) (hg : ∀ a, a < N → g a < 31) {a : Nat} (ha : a < N) : mX4_heapsSeen (nI a) w = some (nI (hseen N Fr g a), w) := by
  have h256 := two_le h8
  have hfa := hF a ha
  unfold mX4_heapsSeen
  refine loopE (fun n (s : Int32 × Int32) => mX4_heapsSeen_4 (nI a) n s.1 s.2 w) N (fun k => (nI (orF (fun k => if (Fr a).testBit k then 2 ^ (g k) else 0) k), nI k)) _ ?_ ?_ FU 0 (Nat.zero_le _) (FU_gt (by omega))
  · intro n k hk
    have c1 : ¬ nI N ≤ nI k := nI_ge hk (by omega)
    cases q : (Fr a).testBit k
    · simp only [mX4_heapsSeen_4, mX4_heapsSeen_41, hV.1, c1, from_at hV h8 ha, bit_f w (show Fr a < 2 ^ 32 by omega) (show k < 32 by omega) q, orF, q, cl_mk, nm_mk, pu_mk, lit, if_true, if_false, ne_eq, not_false_eq_true, not_true_eq_false, nI_add, nI_or, nI_and, Bool.false_eq_true, ne01, ne10, nI_m1', Nat.or_zero]
    · simp only [mX4_heapsSeen_4, mX4_heapsSeen_41, hV.1, c1, from_at hV h8 ha, bit_t w (show Fr a < 2 ^ 32 by omega) (show k < 32 by omega) q, heap_at hH h8 hk, one_shl (hg k hk), orF, q, cl_mk, nm_mk, pu_mk, lit, if_true, if_false, ne_eq, not_false_eq_true, not_true_eq_false, nI_add, nI_or, nI_and, Bool.false_eq_true, ne01, ne10, nI_m1', Nat.or_zero]
  · intro n
    have c1 : nI N ≤ nI N := nI_le (Nat.le_refl N) (by omega)
    simp only [mX4_heapsSeen_4, hV.1, c1, cl_mk, nm_mk, pu_mk, lit, if_true, if_false, ne_eq, not_false_eq_true, not_true_eq_false, nI_add, nI_or, nI_and, Bool.false_eq_true, ne01, ne10, nI_m1', Nat.or_zero]
    rfl
theorem X_sameHeaps {E : Nat → Nat → Bool} (hV : ViewX w N Fr) (hH : HeapX w N g) (h8 : N ≤ 8) (hF : ∀ k, k < N → Fr k < 2 ^ N) (hn : Nm N E g) {a b : Nat} (ha : a < N) (hb : b < N) : mX4_sameHeaps (nI a) (nI b) w = some (nI (bN (E a b && (goB N Fr E a b && goB N Fr E b a))), w) := by
  have e1 := X_heapsSeen hV hH h8 hF hn.2 ha
  have e2 := X_heapsSeen hV hH h8 hF hn.2 hb
  have l1 := hseen_lt (N := N) (Fr := Fr) (a := a) hn.2
  have l2 := hseen_lt (N := N) (Fr := Fr) (a := b) hn.2
  cases q : E a b
  · have q1 : (nI (g a) = nI (g b)) = False := eq_false (fun z => by
      have := (hn.1 a b ha hb).mp ((nI_eq (by have := hn.2 a ha; omega) (by have := hn.2 b hb; omega)).mp z)
      rw [q] at this; cases this)
    simp only [mX4_sameHeaps, heap_at hH h8 ha, heap_at hH h8 hb, q1, Bool.false_and, bN_f, cl_mk, nm_mk, pu_mk, lit, if_true, if_false, ne_eq, not_false_eq_true, not_true_eq_false, nI_add, nI_or, nI_and, Bool.false_eq_true, ne01, ne10, nI_m1', Nat.or_zero]
  · have q1 : g a = g b := (hn.1 a b ha hb).mpr q
    by_cases z : hseen N Fr g a = hseen N Fr g b
    · have z2 := (hseen_eq hn).mp z
      rw [z2.1, z2.2]
      simp only [mX4_sameHeaps, heap_at hH h8 ha, heap_at hH h8 hb, q1, e1, e2, z, Bool.and_self, bN_t, cl_mk, nm_mk, pu_mk, lit, if_true, if_false, ne_eq, not_false_eq_true, not_true_eq_false, nI_add, nI_or, nI_and, Bool.false_eq_true, ne01, ne10, nI_m1', Nat.or_zero]
    · have z2 : (goB N Fr E a b && goB N Fr E b a) = false := by
        cases y : (goB N Fr E a b && goB N Fr E b a)
        · rfl
        · rw [Bool.and_eq_true] at y
          exact absurd ((hseen_eq hn).mpr y) z
      have z3 : (nI (hseen N Fr g a) = nI (hseen N Fr g b)) = False := eq_false (fun y => z ((nI_eq l1 l2).mp y))
      rw [z2]
      simp only [mX4_sameHeaps, heap_at hH h8 ha, heap_at hH h8 hb, q1, e1, e2, z3, Bool.and_false, bN_f, cl_mk, nm_mk, pu_mk, lit, if_true, if_false, ne_eq, not_false_eq_true, not_true_eq_false, nI_add, nI_or, nI_and, Bool.false_eq_true, ne01, ne10, nI_m1', Nat.or_zero]
end HX
