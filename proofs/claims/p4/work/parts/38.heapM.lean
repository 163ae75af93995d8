/-! the model's heaps: a naming in row 48 -/
def HeapM (w : AW) (N : Nat) (g : Nat → Nat) : Prop := ∀ k, k < N → w.1 0 48 k = nI (g k)
section HM
variable {w : AW} {N : Nat} {Fr g : Nat → Nat}
theorem M_heapsOf (hz : w.1 0 0 2 = nI N) (hV : ViewM w N Fr) (hH : HeapM w N g) (h8 : N ≤ 8) (hF : ∀ k, k < N → Fr k < 2 ^ N) (hg : ∀ a, a < N → g a < 31) {a : Nat} (ha : a < N) : mX6_heapsOf (nI a) w = some (nI (hseen N Fr g a), w) := by
  have h256 := two_le h8
  have hfa := hF a ha
  unfold mX6_heapsOf
  refine loopE (fun n (s : Int32 × Int32) => mX6_heapsOf_4 (nI a) n s.1 s.2 w) N (fun k => (nI (orF (fun k => if (Fr a).testBit k then 2 ^ (g k) else 0) k), nI k)) _ ?_ ?_ FU 0 (Nat.zero_le _) (FU_gt (by omega))
  · intro n k hk
    have c1 : ¬ nI N ≤ nI k := nI_ge hk (by omega)
    have r1 : ∀ f : Int32 → Option (Int32 × AW), rd 8 (w.1 0 47) (nI a) f = f (nI (Fr a)) := fun f => by
      rw [rd_in (by omega) (by decide), hV a ha]
    have r2 : ∀ f : Int32 → Option (Int32 × AW), rd 8 (w.1 0 48) (nI k) f = f (nI (g k)) := fun f => by
      rw [rd_in (by omega) (by decide), hH k hk]
    cases q : (Fr a).testBit k
    · simp only [mX6_heapsOf_4, mX6_heapsOf_39, hz, c1, r1, shr_f (show k < 32 by omega) (show Fr a < 2 ^ 31 by omega) q, orF, q, cl_mk, nm_mk, pu_mk, lit, if_true, if_false, ne_eq, not_false_eq_true, not_true_eq_false, nI_add, nI_or, nI_and, Bool.false_eq_true, ne01, ne10, nI_m1', Nat.or_zero]
    · simp only [mX6_heapsOf_4, mX6_heapsOf_39, hz, c1, r1, shr_t (show k < 32 by omega) (show Fr a < 2 ^ 31 by omega) q, r2, one_shl (hg k hk), orF, q, cl_mk, nm_mk, pu_mk, lit, if_true, if_false, ne_eq, not_false_eq_true, not_true_eq_false, nI_add, nI_or, nI_and, Bool.false_eq_true, ne01, ne10, nI_m1', Nat.or_zero]
  · intro n
    have c1 : nI N ≤ nI N := nI_le (Nat.le_refl N) (by omega)
    simp only [mX6_heapsOf_4, hz, c1, cl_mk, nm_mk, pu_mk, lit, if_true, if_false, ne_eq, not_false_eq_true, not_true_eq_false, nI_add, nI_or, nI_and, Bool.false_eq_true, ne01, ne10, nI_m1', Nat.or_zero]
    rfl
theorem M_isAlike {E : Nat → Nat → Bool} (hz : w.1 0 0 2 = nI N) (hV : ViewM w N Fr) (hH : HeapM w N g) (h8 : N ≤ 8) (hF : ∀ k, k < N → Fr k < 2 ^ N) (hn : Nm N E g) {a b : Nat} (ha : a < N) (hb : b < N) : mX6_isAlike (nI a) (nI b) w = some (nI (bN (E a b && (goB N Fr E a b && goB N Fr E b a))), w) := by
  have e1 := M_heapsOf hz hV hH h8 hF hn.2 ha
  have e2 := M_heapsOf hz hV hH h8 hF hn.2 hb
  have l1 := hseen_lt (N := N) (Fr := Fr) (a := a) hn.2
  have l2 := hseen_lt (N := N) (Fr := Fr) (a := b) hn.2
  have r1 : ∀ f : Int32 → Option (Int32 × AW), rd 8 (w.1 0 48) (nI a) f = f (nI (g a)) := fun f => by
    rw [rd_in (by omega) (by decide), hH a ha]
  have r2 : ∀ f : Int32 → Option (Int32 × AW), rd 8 (w.1 0 48) (nI b) f = f (nI (g b)) := fun f => by
    rw [rd_in (by omega) (by decide), hH b hb]
  cases q : E a b
  · have q1 : (nI (g a) = nI (g b)) = False := eq_false (fun z => by
      have := (hn.1 a b ha hb).mp ((nI_eq (by have := hn.2 a ha; omega) (by have := hn.2 b hb; omega)).mp z)
      rw [q] at this; cases this)
    simp only [mX6_isAlike, r1, r2, q1, Bool.false_and, bN_f, cl_mk, nm_mk, pu_mk, lit, if_true, if_false, ne_eq, not_false_eq_true, not_true_eq_false, nI_add, nI_or, nI_and, Bool.false_eq_true, ne01, ne10, nI_m1', Nat.or_zero]
  · have q1 : g a = g b := (hn.1 a b ha hb).mpr q
    by_cases z : hseen N Fr g a = hseen N Fr g b
    · have z2 := (hseen_eq hn).mp z
      rw [z2.1, z2.2]
      simp only [mX6_isAlike, r1, r2, q1, e1, e2, z, Bool.and_self, bN_t, cl_mk, nm_mk, pu_mk, lit, if_true, if_false, ne_eq, not_false_eq_true, not_true_eq_false, nI_add, nI_or, nI_and, Bool.false_eq_true, ne01, ne10, nI_m1', Nat.or_zero]
    · have z2 : (goB N Fr E a b && goB N Fr E b a) = false := by
        cases y : (goB N Fr E a b && goB N Fr E b a)
        · rfl
        · rw [Bool.and_eq_true] at y
          exact absurd ((hseen_eq hn).mpr y) z
      have z3 : (nI (hseen N Fr g a) = nI (hseen N Fr g b)) = False := eq_false (fun y => z ((nI_eq l1 l2).mp y))
      rw [z2]
      simp only [mX6_isAlike, r1, r2, q1, e1, e2, z3, Bool.and_false, bN_f, cl_mk, nm_mk, pu_mk, lit, if_true, if_false, ne_eq, not_false_eq_true, not_true_eq_false, nI_add, nI_or, nI_and, Bool.false_eq_true, ne01, ne10, nI_m1', Nat.or_zero]
end HM
