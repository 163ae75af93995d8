/-! the model's heaps: a naming in row 48 -/
def HeapM (w : AW) (N : Nat) (g : Nat → Nat) : Prop := ∀ k, k < N → w.1 0 48 k = nI (g k)
section HM
variable {w : AW} {N : Nat} {Fr g : Nat → Nat}
theorem M_heapsOf (hz : w.1 0 0 2 = nI N) (hV : ViewM w N Fr) (hH : HeapM w N g) (h8 : N ≤ 8) (hF : ∀ k, k < N → Fr k < 2 ^ N) (hg : ∀ a, a < N → g a < 31) {a : Nat} (ha : a < N) : mX6_heapsOf (nI a) w = some (nI (hseen N Fr g a), w) := by
  have h256 := two_le h8
  have hfa := hF a ha
  unfold mX6_heapsOf
  refine loopE (fun n (s : Int32 × Int32) => mX6_heapsOf_4 (nI a) n s.1 s.2 w) N (fun k => (nI (orF (fun k => if (Fr a).testBit k then 2 ^ (g k) else 0) k), nI k)) _ ?_ ?_ FU 0 (Nat.zero_le _) (FU_gt (by omega))
  · intro n k hk
    have c1 : ¬ nI N ≤ nI k := nI_ge hk (by omega)
    have r1 : ∀ f : Int32 → Option (Int32 × AW), rd 8 (w.1 0 47) (nI a) f = f (nI (Fr a)) := fun f => by
      rw [rd_in (by omega) (by decide), hV a ha]
    have r2 : ∀ f : Int32 → Option (Int32 × AW), rd 8 (w.1 0 48) (nI k) f = f (nI (g k)) := fun f => by
      rw [rd_in (by omega) (by decide), hH k hk]
    cases q : (Fr a).testBit k
    · simp only [mX6_heapsOf_4, mX6_heapsOf_39, hz, c1, r1, shr_f (show k < 32 by omega) (show Fr a < 2 ^ 31 by omega) q, orF, q, cl_mk, nm_mk, pu_mk, lit, if_true, if_false, ne_eq, not_false_eq_true, not_true_eq_false, nI_add, nI_or, nI_and, Bool.false_eq_true, ne01, ne10, nI_m1', Nat.or_zero]
    · simp only [mX6_heapsOf_4, mX6_heapsOf_39, hz, c1, r1, shr_t (show k < 32 by omega) (show Fr a < 2 ^ 31 by omega) q, r2, one_shl (hg k hk), orF, q, cl_mk, nm_mk, pu_mk, lit, if_true, if_false, ne_eq, not_false_eq_true, not_true_eq_false, nI_add, nI_or, nI_and, Bool.false_eq_true, ne01, ne10, nI_m1', Nat.or_zero]
  · intro n
    have c1 : nI N ≤ nI N := nI_le (Nat.le_refl N) (by omega)
    simp only [mX6_heapsOf_4, hz, c1, cl_mk, nm_mk, pu_mk, lit, if_true, if_false, ne_eq, not_false_eq_true, not_true_eq_false, nI_add, nI_or, nI_and, Bool.false_eq_true, ne01, ne10, nI_m1', Nat.or_zero]
    rfl
end HM
