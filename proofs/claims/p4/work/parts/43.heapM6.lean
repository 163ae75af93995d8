/-! the model's heaps: a round's end -/
noncomputable def n2M (w : AW) (N : Nat) (Fr A : Nat → Nat) (r k : Nat) : AW := setRow w 0 48 (fun a => nI (gM N Fr A r a)) k
theorem n2M_K (w : AW) (N : Nat) (Fr A : Nat → Nat) (r : Nat) : ∀ k, KM w (n2M w N Fr A r k)
  | 0 => KM.rf w
  | k + 1 => (n2M_K w N Fr A r k).set (Or.inl (by decide))
def l1M (w : AW) (N : Nat) (Fr A : Nat → Nat) (r k : Nat) : AW := setRow w 0 50 (lvC N Fr A r) k
theorem l1M_K (w : AW) (N : Nat) (Fr A : Nat → Nat) (r : Nat) : ∀ k, KM w (l1M w N Fr A r k)
  | 0 => KM.rf w
  | k + 1 => (l1M_K w N Fr A r k).set (Or.inl (by decide))
section N2
variable {w : AW} {N : Nat} {S A Fr : Nat → Nat}
theorem M_splits231 {r : Nat} {v2 v3 : Int32} (h : NetM w N S A) (hN : NetOK N S A) (h49 : ∀ k, k < N → w.1 0 49 k = nI (gM N Fr A r k)) (k135 : Int32 → Int32 → AW → Option (Int32 × AW)) : mX6_splits_231 k135 v2 v3 FU (nI 0) w = mX6_splits_263 k135 v2 v3 FU (nI 0) (n2M w N Fr A r N) := by
  have h8 := hN.2.1
  refine loopE (fun n (s : Int32 × AW) => mX6_splits_231 k135 v2 v3 n s.1 s.2) N (fun k => (nI k, n2M w N Fr A r k)) _ ?_ ?_ FU 0 (Nat.zero_le _) (FU_gt (by omega))
  · intro n k hk
    have c1 : ¬ nI N ≤ nI k := nI_ge hk (by omega)
    have hM : NetM (n2M w N Fr A r k) N S A := h.k (n2M_K w N Fr A r k)
    have r1 : ∀ f : Int32 → Option (Int32 × AW), rd 8 ((n2M w N Fr A r k).1 0 49) (nI k) f = f (nI (gM N Fr A r k)) := fun f => by
      rw [rd_in (by omega) (by decide)]
      unfold n2M
      rw [setRow_row (by decide), h49 k hk]
    simp only [mX6_splits_231, hM.1, c1, r1, wr_in (show k < 8 by omega) (show 8 < 2 ^ 31 by decide), cl_mk, nm_mk, pu_mk, lit, if_true, if_false, ne_eq, not_false_eq_true, not_true_eq_false, nI_add, nI_or, nI_and, Bool.false_eq_true, ne01, ne10, nI_m1', Nat.or_zero]
    rfl
  · intro n
    have hM : NetM (n2M w N Fr A r N) N S A := h.k (n2M_K w N Fr A r N)
    have c1 : nI N ≤ nI N := nI_le (Nat.le_refl N) (by omega)
    simp only [mX6_splits_231, hM.1, c1, cl_mk, nm_mk, pu_mk, lit, if_true, if_false, ne_eq, not_false_eq_true, not_true_eq_false, nI_add, nI_or, nI_and, Bool.false_eq_true, ne01, ne10, nI_m1', Nat.or_zero]
end N2
