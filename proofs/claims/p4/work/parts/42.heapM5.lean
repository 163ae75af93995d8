/-! the model's heaps: a round's names -/
theorem lst_lst {N : Nat} {Fr A : Nat → Nat} (r k : Nat) : lst (er N Fr A r) (lst (er N Fr A r) k) = lst (er N Fr A r) k := (lst_iff ((er_eqv r).1 _)).mpr (isRep_iff.mp lst_rep)
noncomputable def n1M (w : AW) (N : Nat) (Fr A : Nat → Nat) (r k : Nat) : AW := setRow w 0 49 (fun a => nI (gM N Fr A (r + 1) a)) k
theorem n1M_K (w : AW) (N : Nat) (Fr A : Nat → Nat) (r : Nat) : ∀ k, KM w (n1M w N Fr A r k)
  | 0 => KM.rf w
  | k + 1 => (n1M_K w N Fr A r k).set (Or.inl (by decide))
section N1
variable {w : AW} {N : Nat} {S A Fr : Nat → Nat}
theorem M_splits146 {r : Nat} (h : NetM w N S A) (hN : NetOK N S A) (hV : ViewM w N Fr) (hF : ∀ k, k < N → Fr k < 2 ^ N) (hH : HeapM w N (gM N Fr A r)) (k135 : Int32 → Int32 → AW → Option (Int32 × AW)) : mX6_splits_146 k135 (nI (r + 1)) FU (nI 0) (nI 0) w = mX6_splits_231 k135 (nI (repC N Fr A (r + 1) N)) (nI (r + 1)) FU (nI 0) (n1M w N Fr A r N) := by
  have h8 := hN.2.1
  refine loopE (fun n (s : Int32 × Int32 × AW) => mX6_splits_146 k135 (nI (r + 1)) n s.1 s.2.1 s.2.2) N (fun k => (nI (repC N Fr A (r + 1) k), nI k, n1M w N Fr A r k)) _ ?_ ?_ FU 0 (Nat.zero_le _) (FU_gt (by omega))
  · intro n k hk
    have c1 : ¬ nI N ≤ nI k := nI_ge hk (by omega)
    have hM : NetM (n1M w N Fr A r k) N S A := h.k (n1M_K w N Fr A r k)
    have hVk : ViewM (n1M w N Fr A r k) N Fr := fun j hj => by
      unfold n1M
      rw [setRow_row (by decide)]
      exact hV j hj
    have hHk : HeapM (n1M w N Fr A r k) N (gM N Fr A r) := fun j hj => by
      unfold n1M
      rw [setRow_row (by decide)]
      exact hH j hj
    have hr := (er_eqv (N := N) (Fr := Fr) (A := A) (r + 1)).1 k
    obtain ⟨l1, l2, l3⟩ := lst_spec hr
    have hn := gM_Nm (N := N) (Fr := Fr) (A := A) h8 r
    have inner : mX6_splits_158 k135 (mX6_splits_146 k135 (nI (r + 1)) n) (nI (repC N Fr A (r + 1) k)) (nI (r + 1)) (nI k) FU (nI 0) (n1M w N Fr A r k) = mX6_splits_146 k135 (nI (r + 1)) n (nI (repC N Fr A (r + 1) (k + 1))) (nI (k + 1)) (n1M w N Fr A r (k + 1)) := by
      refine loopE (fun n2 v => mX6_splits_158 k135 (mX6_splits_146 k135 (nI (r + 1)) n) (nI (repC N Fr A (r + 1) k)) (nI (r + 1)) (nI k) n2 v (n1M w N Fr A r k)) (lst (er N Fr A (r + 1)) k) nI _ ?_ ?_ FU 0 (Nat.zero_le _) (FU_gt (by omega))
      · intro n2 v hv
        have d1 : ¬ nI k ≤ nI v := nI_ge (by omega) (by omega)
        have e1 := M_isAlike hM.1 hVk hHk h8 hF hn (a := v) (b := k) (by omega) hk
        have e2 : (er N Fr A r v k && (goB N Fr (er N Fr A r) v k && goB N Fr (er N Fr A r) k v)) = false := l3 v hv
        rw [e2] at e1
        simp only [mX6_splits_158, d1, e1, bN_f, cl_mk, nm_mk, pu_mk, lit, if_true, if_false, ne_eq, not_false_eq_true, not_true_eq_false, nI_add, nI_or, nI_and, Bool.false_eq_true, ne01, ne10, nI_m1', Nat.or_zero]
      · intro n2
        by_cases q : lst (er N Fr A (r + 1)) k = k
        · have d1 : nI k ≤ nI k := nI_le (Nat.le_refl k) (by omega)
          have e3 : isRep N Fr A (r + 1) k = true := isRep_iff.mpr ((lst_iff hr).mp q)
          have e4 : am_set (n1M w N Fr A r k) 0 49 k (nI (repC N Fr A (r + 1) k)) = n1M w N Fr A r (k + 1) := by
            show _ = am_set (n1M w N Fr A r k) 0 49 k (nI (repC N Fr A (r + 1) (lst (er N Fr A (r + 1)) k)))
            rw [q]
          rw [q]
          simp only [mX6_splits_158, mX6_splits_182, mX6_splits_206, mX6_splits_220, d1, wr_in (show k < 8 by omega) (show 8 < 2 ^ 31 by decide), e4, repC, e3, bN_t, cl_mk, nm_mk, pu_mk, lit, if_true, if_false, ne_eq, not_false_eq_true, not_true_eq_false, nI_add, nI_or, nI_and, Bool.false_eq_true, ne01, ne10, nI_m1', Nat.or_zero]
        · have d1 : ¬ nI k ≤ nI (lst (er N Fr A (r + 1)) k) := nI_ge (by omega) (by omega)
          have e1 := M_isAlike hM.1 hVk hHk h8 hF hn (a := lst (er N Fr A (r + 1)) k) (b := k) (by omega) hk
          have e2 : (er N Fr A r (lst (er N Fr A (r + 1)) k) k && (goB N Fr (er N Fr A r) (lst (er N Fr A (r + 1)) k) k && goB N Fr (er N Fr A r) k (lst (er N Fr A (r + 1)) k))) = true := l2
          rw [e2] at e1
          have e3 : isRep N Fr A (r + 1) k = false := by
            cases z : isRep N Fr A (r + 1) k
            · rfl
            · exact absurd ((lst_iff hr).mpr (isRep_iff.mp z)) q
          have r1 : ∀ f : Int32 → Option (Int32 × AW), rd 8 ((n1M w N Fr A r k).1 0 49) (nI (lst (er N Fr A (r + 1)) k)) f = f (nI (gM N Fr A (r + 1) k)) := fun f => by
            rw [rd_in (by omega) (by decide)]
            unfold n1M
            rw [setRow_in k (by omega)]
            show f (nI (repC N Fr A (r + 1) (lst (er N Fr A (r + 1)) (lst (er N Fr A (r + 1)) k)))) = f (nI (repC N Fr A (r + 1) (lst (er N Fr A (r + 1)) k)))
            rw [lst_lst]
          have e4 : am_set (n1M w N Fr A r k) 0 49 k (nI (gM N Fr A (r + 1) k)) = n1M w N Fr A r (k + 1) := rfl
          simp only [mX6_splits_158, mX6_splits_182, mX6_splits_206, mX6_splits_220, d1, e1, r1, bN_t, wr_in (show k < 8 by omega) (show 8 < 2 ^ 31 by decide), e4, repC, e3, bN_f, Nat.add_zero, cl_mk, nm_mk, pu_mk, lit, if_true, if_false, ne_eq, not_false_eq_true, not_true_eq_false, nI_add, nI_or, nI_and, Bool.false_eq_true, ne01, ne10, nI_m1', Nat.or_zero]
    simp only [mX6_splits_146, hM.1, c1, cl_mk, nm_mk, pu_mk, lit, if_true, if_false, ne_eq, not_false_eq_true, not_true_eq_false, nI_add, nI_or, nI_and, Bool.false_eq_true, ne01, ne10, nI_m1', Nat.or_zero]
    exact inner
  · intro n
    have hM : NetM (n1M w N Fr A r N) N S A := h.k (n1M_K w N Fr A r N)
    have c1 : nI N ≤ nI N := nI_le (Nat.le_refl N) (by omega)
    simp only [mX6_splits_146, hM.1, c1, cl_mk, nm_mk, pu_mk, lit, if_true, if_false, ne_eq, not_false_eq_true, not_true_eq_false, nI_add, nI_or, nI_and, Bool.false_eq_true, ne01, ne10, nI_m1', Nat.or_zero]
end N1
