/-! the model's heaps: a round's levels -/
section N3
variable {w : AW} {N : Nat} {S A Fr : Nat → Nat}
theorem M_splits263 {r : Nat} {v2 : Int32} (h : NetM w N S A) (hN : NetOK N S A) (hH : HeapM w N (gM N Fr A (r + 1))) (hL : LevM w N Fr A r) (k135 : Int32 → Int32 → AW → Option (Int32 × AW)) : mX6_splits_263 k135 v2 (nI (r + 1)) FU (nI 0) w = k135 v2 (nI (r + 1 + 1)) (l1M w N Fr A (r + 1) 64) := by
  have h8 := hN.2.1
  have hn := gM_Nm (N := N) (Fr := Fr) (A := A) h8 (r + 1)
  refine loopE (fun n (s : Int32 × AW) => mX6_splits_263 k135 v2 (nI (r + 1)) n s.1 s.2) 64 (fun k => (nI k, l1M w N Fr A (r + 1) k)) _ ?_ ?_ FU 0 (Nat.zero_le _) (FU_gt (by omega))
  · intro n v hv
    have c1 : ¬ nI 64 ≤ nI v := nI_ge hv (by decide)
    have hM : NetM (l1M w N Fr A (r + 1) v) N S A := h.k (l1M_K w N Fr A (r + 1) v)
    obtain ⟨d1, d2⟩ := dv_1 v hv
    rw [d1] at d2
    have hr : ∀ x, (l1M w N Fr A (r + 1) v).1 0 48 x = w.1 0 48 x := fun x => by
      unfold l1M
      rw [setRow_row (by decide)]
    have r0 : ∀ f : Int32 → Option (Int32 × AW), rd 64 ((l1M w N Fr A (r + 1) v).1 0 50) (nI v) f = f (lvC N Fr A r v) := fun f => by
      rw [rd_in (by omega) (by decide)]
      unfold l1M
      rw [setRow_out v (Nat.le_refl v), hL v hv]
    have fin : ∀ x, lvC N Fr A (r + 1) v = x → am_set (l1M w N Fr A (r + 1) v) 0 50 v x = l1M w N Fr A (r + 1) (v + 1) := fun x hx => by
      rw [← hx]; rfl
    have stay : lvC N Fr A (r + 1) v = lvC N Fr A r v → mX6_splits_333 k135 (mX6_splits_263 k135 v2 (nI (r + 1)) n) v2 (nI (r + 1)) (nI v) (l1M w N Fr A (r + 1) v) = mX6_splits_263 k135 v2 (nI (r + 1)) n (nI (v + 1)) (l1M w N Fr A (r + 1) (v + 1)) := fun z => by
      simp only [mX6_splits_333, mX6_splits_334, mX6_splits_358, r0, wr_in (show v < 64 by omega) (show 64 < 2 ^ 31 by decide), fin _ z, cl_mk, nm_mk, pu_mk, lit, if_true, if_false, ne_eq, not_false_eq_true, not_true_eq_false, nI_add, nI_or, nI_and, Bool.false_eq_true, ne01, ne10, nI_m1', Nat.or_zero]
    by_cases qa : v / 8 < N
    · have c2 : ¬ nI N ≤ nI (v / 8) := nI_ge qa (by omega)
      by_cases qb : v % 8 < N
      · have c3 : ¬ nI N ≤ nI (v % 8) := nI_ge qb (by omega)
        have r1 : ∀ f : Int32 → Option (Int32 × AW), rd 8 ((l1M w N Fr A (r + 1) v).1 0 48) (nI (v / 8)) f = f (nI (gM N Fr A (r + 1) (v / 8))) := fun f => by
          rw [rd_in (by omega) (by decide), hr, hH _ qa]
        have r2 : ∀ f : Int32 → Option (Int32 × AW), rd 8 ((l1M w N Fr A (r + 1) v).1 0 48) (nI (v % 8)) f = f (nI (gM N Fr A (r + 1) (v % 8))) := fun f => by
          rw [rd_in (by omega) (by decide), hr, hH _ qb]
        have ec : ∀ s, lvC N Fr A s v = lvF N Fr A (v / 8) (v % 8) s := fun s => if_pos ⟨qa, qb⟩
        by_cases z9 : lvC N Fr A r v = -nI 9
        · have z8 : lvF N Fr A (v / 8) (v % 8) r = -9 := (ec r).symm.trans z9
          cases q : er N Fr A (r + 1) (v / 8) (v % 8)
          · have e1 : (nI (gM N Fr A (r + 1) (v / 8)) = nI (gM N Fr A (r + 1) (v % 8))) = False := eq_false (fun z => by
              have := (hn.1 _ _ qa qb).mp ((nI_eq (by have := hn.2 _ qa; omega) (by have := hn.2 _ qb; omega)).mp z)
              rw [q] at this; cases this)
            have f1 := fin (nI (r + 1)) (by rw [ec]; unfold lvF; rw [if_pos z8, q]; rfl)
            simp only [mX6_splits_263, mX6_splits_334, mX6_splits_358, hM.1, c1, d1, d2, c2, c3, r0, r1, r2, e1, z9, wr_in (show v < 64 by omega) (show 64 < 2 ^ 31 by decide), f1, cl_mk, nm_mk, pu_mk, lit, if_true, if_false, ne_eq, not_false_eq_true, not_true_eq_false, nI_add, nI_or, nI_and, Bool.false_eq_true, ne01, ne10, nI_m1', Nat.or_zero]
          · have e1 : gM N Fr A (r + 1) (v / 8) = gM N Fr A (r + 1) (v % 8) := (hn.1 _ _ qa qb).mpr q
            have f1 := stay (by rw [ec, ec]; show (if _ then _ else _) = _; rw [if_pos z8, q, z8]; rfl)
            simp only [mX6_splits_263, hM.1, c1, d1, d2, c2, c3, r0, r1, r2, e1, z9, f1, cl_mk, nm_mk, pu_mk, lit, if_true, if_false, ne_eq, not_false_eq_true, not_true_eq_false, nI_add, nI_or, nI_and, Bool.false_eq_true, ne01, ne10, nI_m1', Nat.or_zero]
        · have z8 : ¬ lvF N Fr A (v / 8) (v % 8) r = -9 := fun y => z9 ((ec r).trans y)
          have f1 := stay (by rw [ec, ec]; show (if _ then _ else _) = _; rw [if_neg z8])
          simp only [mX6_splits_263, hM.1, c1, d1, d2, c2, c3, r0, z9, f1, cl_mk, nm_mk, pu_mk, lit, if_true, if_false, ne_eq, not_false_eq_true, not_true_eq_false, nI_add, nI_or, nI_and, Bool.false_eq_true, ne01, ne10, nI_m1', Nat.or_zero]
      · have c3 : nI N ≤ nI (v % 8) := nI_le (by omega) (by omega)
        have f1 := stay (by unfold lvC; rw [if_neg (fun z => qb z.2), if_neg (fun z => qb z.2)])
        simp only [mX6_splits_263, hM.1, c1, d1, d2, c2, c3, f1, cl_mk, nm_mk, pu_mk, lit, if_true, if_false, ne_eq, not_false_eq_true, not_true_eq_false, nI_add, nI_or, nI_and, Bool.false_eq_true, ne01, ne10, nI_m1', Nat.or_zero]
    · have c2 : nI N ≤ nI (v / 8) := nI_le (by omega) (by omega)
      have f1 := stay (by unfold lvC; rw [if_neg (fun z => qa z.1), if_neg (fun z => qa z.1)])
      simp only [mX6_splits_263, hM.1, c1, d1, d2, c2, f1, cl_mk, nm_mk, pu_mk, lit, if_true, if_false, ne_eq, not_false_eq_true, not_true_eq_false, nI_add, nI_or, nI_and, Bool.false_eq_true, ne01, ne10, nI_m1', Nat.or_zero]
  · intro n
    have c1 : nI 64 ≤ nI 64 := by decide
    simp only [mX6_splits_263, c1, cl_mk, nm_mk, pu_mk, lit, if_true, if_false, ne_eq, not_false_eq_true, not_true_eq_false, nI_add, nI_or, nI_and, Bool.false_eq_true, ne01, ne10, nI_m1', Nat.or_zero]
end N3
