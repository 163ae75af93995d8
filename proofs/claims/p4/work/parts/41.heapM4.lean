/-! the model's levels -/
theorem dv_1 : ∀ v, v < 64 → nI v / nI 8 = nI (v / 8) ∧ nI v - nI v / nI 8 * nI 8 = nI (v % 8) := by decide +kernel
def lvF (N : Nat) (Fr A : Nat → Nat) (a b : Nat) : Nat → Int32
  | 0 => if e0 A a b then -9 else 0
  | r + 1 => if lvF N Fr A a b r = -9 then (if er N Fr A (r + 1) a b then -9 else nI (r + 1)) else lvF N Fr A a b r
def lvC (N : Nat) (Fr A : Nat → Nat) (r v : Nat) : Int32 := if v / 8 < N ∧ v % 8 < N then lvF N Fr A (v / 8) (v % 8) r else -9
def LevM (w : AW) (N : Nat) (Fr A : Nat → Nat) (r : Nat) : Prop := ∀ v, v < 64 → w.1 0 50 v = lvC N Fr A r v
section L0
variable {w : AW} {N : Nat} {S A Fr : Nat → Nat}
def l0M (w : AW) (N : Nat) (Fr A : Nat → Nat) (k : Nat) : AW := setRow w 0 50 (lvC N Fr A 0) k
theorem l0M_K (w : AW) (N : Nat) (Fr A : Nat → Nat) : ∀ k, KM w (l0M w N Fr A k)
  | 0 => KM.rf w
  | k + 1 => (l0M_K w N Fr A k).set (Or.inl (by decide))
theorem M_splits64 (h : NetM w N S A) (hN : NetOK N S A) (hH : HeapM w N (gM N Fr A 0)) : mX6_splits_64 FU (nI 0) w = mX6_splits_135 FU (nI 0) (nI 1) (l0M w N Fr A 64) := by
  have h8 := hN.2.1
  refine loopE (fun n (s : Int32 × AW) => mX6_splits_64 n s.1 s.2) 64 (fun k => (nI k, l0M w N Fr A k)) _ ?_ ?_ FU 0 (Nat.zero_le _) (FU_gt (by omega))
  · intro n v hv
    have c1 : ¬ nI 64 ≤ nI v := nI_ge hv (by decide)
    have hM : NetM (l0M w N Fr A v) N S A := h.k (l0M_K w N Fr A v)
    obtain ⟨d1, d2⟩ := dv_1 v hv
    have hr : ∀ x, (l0M w N Fr A v).1 0 48 x = w.1 0 48 x := fun x => by
      unfold l0M
      rw [setRow_row (by decide)]
    have fin : ∀ x, lvC N Fr A 0 v = x → am_set (l0M w N Fr A v) 0 50 v x = l0M w N Fr A (v + 1) := fun x hx => by
      rw [← hx]; rfl
    rw [d1] at d2
    by_cases qa : v / 8 < N
    · have c2 : ¬ nI N ≤ nI (v / 8) := nI_ge qa (by omega)
      by_cases qb : v % 8 < N
      · have c3 : ¬ nI N ≤ nI (v % 8) := nI_ge qb (by omega)
        have r1 : ∀ f : Int32 → Option (Int32 × AW), rd 8 ((l0M w N Fr A v).1 0 48) (nI (v / 8)) f = f (nI (gM N Fr A 0 (v / 8))) := fun f => by
          rw [rd_in (by omega) (by decide), hr, hH _ qa]
        have r2 : ∀ f : Int32 → Option (Int32 × AW), rd 8 ((l0M w N Fr A v).1 0 48) (nI (v % 8)) f = f (nI (gM N Fr A 0 (v % 8))) := fun f => by
          rw [rd_in (by omega) (by decide), hr, hH _ qb]
        have hn := gM_Nm (N := N) (Fr := Fr) (A := A) h8 0
        cases q : e0 A (v / 8) (v % 8)
        · have e1 : (nI (gM N Fr A 0 (v / 8)) = nI (gM N Fr A 0 (v % 8))) = False := eq_false (fun z => by
            have := (hn.1 _ _ qa qb).mp ((nI_eq (by have := hn.2 _ qa; omega) (by have := hn.2 _ qb; omega)).mp z)
            rw [show er N Fr A 0 = e0 A from rfl, q] at this; cases this)
          have f1 := fin (nI 0) (by unfold lvC; rw [if_pos ⟨qa, qb⟩]; unfold lvF; rw [q]; rfl)
          simp only [mX6_splits_64, mX6_splits_124, mX6_splits_122, hM.1, c1, d1, d2, c2, c3, r1, r2, e1, wr_in (show v < 64 by omega) (show 64 < 2 ^ 31 by decide), f1, cl_mk, nm_mk, pu_mk, lit, if_true, if_false, ne_eq, not_false_eq_true, not_true_eq_false, nI_add, nI_or, nI_and, Bool.false_eq_true, ne01, ne10, nI_m1', Nat.or_zero]
        · have e1 : gM N Fr A 0 (v / 8) = gM N Fr A 0 (v % 8) := (hn.1 _ _ qa qb).mpr q
          have f1 := fin (-nI 9) (by unfold lvC; rw [if_pos ⟨qa, qb⟩]; unfold lvF; rw [q]; rfl)
          simp only [mX6_splits_64, mX6_splits_124, mX6_splits_122, hM.1, c1, d1, d2, c2, c3, r1, r2, e1, wr_in (show v < 64 by omega) (show 64 < 2 ^ 31 by decide), f1, cl_mk, nm_mk, pu_mk, lit, if_true, if_false, ne_eq, not_false_eq_true, not_true_eq_false, nI_add, nI_or, nI_and, Bool.false_eq_true, ne01, ne10, nI_m1', Nat.or_zero]
      · have c3 : nI N ≤ nI (v % 8) := nI_le (by omega) (by omega)
        have f1 := fin (-nI 9) (by unfold lvC; rw [if_neg (fun z => qb z.2)]; rfl)
        simp only [mX6_splits_64, mX6_splits_124, mX6_splits_122, hM.1, c1, d1, d2, c2, c3, wr_in (show v < 64 by omega) (show 64 < 2 ^ 31 by decide), f1, cl_mk, nm_mk, pu_mk, lit, if_true, if_false, ne_eq, not_false_eq_true, not_true_eq_false, nI_add, nI_or, nI_and, Bool.false_eq_true, ne01, ne10, nI_m1', Nat.or_zero]
    · have c2 : nI N ≤ nI (v / 8) := nI_le (by omega) (by omega)
      have f1 := fin (-nI 9) (by unfold lvC; rw [if_neg (fun z => qa z.1)]; rfl)
      simp only [mX6_splits_64, mX6_splits_124, mX6_splits_122, hM.1, c1, d1, d2, c2, wr_in (show v < 64 by omega) (show 64 < 2 ^ 31 by decide), f1, cl_mk, nm_mk, pu_mk, lit, if_true, if_false, ne_eq, not_false_eq_true, not_true_eq_false, nI_add, nI_or, nI_and, Bool.false_eq_true, ne01, ne10, nI_m1', Nat.or_zero]
  · intro n
    have c1 : nI 64 ≤ nI 64 := by decide
    simp only [mX6_splits_64, c1, cl_mk, nm_mk, pu_mk, lit, if_true, if_false, ne_eq, not_false_eq_true, not_true_eq_false, nI_add, nI_or, nI_and, Bool.false_eq_true, ne01, ne10, nI_m1', Nat.or_zero]
end L0
