/-! count and sorts -/
theorem m63 : (-nI 33 : Int32) = nI 4294967263 := rfl
noncomputable def bcX (x : Int32) : Int32 := ((mJ6_bitCount_0f7a4 x (fun _ _ _ => 0, 0)).map (fun r => r.1)).getD 0
theorem bc_run (x : Int32) (w : AW) : mJ6_bitCount_0f7a4 x w = some (bcX x, w) := rfl
theorem bc_256 : ∀ a, a < 256 → bcX (nI a) = nI (cntB a 8) := by decide +kernel
theorem bc_eq {a : Nat} (w : AW) (h : a < 256) : mJ6_bitCount_0f7a4 (nI a) w = some (nI (cntB a 8), w) := by rw [bc_run, bc_256 a h]
def sumF (f : Nat → Nat) : Nat → Nat
  | 0 => 0
  | n + 1 => sumF f n + f n
theorem M_ones {a : Nat} (w : AW) (h : a < 256) : mX6_ones (nI a) w = some (nI (cntB a 8), w) := by
  unfold mX6_ones
  have e := loopE (fun n (s : Int32 × Int32) => mX6_ones_4 (nI a) n s.1 s.2 w) 8 (fun k => (nI (cntB a k), nI k)) (some (nI (cntB a 8), w)) ?_ ?_ FU 0 (Nat.zero_le _) (FU_gt (by omega))
  · exact e
  · intro n k hk
    have c1 : ¬ nI 8 ≤ nI k := nI_ge hk (by decide)
    have e1 := shr_bit (a := a) (show k < 32 by omega) (by omega)
    simp only [mX6_ones_4, c1, cntB, e1, cl_mk, nm_mk, pu_mk, lit, if_true, if_false, ne_eq, not_false_eq_true, not_true_eq_false, nI_add, nI_or, nI_and, Bool.false_eq_true, ne01, ne10, nI_m1', Nat.or_zero]
  · intro n
    have c1 : nI 8 ≤ nI 8 := by decide
    simp only [mX6_ones_4, c1, cl_mk, nm_mk, pu_mk, lit, if_true, if_false, ne_eq, not_false_eq_true, not_true_eq_false, nI_add, nI_or, nI_and, Bool.false_eq_true, ne01, ne10, nI_m1', Nat.or_zero]
theorem cntB8 (a : Nat) : cntB a 8 ≤ 8 := cntB_le a 8
section CT
variable {w : AW} {N : Nat} {S A : Nat → Nat}
theorem X_pairs (h : NetX w N S A) (hN : NetOK N S A) : mX0_pairs w = some (nI (sumF (fun k => cntB (S k) 8) N), w) := by
  have h8 := hN.2.1
  have h256 := two_le h8
  unfold mX0_pairs
  have e := loopE (fun n (s : Int32 × Int32) => mX0_pairs_4 n s.1 s.2 w) N (fun k => (nI (sumF (fun k => cntB (S k) 8) k), nI k)) (some (nI (sumF (fun k => cntB (S k) 8) N), w)) ?_ ?_ FU 0 (Nat.zero_le _) (FU_gt (by omega))
  · exact e
  · intro n k hk
    have c1 : ¬ nI N ≤ nI k := nI_ge hk (by omega)
    have := hN.2.2.1 k
    simp only [mX0_pairs_4, h.1, c1, sees_at h (show k < 8 by omega), bc_eq w (show S k < 256 by omega), sumF, cl_mk, nm_mk, pu_mk, lit, if_true, if_false, ne_eq, not_false_eq_true, not_true_eq_false, nI_add, nI_or, nI_and, Bool.false_eq_true, ne01, ne10, nI_m1', Nat.or_zero]
  · intro n
    have c1 : nI N ≤ nI N := nI_le (Nat.le_refl N) (by omega)
    simp only [mX0_pairs_4, h.1, c1, cl_mk, nm_mk, pu_mk, lit, if_true, if_false, ne_eq, not_false_eq_true, not_true_eq_false, nI_add, nI_or, nI_and, Bool.false_eq_true, ne01, ne10, nI_m1', Nat.or_zero]
theorem M_count9 (h : NetM w N S A) (hN : NetOK N S A) (v : Int32) (X : Option (Int32 × AW)) (hX : ∀ n, mX6_count_9 v (n + 1) (nI (sumF (fun k => cntB (S k) 8) N)) (nI N) w = X) : mX6_count_9 v FU (nI 0) (nI 0) w = X := by
  have h8 := hN.2.1
  have h256 := two_le h8
  have e := loopE (fun n (s : Int32 × Int32) => mX6_count_9 v n s.1 s.2 w) N (fun k => (nI (sumF (fun k => cntB (S k) 8) k), nI k)) X ?_ hX FU 0 (Nat.zero_le _) (FU_gt (by omega))
  · exact e
  · intro n k hk
    have c1 : ¬ nI N ≤ nI k := nI_ge hk (by omega)
    have := hN.2.2.1 k
    simp only [mX6_count_9, h.1, c1, M_row h (show k < 8 by omega), M_ones w (show S k < 256 by omega), sumF, cl_mk, nm_mk, pu_mk, lit, if_true, if_false, ne_eq, not_false_eq_true, not_true_eq_false, nI_add, nI_or, nI_and, Bool.false_eq_true, ne01, ne10, nI_m1', Nat.or_zero]
end CT
theorem pub_count : Pub_count Rel := by
  rintro wX wM ⟨N, S, A, T, y, D, h⟩ v
  have hR := h
  obtain ⟨hN, hX, hM, hT, h2, hS, h12⟩ := h
  have hM0 : NetM (am_set wM 0 0 0 (nI 0)) N S A := hM.k (KM0 wM)
  have h8 := hN.2.1
  have eT : (am_set wM 0 0 0 (nI 0)).1 0 0 6 = nI T := by rw [am_get_other (by decide)]; exact hT.2.2.1
  have c1 : nI N ≤ nI N := nI_le (Nat.le_refl N) (by omega)
  have z : ∀ i j : Nat, i < 8 → j < 8 → i ≠ j → (nI i = nI j) = False := fun i j hi hj hne => eq_false (fun e => hne ((nI_eq (by omega) (by omega)).mp e))
  have hat : mX0_atoms wX = some ((), wX) := rfl
  have run : ∀ (r : Int32), mX5_count v wX = some (r, wX) → (∀ n, mX6_count_9 v (n + 1) (nI (sumF (fun k => cntB (S k) 8) N)) (nI N) (am_set wM 0 0 0 (nI 0)) = some (r, am_set wM 0 0 0 (nI 0))) → ∃ (r : Int32) (wX2 wM2 : AW), mX5_count v wX = some (r, wX2) ∧ mX6_count v wM = some (r, wM2) ∧ Rel wX2 wM2 := fun r e1 e2 => pub_same hR r e1 (by
    simp only [mX6_count, cl_mk, nm_mk, pu_mk, lit, if_true, if_false, ne_eq, not_false_eq_true, not_true_eq_false, nI_add, nI_or, nI_and, Bool.false_eq_true, ne01, ne10, nI_m1', Nat.or_zero]
    exact M_count9 hM0 hN v _ e2) (KX.rf _) (KM0 wM)
  by_cases d0 : v = nI 0
  · subst d0
    refine run (nI N) ?_ (fun n => ?_)
    · simp only [mX5_count, X_size hX, cl_mk, nm_mk, pu_mk, lit, if_true, if_false, ne_eq, not_false_eq_true, not_true_eq_false, nI_add, nI_or, nI_and, Bool.false_eq_true, ne01, ne10, nI_m1', Nat.or_zero]
    · simp only [mX6_count_9, hM0.1, c1, cl_mk, nm_mk, pu_mk, lit, if_true, if_false, ne_eq, not_false_eq_true, not_true_eq_false, nI_add, nI_or, nI_and, Bool.false_eq_true, ne01, ne10, nI_m1', Nat.or_zero]
  by_cases d1 : v = nI 1
  · subst d1
    refine run (nI (sumF (fun k => cntB (S k) 8) N)) ?_ (fun n => ?_)
    · simp only [mX5_count, X_pairs hX hN, cl_mk, nm_mk, pu_mk, lit, if_true, if_false, ne_eq, not_false_eq_true, not_true_eq_false, nI_add, nI_or, nI_and, Bool.false_eq_true, ne01, ne10, nI_m1', Nat.or_zero]
    · simp only [mX6_count_9, hM0.1, c1, cl_mk, nm_mk, pu_mk, lit, if_true, if_false, ne_eq, not_false_eq_true, not_true_eq_false, nI_add, nI_or, nI_and, Bool.false_eq_true, ne01, ne10, nI_m1', Nat.or_zero]
  by_cases d2 : v = nI 2
  · subst d2
    refine run (nI T) ?_ (fun n => ?_)
    · simp only [mX5_count, hT.2.1, z 2 0 (by decide) (by decide) (by decide), z 2 1 (by decide) (by decide) (by decide), cl_mk, nm_mk, pu_mk, lit, if_true, if_false, ne_eq, not_false_eq_true, not_true_eq_false, nI_add, nI_or, nI_and, Bool.false_eq_true, ne01, ne10, nI_m1', Nat.or_zero]
    · simp only [mX6_count_9, hM0.1, c1, eT, z 2 0 (by decide) (by decide) (by decide), z 2 1 (by decide) (by decide) (by decide), cl_mk, nm_mk, pu_mk, lit, if_true, if_false, ne_eq, not_false_eq_true, not_true_eq_false, nI_add, nI_or, nI_and, Bool.false_eq_true, ne01, ne10, nI_m1', Nat.or_zero]
  by_cases d3 : ∃ i, i < 4 ∧ v = nI (i + 3)
  · obtain ⟨i, hi, rfl⟩ := d3
    have s3 : nI (i + 3) - nI 3 = nI i := by rw [pk_sub (by omega), Nat.add_sub_cancel]
    have e3 := M_inL (lo := 3) (hi := 6) (am_set wM 0 0 0 (nI 0)) (show 3 ≤ i + 3 by omega) (show i + 3 ≤ 6 by omega) (by decide)
    refine run (nI (A i)) ?_ (fun n => ?_)
    · match i, hi with
      | 0, _ => simp only [mX5_count, d0, d1, d2, hat, Nat.zero_add, show nI 3 - nI 3 = nI 0 from rfl, atoms_at hX (show 0 < 4 by decide), cl_mk, nm_mk, pu_mk, lit, if_true, if_false, ne_eq, not_false_eq_true, not_true_eq_false, nI_add, nI_or, nI_and, Bool.false_eq_true, ne01, ne10, nI_m1', Nat.or_zero] at *
      | 1, _ => simp only [mX5_count, d0, d1, d2, hat, z 4 3 (by decide) (by decide) (by decide), show nI 4 - nI 3 = nI 1 from rfl, atoms_at hX (show 1 < 4 by decide), cl_mk, nm_mk, pu_mk, lit, if_true, if_false, ne_eq, not_false_eq_true, not_true_eq_false, nI_add, nI_or, nI_and, Bool.false_eq_true, ne01, ne10, nI_m1', Nat.or_zero] at *
      | 2, _ => simp only [mX5_count, d0, d1, d2, hat, z 5 3 (by decide) (by decide) (by decide), z 5 4 (by decide) (by decide) (by decide), show nI 5 - nI 3 = nI 2 from rfl, atoms_at hX (show 2 < 4 by decide), cl_mk, nm_mk, pu_mk, lit, if_true, if_false, ne_eq, not_false_eq_true, not_true_eq_false, nI_add, nI_or, nI_and, Bool.false_eq_true, ne01, ne10, nI_m1', Nat.or_zero] at *
      | 3, _ => simp only [mX5_count, d0, d1, d2, hat, z 6 3 (by decide) (by decide) (by decide), z 6 4 (by decide) (by decide) (by decide), z 6 5 (by decide) (by decide) (by decide), show nI 6 - nI 3 = nI 3 from rfl, atoms_at hX (show 3 < 4 by decide), cl_mk, nm_mk, pu_mk, lit, if_true, if_false, ne_eq, not_false_eq_true, not_true_eq_false, nI_add, nI_or, nI_and, Bool.false_eq_true, ne01, ne10, nI_m1', Nat.or_zero] at *
    · simp only [mX6_count_9, hM0.1, c1, d0, d1, d2, e3, s3, M_atom hM0 hi, cl_mk, nm_mk, pu_mk, lit, if_true, if_false, ne_eq, not_false_eq_true, not_true_eq_false, nI_add, nI_or, nI_and, Bool.false_eq_true, ne01, ne10, nI_m1', Nat.or_zero]
  · have q3 : (v = nI 3) = False := eq_false (fun e => d3 ⟨0, by decide, e⟩)
    have q4 : (v = nI 4) = False := eq_false (fun e => d3 ⟨1, by decide, e⟩)
    have q5 : (v = nI 5) = False := eq_false (fun e => d3 ⟨2, by decide, e⟩)
    have q6 : (v = nI 6) = False := eq_false (fun e => d3 ⟨3, by decide, e⟩)
    have eo : mX6_in v (nI 3) (nI 6) (am_set wM 0 0 0 (nI 0)) = some (nI 0, am_set wM 0 0 0 (nI 0)) := by
      rcases pk_ix v (n := 7) (by decide) with q | q | ⟨k, hk, rfl⟩
      · exact M_inO _ (Or.inl (Int32.lt_trans q (by decide)))
      · by_cases q2 : v < nI 3
        · exact M_inO _ (Or.inl q2)
        · have q0 : ¬ v < 0 := fun r => q2 (Int32.lt_trans r (by decide))
          obtain ⟨k, hk, rfl⟩ := nI_of q0
          have := (nI_leI (by decide) hk).mp q
          exact M_inO _ (Or.inr (nI_lt (by omega) hk))
      · exfalso
        have n0 : k ≠ 0 := fun e => d0 (by rw [e])
        have n1 : k ≠ 1 := fun e => d1 (by rw [e])
        have n2 : k ≠ 2 := fun e => d2 (by rw [e])
        exact d3 ⟨k - 3, by omega, by rw [show k - 3 + 3 = k by omega]⟩
    refine run (-nI 1) ?_ (fun n => ?_)
    · simp only [mX5_count, d0, d1, d2, q3, q4, q5, q6, cl_mk, nm_mk, pu_mk, lit, if_true, if_false, ne_eq, not_false_eq_true, not_true_eq_false, nI_add, nI_or, nI_and, Bool.false_eq_true, ne01, ne10, nI_m1', Nat.or_zero]
    · simp only [mX6_count_9, hM0.1, c1, d0, d1, d2, eo, cl_mk, nm_mk, pu_mk, lit, if_true, if_false, ne_eq, not_false_eq_true, not_true_eq_false, nI_add, nI_or, nI_and, Bool.false_eq_true, ne01, ne10, nI_m1', Nat.or_zero]
