/-! sorts: both alike -/
section SE
variable {w : AW} {N : Nat} {S A : Nat → Nat}
theorem M_s82 (h : NetM w N S A) (hN : NetOK N S A) (a b c d e f : Bool) {k : Nat} (hk : k < N) (k10 : Int32 → Int32 → AW → Option (Int32 × AW)) (g : Bool) : mX6_sorts_82 k10 (nI k) (nI (if g = true then 63 else 31)) (nI (fl a b c d e f)) w = k10 (nI (fl a (b && allT (r1 S k) N) (c && allT (r2 S k) N) d (e && allT (r4 S k) N) (f && g))) (nI (k + 1)) w := by
  cases g
  · rw [Bool.and_false, ← M_s86 h hN a b c d e false hk k10]
    simp only [mX6_sorts_82, kfm5, cl_mk, nm_mk, pu_mk, lit, if_true, if_false, ne_eq, not_false_eq_true, not_true_eq_false, nI_add, nI_or, nI_and, Bool.false_eq_true, ne01, ne10, nI_m1', Nat.or_zero]
  · rw [Bool.and_true, ← M_s86 h hN a b c d e f hk k10]
    simp only [mX6_sorts_82, kfm, cl_mk, nm_mk, pu_mk, lit, if_true, if_false, ne_eq, not_false_eq_true, not_true_eq_false, nI_add, nI_or, nI_and, Bool.false_eq_true, ne01, ne10, nI_m1', Nat.or_zero]
theorem M_s59 (h : NetM w N S A) (hN : NetOK N S A) (a b c d e f : Bool) {k : Nat} (hk : k < N) (k10 : Int32 → Int32 → AW → Option (Int32 × AW)) (g : Bool) : mX6_sorts_59 k10 (nI k) (nI (if g = true then 63 else 55)) (nI (fl a b c d e f)) w = k10 (nI (fl a (b && allT (r1 S k) N) (c && allT (r2 S k) N) (d && g) (e && allT (r4 S k) N) (f && kq5 S k))) (nI (k + 1)) w := by
  have h8 := hN.2.1
  have h256 := two_le h8
  have hs := hN.2.2.1 k
  have hc := cntB8 (S k)
  have t1 : (decide (cntB (S k) 8 ≤ 1)) = kq5 S k := rfl
  by_cases q : cntB (S k) 8 ≤ 1
  · have q2 : ¬ nI 2 ≤ nI (cntB (S k) 8) := nI_ge (by omega) (by decide)
    have q5 : kq5 S k = true := by rw [← t1, decide_eq_true q]
    rw [q5]
    cases g
    · rw [Bool.and_false, ← M_s82 h hN a b c false e f hk k10 true]
      simp only [mX6_sorts_59, kfm3, M_row h (show k < 8 by omega), M_ones w (show S k < 256 by omega), q2, cl_mk, nm_mk, pu_mk, lit, if_true, if_false, ne_eq, not_false_eq_true, not_true_eq_false, nI_add, nI_or, nI_and, Bool.false_eq_true, ne01, ne10, nI_m1', Nat.or_zero]
    · rw [Bool.and_true d, ← M_s82 h hN a b c d e f hk k10 true]
      simp only [mX6_sorts_59, kfm, M_row h (show k < 8 by omega), M_ones w (show S k < 256 by omega), q2, cl_mk, nm_mk, pu_mk, lit, if_true, if_false, ne_eq, not_false_eq_true, not_true_eq_false, nI_add, nI_or, nI_and, Bool.false_eq_true, ne01, ne10, nI_m1', Nat.or_zero]
  · have q2 : nI 2 ≤ nI (cntB (S k) 8) := nI_le (by omega) (by omega)
    have q5 : kq5 S k = false := by rw [← t1, decide_eq_false q]
    rw [q5]
    cases g
    · rw [Bool.and_false d, ← M_s82 h hN a b c false e f hk k10 false]
      simp only [mX6_sorts_59, kfm3, M_row h (show k < 8 by omega), M_ones w (show S k < 256 by omega), q2, cl_mk, nm_mk, pu_mk, lit, if_true, if_false, ne_eq, not_false_eq_true, not_true_eq_false, nI_add, nI_or, nI_and, Bool.false_eq_true, ne01, ne10, nI_m1', Nat.or_zero]
    · rw [Bool.and_true, ← M_s82 h hN a b c d e f hk k10 false]
      simp only [mX6_sorts_59, kfm, M_row h (show k < 8 by omega), M_ones w (show S k < 256 by omega), q2, cl_mk, nm_mk, pu_mk, lit, if_true, if_false, ne_eq, not_false_eq_true, not_true_eq_false, nI_add, nI_or, nI_and, Bool.false_eq_true, ne01, ne10, nI_m1', Nat.or_zero]
theorem M_s40 (h : NetM w N S A) (hN : NetOK N S A) (a b c d e f : Bool) {k : Nat} (hk : k < N) (k10 : Int32 → Int32 → AW → Option (Int32 × AW)) (g : Bool) : mX6_sorts_40 k10 (nI k) (nI (if g = true then 63 else 62)) (nI (fl a b c d e f)) w = k10 (nI (fl (a && g) (b && allT (r1 S k) N) (c && allT (r2 S k) N) (d && kq3 S k) (e && allT (r4 S k) N) (f && kq5 S k))) (nI (k + 1)) w := by
  have h8 := hN.2.1
  have h256 := two_le h8
  have hs := hN.2.2.1 k
  by_cases q : S k = 0
  · have q3 : kq3 S k = false := decide_eq_false (fun z => z q)
    have q2 : (nI (S k) = nI 0) = True := eq_true (by rw [q])
    rw [q3]
    cases g
    · rw [Bool.and_false a, ← M_s59 h hN false b c d e f hk k10 false]
      simp only [mX6_sorts_40, kfm0, M_row h (show k < 8 by omega), q2, cl_mk, nm_mk, pu_mk, lit, if_true, if_false, ne_eq, not_false_eq_true, not_true_eq_false, nI_add, nI_or, nI_and, Bool.false_eq_true, ne01, ne10, nI_m1', Nat.or_zero]
    · rw [Bool.and_true, ← M_s59 h hN a b c d e f hk k10 false]
      simp only [mX6_sorts_40, kfm, M_row h (show k < 8 by omega), q2, cl_mk, nm_mk, pu_mk, lit, if_true, if_false, ne_eq, not_false_eq_true, not_true_eq_false, nI_add, nI_or, nI_and, Bool.false_eq_true, ne01, ne10, nI_m1', Nat.or_zero]
  · have q3 : kq3 S k = true := decide_eq_true q
    have q2 : (nI (S k) = nI 0) = False := eq_false (fun z => q ((nI_eq (by omega) (by decide)).mp z))
    rw [q3]
    cases g
    · rw [Bool.and_false, ← M_s59 h hN false b c d e f hk k10 true]
      simp only [mX6_sorts_40, kfm0, M_row h (show k < 8 by omega), q2, cl_mk, nm_mk, pu_mk, lit, if_true, if_false, ne_eq, not_false_eq_true, not_true_eq_false, nI_add, nI_or, nI_and, Bool.false_eq_true, ne01, ne10, nI_m1', Nat.or_zero]
    · rw [Bool.and_true a, ← M_s59 h hN a b c d e f hk k10 true]
      simp only [mX6_sorts_40, kfm, M_row h (show k < 8 by omega), q2, cl_mk, nm_mk, pu_mk, lit, if_true, if_false, ne_eq, not_false_eq_true, not_true_eq_false, nI_add, nI_or, nI_and, Bool.false_eq_true, ne01, ne10, nI_m1', Nat.or_zero]
theorem M_sorts10 (h : NetM w N S A) (hN : NetOK N S A) : mX6_sorts_10 FU (nI 63) (nI 0) w = some (nI (fl (allT (kq0 S) N) (allT (fun k => allT (r1 S k) N) N) (allT (fun k => allT (r2 S k) N) N) (allT (kq3 S) N) (allT (fun k => allT (r4 S k) N) N) (allT (kq5 S) N)), w) := by
  have h8 := hN.2.1
  have h256 := two_le h8
  have e := loopE (fun n (s : Int32 × Int32) => mX6_sorts_10 n s.1 s.2 w) N (fun k => (nI (fl (allT (kq0 S) k) (allT (fun k => allT (r1 S k) N) k) (allT (fun k => allT (r2 S k) N) k) (allT (kq3 S) k) (allT (fun k => allT (r4 S k) N) k) (allT (kq5 S) k)), nI k)) (some (nI (fl (allT (kq0 S) N) (allT (fun k => allT (r1 S k) N) N) (allT (fun k => allT (r2 S k) N) N) (allT (kq3 S) N) (allT (fun k => allT (r4 S k) N) N) (allT (kq5 S) N)), w)) ?_ ?_ FU 0 (Nat.zero_le _) (FU_gt (by omega))
  · exact e
  · intro n k hk
    have c1 : ¬ nI N ≤ nI k := nI_ge hk (by omega)
    have hs := hN.2.2.1 k
    cases q : (S k).testBit k
    · have q0 : kq0 S k = false := q
      have := M_s40 h hN (allT (kq0 S) k) (allT (fun k => allT (r1 S k) N) k) (allT (fun k => allT (r2 S k) N) k) (allT (kq3 S) k) (allT (fun k => allT (r4 S k) N) k) (allT (kq5 S) k) hk (mX6_sorts_10 n) false
      simp only [Bool.false_eq_true, if_false] at this
      simp only [mX6_sorts_10, h.1, c1, M_row h (show k < 8 by omega), shr_f (show k < 32 by omega) (show S k < 2 ^ 31 by omega) q, this, allT, q0, cl_mk, nm_mk, pu_mk, lit, if_true, if_false, ne_eq, not_false_eq_true, not_true_eq_false, nI_add, nI_or, nI_and, Bool.false_eq_true, ne01, ne10, nI_m1', Nat.or_zero]
    · have q0 : kq0 S k = true := q
      have := M_s40 h hN (allT (kq0 S) k) (allT (fun k => allT (r1 S k) N) k) (allT (fun k => allT (r2 S k) N) k) (allT (kq3 S) k) (allT (fun k => allT (r4 S k) N) k) (allT (kq5 S) k) hk (mX6_sorts_10 n) true
      simp only [if_true] at this
      simp only [mX6_sorts_10, h.1, c1, M_row h (show k < 8 by omega), shr_t (show k < 32 by omega) (show S k < 2 ^ 31 by omega) q, this, allT, q0, cl_mk, nm_mk, pu_mk, lit, if_true, if_false, ne_eq, not_false_eq_true, not_true_eq_false, nI_add, nI_or, nI_and, Bool.false_eq_true, ne01, ne10, nI_m1', Nat.or_zero]
  · intro n
    have c1 : nI N ≤ nI N := nI_le (Nat.le_refl N) (by omega)
    simp only [mX6_sorts_10, h.1, c1, cl_mk, nm_mk, pu_mk, lit, if_true, if_false, ne_eq, not_false_eq_true, not_true_eq_false, nI_add, nI_or, nI_and, Bool.false_eq_true, ne01, ne10, nI_m1', Nat.or_zero]
theorem allT_congr {p q : Nat → Bool} {n : Nat} (h : ∀ k, k < n → p k = q k) : allT p n = allT q n := by
  induction n with
  | zero => rfl
  | succ n ih => simp only [allT, ih (fun k hk => h k (by omega)), h n (by omega)]
theorem kq1_eq (hN : NetOK N S A) {k : Nat} (hk : k < N) : allT (r1 S k) N = kq1 N S k := by
  have h8 := hN.2.1
  rw [Bool.eq_iff_iff]
  unfold kq1
  rw [decide_eq_true_eq, sub_iff (hN.2.2.1 k) (by omega), allT_iff]
  constructor
  · intro h j hj
    have hjN : j < N := by
      rcases Nat.lt_or_ge j N with q | q
      · exact q
      · rw [bits_of_lt (hN.2.2.1 k) q] at hj; cases hj
    have := h j hjN
    unfold r1 at this
    rw [hj] at this
    exact tb_stepI.mpr ⟨hjN, k, this, by rw [tb_pow, decide_eq_true_eq]⟩
  · intro h j hj
    unfold r1
    cases q : (S k).testBit j
    · rfl
    · obtain ⟨_, x, h1, h2⟩ := tb_stepI.mp (h j q)
      rw [tb_pow, decide_eq_true_eq] at h2
      subst h2
      rw [h1]
      rfl
theorem kq2_eq (hN : NetOK N S A) {k : Nat} : allT (r2 S k) N = kq2 N S k := by
  have h8 := hN.2.1
  rw [Bool.eq_iff_iff]
  unfold kq2
  rw [decide_eq_true_eq, sub_iff (stepF_lt hN.2.2.1) (by omega), allT_iff]
  constructor
  · intro h j hj
    obtain ⟨x, h1, h2, h3⟩ := tb_stepF.mp hj
    have := h x h1
    unfold r2 at this
    rw [h2] at this
    simp only [Bool.not_true, Bool.false_or, decide_eq_true_eq] at this
    exact (sub_iff (hN.2.2.1 x) (by omega)).mp this j h3
  · intro h j hj
    unfold r2
    cases q : (S k).testBit j
    · rfl
    · simp only [Bool.not_true, Bool.false_or, decide_eq_true_eq]
      rw [sub_iff (hN.2.2.1 j) (by omega)]
      intro x hx
      exact h x (tb_stepF.mpr ⟨j, hj, q, hx⟩)
end SE
theorem pub_sorts : Pub_sorts Rel := by
  rintro wX wM ⟨N, S, A, T, y, D, h⟩
  have hR := h
  obtain ⟨hN, hX, hM, hT, h2, hS, h12⟩ := h
  have hM0 : NetM (am_set wM 0 0 0 (nI 0)) N S A := hM.k (KM0 wM)
  have e1 := X_kinds hX hN
  have e2 := M_sorts10 hM0 hN
  rw [allT_congr (fun k hk => kq1_eq hN hk), allT_congr (fun k _ => kq2_eq (k := k) hN), show allT (fun k => allT (r4 S k) N) N = allT (kq4 N S) N from rfl] at e2
  refine pub_same hR (nI (fl (allT (kq0 S) N) (allT (kq1 N S) N) (allT (kq2 N S) N) (allT (kq3 S) N) (allT (kq4 N S) N) (allT (kq5 S) N))) ?_ ?_ (KX.rf _) (KM0 wM)
  · simp only [mX5_sorts, e1, cl_mk, nm_mk, pu_mk, lit, if_true, if_false, ne_eq, not_false_eq_true, not_true_eq_false, nI_add, nI_or, nI_and, Bool.false_eq_true, ne01, ne10, nI_m1', Nat.or_zero]
  · simp only [mX6_sorts, cl_mk, nm_mk, pu_mk, lit, if_true, if_false, ne_eq, not_false_eq_true, not_true_eq_false, nI_add, nI_or, nI_and, Bool.false_eq_true, ne01, ne10, nI_m1', Nat.or_zero]
    exact e2
