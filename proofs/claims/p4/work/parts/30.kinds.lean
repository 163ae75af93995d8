/-! sorts -/
def fl (a b c d e f : Bool) : Nat := bN a + 2 * bN b + 4 * bN c + 8 * bN d + 16 * bN e + 32 * bN f
theorem fl_lt (a b c d e f : Bool) : fl a b c d e f < 64 := by
  have := bN_lt a; have := bN_lt b; have := bN_lt c; have := bN_lt d; have := bN_lt e; have := bN_lt f
  unfold fl
  omega
theorem fx0 : ∀ a b c d e f, nI (fl a b c d e f) &&& (-nI 2) = nI (fl false b c d e f) := by decide +kernel
theorem fx1 : ∀ a b c d e f, nI (fl a b c d e f) &&& (-nI 3) = nI (fl a false c d e f) := by decide +kernel
theorem fx2 : ∀ a b c d e f, nI (fl a b c d e f) &&& (-nI 5) = nI (fl a b false d e f) := by decide +kernel
theorem fx3 : ∀ a b c d e f, nI (fl a b c d e f) &&& (-nI 9) = nI (fl a b c false e f) := by decide +kernel
theorem fx4 : ∀ a b c d e f, nI (fl a b c d e f) &&& (-nI 17) = nI (fl a b c d false f) := by decide +kernel
theorem fx5 : ∀ a b c d e f, nI (fl a b c d e f) &&& (-nI 33) = nI (fl a b c d e false) := by decide +kernel
theorem kfm0 : ∀ a b c d e f, fl a b c d e f &&& 62 = fl false b c d e f := by decide +kernel
theorem kfm1 : ∀ a b c d e f, fl a b c d e f &&& 61 = fl a false c d e f := by decide +kernel
theorem kfm2 : ∀ a b c d e f, fl a b c d e f &&& 59 = fl a b false d e f := by decide +kernel
theorem kfm3 : ∀ a b c d e f, fl a b c d e f &&& 55 = fl a b c false e f := by decide +kernel
theorem kfm4 : ∀ a b c d e f, fl a b c d e f &&& 47 = fl a b c d false f := by decide +kernel
theorem kfm5 : ∀ a b c d e f, fl a b c d e f &&& 31 = fl a b c d e false := by decide +kernel
theorem kfm : ∀ a b c d e f, fl a b c d e f &&& 63 = fl a b c d e f := by decide +kernel
def seeEach (N : Nat) (S : Nat → Nat) (m : Nat) : Bool := allT (fun j => !m.testBit j || decide (sdiff m (S j) = 0)) N
section KD
variable {w : AW} {N : Nat} {S A : Nat → Nat}
theorem X_each (h : NetX w N S A) (hN : NetOK N S A) {m : Nat} (hm : m < 2 ^ N) : mX0_allSeeEachOther (nI m) w = some (nI (bN (seeEach N S m)), w) := by
  have h8 := hN.2.1
  have h256 := two_le h8
  unfold mX0_allSeeEachOther
  have e := loopAll (fun n v => mX0_allSeeEachOther_2 (nI m) n v w) N (fun j => !m.testBit j || decide (sdiff m (S j) = 0)) (some (nI 1, w)) (some (nI 0, w)) (by omega) ?_ ?_ ?_
  · refine Eq.trans e ?_
    unfold seeEach
    cases allT (fun j => !m.testBit j || decide (sdiff m (S j) = 0)) N <;> rfl
  · intro n k hk ho
    have c1 : ¬ nI N ≤ nI k := nI_ge hk (by omega)
    cases e1 : m.testBit k
    · simp only [mX0_allSeeEachOther_2, mX0_allSeeEachOther_36, h.1, c1, bit_f w (show m < 2 ^ 32 by omega) (show k < 32 by omega) e1, cl_mk, nm_mk, pu_mk, lit, if_true, if_false, ne_eq, not_false_eq_true, not_true_eq_false, nI_add, nI_or, nI_and, Bool.false_eq_true, ne01, ne10, nI_m1', Nat.or_zero]
    · rw [e1] at ho
      simp only [Bool.not_true, Bool.false_or] at ho
      simp only [mX0_allSeeEachOther_2, mX0_allSeeEachOther_36, h.1, c1, bit_t w (show m < 2 ^ 32 by omega) (show k < 32 by omega) e1, sees_at h (show k < 8 by omega), within_B w hm (show N ≤ 32 by omega), ho, bN_t, cl_mk, nm_mk, pu_mk, lit, if_true, if_false, ne_eq, not_false_eq_true, not_true_eq_false, nI_add, nI_or, nI_and, Bool.false_eq_true, ne01, ne10, nI_m1', Nat.or_zero]
  · intro n k hk ho
    have c1 : ¬ nI N ≤ nI k := nI_ge hk (by omega)
    cases e1 : m.testBit k
    · rw [e1] at ho
      cases ho
    · rw [e1] at ho
      simp only [Bool.not_true, Bool.false_or] at ho
      simp only [mX0_allSeeEachOther_2, mX0_allSeeEachOther_36, h.1, c1, bit_t w (show m < 2 ^ 32 by omega) (show k < 32 by omega) e1, sees_at h (show k < 8 by omega), within_B w hm (show N ≤ 32 by omega), ho, bN_f, cl_mk, nm_mk, pu_mk, lit, if_true, if_false, ne_eq, not_false_eq_true, not_true_eq_false, nI_add, nI_or, nI_and, Bool.false_eq_true, ne01, ne10, nI_m1', Nat.or_zero]
  · intro n
    have c1 : nI N ≤ nI N := nI_le (Nat.le_refl N) (by omega)
    simp only [mX0_allSeeEachOther_2, h.1, c1, cl_mk, nm_mk, pu_mk, lit, if_true, if_false, ne_eq, not_false_eq_true, not_true_eq_false, nI_add, nI_or, nI_and, Bool.false_eq_true, ne01, ne10, nI_m1', Nat.or_zero]
def kq0 (S : Nat → Nat) (k : Nat) : Bool := (S k).testBit k
def kq1 (N : Nat) (S : Nat → Nat) (k : Nat) : Bool := decide (sdiff (S k) (stepI N S (2 ^ k)) = 0)
def kq2 (N : Nat) (S : Nat → Nat) (k : Nat) : Bool := decide (sdiff (stepF N S (S k)) (S k) = 0)
def kq3 (S : Nat → Nat) (k : Nat) : Bool := decide (S k ≠ 0)
def kq4 (N : Nat) (S : Nat → Nat) (k : Nat) : Bool := seeEach N S (S k)
def kq5 (S : Nat → Nat) (k : Nat) : Bool := decide (cntB (S k) 8 ≤ 1)
variable (k5 : Int32 → Int32 → AW → Option (Int32 × AW))
theorem X_k93 (hN : NetOK N S A) (a b c d e f : Bool) (k : Nat) : mX0_kinds_93 k5 (nI (fl a b c d e f)) (nI k) (nI (S k)) w = k5 (nI (fl a b c d e (f && kq5 S k))) (nI (k + 1)) w := by
  have h256 := two_le hN.2.1
  have hs := hN.2.2.1 k
  have := cntB8 (S k)
  unfold kq5
  by_cases q : cntB (S k) 8 ≤ 1
  · have q2 : nI (cntB (S k) 8) ≤ nI 1 := nI_le q (by decide)
    rw [decide_eq_true q, Bool.and_true]
    simp only [mX0_kinds_93, mX0_kinds_106, bc_eq w (show S k < 256 by omega), q2, cl_mk, nm_mk, pu_mk, lit, if_true, if_false, ne_eq, not_false_eq_true, not_true_eq_false, nI_add, nI_or, nI_and, Bool.false_eq_true, ne01, ne10, nI_m1', Nat.or_zero]
  · have q2 : ¬ nI (cntB (S k) 8) ≤ nI 1 := nI_ge (by omega) (by omega)
    rw [decide_eq_false q, Bool.and_false]
    simp only [mX0_kinds_93, mX0_kinds_106, bc_eq w (show S k < 256 by omega), q2, fx5, cl_mk, nm_mk, pu_mk, lit, if_true, if_false, ne_eq, not_false_eq_true, not_true_eq_false, nI_add, nI_or, nI_and, Bool.false_eq_true, ne01, ne10, nI_m1', Nat.or_zero]
theorem X_k80 (h : NetX w N S A) (hN : NetOK N S A) (a b c d e f : Bool) (k : Nat) : mX0_kinds_80 k5 (nI (fl a b c d e f)) (nI k) (nI (S k)) w = k5 (nI (fl a b c d (e && kq4 N S k) (f && kq5 S k))) (nI (k + 1)) w := by
  have e1 := X_each h hN (hN.2.2.1 k)
  unfold kq4
  cases q : seeEach N S (S k)
  · rw [q] at e1
    rw [Bool.and_false, ← X_k93 k5 hN]
    simp only [mX0_kinds_80, e1, bN_f, fx4, cl_mk, nm_mk, pu_mk, lit, if_true, if_false, ne_eq, not_false_eq_true, not_true_eq_false, nI_add, nI_or, nI_and, Bool.false_eq_true, ne01, ne10, nI_m1', Nat.or_zero]
  · rw [q] at e1
    rw [Bool.and_true, ← X_k93 k5 hN]
    simp only [mX0_kinds_80, e1, bN_t, cl_mk, nm_mk, pu_mk, lit, if_true, if_false, ne_eq, not_false_eq_true, not_true_eq_false, nI_add, nI_or, nI_and, Bool.false_eq_true, ne01, ne10, nI_m1', Nat.or_zero]
theorem X_k71 (h : NetX w N S A) (hN : NetOK N S A) (a b c d e f : Bool) (k : Nat) : mX0_kinds_71 k5 (nI (fl a b c d e f)) (nI k) (nI (S k)) w = k5 (nI (fl a b c (d && kq3 S k) (e && kq4 N S k) (f && kq5 S k))) (nI (k + 1)) w := by
  have h256 := two_le hN.2.1
  have hs := hN.2.2.1 k
  unfold kq3
  by_cases q : S k = 0
  · rw [decide_eq_false (fun z => z q), Bool.and_false, ← X_k80 k5 h hN]
    simp only [mX0_kinds_71, q, fx3, cl_mk, nm_mk, pu_mk, lit, if_true, if_false, ne_eq, not_false_eq_true, not_true_eq_false, nI_add, nI_or, nI_and, Bool.false_eq_true, ne01, ne10, nI_m1', Nat.or_zero]
  · have q2 : (nI (S k) = nI 0) = False := eq_false (fun z => q ((nI_eq (by omega) (by decide)).mp z))
    rw [decide_eq_true q, Bool.and_true, ← X_k80 k5 h hN]
    simp only [mX0_kinds_71, q2, cl_mk, nm_mk, pu_mk, lit, if_true, if_false, ne_eq, not_false_eq_true, not_true_eq_false, nI_add, nI_or, nI_and, Bool.false_eq_true, ne01, ne10, nI_m1', Nat.or_zero]
theorem X_k54 (h : NetX w N S A) (hN : NetOK N S A) (a b c d e f : Bool) (k : Nat) : mX0_kinds_54 k5 (nI (fl a b c d e f)) (nI k) (nI (S k)) w = k5 (nI (fl a b (c && kq2 N S k) (d && kq3 S k) (e && kq4 N S k) (f && kq5 S k))) (nI (k + 1)) w := by
  have h256 := two_le hN.2.1
  have h8 := hN.2.1
  have hs := hN.2.2.1 k
  have e1 := within_B (b := S k) w (stepF_lt (m := S k) hN.2.2.1) (show N ≤ 32 by omega)
  unfold kq2
  cases q : decide (sdiff (stepF N S (S k)) (S k) = 0)
  · rw [q] at e1
    rw [Bool.and_false, ← X_k71 k5 h hN]
    simp only [mX0_kinds_54, X_stepFrom h hN (show S k < 2 ^ 32 by omega), e1, bN_f, fx2, cl_mk, nm_mk, pu_mk, lit, if_true, if_false, ne_eq, not_false_eq_true, not_true_eq_false, nI_add, nI_or, nI_and, Bool.false_eq_true, ne01, ne10, nI_m1', Nat.or_zero]
  · rw [q] at e1
    rw [Bool.and_true, ← X_k71 k5 h hN]
    simp only [mX0_kinds_54, X_stepFrom h hN (show S k < 2 ^ 32 by omega), e1, bN_t, cl_mk, nm_mk, pu_mk, lit, if_true, if_false, ne_eq, not_false_eq_true, not_true_eq_false, nI_add, nI_or, nI_and, Bool.false_eq_true, ne01, ne10, nI_m1', Nat.or_zero]
theorem X_k35 (h : NetX w N S A) (hN : NetOK N S A) (a b c d e f : Bool) {k : Nat} (hk : k < N) : mX0_kinds_35 k5 (nI (fl a b c d e f)) (nI k) (nI (S k)) w = k5 (nI (fl a (b && kq1 N S k) (c && kq2 N S k) (d && kq3 S k) (e && kq4 N S k) (f && kq5 S k))) (nI (k + 1)) w := by
  have h256 := two_le hN.2.1
  have h8 := hN.2.1
  have hs := hN.2.2.1 k
  have hp := pow_lt_of hk
  have e1 := within_B (b := stepI N S (2 ^ k)) w hs (show N ≤ 32 by omega)
  unfold kq1
  cases q : decide (sdiff (S k) (stepI N S (2 ^ k)) = 0)
  · rw [q] at e1
    rw [Bool.and_false, ← X_k54 k5 h hN]
    simp only [mX0_kinds_35, one_shl (show k < 31 by omega), X_stepInto h hN (show 2 ^ k < 2 ^ 31 by omega), e1, bN_f, fx1, cl_mk, nm_mk, pu_mk, lit, if_true, if_false, ne_eq, not_false_eq_true, not_true_eq_false, nI_add, nI_or, nI_and, Bool.false_eq_true, ne01, ne10, nI_m1', Nat.or_zero]
  · rw [q] at e1
    rw [Bool.and_true, ← X_k54 k5 h hN]
    simp only [mX0_kinds_35, one_shl (show k < 31 by omega), X_stepInto h hN (show 2 ^ k < 2 ^ 31 by omega), e1, bN_t, cl_mk, nm_mk, pu_mk, lit, if_true, if_false, ne_eq, not_false_eq_true, not_true_eq_false, nI_add, nI_or, nI_and, Bool.false_eq_true, ne01, ne10, nI_m1', Nat.or_zero]
theorem X_kinds (h : NetX w N S A) (hN : NetOK N S A) : mX0_kinds w = some (nI (fl (allT (kq0 S) N) (allT (kq1 N S) N) (allT (kq2 N S) N) (allT (kq3 S) N) (allT (kq4 N S) N) (allT (kq5 S) N)), w) := by
  have h8 := hN.2.1
  have h256 := two_le h8
  unfold mX0_kinds
  have e := loopE (fun n (s : Int32 × Int32) => mX0_kinds_5 n s.1 s.2 w) N (fun k => (nI (fl (allT (kq0 S) k) (allT (kq1 N S) k) (allT (kq2 N S) k) (allT (kq3 S) k) (allT (kq4 N S) k) (allT (kq5 S) k)), nI k)) (some (nI (fl (allT (kq0 S) N) (allT (kq1 N S) N) (allT (kq2 N S) N) (allT (kq3 S) N) (allT (kq4 N S) N) (allT (kq5 S) N)), w)) ?_ ?_ FU 0 (Nat.zero_le _) (FU_gt (by omega))
  · exact e
  · intro n k hk
    have c1 : ¬ nI N ≤ nI k := nI_ge hk (by omega)
    have hs := hN.2.2.1 k
    cases q : (S k).testBit k
    · have q0 : kq0 S k = false := q
      simp only [mX0_kinds_5, h.1, c1, sees_at h (show k < 8 by omega), bit_f w (show S k < 2 ^ 32 by omega) (show k < 32 by omega) q, fx0, X_k35 _ h hN _ _ _ _ _ _ hk, allT, q0, Bool.and_false, cl_mk, nm_mk, pu_mk, lit, if_true, if_false, ne_eq, not_false_eq_true, not_true_eq_false, nI_add, nI_or, nI_and, Bool.false_eq_true, ne01, ne10, nI_m1', Nat.or_zero]
    · have q0 : kq0 S k = true := q
      simp only [mX0_kinds_5, h.1, c1, sees_at h (show k < 8 by omega), bit_t w (show S k < 2 ^ 32 by omega) (show k < 32 by omega) q, X_k35 _ h hN _ _ _ _ _ _ hk, allT, q0, Bool.and_true, cl_mk, nm_mk, pu_mk, lit, if_true, if_false, ne_eq, not_false_eq_true, not_true_eq_false, nI_add, nI_or, nI_and, Bool.false_eq_true, ne01, ne10, nI_m1', Nat.or_zero]
  · intro n
    have c1 : nI N ≤ nI N := nI_le (Nat.le_refl N) (by omega)
    simp only [mX0_kinds_5, h.1, c1, cl_mk, nm_mk, pu_mk, lit, if_true, if_false, ne_eq, not_false_eq_true, not_true_eq_false, nI_add, nI_or, nI_and, Bool.false_eq_true, ne01, ne10, nI_m1', Nat.or_zero]
end KD
