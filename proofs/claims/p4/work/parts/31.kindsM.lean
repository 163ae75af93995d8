/-! the model's sorts -/
section KM2
variable {w : AW} {N : Nat} {S A : Nat → Nat}
def r1 (S : Nat → Nat) (k j : Nat) : Bool := !(S k).testBit j || (S j).testBit k
def r2 (S : Nat → Nat) (k j : Nat) : Bool := !(S k).testBit j || decide (sdiff (S j) (S k) = 0)
def r4 (S : Nat → Nat) (k j : Nat) : Bool := !(S k).testBit j || decide (sdiff (S k) (S j) = 0)
theorem M_s86 (h : NetM w N S A) (hN : NetOK N S A) (a b c d e f : Bool) {k : Nat} (hk : k < N) (k10 : Int32 → Int32 → AW → Option (Int32 × AW)) : mX6_sorts_86 k10 (nI k) FU (nI (fl a b c d e f)) (nI 0) w = k10 (nI (fl a (b && allT (r1 S k) N) (c && allT (r2 S k) N) d (e && allT (r4 S k) N) f)) (nI (k + 1)) w := by
  have h8 := hN.2.1
  have h256 := two_le h8
  have hs := hN.2.2.1 k
  have e0 := loopE (fun n (s : Int32 × Int32) => mX6_sorts_86 k10 (nI k) n s.1 s.2 w) N (fun j => (nI (fl a (b && allT (r1 S k) j) (c && allT (r2 S k) j) d (e && allT (r4 S k) j) f), nI j)) (k10 (nI (fl a (b && allT (r1 S k) N) (c && allT (r2 S k) N) d (e && allT (r4 S k) N) f)) (nI (k + 1)) w) ?_ ?_ FU 0 (Nat.zero_le _) (FU_gt (by omega))
  · simpa only [allT, Bool.and_true] using e0
  · intro n j hj
    have c1 : ¬ nI N ≤ nI j := nI_ge hj (by omega)
    have hsj := hN.2.2.1 j
    cases q : (S k).testBit j
    · have q1 : r1 S k j = true := by unfold r1; rw [q]; rfl
      have q2 : r2 S k j = true := by unfold r2; rw [q]; rfl
      have q4 : r4 S k j = true := by unfold r4; rw [q]; rfl
      simp only [mX6_sorts_86, mX6_sorts_188, h.1, c1, M_row h (show k < 8 by omega), shr_f (show j < 32 by omega) (show S k < 2 ^ 31 by omega) q, allT, q1, q2, q4, Bool.and_true, cl_mk, nm_mk, pu_mk, lit, if_true, if_false, ne_eq, not_false_eq_true, not_true_eq_false, nI_add, nI_or, nI_and, Bool.false_eq_true, ne01, ne10, nI_m1', Nat.or_zero]
    · have z2 : ∀ a b : Nat, a < 2 ^ N → ((nI (a &&& (b ^^^ 4294967295)) = nI 0) ↔ sdiff a b = 0) := fun a b ha => nI_eq (Nat.lt_of_le_of_lt Nat.and_le_left (by omega)) (by decide)
      have t2 := z2 (S j) (S k) hsj
      have t4 := z2 (S k) (S j) hs
      have g1 : r1 S k j = (S j).testBit k := by unfold r1; rw [q]; rfl
      have g2 : r2 S k j = decide (sdiff (S j) (S k) = 0) := by unfold r2; rw [q]; rfl
      have g4 : r4 S k j = decide (sdiff (S k) (S j) = 0) := by unfold r4; rw [q]; rfl
      generalize hb : (b && allT (r1 S k) j) = b1
      generalize hc : (c && allT (r2 S k) j) = c2
      generalize he : (e && allT (r4 S k) j) = e4
      have hb' : (b && allT (r1 S k) (j + 1)) = (b1 && (S j).testBit k) := by rw [← hb, Bool.and_assoc, ← g1]; rfl
      have hc' : (c && allT (r2 S k) (j + 1)) = (c2 && decide (sdiff (S j) (S k) = 0)) := by rw [← hc, Bool.and_assoc, ← g2]; rfl
      have he' : (e && allT (r4 S k) (j + 1)) = (e4 && decide (sdiff (S k) (S j) = 0)) := by rw [← he, Bool.and_assoc, ← g4]; rfl
      rw [hb', hc', he']
      have st : ∀ (b0 : Bool), mX6_sorts_158 k10 (mX6_sorts_86 k10 (nI k) n) (nI k) (nI j) (nI 63) (nI (fl a b0 c2 d e4 f)) w = mX6_sorts_86 k10 (nI k) n (nI (fl a b0 c2 d (e4 && decide (sdiff (S k) (S j) = 0)) f)) (nI (j + 1)) w ∧ mX6_sorts_158 k10 (mX6_sorts_86 k10 (nI k) n) (nI k) (nI j) (nI 59) (nI (fl a b0 c2 d e4 f)) w = mX6_sorts_86 k10 (nI k) n (nI (fl a b0 false d (e4 && decide (sdiff (S k) (S j) = 0)) f)) (nI (j + 1)) w := by
        intro b0
        by_cases p4 : sdiff (S k) (S j) = 0
        · have p5 : (nI (S k &&& (S j ^^^ 4294967295)) = nI 0) = True := eq_true (t4.mpr p4)
          rw [decide_eq_true p4, Bool.and_true]
          constructor
          · simp only [mX6_sorts_158, mX6_sorts_186, mX6_sorts_188, M_row h (show k < 8 by omega), M_row h (show j < 8 by omega), nI_xor, p5, kfm, cl_mk, nm_mk, pu_mk, lit, if_true, if_false, ne_eq, not_false_eq_true, not_true_eq_false, nI_add, nI_or, nI_and, Bool.false_eq_true, ne01, ne10, nI_m1', Nat.or_zero]
          · simp only [mX6_sorts_158, mX6_sorts_186, mX6_sorts_188, M_row h (show k < 8 by omega), M_row h (show j < 8 by omega), nI_xor, p5, kfm, kfm2, cl_mk, nm_mk, pu_mk, lit, if_true, if_false, ne_eq, not_false_eq_true, not_true_eq_false, nI_add, nI_or, nI_and, Bool.false_eq_true, ne01, ne10, nI_m1', Nat.or_zero]
        · have p5 : (nI (S k &&& (S j ^^^ 4294967295)) = nI 0) = False := eq_false (fun x => p4 (t4.mp x))
          rw [decide_eq_false p4, Bool.and_false]
          constructor
          · simp only [mX6_sorts_158, mX6_sorts_186, mX6_sorts_188, M_row h (show k < 8 by omega), M_row h (show j < 8 by omega), nI_xor, p5, kfm, kfm4, cl_mk, nm_mk, pu_mk, lit, if_true, if_false, ne_eq, not_false_eq_true, not_true_eq_false, nI_add, nI_or, nI_and, Bool.false_eq_true, ne01, ne10, nI_m1', Nat.or_zero]
          · simp only [mX6_sorts_158, mX6_sorts_186, mX6_sorts_188, M_row h (show k < 8 by omega), M_row h (show j < 8 by omega), nI_xor, p5, kfm, kfm2, kfm4, cl_mk, nm_mk, pu_mk, lit, if_true, if_false, ne_eq, not_false_eq_true, not_true_eq_false, nI_add, nI_or, nI_and, Bool.false_eq_true, ne01, ne10, nI_m1', Nat.or_zero]
      have st2 : mX6_sorts_130 k10 (mX6_sorts_86 k10 (nI k) n) (nI k) (nI j) (nI 63) (nI (fl a b1 c2 d e4 f)) w = mX6_sorts_86 k10 (nI k) n (nI (fl a b1 (c2 && decide (sdiff (S j) (S k) = 0)) d (e4 && decide (sdiff (S k) (S j) = 0)) f)) (nI (j + 1)) w ∧ mX6_sorts_130 k10 (mX6_sorts_86 k10 (nI k) n) (nI k) (nI j) (nI 61) (nI (fl a b1 c2 d e4 f)) w = mX6_sorts_86 k10 (nI k) n (nI (fl a false (c2 && decide (sdiff (S j) (S k) = 0)) d (e4 && decide (sdiff (S k) (S j) = 0)) f)) (nI (j + 1)) w := by
        by_cases p2 : sdiff (S j) (S k) = 0
        · have p5 : (nI (S j &&& (S k ^^^ 4294967295)) = nI 0) = True := eq_true (t2.mpr p2)
          rw [decide_eq_true p2, Bool.and_true]
          constructor
          · rw [← (st b1).1]
            simp only [mX6_sorts_130, M_row h (show k < 8 by omega), M_row h (show j < 8 by omega), nI_xor, p5, kfm, cl_mk, nm_mk, pu_mk, lit, if_true, if_false, ne_eq, not_false_eq_true, not_true_eq_false, nI_add, nI_or, nI_and, Bool.false_eq_true, ne01, ne10, nI_m1', Nat.or_zero]
          · rw [← (st false).1]
            simp only [mX6_sorts_130, M_row h (show k < 8 by omega), M_row h (show j < 8 by omega), nI_xor, p5, kfm1, cl_mk, nm_mk, pu_mk, lit, if_true, if_false, ne_eq, not_false_eq_true, not_true_eq_false, nI_add, nI_or, nI_and, Bool.false_eq_true, ne01, ne10, nI_m1', Nat.or_zero]
        · have p5 : (nI (S j &&& (S k ^^^ 4294967295)) = nI 0) = False := eq_false (fun x => p2 (t2.mp x))
          rw [decide_eq_false p2, Bool.and_false]
          constructor
          · rw [← (st b1).2]
            simp only [mX6_sorts_130, M_row h (show k < 8 by omega), M_row h (show j < 8 by omega), nI_xor, p5, kfm, cl_mk, nm_mk, pu_mk, lit, if_true, if_false, ne_eq, not_false_eq_true, not_true_eq_false, nI_add, nI_or, nI_and, Bool.false_eq_true, ne01, ne10, nI_m1', Nat.or_zero]
          · rw [← (st false).2]
            simp only [mX6_sorts_130, M_row h (show k < 8 by omega), M_row h (show j < 8 by omega), nI_xor, p5, kfm1, cl_mk, nm_mk, pu_mk, lit, if_true, if_false, ne_eq, not_false_eq_true, not_true_eq_false, nI_add, nI_or, nI_and, Bool.false_eq_true, ne01, ne10, nI_m1', Nat.or_zero]
      cases p1 : (S j).testBit k
      · rw [Bool.and_false, ← st2.2]
        simp only [mX6_sorts_86, h.1, c1, M_row h (show k < 8 by omega), M_row h (show j < 8 by omega), shr_t (show j < 32 by omega) (show S k < 2 ^ 31 by omega) q, shr_f (show k < 32 by omega) (show S j < 2 ^ 31 by omega) p1, cl_mk, nm_mk, pu_mk, lit, if_true, if_false, ne_eq, not_false_eq_true, not_true_eq_false, nI_add, nI_or, nI_and, Bool.false_eq_true, ne01, ne10, nI_m1', Nat.or_zero]
      · rw [Bool.and_true, ← st2.1]
        simp only [mX6_sorts_86, h.1, c1, M_row h (show k < 8 by omega), M_row h (show j < 8 by omega), shr_t (show j < 32 by omega) (show S k < 2 ^ 31 by omega) q, shr_t (show k < 32 by omega) (show S j < 2 ^ 31 by omega) p1, cl_mk, nm_mk, pu_mk, lit, if_true, if_false, ne_eq, not_false_eq_true, not_true_eq_false, nI_add, nI_or, nI_and, Bool.false_eq_true, ne01, ne10, nI_m1', Nat.or_zero]
  · intro n
    have c1 : nI N ≤ nI N := nI_le (Nat.le_refl N) (by omega)
    simp only [mX6_sorts_86, h.1, c1, cl_mk, nm_mk, pu_mk, lit, if_true, if_false, ne_eq, not_false_eq_true, not_true_eq_false, nI_add, nI_or, nI_and, Bool.false_eq_true, ne01, ne10, nI_m1', Nat.or_zero]
end KM2
