/-! loops that ask each; growing -/
def allT (q : Nat → Bool) : Nat → Bool
  | 0 => true
  | n + 1 => allT q n && q n
theorem allT_iff {q : Nat → Bool} {n : Nat} : allT q n = true ↔ ∀ k, k < n → q k = true := by
  induction n with
  | zero => exact ⟨fun _ k hk => by omega, fun _ => rfl⟩
  | succ n ih =>
    simp only [allT, Bool.and_eq_true, ih]
    constructor
    · rintro ⟨h1, h2⟩ k hk
      by_cases e : k = n
      · subst e; exact h2
      · exact h1 k (by omega)
    · intro h
      exact ⟨fun k hk => h k (by omega), h n (by omega)⟩
theorem loopAll {ρ : Type} (L : Nat → Int32 → Option ρ) (N : Nat) (ok : Nat → Bool) (Xt Xf : Option ρ) (hN : N < 5000) (step : ∀ n k, k < N → ok k = true → L (n + 1) (nI k) = L n (nI (k + 1))) (bad : ∀ n k, k < N → ok k = false → L (n + 1) (nI k) = Xf) (exit : ∀ n, L (n + 1) (nI N) = Xt) : L FU (nI 0) = if allT ok N = true then Xt else Xf := by
  by_cases h : allT ok N = true
  · rw [if_pos h]
    exact loopE L N nI Xt (fun n k hk => step n k hk (allT_iff.mp h k hk)) exit FU 0 (Nat.zero_le _) (FU_gt (by omega))
  · rw [if_neg h]
    obtain ⟨k, ⟨hk, hb⟩, hmin⟩ := pk_least (fun k => k < N ∧ ok k = false) (Classical.byContradiction (fun hno => h (allT_iff.mpr (fun k hk => by
      cases e : ok k
      · exact absurd ⟨k, hk, e⟩ hno
      · rfl))))
    refine loopE L k nI Xf (fun n j hj => step n j (by omega) ?_) (fun n => bad n k hk hb) FU 0 (Nat.zero_le _) (FU_gt (by omega))
    cases e : ok j
    · exact absurd ⟨by omega, e⟩ (hmin j hj)
    · rfl
def bN (b : Bool) : Nat := if b = true then 1 else 0
theorem bN_t : bN true = 1 := rfl
theorem bN_f : bN false = 0 := rfl
theorem bN_and (a b : Bool) : bN a &&& bN b = bN (a && b) := by cases a <;> cases b <;> decide
theorem bN_lt (b : Bool) : bN b < 2 := by cases b <;> decide
theorem within_B {a b n : Nat} (w : AW) (ha : a < 2 ^ n) (hn : n ≤ 32) : mX5_within (nI a) (nI b) w = some (nI (bN (decide (sdiff a b = 0))), w) := by
  rw [within_eq w (Nat.lt_of_lt_of_le ha (Nat.pow_le_pow_right (by decide) hn))]
  by_cases h : sdiff a b = 0
  · rw [if_pos h, decide_eq_true h]; rfl
  · rw [if_neg h, decide_eq_false h]; rfl
theorem zr_B (b : Bool) (w : AW) : zr (nI (bN b)) w = some (nI (bN b), w) := by
  cases b
  · exact zr_0 w
  · exact zr_1 w
theorem sub_iff {a b n : Nat} (ha : a < 2 ^ n) (hn : n ≤ 32) : sdiff a b = 0 ↔ sub a b := by
  rw [sdiff_zero ha hn]
  constructor
  · intro h k hk
    refine h k ?_ hk
    rcases Nat.lt_or_ge k n with q | q
    · exact q
    · rw [bits_of_lt ha q] at hk; cases hk
  · intro h k _ hk
    exact h k hk
def growB (N : Nat) (S A : Nat → Nat) : Bool := allT (fun i => decide (sdiff (stepF N S (A i)) (A i) = 0)) 4
section GW
variable {w : AW} {N : Nat} {S A : Nat → Nat}
theorem X_growing (h : NetX w N S A) (hN : NetOK N S A) : mX0_isGrowing w = some (nI (bN (growB N S A)), w) := by
  have h8 := hN.2.1
  have h256 := two_le h8
  unfold mX0_isGrowing
  have e := loopAll (fun n v => mX0_isGrowing_2 n v w) 4 (fun i => decide (sdiff (stepF N S (A i)) (A i) = 0)) (some (nI 1, w)) (some (nI 0, w)) (by decide) ?_ ?_ ?_
  · refine Eq.trans e ?_
    unfold growB
    cases allT (fun i => decide (sdiff (stepF N S (A i)) (A i) = 0)) 4 <;> rfl
  · intro n k hk ho
    have c1 : ¬ nI 4 ≤ nI k := nI_ge hk (by decide)
    have hA := hN.2.2.2.2 k
    have hs : stepF N S (A k) < 2 ^ N := stepF_lt hN.2.2.1
    simp only [mX0_isGrowing_2, c1, atoms_at h hk, X_stepFrom h hN (show A k < 2 ^ 32 by omega), within_B w hs (show N ≤ 32 by omega), ho, bN_t, cl_mk, nm_mk, pu_mk, lit, if_true, if_false, ne_eq, not_false_eq_true, not_true_eq_false, nI_add, nI_or, nI_and, Bool.false_eq_true, ne01, ne10, nI_m1', Nat.or_zero]
  · intro n k hk ho
    have c1 : ¬ nI 4 ≤ nI k := nI_ge hk (by decide)
    have hA := hN.2.2.2.2 k
    have hs : stepF N S (A k) < 2 ^ N := stepF_lt hN.2.2.1
    simp only [mX0_isGrowing_2, c1, atoms_at h hk, X_stepFrom h hN (show A k < 2 ^ 32 by omega), within_B w hs (show N ≤ 32 by omega), ho, bN_f, cl_mk, nm_mk, pu_mk, lit, if_true, if_false, ne_eq, not_false_eq_true, not_true_eq_false, nI_add, nI_or, nI_and, Bool.false_eq_true, ne01, ne10, nI_m1', Nat.or_zero]
  · intro n
    have c1 : nI 4 ≤ nI 4 := by decide
    simp only [mX0_isGrowing_2, c1, cl_mk, nm_mk, pu_mk, lit, if_true, if_false, ne_eq, not_false_eq_true, not_true_eq_false, nI_add, nI_or, nI_and, Bool.false_eq_true, ne01, ne10, nI_m1', Nat.or_zero]
def gq (N : Nat) (S A : Nat → Nat) (k i : Nat) : Bool := !(A i).testBit k || decide (sdiff (farI N S (2 ^ k) N) (A i) = 0)
theorem M_growing (h : NetM w N S A) (hN : NetOK N S A) : mX6_isGrowing w = some (nI (bN (allT (fun k => allT (gq N S A k) 4) N)), w) := by
  have h8 := hN.2.1
  have h256 := two_le h8
  have inner : ∀ (b : Bool) (k : Nat), k < N → ∀ k4 : Int32 → Int32 → AW → Option (Int32 × AW), mX6_isGrowing_14 k4 (nI k) FU (nI (bN b)) (nI 0) w = k4 (nI (bN (b && allT (gq N S A k) 4))) (nI (k + 1)) w := by
    intro b k hk k4
    have e := loopE (fun n (s : Int32 × Int32) => mX6_isGrowing_14 k4 (nI k) n s.1 s.2 w) 4 (fun i => (nI (bN (b && allT (gq N S A k) i)), nI i)) (k4 (nI (bN (b && allT (gq N S A k) 4))) (nI (k + 1)) w) ?_ ?_ FU 0 (Nat.zero_le _) (FU_gt (by omega))
    · simpa only [allT, Bool.and_true] using e
    · intro n i hi
      have c1 : ¬ nI 4 ≤ nI i := nI_ge hi (by decide)
      have hA := hN.2.2.2.2 i
      have hf := farI_lt (n := N) hN.2.2.1 (pow_lt_of hk)
      have hlt : sdiff (farI N S (2 ^ k) N) (A i) < 2 ^ 31 := Nat.lt_of_le_of_lt Nat.and_le_left (by omega)
      cases e1 : (A i).testBit k
      · have e2 : gq N S A k i = true := by unfold gq; rw [e1]; rfl
        simp only [mX6_isGrowing_14, mX6_isGrowing_50, mX6_isGrowing_55, c1, M_atom h hi, shr_f (show k < 32 by omega) (show A i < 2 ^ 31 by omega) e1, allT, e2, Bool.and_true, cl_mk, nm_mk, pu_mk, lit, if_true, if_false, ne_eq, not_false_eq_true, not_true_eq_false, nI_add, nI_or, nI_and, Bool.false_eq_true, ne01, ne10, nI_m1', Nat.or_zero]
        rw [show (1 : Nat) = bN true from rfl, bN_and, Bool.and_true]
      · by_cases e3 : sdiff (farI N S (2 ^ k) N) (A i) = 0
        · have e2 : gq N S A k i = true := by unfold gq; rw [e3, decide_eq_true rfl, Bool.or_true]
          have e4 : farI N S (2 ^ k) N &&& (A i ^^^ 4294967295) = 0 := e3
          simp only [mX6_isGrowing_14, mX6_isGrowing_50, mX6_isGrowing_55, c1, M_atom h hi, shr_t (show k < 32 by omega) (show A i < 2 ^ 31 by omega) e1, M_far h hN hk, nI_xor, e4, allT, e2, Bool.and_true, cl_mk, nm_mk, pu_mk, lit, if_true, if_false, ne_eq, not_false_eq_true, not_true_eq_false, nI_add, nI_or, nI_and, Bool.false_eq_true, ne01, ne10, nI_m1', Nat.or_zero]
          rw [show (1 : Nat) = bN true from rfl, bN_and, Bool.and_true]
        · have e2 : gq N S A k i = false := by unfold gq; rw [e1, decide_eq_false e3]; rfl
          have e4 : (nI (farI N S (2 ^ k) N &&& (A i ^^^ 4294967295)) = nI 0) = False := eq_false (fun q => e3 ((nI_eq hlt (by decide)).mp q))
          simp only [mX6_isGrowing_14, mX6_isGrowing_50, mX6_isGrowing_55, c1, M_atom h hi, shr_t (show k < 32 by omega) (show A i < 2 ^ 31 by omega) e1, M_far h hN hk, nI_xor, e4, allT, e2, Bool.and_false, cl_mk, nm_mk, pu_mk, lit, if_true, if_false, ne_eq, not_false_eq_true, not_true_eq_false, nI_add, nI_or, nI_and, Bool.false_eq_true, ne01, ne10, nI_m1', Nat.or_zero]
          rw [show (0 : Nat) = bN false from rfl, bN_and, Bool.and_false]
    · intro n
      have c1 : nI 4 ≤ nI 4 := by decide
      simp only [mX6_isGrowing_14, c1, cl_mk, nm_mk, pu_mk, lit, if_true, if_false, ne_eq, not_false_eq_true, not_true_eq_false, nI_add, nI_or, nI_and, Bool.false_eq_true, ne01, ne10, nI_m1', Nat.or_zero]
  unfold mX6_isGrowing
  have e := loopE (fun n (s : Int32 × Int32) => mX6_isGrowing_4 n s.1 s.2 w) N (fun k => (nI (bN (allT (fun k => allT (gq N S A k) 4) k)), nI k)) (some (nI (bN (allT (fun k => allT (gq N S A k) 4) N)), w)) ?_ ?_ FU 0 (Nat.zero_le _) (FU_gt (by omega))
  · exact e
  · intro n k hk
    have c1 : ¬ nI N ≤ nI k := nI_ge hk (by omega)
    simp only [mX6_isGrowing_4, h.1, c1, cl_mk, nm_mk, pu_mk, lit, if_true, if_false, ne_eq, not_false_eq_true, not_true_eq_false, nI_add, nI_or, nI_and, Bool.false_eq_true, ne01, ne10, nI_m1', Nat.or_zero]
    rw [inner _ k hk]
    rfl
  · intro n
    have c1 : nI N ≤ nI N := nI_le (Nat.le_refl N) (by omega)
    simp only [mX6_isGrowing_4, h.1, c1, zr_B, cl_mk, nm_mk, pu_mk, lit, if_true, if_false, ne_eq, not_false_eq_true, not_true_eq_false, nI_add, nI_or, nI_and, Bool.false_eq_true, ne01, ne10, nI_m1', Nat.or_zero]
theorem grow_same (hN : NetOK N S A) : allT (fun k => allT (gq N S A k) 4) N = growB N S A := by
  have h8 := hN.2.1
  have hS := hN.2.2.1
  rw [Bool.eq_iff_iff]
  unfold growB
  simp only [allT_iff, decide_eq_true_eq]
  constructor
  · intro h i hi
    rw [sub_iff (stepF_lt hS) (by omega)]
    intro j hj
    obtain ⟨k, h1, h2, h3⟩ := tb_stepF.mp hj
    have := h k h1 i hi
    unfold gq at this
    rw [h2] at this
    simp only [Bool.not_true, Bool.false_or, decide_eq_true_eq] at this
    rw [sub_iff (farI_lt hS (pow_lt_of h1)) (by omega)] at this
    exact this j ((far_least hS (pow_lt_of h1)).2.1 k h1 far_self j h3)
  · intro h k hk i hi
    unfold gq
    cases e : (A i).testBit k
    · rfl
    · simp only [Bool.not_true, Bool.false_or, decide_eq_true_eq]
      rw [sub_iff (farI_lt hS (pow_lt_of hk)) (by omega)]
      refine (far_least hS (pow_lt_of hk)).2.2 _ (pow_sub e) ?_
      intro a ha hb j hj
      have := (sub_iff (stepF_lt hS) (by omega)).mp (h i hi)
      exact this j (tb_stepF.mpr ⟨a, ha, hb, hj⟩)
end GW
theorem pub_growing : Pub_growing Rel := by
  rintro wX wM ⟨N, S, A, T, y, D, h⟩
  have hR := h
  obtain ⟨hN, hX, hM, hT, h2, hS, h12⟩ := h
  have hM0 : NetM (am_set wM 0 0 0 (nI 0)) N S A := hM.k (KM0 wM)
  have eM := M_growing hM0 hN
  rw [grow_same hN] at eM
  refine pub_same hR (nI (bN (growB N S A))) ?_ ?_ (KX.rf _) (KM0 wM)
  · simp only [mX5_growing, X_growing hX hN, cl_mk, nm_mk, pu_mk, lit, if_true, if_false, ne_eq, not_false_eq_true, not_true_eq_false, nI_add, nI_or, nI_and, Bool.false_eq_true, ne01, ne10, nI_m1', Nat.or_zero]
    cases growB N S A
    · simp only [mX5_whether, bN_f, cl_mk, nm_mk, pu_mk, lit, if_true, if_false, ne_eq, not_false_eq_true, not_true_eq_false, nI_add, nI_or, nI_and, Bool.false_eq_true, ne01, ne10, nI_m1', Nat.or_zero]
    · simp only [mX5_whether, bN_t, cl_mk, nm_mk, pu_mk, lit, if_true, if_false, ne_eq, not_false_eq_true, not_true_eq_false, nI_add, nI_or, nI_and, Bool.false_eq_true, ne01, ne10, nI_m1', Nat.or_zero]
  · simp only [mX6_growing, eM, cl_mk, nm_mk, pu_mk, lit, if_true, if_false, ne_eq, not_false_eq_true, not_true_eq_false, nI_add, nI_or, nI_and, Bool.false_eq_true, ne01, ne10, nI_m1', Nat.or_zero]
    cases growB N S A
    · simp only [bN_f, cl_mk, nm_mk, pu_mk, lit, if_true, if_false, ne_eq, not_false_eq_true, not_true_eq_false, nI_add, nI_or, nI_and, Bool.false_eq_true, ne01, ne10, nI_m1', Nat.or_zero]
    · simp only [bN_t, cl_mk, nm_mk, pu_mk, lit, if_true, if_false, ne_eq, not_false_eq_true, not_true_eq_false, nI_add, nI_or, nI_and, Bool.false_eq_true, ne01, ne10, nI_m1', Nat.or_zero]
