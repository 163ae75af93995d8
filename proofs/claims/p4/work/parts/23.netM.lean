/-! the model's net -/
theorem whileFix {ρ : Type} (F : Nat → Nat) (b c0 : Nat) (hb : b ≤ 31) (h0 : c0 ≠ 0) (hc : c0 < 2 ^ b) (hF : ∀ c, c < 2 ^ b → F c < 2 ^ b) (hs : ∀ c, sub c (F c)) (L : Nat → Int32 × Int32 → Option ρ) (X : Nat → Option ρ)
    (hstep : ∀ n c d, c < 2 ^ b → c ≠ d → nI c ≠ nI d → L (n + 1) (nI c, nI d) = L n (nI (F c), nI c)) (hexit : ∀ n c, c < 2 ^ b → L (n + 1) (nI c, nI c) = X c) :
    ∃ T, F (itF F T c0) = itF F T c0 ∧ L FU (nI c0, nI 0) = X (itF F T c0) := by
  obtain ⟨T, hT, hmin⟩ := pk_least (fun i => F (itF F i c0) = itF F i c0) ⟨b, itF_end hc hF hs (by omega)⟩
  have hTb : T ≤ b := by
    rcases Nat.lt_or_ge b T with q | q
    · exact absurd (itF_end hc hF hs (by omega)) (hmin b q)
    · exact q
  refine ⟨T, hT, ?_⟩
  have hlt : ∀ i, itF F i c0 < 2 ^ b := fun i => itF_lt hc hF i
  have h31 : (2 : Nat) ^ b ≤ 2 ^ 31 := Nat.pow_le_pow_right (by decide) hb
  have e : ∀ n k, k ≤ T + 1 → T + 1 - k < n → L n (nI (itF F k c0), nI (if k = 0 then 0 else itF F (k - 1) c0)) = X (itF F T c0) := by
    refine loopE L (T + 1) (fun k => (nI (itF F k c0), nI (if k = 0 then 0 else itF F (k - 1) c0))) _ ?_ ?_
    · intro n k hk
      have hne : itF F k c0 ≠ (if k = 0 then 0 else itF F (k - 1) c0) := by
        split
        · rename_i hk0
          subst hk0
          exact h0
        · rename_i hk0
          obtain ⟨j, rfl⟩ : ∃ j, k = j + 1 := ⟨k - 1, by omega⟩
          exact hmin j (by omega)
      have hl2 : (if k = 0 then 0 else itF F (k - 1) c0) < 2 ^ 31 := by
        split
        · decide
        · exact Nat.lt_of_lt_of_le (hlt _) h31
      have := hstep n (itF F k c0) _ (hlt k) hne (fun q => hne ((nI_eq (Nat.lt_of_lt_of_le (hlt k) h31) hl2).mp q))
      rw [this]
      rfl
    · intro n
      have e1 : itF F (T + 1) c0 = itF F T c0 := hT
      have e2 : (if T + 1 = 0 then 0 else itF F (T + 1 - 1) c0) = itF F T c0 := by rw [if_neg (by omega)]; rfl
      show L (n + 1) (nI (itF F (T + 1) c0), nI (if T + 1 = 0 then 0 else itF F (T + 1 - 1) c0)) = _
      rw [e1, e2]
      exact hexit n _ (hlt T)
  exact e FU 0 (Nat.zero_le _) (FU_gt (by omega))
theorem FU_succ : ∃ n, FU = n + 1 := ⟨FU - 1, by have := FU_le; omega⟩
def NetM (w : AW) (N : Nat) (S A : Nat → Nat) : Prop := w.1 0 0 2 = nI N ∧ (∀ k, k < 8 → w.1 0 4 k = nI (S k)) ∧ (∀ i, i < 4 → w.1 0 5 i = nI (A i))
theorem shr_bit {a k : Nat} (hk : k < 32) (h : a < 2 ^ 31) : nI a >>> nI (k &&& 31) &&& nI 1 = nI (if a.testBit k then 1 else 0) := by
  rw [shrN hk h, nI_and, and_one, bit_div]
theorem shr_t {a k : Nat} (hk : k < 32) (h : a < 2 ^ 31) (e : a.testBit k = true) : nI a >>> nI (k &&& 31) &&& nI 1 = nI 1 := by
  rw [shr_bit hk h, e]
  rfl
theorem shr_f {a k : Nat} (hk : k < 32) (h : a < 2 ^ 31) (e : a.testBit k = false) : nI a >>> nI (k &&& 31) &&& nI 1 = nI 0 := by
  rw [shr_bit hk h, e]
  rfl
def allF (N : Nat) (S : Nat → Nat) (c : Nat) : Nat := orF (fun k => if c.testBit k then farI N S (2 ^ k) N else if farI N S (2 ^ k) N &&& c = 0 then 0 else 2 ^ k) N
section NM
variable {w : AW} {N : Nat} {S A : Nat → Nat}
theorem M_row (h : NetM w N S A) {k : Nat} (hk : k < 8) {α : Type} (q : Int32 → Option α) : rd 8 (w.1 0 4) (nI k) q = q (nI (S k)) := by
  rw [rd_in hk (by decide), h.2.1 k hk]
theorem M_atom (h : NetM w N S A) {k : Nat} (hk : k < 4) {α : Type} (q : Int32 → Option α) : rd 4 (w.1 0 5) (nI k) q = q (nI (A k)) := by
  rw [rd_in hk (by decide), h.2.2 k hk]
theorem M_far16 (h : NetM w N S A) (hN : NetOK N S A) {m : Nat} (hm : m < 2 ^ 31) (k6 : Int32 → Int32 → AW → Option (Int32 × AW)) : mX6_farOf_16 k6 (nI m) FU (nI m) (nI 0) w = k6 (nI (m ||| stepF N S m)) (nI m) w := by
  obtain ⟨h1, h8, hS, hS0, hA⟩ := hN
  have := loopE (fun n (s : Int32 × Int32) => mX6_farOf_16 k6 (nI m) n s.1 s.2 w) N (fun k => (nI (m ||| orF (fun k => if m.testBit k then S k else 0) k), nI k)) (k6 (nI (m ||| stepF N S m)) (nI m) w) ?_ ?_ FU 0 (Nat.zero_le _) (FU_gt (by omega))
  · simpa only [orF, Nat.or_zero] using this
  · intro n k hk
    have c1 : ¬ nI N ≤ nI k := nI_ge hk (by omega)
    cases e : m.testBit k
    · simp only [mX6_farOf_16, mX6_farOf_47, h.1, c1, shr_f (show k < 32 by omega) hm e, orF, e, cl_mk, nm_mk, pu_mk, lit, if_true, if_false, ne_eq, not_false_eq_true, not_true_eq_false, nI_add, nI_or, nI_and, Bool.false_eq_true, ne01, ne10, nI_m1', Nat.or_zero]
    · simp only [mX6_farOf_16, mX6_farOf_47, h.1, c1, shr_t (show k < 32 by omega) hm e, M_row h (show k < 8 by omega), orF, e, Nat.or_assoc, cl_mk, nm_mk, pu_mk, lit, if_true, if_false, ne_eq, not_false_eq_true, not_true_eq_false, nI_add, nI_or, nI_and, Bool.false_eq_true, ne01, ne10, nI_m1', Nat.or_zero]
  · intro n
    have c1 : nI N ≤ nI N := nI_le (Nat.le_refl N) (by omega)
    simp only [mX6_farOf_16, h.1, c1, cl_mk, nm_mk, pu_mk, lit, if_true, if_false, ne_eq, not_false_eq_true, not_true_eq_false, nI_add, nI_or, nI_and, Bool.false_eq_true, ne01, ne10, nI_m1', Nat.or_zero]
    rfl
theorem M_far (h : NetM w N S A) (hN : NetOK N S A) {k : Nat} (hk : k < N) : mX6_farOf (nI k) w = some (nI (farI N S (2 ^ k) N), w) := by
  have h8 := hN.2.1
  have hp := pow_lt_of hk
  have h256 := two_le h8
  have hF : ∀ c, c < 2 ^ N → (fun c => c ||| stepF N S c) c < 2 ^ N := fun c hc => or_lt hc (stepF_lt hN.2.2.1)
  obtain ⟨T, hT, hr⟩ := whileFix (fun c => c ||| stepF N S c) N (2 ^ k) (by omega) (by have := Nat.two_pow_pos k; omega) hp hF (fun c => sub_or_left _ _) (fun n s => mX6_farOf_6 n s.1 s.2 w) (fun c => some (nI c, w)) (by
    intro n c d hc hne hneI
    have e : (nI c = nI d) = False := eq_false hneI
    simp only [mX6_farOf_6, e, cl_mk, nm_mk, pu_mk, lit, if_true, if_false, ne_eq, not_false_eq_true, not_true_eq_false, nI_add, nI_or, nI_and, Bool.false_eq_true, ne01, ne10, nI_m1', Nat.or_zero]
    exact M_far16 h hN (by omega) _) (by
    intro n c hc
    simp only [mX6_farOf_6, cl_mk, nm_mk, pu_mk, lit, if_true, if_false, ne_eq, not_false_eq_true, not_true_eq_false, nI_add, nI_or, nI_and, Bool.false_eq_true, ne01, ne10, nI_m1', Nat.or_zero])
  have e : farI N S (2 ^ k) T = farI N S (2 ^ k) N := (far_least_of (n := T) hT).uniq (far_least hN.2.2.1 hp)
  simp only [mX6_farOf, one_shl (show k < 31 by omega), cl_mk, nm_mk, pu_mk, lit, if_true, if_false, ne_eq, not_false_eq_true, not_true_eq_false, nI_add, nI_or, nI_and, Bool.false_eq_true, ne01, ne10, nI_m1', Nat.or_zero]
  rw [← e]
  exact hr
theorem M_both55 (h : NetM w N S A) (hN : NetOK N S A) {m : Nat} (hm : m < 2 ^ N) (k38 : Int32 → Int32 → AW → Option (Int32 × AW)) (v1 : Int32) : mX6_seenOf_55 k38 v1 (nI m) FU (nI m) (nI 0) w = k38 (nI (m ||| allF N S m)) (nI m) w := by
  have h8 := hN.2.1
  have h256 := two_le h8
  have := loopE (fun n (s : Int32 × Int32) => mX6_seenOf_55 k38 v1 (nI m) n s.1 s.2 w) N (fun k => (nI (m ||| orF (fun k => if m.testBit k then farI N S (2 ^ k) N else if farI N S (2 ^ k) N &&& m = 0 then 0 else 2 ^ k) k), nI k)) (k38 (nI (m ||| allF N S m)) (nI m) w) ?_ ?_ FU 0 (Nat.zero_le _) (FU_gt (by omega))
  · simpa only [orF, Nat.or_zero] using this
  · intro n k hk
    have c1 : ¬ nI N ≤ nI k := nI_ge hk (by omega)
    cases e : m.testBit k
    · have hlt : farI N S (2 ^ k) N &&& m < 2 ^ 31 := Nat.lt_of_le_of_lt Nat.and_le_right (by omega)
      by_cases e2 : farI N S (2 ^ k) N &&& m = 0
      · simp only [mX6_seenOf_55, mX6_seenOf_105, h.1, c1, shr_f (show k < 32 by omega) (show m < 2 ^ 31 by omega) e, M_far h hN hk, orF, e, e2, cl_mk, nm_mk, pu_mk, lit, if_true, if_false, ne_eq, not_false_eq_true, not_true_eq_false, nI_add, nI_or, nI_and, Bool.false_eq_true, ne01, ne10, nI_m1', Nat.or_zero]
      · have e3 : ¬ nI (farI N S (2 ^ k) N &&& m) = nI 0 := by rw [nI_eq hlt (by decide)]; exact e2
        simp only [mX6_seenOf_55, mX6_seenOf_105, h.1, c1, shr_f (show k < 32 by omega) (show m < 2 ^ 31 by omega) e, M_far h hN hk, orF, e, e2, e3, one_shl (show k < 31 by omega), Nat.or_assoc, cl_mk, nm_mk, pu_mk, lit, if_true, if_false, ne_eq, not_false_eq_true, not_true_eq_false, nI_add, nI_or, nI_and, Bool.false_eq_true, ne01, ne10, nI_m1', Nat.or_zero]
    · simp only [mX6_seenOf_55, mX6_seenOf_105, h.1, c1, shr_t (show k < 32 by omega) (show m < 2 ^ 31 by omega) e, M_far h hN hk, orF, e, Nat.or_assoc, cl_mk, nm_mk, pu_mk, lit, if_true, if_false, ne_eq, not_false_eq_true, not_true_eq_false, nI_add, nI_or, nI_and, Bool.false_eq_true, ne01, ne10, nI_m1', Nat.or_zero]
  · intro n
    have c1 : nI N ≤ nI N := nI_le (Nat.le_refl N) (by omega)
    simp only [mX6_seenOf_55, h.1, c1, cl_mk, nm_mk, pu_mk, lit, if_true, if_false, ne_eq, not_false_eq_true, not_true_eq_false, nI_add, nI_or, nI_and, Bool.false_eq_true, ne01, ne10, nI_m1', Nat.or_zero]
    rfl
theorem tb_allF {c j : Nat} : (allF N S c).testBit j = true ↔ ∃ k, k < N ∧ ((c.testBit k = true ∧ (farI N S (2 ^ k) N).testBit j = true) ∨ (c.testBit k = false ∧ j = k ∧ ∃ i, (farI N S (2 ^ k) N).testBit i = true ∧ c.testBit i = true)) := by
  unfold allF
  rw [tb_orF]
  constructor
  · rintro ⟨k, h1, h2⟩
    refine ⟨k, h1, ?_⟩
    cases e : c.testBit k
    · rw [e, if_neg (by decide)] at h2
      split at h2
      · rw [Nat.zero_testBit] at h2; cases h2
      · rename_i h
        rw [tb_pow, decide_eq_true_eq] at h2
        exact Or.inr ⟨rfl, h2.symm, Classical.byContradiction (fun hno => h (and_zero.mpr (fun i hi => hno ⟨i, hi⟩)))⟩
    · rw [e, if_pos rfl] at h2
      exact Or.inl ⟨rfl, h2⟩
  · rintro ⟨k, h1, ⟨h2, h3⟩ | ⟨h2, rfl, i, h3, h4⟩⟩
    · exact ⟨k, h1, by rw [h2, if_pos rfl]; exact h3⟩
    · exact ⟨j, h1, by rw [h2, if_neg (by decide), if_neg (fun h => (and_zero.mp h) i ⟨h3, h4⟩), tb_pow, decide_eq_true_eq]⟩
theorem far_self {k : Nat} : (farI N S (2 ^ k) N).testBit k = true := itF_sub (fun c => sub_or_left _ _) (2 ^ k) N k (by rw [tb_pow, decide_eq_true_eq])
theorem allF_lt (hN : NetOK N S A) {c : Nat} : allF N S c < 2 ^ N := orF_lt (fun k hk => by
  split
  · exact farI_lt hN.2.2.1 (pow_lt_of hk)
  · split
    · exact Nat.two_pow_pos N
    · exact pow_lt_of hk)
/-- both ways, by what all come to -/
theorem all_least (hN : NetOK N S A) {k T : Nat} (hk : k < N) (hT : (fun c => c ||| allF N S c) (itF (fun c => c ||| allF N S c) T (farI N S (2 ^ k) N)) = itF (fun c => c ||| allF N S c) T (farI N S (2 ^ k) N)) : IsLeast (clB N S) (2 ^ k) (itF (fun c => c ||| allF N S c) T (farI N S (2 ^ k) N)) := by
  have hS := hN.2.2.1
  refine ⟨sub_trans (pow_sub far_self) (itF_sub (fun c => sub_or_left _ _) _ T), ⟨?_, ?_⟩, ?_⟩
  · intro i hi hb j hj
    rw [← hT]
    refine sub_or_right _ _ j (tb_allF.mpr ⟨i, hi, Or.inl ⟨hb, ?_⟩⟩)
    exact (far_least hS (pow_lt_of hi)).2.1 i hi far_self j hj
  · intro i j hi hj hb
    cases e : (itF (fun c => c ||| allF N S c) T (farI N S (2 ^ k) N)).testBit i
    · rw [← e]
      rw [← hT]
      refine sub_or_right _ _ i (tb_allF.mpr ⟨i, hi, Or.inr ⟨e, rfl, j, ?_, hb⟩⟩)
      exact (far_least hS (pow_lt_of hi)).2.1 i hi far_self j hj
    · rfl
  · intro d hm hd
    clear hT
    have hfar : ∀ i, i < N → d.testBit i = true → sub (farI N S (2 ^ i) N) d := fun i hi h => (far_least hS (pow_lt_of hi)).2.2 d (pow_sub h) hd.1
    -- what comes into d, was in it
    have hback : ∀ i, i < N → ∀ j, (farI N S (2 ^ i) N).testBit j = true → d.testBit j = true → d.testBit i = true := by
      intro i hi j hj hdj
      apply Classical.byContradiction
      intro hno
      -- the worlds outside d are closed by steps
      have hcl : clS N S ((2 ^ 32 - 1) ^^^ d) → sub (farI N S (2 ^ i) N) ((2 ^ 32 - 1) ^^^ d) := fun h => (far_least hS (pow_lt_of hi)).2.2 _ (pow_sub (by
        rw [Nat.testBit_xor, tb_full]
        have : i < 32 := by have := hN.2.1; omega
        simp [this]
        simpa using hno)) h
      have h2 := hcl (by
        intro a ha hb x hx
        rw [Nat.testBit_xor, tb_full] at hb ⊢
        have hxN : x < N := by
          rcases Nat.lt_or_ge x N with q | q
          · exact q
          · rw [bits_of_lt (hS a) q] at hx; cases hx
        have hx32 : x < 32 := by have := hN.2.1; omega
        have ha32 : a < 32 := by have := hN.2.1; omega
        simp [ha32] at hb
        simp [hx32]
        cases e : d.testBit x
        · rfl
        · rw [hd.2 a x ha hx e] at hb; cases hb) j hj
      rw [Nat.testBit_xor, hdj, tb_full] at h2
      have hjN : j < N := by
        rcases Nat.lt_or_ge j N with q | q
        · exact q
        · rw [bits_of_lt (farI_lt hS (pow_lt_of hi)) q] at hj; cases hj
      have : j < 32 := by have := hN.2.1; omega
      simp [this] at h2
    have : ∀ n, sub (itF (fun c => c ||| allF N S c) n (farI N S (2 ^ k) N)) d := by
      intro n
      induction n with
      | zero => exact hfar k hk (hm k (by rw [tb_pow, decide_eq_true_eq]))
      | succ n ih =>
        refine or_sub ih ?_
        intro j hj
        obtain ⟨i, h1, ⟨h2, h3⟩ | ⟨h2, rfl, x, h3, h4⟩⟩ := tb_allF.mp hj
        · exact hfar i h1 (ih i h2) j h3
        · exact hback j h1 x h3 (ih x h4)
    exact this T
theorem M_seenOf (h : NetM w N S A) (hN : NetOK N S A) {sort k : Nat} (hs : sort < 4) (hk : k < N) : mX6_seenOf (nI sort) (nI k) w = some (nI (seenS N S sort k), w) := by
  have h8 := hN.2.1
  have h256 := two_le h8
  have z : ∀ i j : Nat, i < 4 → j < 4 → i ≠ j → (nI i = nI j) = False := fun i j hi hj hne => eq_false (fun e => hne ((nI_eq (by omega) (by omega)).mp e))
  have hp := pow_lt_of hk
  have g0 : ¬ nI 2 ≤ nI 0 := by decide
  have g1 : ¬ nI 2 ≤ nI 1 := by decide
  have g2 : nI 2 ≤ nI 2 := by decide
  have g3 : nI 2 ≤ nI 3 := by decide
  unfold seenS
  match sort, hs with
  | 0, _ => simp only [mX6_seenOf, g0, M_row h (show k < 8 by omega), cl_mk, nm_mk, pu_mk, lit, if_true, if_false, ne_eq, not_false_eq_true, not_true_eq_false, nI_add, nI_or, nI_and, Bool.false_eq_true, ne01, ne10, nI_m1', Nat.or_zero]
  | 1, _ => simp only [mX6_seenOf, g1, M_row h (show k < 8 by omega), one_shl (show k < 31 by omega), Nat.succ_ne_self, cl_mk, nm_mk, pu_mk, lit, if_true, if_false, ne_eq, not_false_eq_true, not_true_eq_false, nI_add, nI_or, nI_and, Bool.false_eq_true, ne01, ne10, nI_m1', Nat.or_zero]
  | 2, _ =>
    simp only [mX6_seenOf, g2, M_far h hN hk, cl_mk, nm_mk, pu_mk, lit, if_true, if_false, ne_eq, not_false_eq_true, not_true_eq_false, nI_add, nI_or, nI_and, Bool.false_eq_true, ne01, ne10, nI_m1', Nat.or_zero]
    obtain ⟨n, hn⟩ := FU_succ
    rw [hn]
    simp only [mX6_seenOf_38, z 2 3 (by decide) (by decide) (by decide), cl_mk, nm_mk, pu_mk, lit, if_true, if_false, ne_eq, not_false_eq_true, not_true_eq_false, nI_add, nI_or, nI_and, Bool.false_eq_true, ne01, ne10, nI_m1', Nat.or_zero]
    rfl
  | 3, _ =>
    simp only [mX6_seenOf, g3, M_far h hN hk, cl_mk, nm_mk, pu_mk, lit, if_true, if_false, ne_eq, not_false_eq_true, not_true_eq_false, nI_add, nI_or, nI_and, Bool.false_eq_true, ne01, ne10, nI_m1', Nat.or_zero]
    obtain ⟨T, hT, hr⟩ := whileFix (fun c => c ||| allF N S c) N (farI N S (2 ^ k) N) (by omega) (by
      intro e
      have := far_self (N := N) (S := S) (k := k)
      rw [e, Nat.zero_testBit] at this
      cases this) (farI_lt hN.2.2.1 hp) (fun c hc => or_lt hc (allF_lt hN)) (fun c => sub_or_left _ _) (fun n s => mX6_seenOf_38 (nI 3) n s.1 s.2 w) (fun c => some (nI c, w)) (by
      intro n c d hc hne hneI
      have e : (nI c = nI d) = False := eq_false hneI
      simp only [mX6_seenOf_38, e, cl_mk, nm_mk, pu_mk, lit, if_true, if_false, ne_eq, not_false_eq_true, not_true_eq_false, nI_add, nI_or, nI_and, Bool.false_eq_true, ne01, ne10, nI_m1', Nat.or_zero]
      exact M_both55 h hN hc _ _) (by
      intro n c hc
      simp only [mX6_seenOf_38, cl_mk, nm_mk, pu_mk, lit, if_true, if_false, ne_eq, not_false_eq_true, not_true_eq_false, nI_add, nI_or, nI_and, Bool.false_eq_true, ne01, ne10, nI_m1', Nat.or_zero])
    have e : itF (fun c => c ||| allF N S c) T (farI N S (2 ^ k) N) = bothI N S (2 ^ k) N := (all_least hN hk hT).uniq (both_least hN.2.2.1 hp)
    rw [e] at hr
    rw [if_neg (by decide), if_neg (by decide), if_neg (by decide)]
    exact hr
end NM
