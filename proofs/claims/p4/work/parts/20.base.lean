/-! base of the pure part: numbers, bits, loops, combinators -/
theorem lit (n : Nat) : (OfNat.ofNat n : Int32) = nI n := rfl
theorem nI_or (a b : Nat) : nI a ||| nI b = nI (a ||| b) := by
  apply Int32.toBitVec_inj.mp
  show BitVec.ofNat 32 a ||| BitVec.ofNat 32 b = BitVec.ofNat 32 (a ||| b)
  exact (BitVec.ofNat_or).symm
theorem nI_and (a b : Nat) : nI a &&& nI b = nI (a &&& b) := by
  apply Int32.toBitVec_inj.mp
  show BitVec.ofNat 32 a &&& BitVec.ofNat 32 b = BitVec.ofNat 32 (a &&& b)
  exact (BitVec.ofNat_and).symm
theorem nI_xor (a b : Nat) : nI a ^^^ nI b = nI (a ^^^ b) := by
  apply Int32.toBitVec_inj.mp
  show BitVec.ofNat 32 a ^^^ BitVec.ofNat 32 b = BitVec.ofNat 32 (a ^^^ b)
  exact (BitVec.ofNat_xor).symm
theorem nI_m1 : (-1 : Int32) = nI 4294967295 := rfl
theorem nI_m1' : (-nI 1 : Int32) = nI 4294967295 := rfl
theorem nI_shl {a k : Nat} (hk : k < 32) (h : a * 2 ^ k < 2 ^ 32) : nI a <<< (nI k &&& nI 31) = nI (a * 2 ^ k) := by
  refine pk_shlN (nI k &&& nI 31) k ?_ h
  have : ∀ k, k < 32 → ((nI k &&& nI 31).toBitVec.smod 32).toNat = k := by decide +kernel
  exact this k hk
theorem nI_shr {a k : Nat} (hk : k < 32) (h : a < 2 ^ 31) : nI a >>> (nI k &&& nI 31) = nI (a / 2 ^ k) := by
  refine pk_shrN h (nI k &&& nI 31) k ?_
  have : ∀ k, k < 32 → ((nI k &&& nI 31).toBitVec.smod 32).toNat = k := by decide +kernel
  exact this k hk
theorem nI_ushr {a k : Nat} (hk : k < 32) (h : a < 2 ^ 32) : ((nI a).toUInt32 >>> ((nI k).toUInt32 &&& Int32.toUInt32 (nI 31))).toInt32 = nI (a / 2 ^ k) := by
  refine pk_ushrN h (nI k) k ?_
  have : ∀ k, k < 32 → (((nI k).toUInt32 &&& Int32.toUInt32 31).toBitVec % 32).toNat = k := by decide +kernel
  exact this k hk
/-- a without b -/
def sdiff (a b : Nat) : Nat := a &&& (b ^^^ 4294967295)
theorem nI_sdiff (a b : Nat) : nI a &&& (nI b ^^^ nI 4294967295) = nI (sdiff a b) := by
  rw [nI_xor, nI_and]
  rfl
theorem tb_all (k : Nat) : Nat.testBit 4294967295 k = decide (k < 32) := by
  have := Nat.testBit_two_pow_sub_one 32 k
  simpa using this
theorem tb_sdiff {a b k : Nat} (h : a < 2 ^ 32) : (sdiff a b).testBit k = (a.testBit k && !b.testBit k) := by
  unfold sdiff
  rw [Nat.testBit_and, Nat.testBit_xor, tb_all]
  by_cases hk : k < 32
  · simp [hk]
  · have : a.testBit k = false := Nat.testBit_lt_two_pow (Nat.lt_of_lt_of_le h (Nat.pow_le_pow_right (by decide) (by omega)))
    simp [this]
theorem bit_div (a k : Nat) : a / 2 ^ k % 2 = if a.testBit k then 1 else 0 := by
  rw [Nat.testBit_eq_decide_div_mod_eq]
  by_cases h : a / 2 ^ k % 2 = 1
  · simp [h]
  · have := Nat.mod_two_eq_zero_or_one (a / 2 ^ k)
    have h0 : a / 2 ^ k % 2 = 0 := by omega
    simp [h0]
theorem and_one (a : Nat) : a &&& 1 = a % 2 := Nat.and_one_is_mod a
theorem lt_of_bits {a n : Nat} (h : ∀ k, n ≤ k → a.testBit k = false) : a < 2 ^ n := Nat.lt_pow_two_of_testBit a h
theorem bits_of_lt {a n k : Nat} (h : a < 2 ^ n) (hk : n ≤ k) : a.testBit k = false := Nat.testBit_lt_two_pow (Nat.lt_of_lt_of_le h (Nat.pow_le_pow_right (by decide) hk))
theorem or_lt {a b n : Nat} (ha : a < 2 ^ n) (hb : b < 2 ^ n) : a ||| b < 2 ^ n := Nat.or_lt_two_pow ha hb
theorem sdiff_lt {a b n : Nat} (h : a < 2 ^ n) : sdiff a b < 2 ^ n := Nat.lt_of_le_of_lt Nat.and_le_left h
theorem pow_lt_of {k n : Nat} (h : k < n) : 2 ^ k < 2 ^ n := Nat.pow_lt_pow_right (by decide) h
theorem tb_pow (i j : Nat) : Nat.testBit (2 ^ i) j = decide (i = j) := Nat.testBit_two_pow
theorem tb_full (n k : Nat) : Nat.testBit (2 ^ n - 1) k = decide (k < n) := Nat.testBit_two_pow_sub_one n k
/-- one bit set: k in the low n -/
theorem zero_iff_bits {a : Nat} : a = 0 ↔ ∀ k, a.testBit k = false := by
  constructor
  · rintro rfl k
    exact Nat.zero_testBit k
  · intro h
    exact Nat.eq_of_testBit_eq (fun k => by rw [h k, Nat.zero_testBit])
section CM
variable {α β : Type}
theorem cl_mk (v : β) (w : AW) (k : β → AW → Option α) : cl (some (v, w)) k = k v w := rfl
theorem nm_mk (x : Int32) (k : Int32 → Option α) : nm x k = k x := rfl
theorem pu_mk (w : AW) (o j : Nat) (x : Int32) (k : AW → Option α) : pu w o j x k = k (am_set w o 0 j x) := rfl
theorem puL_mk (w : AW) (x : Int64) (k : AW → Option α) : puL w x k = k (am_setL w x) := rfl
theorem rd_in {n i : Nat} (h : i < n) (hn : n < 2 ^ 31) (f : Nat → Int32) (k : Int32 → Option α) : rd n f (nI i) k = k (f i) := by
  have hv := vp_in_nI h hn
  unfold rd
  unfold vp_in at hv
  rw [if_neg hv, nI_clamp (by omega)]
theorem rdq_in {n i : Nat} (h : i < n) (hn : n < 2 ^ 31) (k : Nat → Option α) : rdq n (nI i) k = k (6 + i) := by
  have hv := vp_in_nI h hn
  unfold rdq
  unfold vp_in at hv
  rw [if_neg hv, nI_clamp (by omega)]
theorem wr_in {n i : Nat} (h : i < n) (hn : n < 2 ^ 31) (w : AW) (o a : Nat) (x : Int32) (k : AW → Option α) : wr n w o a (nI i) x k = k (am_set w o a i x) := by
  have hv := vp_in_nI h hn
  unfold wr
  unfold vp_in at hv
  rw [if_neg hv, nI_clamp (by omega)]
theorem nS_none (X : Option α) (k : Nat → Option α) : nS none X k = X := rfl
theorem nS_some {o : Nat} (h : am_cls false o = 2) (X : Option α) (k : Nat → Option α) : nS (some (o, 0)) X k = k o := by
  unfold nS
  exact if_pos ⟨rfl, h⟩
/-- a loop whose state in round k is st k, left in round N -/
theorem loopE {σ ρ : Type} (L : Nat → σ → Option ρ) (N : Nat) (st : Nat → σ) (X : Option ρ) (step : ∀ n k, k < N → L (n + 1) (st k) = L n (st (k + 1))) (exit : ∀ n, L (n + 1) (st N) = X) : ∀ n k, k ≤ N → N - k < n → L n (st k) = X := by
  intro n
  induction n with
  | zero => intro k _ h; omega
  | succ n ih =>
    intro k hk hn
    by_cases h : k = N
    · subst h
      exact exit n
    · rw [step n k (by omega)]
      exact ih (k + 1) (by omega) (by omega)
end CM
theorem am_get (w : AW) (o a i : Nat) (x : Int32) (o' a' i' : Nat) : (am_set w o a i x).1 o' a' i' = if o' = o ∧ a' = a ∧ i' = i then x else w.1 o' a' i' := rfl
theorem am_get_row {w : AW} {o a i : Nat} {x : Int32} {o' a' : Nat} (h : o' ≠ o ∨ a' ≠ a) : (am_set w o a i x).1 o' a' = w.1 o' a' := by
  funext i'
  rw [am_get, if_neg]
  rintro ⟨h1, h2, -⟩
  rcases h with h | h
  · exact h h1
  · exact h h2
theorem am_get_self (w : AW) (o a i : Nat) (x : Int32) : (am_set w o a i x).1 o a i = x := by rw [am_get, if_pos ⟨rfl, rfl, rfl⟩]
theorem am_get_other {w : AW} {o a i j : Nat} {x : Int32} (h : j ≠ i) : (am_set w o a i x).1 o a j = w.1 o a j := by rw [am_get, if_neg (fun e => h e.2.2)]
theorem am_set_2 (w : AW) (o a i : Nat) (x : Int32) : (am_set w o a i x).2 = w.2 := rfl
/-- union of the first n sets -/
def orF (f : Nat → Nat) : Nat → Nat
  | 0 => 0
  | n + 1 => orF f n ||| f n
theorem tb_orF {f : Nat → Nat} {n j : Nat} : (orF f n).testBit j = true ↔ ∃ k, k < n ∧ (f k).testBit j = true := by
  induction n with
  | zero => simp [orF]
  | succ n ih =>
    simp only [orF, Nat.testBit_or, Bool.or_eq_true, ih]
    constructor
    · rintro (⟨k, h1, h2⟩ | h)
      · exact ⟨k, by omega, h2⟩
      · exact ⟨n, by omega, h⟩
    · rintro ⟨k, h1, h2⟩
      by_cases h : k = n
      · subst h
        exact Or.inr h2
      · exact Or.inl ⟨k, by omega, h2⟩
theorem orF_lt {f : Nat → Nat} {n b : Nat} (h : ∀ k, k < n → f k < 2 ^ b) : orF f n < 2 ^ b := by
  induction n with
  | zero => exact Nat.two_pow_pos b
  | succ n ih => exact or_lt (ih (fun k hk => h k (by omega))) (h n (by omega))
theorem FU_gt {n : Nat} (h : n < 5000) : n < FU := Nat.lt_of_lt_of_le h FU_le
/-! the class's own small methods -/
theorem at_in {o a i : Nat} (w : AW) (h : i < am_aL false o a) (hn : am_aL false o a < 2 ^ 31) : mX5_at o a (nI i) w = some (w.1 o a i, w) := by
  unfold mX5_at
  rw [if_neg (nI_pos (by omega)), if_neg (by show ¬ nI _ ≤ _; rw [nI_leI hn (by omega)]; omega), rd_in h hn]
theorem at_out {o a i : Nat} (w : AW) (h : am_aL false o a ≤ i) (hi : i < 2 ^ 31) : mX5_at o a (nI i) w = some (nI 0, w) := by
  unfold mX5_at
  rw [if_neg (nI_pos hi), if_pos (by show nI _ ≤ _; rw [nI_leI (by omega) hi]; exact h)]
  rfl
theorem at_neg {o a : Nat} (w : AW) {x : Int32} (h : x < 0) : mX5_at o a x w = some (nI 0, w) := by
  unfold mX5_at
  rw [if_pos h]
  rfl
theorem put_in {o a i : Nat} {x : Int32} (w : AW) (h : i < am_aL false o a) (hn : am_aL false o a < 2 ^ 31) : mX5_put o a (nI i) x w = some ((), am_set w o a i x) := by
  unfold mX5_put
  rw [if_neg (nI_pos (by omega)), if_neg (by show ¬ nI _ ≤ _; rw [nI_leI hn (by omega)]; omega), wr_in h hn]
theorem bit_eq {a k : Nat} (w : AW) (ha : a < 2 ^ 32) (hk : k < 32) : mX5_bit (nI a) (nI k) w = some (nI (if a.testBit k then 1 else 0), w) := by
  unfold mX5_bit
  simp only [lit]
  rw [nI_ushr hk ha, nI_and, and_one, bit_div]
theorem within_eq {a b : Nat} (w : AW) (ha : a < 2 ^ 32) : mX5_within (nI a) (nI b) w = some (if sdiff a b = 0 then 1 else 0, w) := by
  unfold mX5_within
  simp only [lit, nI_m1', nI_sdiff]
  rw [show (if sdiff a b = 0 then (nI 1) else nI 0) = (if sdiff a b = 0 then (nI 1) else nI 0) from rfl]
  have h : (nI (sdiff a b) ≠ nI 0) ↔ ¬ sdiff a b = 0 := by
    have : sdiff a b < 2 ^ 32 := sdiff_lt ha
    constructor
    · intro h e
      exact h (by rw [e])
    · intro h e
      apply h
      have e2 := congrArg (fun z => z.toBitVec.toNat) e
      simp only [pk_tn this, pk_tn (show 0 < 2 ^ 32 by decide)] at e2
      exact e2
  by_cases hz : sdiff a b = 0
  · rw [if_neg (fun q => h.mp q hz), if_pos hz]
  · rw [if_pos (h.mpr hz), if_neg hz]
theorem sdiff_zero {a b n : Nat} (ha : a < 2 ^ n) (hn : n ≤ 32) : sdiff a b = 0 ↔ ∀ k, k < n → a.testBit k = true → b.testBit k = true := by
  have h32 : a < 2 ^ 32 := Nat.lt_of_lt_of_le ha (Nat.pow_le_pow_right (by decide) hn)
  rw [zero_iff_bits]
  constructor
  · intro h k hk hak
    have := h k
    rw [tb_sdiff h32, hak] at this
    simpa using this
  · intro h k
    rw [tb_sdiff h32]
    by_cases hk : k < n
    · cases e : a.testBit k
      · rfl
      · rw [h k hk e]
        rfl
    · rw [bits_of_lt ha (by omega)]
      rfl
