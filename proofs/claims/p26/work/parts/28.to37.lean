section
/-! type -/
def byteX (v : Int64) (j : Nat) : Int32 := (((v.toUInt64 >>> ((nI (8 * j)).toInt64.toUInt64 &&& Int64.toUInt64 63)).toInt64).toInt32) &&& nI 255
def byteM (v : Int64) (j : Nat) : Int32 := ((v >>> ((nI (8 * j)).toInt64 &&& 63)) &&& (255 : Int64)).toInt32
theorem byte_same (v : Int64) {j : Nat} (hj : j < 8) : byteM v j = byteX v j := by
  have h1 : ∀ j, j < 8 → ((((nI (8 * j)).toInt64.toUInt64 &&& Int64.toUInt64 63)).toBitVec % 64#64).toNat = 8 * j := by decide +kernel
  have h2 : ∀ j, j < 8 → (((nI (8 * j)).toInt64 &&& 63).toBitVec.smod 64).toNat = 8 * j := by decide +kernel
  apply Int32.toBitVec_inj.mp
  unfold byteM byteX
  apply BitVec.eq_of_getLsbD_eq
  intro i hi
  simp only [Int32.toBitVec_and, Int64.toBitVec_toInt32, Int64.toBitVec_and, Int64.toBitVec_shiftRight, UInt64.toBitVec_toInt64, UInt64.toBitVec_shiftRight, BitVec.getLsbD_and]
  have f1 : ∀ i, i < 32 → (Int64.toBitVec 255).getLsbD i = decide (i < 8) := by decide +kernel
  have f2 : ∀ i, i < 32 → (nI 255).toBitVec.getLsbD i = decide (i < 8) := by decide +kernel
  have e1 : (((nI (8 * j)).toInt64.toBitVec &&& Int64.toBitVec 63).smod 64).toNat = 8 * j := h2 j hj
  have e2 : (((nI (8 * j)).toInt64.toUInt64 &&& Int64.toUInt64 63).toBitVec % 64).toNat = 8 * j := h1 j hj
  rw [BitVec.signExtend_eq_setWidth_of_le _ (by decide), BitVec.signExtend_eq_setWidth_of_le _ (by decide), BitVec.getLsbD_setWidth, BitVec.getLsbD_setWidth, BitVec.getLsbD_and, f1 i hi, f2 i hi]
  by_cases h8 : i < 8
  · rw [decide_eq_true h8, decide_eq_true hi, Bool.and_true, Bool.and_true, Bool.true_and]
    simp only [BitVec.sshiftRight']
    rw [e1, BitVec.getLsbD_sshiftRight, BitVec.ushiftRight_eq', e2, BitVec.getLsbD_ushiftRight]
    rw [if_pos (by omega)]
    simp
    omega
  · rw [decide_eq_false h8, Bool.and_false, Bool.and_false, Bool.and_false]
theorem byte_nI (v : Int64) (j : Nat) : ∃ b, b < 256 ∧ byteX v j = nI b := by
  obtain ⟨b, hb, e⟩ := pk_andE ((((v.toUInt64 >>> ((nI (8 * j)).toInt64.toUInt64 &&& Int64.toUInt64 63)).toInt64).toInt32)) (m := nI 255) 8 rfl
  exact ⟨b, hb, e⟩
noncomputable def byN (v : Int64) (j : Nat) : Nat := Classical.choose (byte_nI v j)
theorem byN_lt (v : Int64) (j : Nat) : byN v j < 256 := (Classical.choose_spec (byte_nI v j)).1
theorem byN_X (v : Int64) (j : Nat) : byteX v j = nI (byN v j) := (Classical.choose_spec (byte_nI v j)).2
theorem byN_M (v : Int64) {j : Nat} (hj : j < 8) : byteM v j = nI (byN v j) := (byte_same v hj).trans (byN_X v j)
/-- bytes b typed behind T others: row (0, a), their number at (0, 0, c) -/
def typed (w : AW) (a c T : Nat) (b : Nat → Nat) : Nat → AW
  | 0 => w
  | k + 1 => am_set (am_set (typed w a c T b k) 0 a (T + k) (nI (b k))) 0 0 c (nI (T + k + 1))
theorem typed_2 (w : AW) (a c T : Nat) (b : Nat → Nat) : ∀ k, (typed w a c T b k).2 = w.2
  | 0 => rfl
  | k + 1 => typed_2 w a c T b k
theorem typed_row {w : AW} {a c T : Nat} {b : Nat → Nat} {o x : Nat} (h : o ≠ 0 ∨ (x ≠ a ∧ x ≠ 0)) : ∀ k, (typed w a c T b k).1 o x = w.1 o x
  | 0 => rfl
  | k + 1 => by
    have e := typed_row (w := w) (a := a) (c := c) (T := T) (b := b) h k
    show (am_set (am_set _ 0 a _ _) 0 0 c _).1 o x = _
    rw [am_get_row (by omega), am_get_row (by omega), e]
theorem typed_cell {w : AW} {a c T : Nat} {b : Nat → Nat} {i : Nat} (ha : a ≠ 0) (hi : i ≠ c) : ∀ k, (typed w a c T b k).1 0 0 i = w.1 0 0 i
  | 0 => rfl
  | k + 1 => by
    show (am_set (am_set _ 0 a _ _) 0 0 c _).1 0 0 i = _
    rw [am_get_other hi, am_get_row (Or.inr (fun e => ha e.symm)), typed_cell ha hi k]
theorem typed_num {w : AW} {a c T : Nat} {b : Nat → Nat} (h : w.1 0 0 c = nI T) : ∀ k, (typed w a c T b k).1 0 0 c = nI (T + k)
  | 0 => h
  | k + 1 => by
    show (am_set _ 0 0 c _).1 0 0 c = _
    rw [am_get_self]
    rfl
theorem typed_at {w : AW} {a c T : Nat} {b : Nat → Nat} (ha : a ≠ 0) {j : Nat} : ∀ k, (typed w a c T b k).1 0 a j = if T ≤ j ∧ j < T + k then nI (b (j - T)) else w.1 0 a j
  | 0 => by rw [if_neg (by omega)]; rfl
  | k + 1 => by
    show (am_set (am_set (typed w a c T b k) 0 a _ _) 0 0 c _).1 0 a j = _
    rw [am_get_row (Or.inr ha)]
    by_cases e : j = T + k
    · subst e
      rw [am_get_self, if_pos (by omega), Nat.add_sub_cancel_left]
    · rw [am_get_other e, typed_at ha k]
      by_cases h : T ≤ j ∧ j < T + k
      · rw [if_pos h, if_pos (by omega)]
      · rw [if_neg h, if_neg (by omega)]
theorem neg1_lt : nI 4294967295 < nI 0 := by decide
theorem aL_0_9 : am_aL false 0 9 = 200 := rfl
def lft (n k : Nat) : Int32 := if k < n then nI (n - 1 - k) else -nI 1
theorem lft_step {n k : Nat} (hk : k < n) : lft n k + -nI 1 = lft n (k + 1) := by
  unfold lft
  rw [if_pos hk]
  by_cases h : k + 1 < n
  · rw [if_pos h, show n - 1 - k = (n - 1 - (k + 1)) + 1 by omega]
    exact pk_m1 _
  · rw [if_neg h, show n - 1 - k = 0 by omega]
    rfl
theorem X_type33 (w : AW) (v : Int64) {T n : Nat} (hT : T + n ≤ 200) (hn1 : 1 ≤ n) (hn8 : n ≤ 8) (h : w.1 0 0 9 = nI T) : mX5_type_33 v FU (nI (n - 1)) w = some (nI (T + n), typed w 9 9 T (fun k => byN v (n - 1 - k)) n) := by
  have e := loopE (fun m (s : Int32 × AW) => mX5_type_33 v m s.1 s.2) n (fun k => (lft n k, typed w 9 9 T (fun k => byN v (n - 1 - k)) k)) (some (nI (T + n), typed w 9 9 T (fun k => byN v (n - 1 - k)) n)) ?_ ?_ FU 0 (Nat.zero_le _) (FU_gt (by omega))
  · have e0 : lft n 0 = nI (n - 1) := by unfold lft; rw [if_pos (by omega)]; rfl
    rw [← e0]
    exact e
  · intro m k hk
    have e1 := lft_step hk
    have e2 : lft n k = nI (n - 1 - k) := if_pos hk
    have c1 : ¬ nI (n - 1 - k) < nI 0 := nI_nlt (Nat.zero_le _) (by omega)
    have e3 := typed_num (a := 9) (b := fun k => byN v (n - 1 - k)) h k
    have e4 : ∀ x, mX5_put 0 9 (nI (T + k)) x (typed w 9 9 T (fun k => byN v (n - 1 - k)) k) = some ((), am_set (typed w 9 9 T (fun k => byN v (n - 1 - k)) k) 0 9 (T + k) x) := fun x => put_in _ (by rw [aL_0_9]; omega) (by rw [aL_0_9]; decide)
    have e5 := byN_X v (n - 1 - k)
    unfold byteX at e5
    have e6 : (am_set (typed w 9 9 T (fun k => byN v (n - 1 - k)) k) 0 9 (T + k) (nI (byN v (n - 1 - k)))).1 0 0 9 = nI (T + k) := by rw [am_get_row (Or.inr (by decide))]; exact e3
    rw [← e1]
    simp only [e2, mX5_type_33, c1, e3, e4, pk_mul, e5, e6, cl_mk, nm_mk, pu_mk, lit, if_true, if_false, ne_eq, not_false_eq_true, not_true_eq_false, nI_add, nI_or, nI_and, Bool.false_eq_true, ne01, ne10, nI_m1', Nat.or_zero]
    rfl
  · intro m
    have e2 : lft n n = -nI 1 := if_neg (by omega)
    have e3 := typed_num (a := 9) (b := fun k => byN v (n - 1 - k)) h n
    simp only [e2, mX5_type_33, neg1_lt, e3, cl_mk, nm_mk, pu_mk, lit, if_true, if_false, ne_eq, not_false_eq_true, not_true_eq_false, nI_add, nI_or, nI_and, Bool.false_eq_true, ne01, ne10, nI_m1', Nat.or_zero]
theorem M_type37 (w : AW) (v : Int64) {T n : Nat} (hT : T + n ≤ 200) (hn1 : 1 ≤ n) (hn8 : n ≤ 8) (h : w.1 0 0 6 = nI T) : mX6_type_37 v FU (nI (n - 1)) w = some (nI (T + n), typed w 6 6 T (fun k => byN v (n - 1 - k)) n) := by
  have e := loopE (fun m (s : Int32 × AW) => mX6_type_37 v m s.1 s.2) n (fun k => (lft n k, typed w 6 6 T (fun k => byN v (n - 1 - k)) k)) (some (nI (T + n), typed w 6 6 T (fun k => byN v (n - 1 - k)) n)) ?_ ?_ FU 0 (Nat.zero_le _) (FU_gt (by omega))
  · have e0 : lft n 0 = nI (n - 1) := by unfold lft; rw [if_pos (by omega)]; rfl
    rw [← e0]
    exact e
  · intro m k hk
    have e1 := lft_step hk
    have e2 : lft n k = nI (n - 1 - k) := if_pos hk
    have c1 : ¬ nI (n - 1 - k) < nI 0 := nI_nlt (Nat.zero_le _) (by omega)
    have e3 := typed_num (a := 6) (b := fun k => byN v (n - 1 - k)) h k
    have e5 := byN_M v (show n - 1 - k < 8 by omega)
    unfold byteM at e5
    have e6 : (am_set (typed w 6 6 T (fun k => byN v (n - 1 - k)) k) 0 6 (T + k) (nI (byN v (n - 1 - k)))).1 0 0 6 = nI (T + k) := by rw [am_get_row (Or.inr (by decide))]; exact e3
    rw [← e1]
    simp only [e2, mX6_type_37, c1, e3, wr_in (show T + k < 200 by omega) (show 200 < 2 ^ 31 by decide), pk_mul, e5, e6, cl_mk, nm_mk, pu_mk, lit, if_true, if_false, ne_eq, not_false_eq_true, not_true_eq_false, nI_add, nI_or, nI_and, Bool.false_eq_true, ne01, ne10, nI_m1', Nat.or_zero]
    rfl
  · intro m
    have e2 : lft n n = -nI 1 := if_neg (by omega)
    have e3 := typed_num (a := 6) (b := fun k => byN v (n - 1 - k)) h n
    simp only [e2, mX6_type_37, neg1_lt, e3, cl_mk, nm_mk, pu_mk, lit, if_true, if_false, ne_eq, not_false_eq_true, not_true_eq_false, nI_add, nI_or, nI_and, Bool.false_eq_true, ne01, ne10, nI_m1', Nat.or_zero]
theorem pub_type : Pub_type Rel := by
  rintro wX wM ⟨N, S, A, T, y, D, h⟩ v0 v1
  have hR := h
  obtain ⟨hN, hX, hM, hT, h2, hS, h12⟩ := h
  by_cases c0 : v1 < nI 1
  · refine pub_same hR (-nI 1) ?_ ?_ (KX.rf _) (KM0 wM)
    · simp only [mX5_type, c0, cl_mk, nm_mk, pu_mk, lit, if_true, if_false, ne_eq, not_false_eq_true, not_true_eq_false, nI_add, nI_or, nI_and, Bool.false_eq_true, ne01, ne10, nI_m1', Nat.or_zero]
    · simp only [mX6_type, M_inO (lo := 1) (hi := 8) _ (Or.inl c0), cl_mk, nm_mk, pu_mk, lit, if_true, if_false, ne_eq, not_false_eq_true, not_true_eq_false, nI_add, nI_or, nI_and, Bool.false_eq_true, ne01, ne10, nI_m1', Nat.or_zero]
  by_cases c1 : v1 ≤ nI 8
  rotate_left
  · refine pub_same hR (-nI 1) ?_ ?_ (KX.rf _) (KM0 wM)
    · simp only [mX5_type, c0, c1, cl_mk, nm_mk, pu_mk, lit, if_true, if_false, ne_eq, not_false_eq_true, not_true_eq_false, nI_add, nI_or, nI_and, Bool.false_eq_true, ne01, ne10, nI_m1', Nat.or_zero]
    · have c2 : nI 8 < v1 := Int32.not_le.mp c1
      simp only [mX6_type, M_inO (lo := 1) (hi := 8) _ (Or.inr c2), cl_mk, nm_mk, pu_mk, lit, if_true, if_false, ne_eq, not_false_eq_true, not_true_eq_false, nI_add, nI_or, nI_and, Bool.false_eq_true, ne01, ne10, nI_m1', Nat.or_zero]
  obtain ⟨n, hn1, hn8, rfl⟩ : ∃ n, 1 ≤ n ∧ n ≤ 8 ∧ v1 = nI n := by
    have q : ¬ v1 < 0 := fun q => c0 (Int32.lt_trans q (by decide))
    obtain ⟨n, hn, rfl⟩ := nI_of q
    refine ⟨n, ?_, (nI_leI hn (by decide)).mp c1, rfl⟩
    rcases Nat.lt_or_ge n 1 with r | r
    · exact absurd (nI_lt r (by decide)) c0
    · exact r
  have e8 := M_inL (lo := 1) (hi := 8) (am_set wM 0 0 0 (nI 0)) hn1 hn8 (by decide)
  have hT200 := hT.1
  have eT : (am_set wM 0 0 0 (nI 0)).1 0 0 6 = nI T := by rw [am_get_other (by decide)]; exact hT.2.2.1
  by_cases c2 : T + n ≤ 200
  rotate_left
  · have c3 : ¬ nI (T + n) ≤ nI 200 := nI_ge (by omega) (by omega)
    refine pub_same hR (-nI 3) ?_ ?_ (KX.rf _) (KM0 wM)
    · simp only [mX5_type, c0, c1, hT.2.1, c3, cl_mk, nm_mk, pu_mk, lit, if_true, if_false, ne_eq, not_false_eq_true, not_true_eq_false, nI_add, nI_or, nI_and, Bool.false_eq_true, ne01, ne10, nI_m1', Nat.or_zero]
    · simp only [mX6_type, e8, eT, c3, cl_mk, nm_mk, pu_mk, lit, if_true, if_false, ne_eq, not_false_eq_true, not_true_eq_false, nI_add, nI_or, nI_and, Bool.false_eq_true, ne01, ne10, nI_m1', Nat.or_zero]
  have c3 : nI (T + n) ≤ nI 200 := nI_le c2 (by decide)
  have e9 : nI n - nI 1 = nI (n - 1) := pk_sub hn1
  refine ⟨nI (T + n), typed wX 9 9 T (fun k => byN v0 (n - 1 - k)) n, typed (am_set wM 0 0 0 (nI 0)) 6 6 T (fun k => byN v0 (n - 1 - k)) n, ?_, ?_, N, S, A, T + n, (fun j => if T ≤ j ∧ j < T + n then byN v0 (n - 1 - (j - T)) else y j), D, hN, ?_, ?_, ?_, ?_, ?_, ?_⟩
  · simp only [mX5_type, c0, c1, hT.2.1, c3, e9, X_type33 wX v0 c2 hn1 hn8 hT.2.1, cl_mk, nm_mk, pu_mk, lit, if_true, if_false, ne_eq, not_false_eq_true, not_true_eq_false, nI_add, nI_or, nI_and, Bool.false_eq_true, ne01, ne10, nI_m1', Nat.or_zero]
  · simp only [mX6_type, e8, eT, c3, e9, M_type37 _ v0 c2 hn1 hn8 eT, cl_mk, nm_mk, pu_mk, lit, if_true, if_false, ne_eq, not_false_eq_true, not_true_eq_false, nI_add, nI_or, nI_and, Bool.false_eq_true, ne01, ne10, nI_m1', Nat.or_zero]
  · exact hX.c (by rw [typed_row (by decide)]) (typed_row (by decide) n) (typed_row (by decide) n)
  · exact hM.c (by rw [typed_cell (by decide) (by decide)]; rfl) (by rw [typed_row (by decide)]; rfl) (by rw [typed_row (by decide)]; rfl)
  · refine ⟨c2, typed_num hT.2.1 n, typed_num eT n, fun j hj => ?_, fun j => ?_⟩
    · rw [typed_at (by decide), typed_at (by decide)]
      dsimp only
      by_cases hq : T ≤ j ∧ j < T + n
      · rw [if_pos hq, if_pos hq, if_pos hq]
        exact ⟨rfl, rfl⟩
      · rw [if_neg hq, if_neg hq, if_neg hq]
        exact hT.2.2.2.1 j (by omega)
    · dsimp only
      split
      · exact byN_lt _ _
      · exact hT.2.2.2.2 j
  · rw [typed_2, typed_2]
    exact h2
  · refine fun i hi => (hS i hi).c ?_ (fun a h8 _ => ?_)
    · funext a
      rw [typed_row (by omega)]
    · rw [typed_row (by omega), am_get_row (by omega)]
  · rw [typed_row (by decide)]
    exact h12
end
section
/-! count and sorts -/
theorem m63 : (-nI 33 : Int32) = nI 4294967263 := rfl
noncomputable def bcX (x : Int32) : Int32 := ((mJ6_bitCount_0f7a4 x (fun _ _ _ => 0, 0)).map (fun r => r.1)).getD 0
theorem bc_run (x : Int32) (w : AW) : mJ6_bitCount_0f7a4 x w = some (bcX x, w) := rfl
theorem bc_256 : ∀ a, a < 256 → bcX (nI a) = nI (cntB a 8) := by decide +kernel
theorem bc_eq {a : Nat} (w : AW) (h : a < 256) : mJ6_bitCount_0f7a4 (nI a) w = some (nI (cntB a 8), w) := by rw [bc_run, bc_256 a h]
def sumF (f : Nat → Nat) : Nat → Nat
  | 0 => 0
  | n + 1 => sumF f n + f n
theorem M_ones {a : Nat} (w : AW) (h : a < 256) : mX6_ones (nI a) w = some (nI (cntB a 8), w) := by
  unfold mX6_ones
  have e := loopE (fun n (s : Int32 × Int32) => mX6_ones_4 (nI a) n s.1 s.2 w) 8 (fun k => (nI (cntB a k), nI k)) (some (nI (cntB a 8), w)) ?_ ?_ FU 0 (Nat.zero_le _) (FU_gt (by omega))
  · exact e
  · intro n k hk
    have c1 : ¬ nI 8 ≤ nI k := nI_ge hk (by decide)
    have e1 := shr_bit (a := a) (show k < 32 by omega) (by omega)
    simp only [mX6_ones_4, c1, cntB, e1, cl_mk, nm_mk, pu_mk, lit, if_true, if_false, ne_eq, not_false_eq_true, not_true_eq_false, nI_add, nI_or, nI_and, Bool.false_eq_true, ne01, ne10, nI_m1', Nat.or_zero]
  · intro n
    have c1 : nI 8 ≤ nI 8 := by decide
    simp only [mX6_ones_4, c1, cl_mk, nm_mk, pu_mk, lit, if_true, if_false, ne_eq, not_false_eq_true, not_true_eq_false, nI_add, nI_or, nI_and, Bool.false_eq_true, ne01, ne10, nI_m1', Nat.or_zero]
theorem cntB8 (a : Nat) : cntB a 8 ≤ 8 := cntB_le a 8
section CT
variable {w : AW} {N : Nat} {S A : Nat → Nat}
theorem X_pairs (h : NetX w N S A) (hN : NetOK N S A) : mX0_pairs w = some (nI (sumF (fun k => cntB (S k) 8) N), w) := by
  have h8 := hN.2.1
  have h256 := two_le h8
  unfold mX0_pairs
  have e := loopE (fun n (s : Int32 × Int32) => mX0_pairs_4 n s.1 s.2 w) N (fun k => (nI (sumF (fun k => cntB (S k) 8) k), nI k)) (some (nI (sumF (fun k => cntB (S k) 8) N), w)) ?_ ?_ FU 0 (Nat.zero_le _) (FU_gt (by omega))
  · exact e
  · intro n k hk
    have c1 : ¬ nI N ≤ nI k := nI_ge hk (by omega)
    have := hN.2.2.1 k
    simp only [mX0_pairs_4, h.1, c1, sees_at h (show k < 8 by omega), bc_eq w (show S k < 256 by omega), sumF, cl_mk, nm_mk, pu_mk, lit, if_true, if_false, ne_eq, not_false_eq_true, not_true_eq_false, nI_add, nI_or, nI_and, Bool.false_eq_true, ne01, ne10, nI_m1', Nat.or_zero]
  · intro n
    have c1 : nI N ≤ nI N := nI_le (Nat.le_refl N) (by omega)
    simp only [mX0_pairs_4, h.1, c1, cl_mk, nm_mk, pu_mk, lit, if_true, if_false, ne_eq, not_false_eq_true, not_true_eq_false, nI_add, nI_or, nI_and, Bool.false_eq_true, ne01, ne10, nI_m1', Nat.or_zero]
theorem M_count9 (h : NetM w N S A) (hN : NetOK N S A) (v : Int32) (X : Option (Int32 × AW)) (hX : ∀ n, mX6_count_9 v (n + 1) (nI (sumF (fun k => cntB (S k) 8) N)) (nI N) w = X) : mX6_count_9 v FU (nI 0) (nI 0) w = X := by
  have h8 := hN.2.1
  have h256 := two_le h8
  have e := loopE (fun n (s : Int32 × Int32) => mX6_count_9 v n s.1 s.2 w) N (fun k => (nI (sumF (fun k => cntB (S k) 8) k), nI k)) X ?_ hX FU 0 (Nat.zero_le _) (FU_gt (by omega))
  · exact e
  · intro n k hk
    have c1 : ¬ nI N ≤ nI k := nI_ge hk (by omega)
    have := hN.2.2.1 k
    simp only [mX6_count_9, h.1, c1, M_row h (show k < 8 by omega), M_ones w (show S k < 256 by omega), sumF, cl_mk, nm_mk, pu_mk, lit, if_true, if_false, ne_eq, not_false_eq_true, not_true_eq_false, nI_add, nI_or, nI_and, Bool.false_eq_true, ne01, ne10, nI_m1', Nat.or_zero]
end CT
theorem pub_count : Pub_count Rel := by
  rintro wX wM ⟨N, S, A, T, y, D, h⟩ v
  have hR := h
  obtain ⟨hN, hX, hM, hT, h2, hS, h12⟩ := h
  have hM0 : NetM (am_set wM 0 0 0 (nI 0)) N S A := hM.k (KM0 wM)
  have h8 := hN.2.1
  have eT : (am_set wM 0 0 0 (nI 0)).1 0 0 6 = nI T := by rw [am_get_other (by decide)]; exact hT.2.2.1
  have c1 : nI N ≤ nI N := nI_le (Nat.le_refl N) (by omega)
  have z : ∀ i j : Nat, i < 8 → j < 8 → i ≠ j → (nI i = nI j) = False := fun i j hi hj hne => eq_false (fun e => hne ((nI_eq (by omega) (by omega)).mp e))
  have hat : mX0_atoms wX = some ((), wX) := rfl
  have run : ∀ (r : Int32), mX5_count v wX = some (r, wX) → (∀ n, mX6_count_9 v (n + 1) (nI (sumF (fun k => cntB (S k) 8) N)) (nI N) (am_set wM 0 0 0 (nI 0)) = some (r, am_set wM 0 0 0 (nI 0))) → ∃ (r : Int32) (wX2 wM2 : AW), mX5_count v wX = some (r, wX2) ∧ mX6_count v wM = some (r, wM2) ∧ Rel wX2 wM2 := fun r e1 e2 => pub_same hR r e1 (by
    simp only [mX6_count, cl_mk, nm_mk, pu_mk, lit, if_true, if_false, ne_eq, not_false_eq_true, not_true_eq_false, nI_add, nI_or, nI_and, Bool.false_eq_true, ne01, ne10, nI_m1', Nat.or_zero]
    exact M_count9 hM0 hN v _ e2) (KX.rf _) (KM0 wM)
  by_cases d0 : v = nI 0
  · subst d0
    refine run (nI N) ?_ (fun n => ?_)
    · simp only [mX5_count, X_size hX, cl_mk, nm_mk, pu_mk, lit, if_true, if_false, ne_eq, not_false_eq_true, not_true_eq_false, nI_add, nI_or, nI_and, Bool.false_eq_true, ne01, ne10, nI_m1', Nat.or_zero]
    · simp only [mX6_count_9, hM0.1, c1, cl_mk, nm_mk, pu_mk, lit, if_true, if_false, ne_eq, not_false_eq_true, not_true_eq_false, nI_add, nI_or, nI_and, Bool.false_eq_true, ne01, ne10, nI_m1', Nat.or_zero]
  by_cases d1 : v = nI 1
  · subst d1
    refine run (nI (sumF (fun k => cntB (S k) 8) N)) ?_ (fun n => ?_)
    · simp only [mX5_count, X_pairs hX hN, cl_mk, nm_mk, pu_mk, lit, if_true, if_false, ne_eq, not_false_eq_true, not_true_eq_false, nI_add, nI_or, nI_and, Bool.false_eq_true, ne01, ne10, nI_m1', Nat.or_zero]
    · simp only [mX6_count_9, hM0.1, c1, cl_mk, nm_mk, pu_mk, lit, if_true, if_false, ne_eq, not_false_eq_true, not_true_eq_false, nI_add, nI_or, nI_and, Bool.false_eq_true, ne01, ne10, nI_m1', Nat.or_zero]
  by_cases d2 : v = nI 2
  · subst d2
    refine run (nI T) ?_ (fun n => ?_)
    · simp only [mX5_count, hT.2.1, z 2 0 (by decide) (by decide) (by decide), z 2 1 (by decide) (by decide) (by decide), cl_mk, nm_mk, pu_mk, lit, if_true, if_false, ne_eq, not_false_eq_true, not_true_eq_false, nI_add, nI_or, nI_and, Bool.false_eq_true, ne01, ne10, nI_m1', Nat.or_zero]
    · simp only [mX6_count_9, hM0.1, c1, eT, z 2 0 (by decide) (by decide) (by decide), z 2 1 (by decide) (by decide) (by decide), cl_mk, nm_mk, pu_mk, lit, if_true, if_false, ne_eq, not_false_eq_true, not_true_eq_false, nI_add, nI_or, nI_and, Bool.false_eq_true, ne01, ne10, nI_m1', Nat.or_zero]
  by_cases d3 : ∃ i, i < 4 ∧ v = nI (i + 3)
  · obtain ⟨i, hi, rfl⟩ := d3
    have s3 : nI (i + 3) - nI 3 = nI i := by rw [pk_sub (by omega), Nat.add_sub_cancel]
    have e3 := M_inL (lo := 3) (hi := 6) (am_set wM 0 0 0 (nI 0)) (show 3 ≤ i + 3 by omega) (show i + 3 ≤ 6 by omega) (by decide)
    refine run (nI (A i)) ?_ (fun n => ?_)
    · match i, hi with
      | 0, _ => simp only [mX5_count, d0, d1, d2, hat, Nat.zero_add, show nI 3 - nI 3 = nI 0 from rfl, atoms_at hX (show 0 < 4 by decide), cl_mk, nm_mk, pu_mk, lit, if_true, if_false, ne_eq, not_false_eq_true, not_true_eq_false, nI_add, nI_or, nI_and, Bool.false_eq_true, ne01, ne10, nI_m1', Nat.or_zero] at *
      | 1, _ => simp only [mX5_count, d0, d1, d2, hat, z 4 3 (by decide) (by decide) (by decide), show nI 4 - nI 3 = nI 1 from rfl, atoms_at hX (show 1 < 4 by decide), cl_mk, nm_mk, pu_mk, lit, if_true, if_false, ne_eq, not_false_eq_true, not_true_eq_false, nI_add, nI_or, nI_and, Bool.false_eq_true, ne01, ne10, nI_m1', Nat.or_zero] at *
      | 2, _ => simp only [mX5_count, d0, d1, d2, hat, z 5 3 (by decide) (by decide) (by decide), z 5 4 (by decide) (by decide) (by decide), show nI 5 - nI 3 = nI 2 from rfl, atoms_at hX (show 2 < 4 by decide), cl_mk, nm_mk, pu_mk, lit, if_true, if_false, ne_eq, not_false_eq_true, not_true_eq_false, nI_add, nI_or, nI_and, Bool.false_eq_true, ne01, ne10, nI_m1', Nat.or_zero] at *
      | 3, _ => simp only [mX5_count, d0, d1, d2, hat, z 6 3 (by decide) (by decide) (by decide), z 6 4 (by decide) (by decide) (by decide), z 6 5 (by decide) (by decide) (by decide), show nI 6 - nI 3 = nI 3 from rfl, atoms_at hX (show 3 < 4 by decide), cl_mk, nm_mk, pu_mk, lit, if_true, if_false, ne_eq, not_false_eq_true, not_true_eq_false, nI_add, nI_or, nI_and, Bool.false_eq_true, ne01, ne10, nI_m1', Nat.or_zero] at *
    · simp only [mX6_count_9, hM0.1, c1, d0, d1, d2, e3, s3, M_atom hM0 hi, cl_mk, nm_mk, pu_mk, lit, if_true, if_false, ne_eq, not_false_eq_true, not_true_eq_false, nI_add, nI_or, nI_and, Bool.false_eq_true, ne01, ne10, nI_m1', Nat.or_zero]
  · have q3 : (v = nI 3) = False := eq_false (fun e => d3 ⟨0, by decide, e⟩)
    have q4 : (v = nI 4) = False := eq_false (fun e => d3 ⟨1, by decide, e⟩)
    have q5 : (v = nI 5) = False := eq_false (fun e => d3 ⟨2, by decide, e⟩)
    have q6 : (v = nI 6) = False := eq_false (fun e => d3 ⟨3, by decide, e⟩)
    have eo : mX6_in v (nI 3) (nI 6) (am_set wM 0 0 0 (nI 0)) = some (nI 0, am_set wM 0 0 0 (nI 0)) := by
      rcases pk_ix v (n := 7) (by decide) with q | q | ⟨k, hk, rfl⟩
      · exact M_inO _ (Or.inl (Int32.lt_trans q (by decide)))
      · by_cases q2 : v < nI 3
        · exact M_inO _ (Or.inl q2)
        · have q0 : ¬ v < 0 := fun r => q2 (Int32.lt_trans r (by decide))
          obtain ⟨k, hk, rfl⟩ := nI_of q0
          have := (nI_leI (by decide) hk).mp q
          exact M_inO _ (Or.inr (nI_lt (by omega) hk))
      · exfalso
        have n0 : k ≠ 0 := fun e => d0 (by rw [e])
        have n1 : k ≠ 1 := fun e => d1 (by rw [e])
        have n2 : k ≠ 2 := fun e => d2 (by rw [e])
        exact d3 ⟨k - 3, by omega, by rw [show k - 3 + 3 = k by omega]⟩
    refine run (-nI 1) ?_ (fun n => ?_)
    · simp only [mX5_count, d0, d1, d2, q3, q4, q5, q6, cl_mk, nm_mk, pu_mk, lit, if_true, if_false, ne_eq, not_false_eq_true, not_true_eq_false, nI_add, nI_or, nI_and, Bool.false_eq_true, ne01, ne10, nI_m1', Nat.or_zero]
    · simp only [mX6_count_9, hM0.1, c1, d0, d1, d2, eo, cl_mk, nm_mk, pu_mk, lit, if_true, if_false, ne_eq, not_false_eq_true, not_true_eq_false, nI_add, nI_or, nI_and, Bool.false_eq_true, ne01, ne10, nI_m1', Nat.or_zero]
end
section
/-! sorts -/
def fl (a b c d e f : Bool) : Nat := bN a + 2 * bN b + 4 * bN c + 8 * bN d + 16 * bN e + 32 * bN f
theorem fl_lt (a b c d e f : Bool) : fl a b c d e f < 64 := by
  have := bN_lt a; have := bN_lt b; have := bN_lt c; have := bN_lt d; have := bN_lt e; have := bN_lt f
  unfold fl
  omega
theorem fx0 : ∀ a b c d e f, nI (fl a b c d e f) &&& (-nI 2) = nI (fl false b c d e f) := by decide +kernel
theorem fx1 : ∀ a b c d e f, nI (fl a b c d e f) &&& (-nI 3) = nI (fl a false c d e f) := by decide +kernel
theorem fx2 : ∀ a b c d e f, nI (fl a b c d e f) &&& (-nI 5) = nI (fl a b false d e f) := by decide +kernel
theorem fx3 : ∀ a b c d e f, nI (fl a b c d e f) &&& (-nI 9) = nI (fl a b c false e f) := by decide +kernel
theorem fx4 : ∀ a b c d e f, nI (fl a b c d e f) &&& (-nI 17) = nI (fl a b c d false f) := by decide +kernel
theorem fx5 : ∀ a b c d e f, nI (fl a b c d e f) &&& (-nI 33) = nI (fl a b c d e false) := by decide +kernel
theorem kfm0 : ∀ a b c d e f, fl a b c d e f &&& 62 = fl false b c d e f := by decide +kernel
theorem kfm1 : ∀ a b c d e f, fl a b c d e f &&& 61 = fl a false c d e f := by decide +kernel
theorem kfm2 : ∀ a b c d e f, fl a b c d e f &&& 59 = fl a b false d e f := by decide +kernel
theorem kfm3 : ∀ a b c d e f, fl a b c d e f &&& 55 = fl a b c false e f := by decide +kernel
theorem kfm4 : ∀ a b c d e f, fl a b c d e f &&& 47 = fl a b c d false f := by decide +kernel
theorem kfm5 : ∀ a b c d e f, fl a b c d e f &&& 31 = fl a b c d e false := by decide +kernel
theorem kfm : ∀ a b c d e f, fl a b c d e f &&& 63 = fl a b c d e f := by decide +kernel
def seeEach (N : Nat) (S : Nat → Nat) (m : Nat) : Bool := allT (fun j => !m.testBit j || decide (sdiff m (S j) = 0)) N
section KD
variable {w : AW} {N : Nat} {S A : Nat → Nat}
theorem X_each (h : NetX w N S A) (hN : NetOK N S A) {m : Nat} (hm : m < 2 ^ N) : mX0_allSeeEachOther (nI m) w = some (nI (bN (seeEach N S m)), w) := by
  have h8 := hN.2.1
  have h256 := two_le h8
  unfold mX0_allSeeEachOther
  have e := loopAll (fun n v => mX0_allSeeEachOther_2 (nI m) n v w) N (fun j => !m.testBit j || decide (sdiff m (S j) = 0)) (some (nI 1, w)) (some (nI 0, w)) (by omega) ?_ ?_ ?_
  · refine Eq.trans e ?_
    unfold seeEach
    cases allT (fun j => !m.testBit j || decide (sdiff m (S j) = 0)) N <;> rfl
  · intro n k hk ho
    have c1 : ¬ nI N ≤ nI k := nI_ge hk (by omega)
    cases e1 : m.testBit k
    · simp only [mX0_allSeeEachOther_2, mX0_allSeeEachOther_36, h.1, c1, bit_f w (show m < 2 ^ 32 by omega) (show k < 32 by omega) e1, cl_mk, nm_mk, pu_mk, lit, if_true, if_false, ne_eq, not_false_eq_true, not_true_eq_false, nI_add, nI_or, nI_and, Bool.false_eq_true, ne01, ne10, nI_m1', Nat.or_zero]
    · rw [e1] at ho
      simp only [Bool.not_true, Bool.false_or] at ho
      simp only [mX0_allSeeEachOther_2, mX0_allSeeEachOther_36, h.1, c1, bit_t w (show m < 2 ^ 32 by omega) (show k < 32 by omega) e1, sees_at h (show k < 8 by omega), within_B w hm (show N ≤ 32 by omega), ho, bN_t, cl_mk, nm_mk, pu_mk, lit, if_true, if_false, ne_eq, not_false_eq_true, not_true_eq_false, nI_add, nI_or, nI_and, Bool.false_eq_true, ne01, ne10, nI_m1', Nat.or_zero]
  · intro n k hk ho
    have c1 : ¬ nI N ≤ nI k := nI_ge hk (by omega)
    cases e1 : m.testBit k
    · rw [e1] at ho
      cases ho
    · rw [e1] at ho
      simp only [Bool.not_true, Bool.false_or] at ho
      simp only [mX0_allSeeEachOther_2, mX0_allSeeEachOther_36, h.1, c1, bit_t w (show m < 2 ^ 32 by omega) (show k < 32 by omega) e1, sees_at h (show k < 8 by omega), within_B w hm (show N ≤ 32 by omega), ho, bN_f, cl_mk, nm_mk, pu_mk, lit, if_true, if_false, ne_eq, not_false_eq_true, not_true_eq_false, nI_add, nI_or, nI_and, Bool.false_eq_true, ne01, ne10, nI_m1', Nat.or_zero]
  · intro n
    have c1 : nI N ≤ nI N := nI_le (Nat.le_refl N) (by omega)
    simp only [mX0_allSeeEachOther_2, h.1, c1, cl_mk, nm_mk, pu_mk, lit, if_true, if_false, ne_eq, not_false_eq_true, not_true_eq_false, nI_add, nI_or, nI_and, Bool.false_eq_true, ne01, ne10, nI_m1', Nat.or_zero]
def kq0 (S : Nat → Nat) (k : Nat) : Bool := (S k).testBit k
def kq1 (N : Nat) (S : Nat → Nat) (k : Nat) : Bool := decide (sdiff (S k) (stepI N S (2 ^ k)) = 0)
def kq2 (N : Nat) (S : Nat → Nat) (k : Nat) : Bool := decide (sdiff (stepF N S (S k)) (S k) = 0)
def kq3 (S : Nat → Nat) (k : Nat) : Bool := decide (S k ≠ 0)
def kq4 (N : Nat) (S : Nat → Nat) (k : Nat) : Bool := seeEach N S (S k)
def kq5 (S : Nat → Nat) (k : Nat) : Bool := decide (cntB (S k) 8 ≤ 1)
variable (k5 : Int32 → Int32 → AW → Option (Int32 × AW))
theorem X_k93 (hN : NetOK N S A) (a b c d e f : Bool) (k : Nat) : mX0_kinds_93 k5 (nI (fl a b c d e f)) (nI k) (nI (S k)) w = k5 (nI (fl a b c d e (f && kq5 S k))) (nI (k + 1)) w := by
  have h256 := two_le hN.2.1
  have hs := hN.2.2.1 k
  have := cntB8 (S k)
  unfold kq5
  by_cases q : cntB (S k) 8 ≤ 1
  · have q2 : nI (cntB (S k) 8) ≤ nI 1 := nI_le q (by decide)
    rw [decide_eq_true q, Bool.and_true]
    simp only [mX0_kinds_93, mX0_kinds_106, bc_eq w (show S k < 256 by omega), q2, cl_mk, nm_mk, pu_mk, lit, if_true, if_false, ne_eq, not_false_eq_true, not_true_eq_false, nI_add, nI_or, nI_and, Bool.false_eq_true, ne01, ne10, nI_m1', Nat.or_zero]
  · have q2 : ¬ nI (cntB (S k) 8) ≤ nI 1 := nI_ge (by omega) (by omega)
    rw [decide_eq_false q, Bool.and_false]
    simp only [mX0_kinds_93, mX0_kinds_106, bc_eq w (show S k < 256 by omega), q2, fx5, cl_mk, nm_mk, pu_mk, lit, if_true, if_false, ne_eq, not_false_eq_true, not_true_eq_false, nI_add, nI_or, nI_and, Bool.false_eq_true, ne01, ne10, nI_m1', Nat.or_zero]
theorem X_k80 (h : NetX w N S A) (hN : NetOK N S A) (a b c d e f : Bool) (k : Nat) : mX0_kinds_80 k5 (nI (fl a b c d e f)) (nI k) (nI (S k)) w = k5 (nI (fl a b c d (e && kq4 N S k) (f && kq5 S k))) (nI (k + 1)) w := by
  have e1 := X_each h hN (hN.2.2.1 k)
  unfold kq4
  cases q : seeEach N S (S k)
  · rw [q] at e1
    rw [Bool.and_false, ← X_k93 k5 hN]
    simp only [mX0_kinds_80, e1, bN_f, fx4, cl_mk, nm_mk, pu_mk, lit, if_true, if_false, ne_eq, not_false_eq_true, not_true_eq_false, nI_add, nI_or, nI_and, Bool.false_eq_true, ne01, ne10, nI_m1', Nat.or_zero]
  · rw [q] at e1
    rw [Bool.and_true, ← X_k93 k5 hN]
    simp only [mX0_kinds_80, e1, bN_t, cl_mk, nm_mk, pu_mk, lit, if_true, if_false, ne_eq, not_false_eq_true, not_true_eq_false, nI_add, nI_or, nI_and, Bool.false_eq_true, ne01, ne10, nI_m1', Nat.or_zero]
theorem X_k71 (h : NetX w N S A) (hN : NetOK N S A) (a b c d e f : Bool) (k : Nat) : mX0_kinds_71 k5 (nI (fl a b c d e f)) (nI k) (nI (S k)) w = k5 (nI (fl a b c (d && kq3 S k) (e && kq4 N S k) (f && kq5 S k))) (nI (k + 1)) w := by
  have h256 := two_le hN.2.1
  have hs := hN.2.2.1 k
  unfold kq3
  by_cases q : S k = 0
  · rw [decide_eq_false (fun z => z q), Bool.and_false, ← X_k80 k5 h hN]
    simp only [mX0_kinds_71, q, fx3, cl_mk, nm_mk, pu_mk, lit, if_true, if_false, ne_eq, not_false_eq_true, not_true_eq_false, nI_add, nI_or, nI_and, Bool.false_eq_true, ne01, ne10, nI_m1', Nat.or_zero]
  · have q2 : (nI (S k) = nI 0) = False := eq_false (fun z => q ((nI_eq (by omega) (by decide)).mp z))
    rw [decide_eq_true q, Bool.and_true, ← X_k80 k5 h hN]
    simp only [mX0_kinds_71, q2, cl_mk, nm_mk, pu_mk, lit, if_true, if_false, ne_eq, not_false_eq_true, not_true_eq_false, nI_add, nI_or, nI_and, Bool.false_eq_true, ne01, ne10, nI_m1', Nat.or_zero]
theorem X_k54 (h : NetX w N S A) (hN : NetOK N S A) (a b c d e f : Bool) (k : Nat) : mX0_kinds_54 k5 (nI (fl a b c d e f)) (nI k) (nI (S k)) w = k5 (nI (fl a b (c && kq2 N S k) (d && kq3 S k) (e && kq4 N S k) (f && kq5 S k))) (nI (k + 1)) w := by
  have h256 := two_le hN.2.1
  have h8 := hN.2.1
  have hs := hN.2.2.1 k
  have e1 := within_B (b := S k) w (stepF_lt (m := S k) hN.2.2.1) (show N ≤ 32 by omega)
  unfold kq2
  cases q : decide (sdiff (stepF N S (S k)) (S k) = 0)
  · rw [q] at e1
    rw [Bool.and_false, ← X_k71 k5 h hN]
    simp only [mX0_kinds_54, X_stepFrom h hN (show S k < 2 ^ 32 by omega), e1, bN_f, fx2, cl_mk, nm_mk, pu_mk, lit, if_true, if_false, ne_eq, not_false_eq_true, not_true_eq_false, nI_add, nI_or, nI_and, Bool.false_eq_true, ne01, ne10, nI_m1', Nat.or_zero]
  · rw [q] at e1
    rw [Bool.and_true, ← X_k71 k5 h hN]
    simp only [mX0_kinds_54, X_stepFrom h hN (show S k < 2 ^ 32 by omega), e1, bN_t, cl_mk, nm_mk, pu_mk, lit, if_true, if_false, ne_eq, not_false_eq_true, not_true_eq_false, nI_add, nI_or, nI_and, Bool.false_eq_true, ne01, ne10, nI_m1', Nat.or_zero]
theorem X_k35 (h : NetX w N S A) (hN : NetOK N S A) (a b c d e f : Bool) {k : Nat} (hk : k < N) : mX0_kinds_35 k5 (nI (fl a b c d e f)) (nI k) (nI (S k)) w = k5 (nI (fl a (b && kq1 N S k) (c && kq2 N S k) (d && kq3 S k) (e && kq4 N S k) (f && kq5 S k))) (nI (k + 1)) w := by
  have h256 := two_le hN.2.1
  have h8 := hN.2.1
  have hs := hN.2.2.1 k
  have hp := pow_lt_of hk
  have e1 := within_B (b := stepI N S (2 ^ k)) w hs (show N ≤ 32 by omega)
  unfold kq1
  cases q : decide (sdiff (S k) (stepI N S (2 ^ k)) = 0)
  · rw [q] at e1
    rw [Bool.and_false, ← X_k54 k5 h hN]
    simp only [mX0_kinds_35, one_shl (show k < 31 by omega), X_stepInto h hN (show 2 ^ k < 2 ^ 31 by omega), e1, bN_f, fx1, cl_mk, nm_mk, pu_mk, lit, if_true, if_false, ne_eq, not_false_eq_true, not_true_eq_false, nI_add, nI_or, nI_and, Bool.false_eq_true, ne01, ne10, nI_m1', Nat.or_zero]
  · rw [q] at e1
    rw [Bool.and_true, ← X_k54 k5 h hN]
    simp only [mX0_kinds_35, one_shl (show k < 31 by omega), X_stepInto h hN (show 2 ^ k < 2 ^ 31 by omega), e1, bN_t, cl_mk, nm_mk, pu_mk, lit, if_true, if_false, ne_eq, not_false_eq_true, not_true_eq_false, nI_add, nI_or, nI_and, Bool.false_eq_true, ne01, ne10, nI_m1', Nat.or_zero]
theorem X_kinds (h : NetX w N S A) (hN : NetOK N S A) : mX0_kinds w = some (nI (fl (allT (kq0 S) N) (allT (kq1 N S) N) (allT (kq2 N S) N) (allT (kq3 S) N) (allT (kq4 N S) N) (allT (kq5 S) N)), w) := by
  have h8 := hN.2.1
  have h256 := two_le h8
  unfold mX0_kinds
  have e := loopE (fun n (s : Int32 × Int32) => mX0_kinds_5 n s.1 s.2 w) N (fun k => (nI (fl (allT (kq0 S) k) (allT (kq1 N S) k) (allT (kq2 N S) k) (allT (kq3 S) k) (allT (kq4 N S) k) (allT (kq5 S) k)), nI k)) (some (nI (fl (allT (kq0 S) N) (allT (kq1 N S) N) (allT (kq2 N S) N) (allT (kq3 S) N) (allT (kq4 N S) N) (allT (kq5 S) N)), w)) ?_ ?_ FU 0 (Nat.zero_le _) (FU_gt (by omega))
  · exact e
  · intro n k hk
    have c1 : ¬ nI N ≤ nI k := nI_ge hk (by omega)
    have hs := hN.2.2.1 k
    cases q : (S k).testBit k
    · have q0 : kq0 S k = false := q
      simp only [mX0_kinds_5, h.1, c1, sees_at h (show k < 8 by omega), bit_f w (show S k < 2 ^ 32 by omega) (show k < 32 by omega) q, fx0, X_k35 _ h hN _ _ _ _ _ _ hk, allT, q0, Bool.and_false, cl_mk, nm_mk, pu_mk, lit, if_true, if_false, ne_eq, not_false_eq_true, not_true_eq_false, nI_add, nI_or, nI_and, Bool.false_eq_true, ne01, ne10, nI_m1', Nat.or_zero]
    · have q0 : kq0 S k = true := q
      simp only [mX0_kinds_5, h.1, c1, sees_at h (show k < 8 by omega), bit_t w (show S k < 2 ^ 32 by omega) (show k < 32 by omega) q, X_k35 _ h hN _ _ _ _ _ _ hk, allT, q0, Bool.and_true, cl_mk, nm_mk, pu_mk, lit, if_true, if_false, ne_eq, not_false_eq_true, not_true_eq_false, nI_add, nI_or, nI_and, Bool.false_eq_true, ne01, ne10, nI_m1', Nat.or_zero]
  · intro n
    have c1 : nI N ≤ nI N := nI_le (Nat.le_refl N) (by omega)
    simp only [mX0_kinds_5, h.1, c1, cl_mk, nm_mk, pu_mk, lit, if_true, if_false, ne_eq, not_false_eq_true, not_true_eq_false, nI_add, nI_or, nI_and, Bool.false_eq_true, ne01, ne10, nI_m1', Nat.or_zero]
end KD
end
section
/-! the model's sorts -/
section KM2
variable {w : AW} {N : Nat} {S A : Nat → Nat}
def r1 (S : Nat → Nat) (k j : Nat) : Bool := !(S k).testBit j || (S j).testBit k
def r2 (S : Nat → Nat) (k j : Nat) : Bool := !(S k).testBit j || decide (sdiff (S j) (S k) = 0)
def r4 (S : Nat → Nat) (k j : Nat) : Bool := !(S k).testBit j || decide (sdiff (S k) (S j) = 0)
theorem M_s86 (h : NetM w N S A) (hN : NetOK N S A) (a b c d e f : Bool) {k : Nat} (hk : k < N) (k10 : Int32 → Int32 → AW → Option (Int32 × AW)) : mX6_sorts_86 k10 (nI k) FU (nI (fl a b c d e f)) (nI 0) w = k10 (nI (fl a (b && allT (r1 S k) N) (c && allT (r2 S k) N) d (e && allT (r4 S k) N) f)) (nI (k + 1)) w := by
  have h8 := hN.2.1
  have h256 := two_le h8
  have hs := hN.2.2.1 k
  have e0 := loopE (fun n (s : Int32 × Int32) => mX6_sorts_86 k10 (nI k) n s.1 s.2 w) N (fun j => (nI (fl a (b && allT (r1 S k) j) (c && allT (r2 S k) j) d (e && allT (r4 S k) j) f), nI j)) (k10 (nI (fl a (b && allT (r1 S k) N) (c && allT (r2 S k) N) d (e && allT (r4 S k) N) f)) (nI (k + 1)) w) ?_ ?_ FU 0 (Nat.zero_le _) (FU_gt (by omega))
  · simpa only [allT, Bool.and_true] using e0
  · intro n j hj
    have c1 : ¬ nI N ≤ nI j := nI_ge hj (by omega)
    have hsj := hN.2.2.1 j
    cases q : (S k).testBit j
    · have q1 : r1 S k j = true := by unfold r1; rw [q]; rfl
      have q2 : r2 S k j = true := by unfold r2; rw [q]; rfl
      have q4 : r4 S k j = true := by unfold r4; rw [q]; rfl
      simp only [mX6_sorts_86, mX6_sorts_188, h.1, c1, M_row h (show k < 8 by omega), shr_f (show j < 32 by omega) (show S k < 2 ^ 31 by omega) q, allT, q1, q2, q4, Bool.and_true, cl_mk, nm_mk, pu_mk, lit, if_true, if_false, ne_eq, not_false_eq_true, not_true_eq_false, nI_add, nI_or, nI_and, Bool.false_eq_true, ne01, ne10, nI_m1', Nat.or_zero]
    · have z2 : ∀ a b : Nat, a < 2 ^ N → ((nI (a &&& (b ^^^ 4294967295)) = nI 0) ↔ sdiff a b = 0) := fun a b ha => nI_eq (Nat.lt_of_le_of_lt Nat.and_le_left (by omega)) (by decide)
      have t2 := z2 (S j) (S k) hsj
      have t4 := z2 (S k) (S j) hs
      have g1 : r1 S k j = (S j).testBit k := by unfold r1; rw [q]; rfl
      have g2 : r2 S k j = decide (sdiff (S j) (S k) = 0) := by unfold r2; rw [q]; rfl
      have g4 : r4 S k j = decide (sdiff (S k) (S j) = 0) := by unfold r4; rw [q]; rfl
      generalize hb : (b && allT (r1 S k) j) = b1
      generalize hc : (c && allT (r2 S k) j) = c2
      generalize he : (e && allT (r4 S k) j) = e4
      have hb' : (b && allT (r1 S k) (j + 1)) = (b1 && (S j).testBit k) := by rw [← hb, Bool.and_assoc, ← g1]; rfl
      have hc' : (c && allT (r2 S k) (j + 1)) = (c2 && decide (sdiff (S j) (S k) = 0)) := by rw [← hc, Bool.and_assoc, ← g2]; rfl
      have he' : (e && allT (r4 S k) (j + 1)) = (e4 && decide (sdiff (S k) (S j) = 0)) := by rw [← he, Bool.and_assoc, ← g4]; rfl
      rw [hb', hc', he']
      have st : ∀ (b0 : Bool), mX6_sorts_158 k10 (mX6_sorts_86 k10 (nI k) n) (nI k) (nI j) (nI 63) (nI (fl a b0 c2 d e4 f)) w = mX6_sorts_86 k10 (nI k) n (nI (fl a b0 c2 d (e4 && decide (sdiff (S k) (S j) = 0)) f)) (nI (j + 1)) w ∧ mX6_sorts_158 k10 (mX6_sorts_86 k10 (nI k) n) (nI k) (nI j) (nI 59) (nI (fl a b0 c2 d e4 f)) w = mX6_sorts_86 k10 (nI k) n (nI (fl a b0 false d (e4 && decide (sdiff (S k) (S j) = 0)) f)) (nI (j + 1)) w := by
        intro b0
        by_cases p4 : sdiff (S k) (S j) = 0
        · have p5 : (nI (S k &&& (S j ^^^ 4294967295)) = nI 0) = True := eq_true (t4.mpr p4)
          rw [decide_eq_true p4, Bool.and_true]
          constructor
          · simp only [mX6_sorts_158, mX6_sorts_186, mX6_sorts_188, M_row h (show k < 8 by omega), M_row h (show j < 8 by omega), nI_xor, p5, kfm, cl_mk, nm_mk, pu_mk, lit, if_true, if_false, ne_eq, not_false_eq_true, not_true_eq_false, nI_add, nI_or, nI_and, Bool.false_eq_true, ne01, ne10, nI_m1', Nat.or_zero]
          · simp only [mX6_sorts_158, mX6_sorts_186, mX6_sorts_188, M_row h (show k < 8 by omega), M_row h (show j < 8 by omega), nI_xor, p5, kfm, kfm2, cl_mk, nm_mk, pu_mk, lit, if_true, if_false, ne_eq, not_false_eq_true, not_true_eq_false, nI_add, nI_or, nI_and, Bool.false_eq_true, ne01, ne10, nI_m1', Nat.or_zero]
        · have p5 : (nI (S k &&& (S j ^^^ 4294967295)) = nI 0) = False := eq_false (fun x => p4 (t4.mp x))
          rw [decide_eq_false p4, Bool.and_false]
          constructor
          · simp only [mX6_sorts_158, mX6_sorts_186, mX6_sorts_188, M_row h (show k < 8 by omega), M_row h (show j < 8 by omega), nI_xor, p5, kfm, kfm4, cl_mk, nm_mk, pu_mk, lit, if_true, if_false, ne_eq, not_false_eq_true, not_true_eq_false, nI_add, nI_or, nI_and, Bool.false_eq_true, ne01, ne10, nI_m1', Nat.or_zero]
          · simp only [mX6_sorts_158, mX6_sorts_186, mX6_sorts_188, M_row h (show k < 8 by omega), M_row h (show j < 8 by omega), nI_xor, p5, kfm, kfm2, kfm4, cl_mk, nm_mk, pu_mk, lit, if_true, if_false, ne_eq, not_false_eq_true, not_true_eq_false, nI_add, nI_or, nI_and, Bool.false_eq_true, ne01, ne10, nI_m1', Nat.or_zero]
      have st2 : mX6_sorts_130 k10 (mX6_sorts_86 k10 (nI k) n) (nI k) (nI j) (nI 63) (nI (fl a b1 c2 d e4 f)) w = mX6_sorts_86 k10 (nI k) n (nI (fl a b1 (c2 && decide (sdiff (S j) (S k) = 0)) d (e4 && decide (sdiff (S k) (S j) = 0)) f)) (nI (j + 1)) w ∧ mX6_sorts_130 k10 (mX6_sorts_86 k10 (nI k) n) (nI k) (nI j) (nI 61) (nI (fl a b1 c2 d e4 f)) w = mX6_sorts_86 k10 (nI k) n (nI (fl a false (c2 && decide (sdiff (S j) (S k) = 0)) d (e4 && decide (sdiff (S k) (S j) = 0)) f)) (nI (j + 1)) w := by
        by_cases p2 : sdiff (S j) (S k) = 0
        · have p5 : (nI (S j &&& (S k ^^^ 4294967295)) = nI 0) = True := eq_true (t2.mpr p2)
          rw [decide_eq_true p2, Bool.and_true]
          constructor
          · rw [← (st b1).1]
            simp only [mX6_sorts_130, M_row h (show k < 8 by omega), M_row h (show j < 8 by omega), nI_xor, p5, kfm, cl_mk, nm_mk, pu_mk, lit, if_true, if_false, ne_eq, not_false_eq_true, not_true_eq_false, nI_add, nI_or, nI_and, Bool.false_eq_true, ne01, ne10, nI_m1', Nat.or_zero]
          · rw [← (st false).1]
            simp only [mX6_sorts_130, M_row h (show k < 8 by omega), M_row h (show j < 8 by omega), nI_xor, p5, kfm1, cl_mk, nm_mk, pu_mk, lit, if_true, if_false, ne_eq, not_false_eq_true, not_true_eq_false, nI_add, nI_or, nI_and, Bool.false_eq_true, ne01, ne10, nI_m1', Nat.or_zero]
        · have p5 : (nI (S j &&& (S k ^^^ 4294967295)) = nI 0) = False := eq_false (fun x => p2 (t2.mp x))
          rw [decide_eq_false p2, Bool.and_false]
          constructor
          · rw [← (st b1).2]
            simp only [mX6_sorts_130, M_row h (show k < 8 by omega), M_row h (show j < 8 by omega), nI_xor, p5, kfm, cl_mk, nm_mk, pu_mk, lit, if_true, if_false, ne_eq, not_false_eq_true, not_true_eq_false, nI_add, nI_or, nI_and, Bool.false_eq_true, ne01, ne10, nI_m1', Nat.or_zero]
          · rw [← (st false).2]
            simp only [mX6_sorts_130, M_row h (show k < 8 by omega), M_row h (show j < 8 by omega), nI_xor, p5, kfm1, cl_mk, nm_mk, pu_mk, lit, if_true, if_false, ne_eq, not_false_eq_true, not_true_eq_false, nI_add, nI_or, nI_and, Bool.false_eq_true, ne01, ne10, nI_m1', Nat.or_zero]
      cases p1 : (S j).testBit k
      · rw [Bool.and_false, ← st2.2]
        simp only [mX6_sorts_86, h.1, c1, M_row h (show k < 8 by omega), M_row h (show j < 8 by omega), shr_t (show j < 32 by omega) (show S k < 2 ^ 31 by omega) q, shr_f (show k < 32 by omega) (show S j < 2 ^ 31 by omega) p1, cl_mk, nm_mk, pu_mk, lit, if_true, if_false, ne_eq, not_false_eq_true, not_true_eq_false, nI_add, nI_or, nI_and, Bool.false_eq_true, ne01, ne10, nI_m1', Nat.or_zero]
      · rw [Bool.and_true, ← st2.1]
        simp only [mX6_sorts_86, h.1, c1, M_row h (show k < 8 by omega), M_row h (show j < 8 by omega), shr_t (show j < 32 by omega) (show S k < 2 ^ 31 by omega) q, shr_t (show k < 32 by omega) (show S j < 2 ^ 31 by omega) p1, cl_mk, nm_mk, pu_mk, lit, if_true, if_false, ne_eq, not_false_eq_true, not_true_eq_false, nI_add, nI_or, nI_and, Bool.false_eq_true, ne01, ne10, nI_m1', Nat.or_zero]
  · intro n
    have c1 : nI N ≤ nI N := nI_le (Nat.le_refl N) (by omega)
    simp only [mX6_sorts_86, h.1, c1, cl_mk, nm_mk, pu_mk, lit, if_true, if_false, ne_eq, not_false_eq_true, not_true_eq_false, nI_add, nI_or, nI_and, Bool.false_eq_true, ne01, ne10, nI_m1', Nat.or_zero]
end KM2
end
section
/-! sorts: both alike -/
section SE
variable {w : AW} {N : Nat} {S A : Nat → Nat}
theorem M_s82 (h : NetM w N S A) (hN : NetOK N S A) (a b c d e f : Bool) {k : Nat} (hk : k < N) (k10 : Int32 → Int32 → AW → Option (Int32 × AW)) (g : Bool) : mX6_sorts_82 k10 (nI k) (nI (if g = true then 63 else 31)) (nI (fl a b c d e f)) w = k10 (nI (fl a (b && allT (r1 S k) N) (c && allT (r2 S k) N) d (e && allT (r4 S k) N) (f && g))) (nI (k + 1)) w := by
  cases g
  · rw [Bool.and_false, ← M_s86 h hN a b c d e false hk k10]
    simp only [mX6_sorts_82, kfm5, cl_mk, nm_mk, pu_mk, lit, if_true, if_false, ne_eq, not_false_eq_true, not_true_eq_false, nI_add, nI_or, nI_and, Bool.false_eq_true, ne01, ne10, nI_m1', Nat.or_zero]
  · rw [Bool.and_true, ← M_s86 h hN a b c d e f hk k10]
    simp only [mX6_sorts_82, kfm, cl_mk, nm_mk, pu_mk, lit, if_true, if_false, ne_eq, not_false_eq_true, not_true_eq_false, nI_add, nI_or, nI_and, Bool.false_eq_true, ne01, ne10, nI_m1', Nat.or_zero]
theorem M_s59 (h : NetM w N S A) (hN : NetOK N S A) (a b c d e f : Bool) {k : Nat} (hk : k < N) (k10 : Int32 → Int32 → AW → Option (Int32 × AW)) (g : Bool) : mX6_sorts_59 k10 (nI k) (nI (if g = true then 63 else 55)) (nI (fl a b c d e f)) w = k10 (nI (fl a (b && allT (r1 S k) N) (c && allT (r2 S k) N) (d && g) (e && allT (r4 S k) N) (f && kq5 S k))) (nI (k + 1)) w := by
  have h8 := hN.2.1
  have h256 := two_le h8
  have hs := hN.2.2.1 k
  have hc := cntB8 (S k)
  have t1 : (decide (cntB (S k) 8 ≤ 1)) = kq5 S k := rfl
  by_cases q : cntB (S k) 8 ≤ 1
  · have q2 : ¬ nI 2 ≤ nI (cntB (S k) 8) := nI_ge (by omega) (by decide)
    have q5 : kq5 S k = true := by rw [← t1, decide_eq_true q]
    rw [q5]
    cases g
    · rw [Bool.and_false, ← M_s82 h hN a b c false e f hk k10 true]
      simp only [mX6_sorts_59, kfm3, M_row h (show k < 8 by omega), M_ones w (show S k < 256 by omega), q2, cl_mk, nm_mk, pu_mk, lit, if_true, if_false, ne_eq, not_false_eq_true, not_true_eq_false, nI_add, nI_or, nI_and, Bool.false_eq_true, ne01, ne10, nI_m1', Nat.or_zero]
    · rw [Bool.and_true d, ← M_s82 h hN a b c d e f hk k10 true]
      simp only [mX6_sorts_59, kfm, M_row h (show k < 8 by omega), M_ones w (show S k < 256 by omega), q2, cl_mk, nm_mk, pu_mk, lit, if_true, if_false, ne_eq, not_false_eq_true, not_true_eq_false, nI_add, nI_or, nI_and, Bool.false_eq_true, ne01, ne10, nI_m1', Nat.or_zero]
  · have q2 : nI 2 ≤ nI (cntB (S k) 8) := nI_le (by omega) (by omega)
    have q5 : kq5 S k = false := by rw [← t1, decide_eq_false q]
    rw [q5]
    cases g
    · rw [Bool.and_false d, ← M_s82 h hN a b c false e f hk k10 false]
      simp only [mX6_sorts_59, kfm3, M_row h (show k < 8 by omega), M_ones w (show S k < 256 by omega), q2, cl_mk, nm_mk, pu_mk, lit, if_true, if_false, ne_eq, not_false_eq_true, not_true_eq_false, nI_add, nI_or, nI_and, Bool.false_eq_true, ne01, ne10, nI_m1', Nat.or_zero]
    · rw [Bool.and_true, ← M_s82 h hN a b c d e f hk k10 false]
      simp only [mX6_sorts_59, kfm, M_row h (show k < 8 by omega), M_ones w (show S k < 256 by omega), q2, cl_mk, nm_mk, pu_mk, lit, if_true, if_false, ne_eq, not_false_eq_true, not_true_eq_false, nI_add, nI_or, nI_and, Bool.false_eq_true, ne01, ne10, nI_m1', Nat.or_zero]
theorem M_s40 (h : NetM w N S A) (hN : NetOK N S A) (a b c d e f : Bool) {k : Nat} (hk : k < N) (k10 : Int32 → Int32 → AW → Option (Int32 × AW)) (g : Bool) : mX6_sorts_40 k10 (nI k) (nI (if g = true then 63 else 62)) (nI (fl a b c d e f)) w = k10 (nI (fl (a && g) (b && allT (r1 S k) N) (c && allT (r2 S k) N) (d && kq3 S k) (e && allT (r4 S k) N) (f && kq5 S k))) (nI (k + 1)) w := by
  have h8 := hN.2.1
  have h256 := two_le h8
  have hs := hN.2.2.1 k
  by_cases q : S k = 0
  · have q3 : kq3 S k = false := decide_eq_false (fun z => z q)
    have q2 : (nI (S k) = nI 0) = True := eq_true (by rw [q])
    rw [q3]
    cases g
    · rw [Bool.and_false a, ← M_s59 h hN false b c d e f hk k10 false]
      simp only [mX6_sorts_40, kfm0, M_row h (show k < 8 by omega), q2, cl_mk, nm_mk, pu_mk, lit, if_true, if_false, ne_eq, not_false_eq_true, not_true_eq_false, nI_add, nI_or, nI_and, Bool.false_eq_true, ne01, ne10, nI_m1', Nat.or_zero]
    · rw [Bool.and_true, ← M_s59 h hN a b c d e f hk k10 false]
      simp only [mX6_sorts_40, kfm, M_row h (show k < 8 by omega), q2, cl_mk, nm_mk, pu_mk, lit, if_true, if_false, ne_eq, not_false_eq_true, not_true_eq_false, nI_add, nI_or, nI_and, Bool.false_eq_true, ne01, ne10, nI_m1', Nat.or_zero]
  · have q3 : kq3 S k = true := decide_eq_true q
    have q2 : (nI (S k) = nI 0) = False := eq_false (fun z => q ((nI_eq (by omega) (by decide)).mp z))
    rw [q3]
    cases g
    · rw [Bool.and_false, ← M_s59 h hN false b c d e f hk k10 true]
      simp only [mX6_sorts_40, kfm0, M_row h (show k < 8 by omega), q2, cl_mk, nm_mk, pu_mk, lit, if_true, if_false, ne_eq, not_false_eq_true, not_true_eq_false, nI_add, nI_or, nI_and, Bool.false_eq_true, ne01, ne10, nI_m1', Nat.or_zero]
    · rw [Bool.and_true a, ← M_s59 h hN a b c d e f hk k10 true]
      simp only [mX6_sorts_40, kfm, M_row h (show k < 8 by omega), q2, cl_mk, nm_mk, pu_mk, lit, if_true, if_false, ne_eq, not_false_eq_true, not_true_eq_false, nI_add, nI_or, nI_and, Bool.false_eq_true, ne01, ne10, nI_m1', Nat.or_zero]
theorem M_sorts10 (h : NetM w N S A) (hN : NetOK N S A) : mX6_sorts_10 FU (nI 63) (nI 0) w = some (nI (fl (allT (kq0 S) N) (allT (fun k => allT (r1 S k) N) N) (allT (fun k => allT (r2 S k) N) N) (allT (kq3 S) N) (allT (fun k => allT (r4 S k) N) N) (allT (kq5 S) N)), w) := by
  have h8 := hN.2.1
  have h256 := two_le h8
  have e := loopE (fun n (s : Int32 × Int32) => mX6_sorts_10 n s.1 s.2 w) N (fun k => (nI (fl (allT (kq0 S) k) (allT (fun k => allT (r1 S k) N) k) (allT (fun k => allT (r2 S k) N) k) (allT (kq3 S) k) (allT (fun k => allT (r4 S k) N) k) (allT (kq5 S) k)), nI k)) (some (nI (fl (allT (kq0 S) N) (allT (fun k => allT (r1 S k) N) N) (allT (fun k => allT (r2 S k) N) N) (allT (kq3 S) N) (allT (fun k => allT (r4 S k) N) N) (allT (kq5 S) N)), w)) ?_ ?_ FU 0 (Nat.zero_le _) (FU_gt (by omega))
  · exact e
  · intro n k hk
    have c1 : ¬ nI N ≤ nI k := nI_ge hk (by omega)
    have hs := hN.2.2.1 k
    cases q : (S k).testBit k
    · have q0 : kq0 S k = false := q
      have := M_s40 h hN (allT (kq0 S) k) (allT (fun k => allT (r1 S k) N) k) (allT (fun k => allT (r2 S k) N) k) (allT (kq3 S) k) (allT (fun k => allT (r4 S k) N) k) (allT (kq5 S) k) hk (mX6_sorts_10 n) false
      simp only [Bool.false_eq_true, if_false] at this
      simp only [mX6_sorts_10, h.1, c1, M_row h (show k < 8 by omega), shr_f (show k < 32 by omega) (show S k < 2 ^ 31 by omega) q, this, allT, q0, cl_mk, nm_mk, pu_mk, lit, if_true, if_false, ne_eq, not_false_eq_true, not_true_eq_false, nI_add, nI_or, nI_and, Bool.false_eq_true, ne01, ne10, nI_m1', Nat.or_zero]
    · have q0 : kq0 S k = true := q
      have := M_s40 h hN (allT (kq0 S) k) (allT (fun k => allT (r1 S k) N) k) (allT (fun k => allT (r2 S k) N) k) (allT (kq3 S) k) (allT (fun k => allT (r4 S k) N) k) (allT (kq5 S) k) hk (mX6_sorts_10 n) true
      simp only [if_true] at this
      simp only [mX6_sorts_10, h.1, c1, M_row h (show k < 8 by omega), shr_t (show k < 32 by omega) (show S k < 2 ^ 31 by omega) q, this, allT, q0, cl_mk, nm_mk, pu_mk, lit, if_true, if_false, ne_eq, not_false_eq_true, not_true_eq_false, nI_add, nI_or, nI_and, Bool.false_eq_true, ne01, ne10, nI_m1', Nat.or_zero]
  · intro n
    have c1 : nI N ≤ nI N := nI_le (Nat.le_refl N) (by omega)
    simp only [mX6_sorts_10, h.1, c1, cl_mk, nm_mk, pu_mk, lit, if_true, if_false, ne_eq, not_false_eq_true, not_true_eq_false, nI_add, nI_or, nI_and, Bool.false_eq_true, ne01, ne10, nI_m1', Nat.or_zero]
theorem allT_congr {p q : Nat → Bool} {n : Nat} (h : ∀ k, k < n → p k = q k) : allT p n = allT q n := by
  induction n with
  | zero => rfl
  | succ n ih => simp only [allT, ih (fun k hk => h k (by omega)), h n (by omega)]
theorem kq1_eq (hN : NetOK N S A) {k : Nat} (hk : k < N) : allT (r1 S k) N = kq1 N S k := by
  have h8 := hN.2.1
  rw [Bool.eq_iff_iff]
  unfold kq1
  rw [decide_eq_true_eq, sub_iff (hN.2.2.1 k) (by omega), allT_iff]
  constructor
  · intro h j hj
    have hjN : j < N := by
      rcases Nat.lt_or_ge j N with q | q
      · exact q
      · rw [bits_of_lt (hN.2.2.1 k) q] at hj; cases hj
    have := h j hjN
    unfold r1 at this
    rw [hj] at this
    exact tb_stepI.mpr ⟨hjN, k, this, by rw [tb_pow, decide_eq_true_eq]⟩
  · intro h j hj
    unfold r1
    cases q : (S k).testBit j
    · rfl
    · obtain ⟨_, x, h1, h2⟩ := tb_stepI.mp (h j q)
      rw [tb_pow, decide_eq_true_eq] at h2
      subst h2
      rw [h1]
      rfl
theorem kq2_eq (hN : NetOK N S A) {k : Nat} : allT (r2 S k) N = kq2 N S k := by
  have h8 := hN.2.1
  rw [Bool.eq_iff_iff]
  unfold kq2
  rw [decide_eq_true_eq, sub_iff (stepF_lt hN.2.2.1) (by omega), allT_iff]
  constructor
  · intro h j hj
    obtain ⟨x, h1, h2, h3⟩ := tb_stepF.mp hj
    have := h x h1
    unfold r2 at this
    rw [h2] at this
    simp only [Bool.not_true, Bool.false_or, decide_eq_true_eq] at this
    exact (sub_iff (hN.2.2.1 x) (by omega)).mp this j h3
  · intro h j hj
    unfold r2
    cases q : (S k).testBit j
    · rfl
    · simp only [Bool.not_true, Bool.false_or, decide_eq_true_eq]
      rw [sub_iff (hN.2.2.1 j) (by omega)]
      intro x hx
      exact h x (tb_stepF.mpr ⟨j, hj, q, hx⟩)
end SE
theorem pub_sorts : Pub_sorts Rel := by
  rintro wX wM ⟨N, S, A, T, y, D, h⟩
  have hR := h
  obtain ⟨hN, hX, hM, hT, h2, hS, h12⟩ := h
  have hM0 : NetM (am_set wM 0 0 0 (nI 0)) N S A := hM.k (KM0 wM)
  have e1 := X_kinds hX hN
  have e2 := M_sorts10 hM0 hN
  rw [allT_congr (fun k hk => kq1_eq hN hk), allT_congr (fun k _ => kq2_eq (k := k) hN), show allT (fun k => allT (r4 S k) N) N = allT (kq4 N S) N from rfl] at e2
  refine pub_same hR (nI (fl (allT (kq0 S) N) (allT (kq1 N S) N) (allT (kq2 N S) N) (allT (kq3 S) N) (allT (kq4 N S) N) (allT (kq5 S) N))) ?_ ?_ (KX.rf _) (KM0 wM)
  · simp only [mX5_sorts, e1, cl_mk, nm_mk, pu_mk, lit, if_true, if_false, ne_eq, not_false_eq_true, not_true_eq_false, nI_add, nI_or, nI_and, Bool.false_eq_true, ne01, ne10, nI_m1', Nat.or_zero]
  · simp only [mX6_sorts, cl_mk, nm_mk, pu_mk, lit, if_true, if_false, ne_eq, not_false_eq_true, not_true_eq_false, nI_add, nI_or, nI_and, Bool.false_eq_true, ne01, ne10, nI_m1', Nat.or_zero]
    exact e2
end
section
/-! a net as one sort sees it -/
section LK
variable {w : AW} {N : Nat} {S A : Nat → Nat}
theorem aL_2_1 : am_aL false 2 1 = 8 := rfl
theorem aL_2_3 : am_aL false 2 3 = 8 := rfl
theorem aL_2_4 : am_aL false 2 4 = 8 := rfl
def lookX (w : AW) (N : Nat) (S : Nat → Nat) (sort : Nat) (k : Nat) : AW := setRow (am_set w 2 0 4 (nI N)) 2 1 (fun k => nI (seenS N S sort k)) k
theorem lookX_K (w : AW) (N : Nat) (S : Nat → Nat) (sort : Nat) : ∀ k, KX w (lookX w N S sort k)
  | 0 => (KX.rf w).set (Or.inl ⟨by decide, by decide⟩)
  | k + 1 => (lookX_K w N S sort k).set (Or.inl ⟨by decide, by decide⟩)
theorem X_look (h : NetX w N S A) (hN : NetOK N S A) {sort : Nat} (hs : sort < 4) : mX4_look (nI sort) w = some ((), lookX w N S sort N) := by
  have h8 := hN.2.1
  simp only [mX4_look, X_size h, cl_mk, nm_mk, pu_mk, lit, if_true, if_false, ne_eq, not_false_eq_true, not_true_eq_false, nI_add, nI_or, nI_and, Bool.false_eq_true, ne01, ne10, nI_m1', Nat.or_zero]
  refine loopE (fun n (s : Int32 × AW) => mX4_look_10 (nI sort) n s.1 s.2) N (fun k => (nI k, lookX w N S sort k)) _ ?_ ?_ FU 0 (Nat.zero_le _) (FU_gt (by omega))
  · intro n k hk
    have c1 : ¬ nI N ≤ nI k := nI_ge hk (by omega)
    have hK := lookX_K w N S sort k
    have e0 : (lookX w N S sort k).1 2 0 4 = nI N := by
      unfold lookX
      rw [setRow_row (by decide)]
      exact am_get_self _ _ _ _ _
    have e1 := X_seenBy (h.k hK) hN hs hk
    have e2 : ∀ x, mX5_put 2 1 (nI k) x (lookX w N S sort k) = some ((), am_set (lookX w N S sort k) 2 1 k x) := fun x => put_in _ (by rw [aL_2_1]; omega) (by rw [aL_2_1]; decide)
    simp only [mX4_look_10, e0, c1, e1, e2, cl_mk, nm_mk, pu_mk, lit, if_true, if_false, ne_eq, not_false_eq_true, not_true_eq_false, nI_add, nI_or, nI_and, Bool.false_eq_true, ne01, ne10, nI_m1', Nat.or_zero]
    rfl
  · intro n
    have c1 : nI N ≤ nI N := nI_le (Nat.le_refl N) (by omega)
    have e0 : (lookX w N S sort N).1 2 0 4 = nI N := by
      unfold lookX
      rw [setRow_row (by decide)]
      exact am_get_self _ _ _ _ _
    simp only [mX4_look_10, e0, c1, cl_mk, nm_mk, pu_mk, lit, if_true, if_false, ne_eq, not_false_eq_true, not_true_eq_false, nI_add, nI_or, nI_and, Bool.false_eq_true, ne01, ne10, nI_m1', Nat.or_zero]
def lookM (w : AW) (N : Nat) (S : Nat → Nat) (sort : Nat) (k : Nat) : AW := setRow w 0 47 (fun k => nI (seenS N S sort k)) k
theorem lookM_K (w : AW) (N : Nat) (S : Nat → Nat) (sort : Nat) : ∀ k, KM w (lookM w N S sort k)
  | 0 => KM.rf w
  | k + 1 => (lookM_K w N S sort k).set (Or.inl (by decide))
theorem M_looks (h : NetM w N S A) (hN : NetOK N S A) {sort : Nat} (hs : sort < 4) : mX6_looks (nI sort) w = some ((), lookM w N S sort N) := by
  have h8 := hN.2.1
  unfold mX6_looks
  refine loopE (fun n (s : Int32 × AW) => mX6_looks_2 (nI sort) n s.1 s.2) N (fun k => (nI k, lookM w N S sort k)) _ ?_ ?_ FU 0 (Nat.zero_le _) (FU_gt (by omega))
  · intro n k hk
    have c1 : ¬ nI N ≤ nI k := nI_ge hk (by omega)
    have hM := h.k (lookM_K w N S sort k)
    have e1 := M_seenOf hM hN hs hk
    simp only [mX6_looks_2, hM.1, c1, e1, wr_in (show k < 8 by omega) (show 8 < 2 ^ 31 by decide), cl_mk, nm_mk, pu_mk, lit, if_true, if_false, ne_eq, not_false_eq_true, not_true_eq_false, nI_add, nI_or, nI_and, Bool.false_eq_true, ne01, ne10, nI_m1', Nat.or_zero]
    rfl
  · intro n
    have hM := h.k (lookM_K w N S sort N)
    have c1 : nI N ≤ nI N := nI_le (Nat.le_refl N) (by omega)
    simp only [mX6_looks_2, hM.1, c1, cl_mk, nm_mk, pu_mk, lit, if_true, if_false, ne_eq, not_false_eq_true, not_true_eq_false, nI_add, nI_or, nI_and, Bool.false_eq_true, ne01, ne10, nI_m1', Nat.or_zero]
end LK
/-- the view looks at a net by rows Fr -/
def ViewX (w : AW) (N : Nat) (Fr : Nat → Nat) : Prop := w.1 2 0 4 = nI N ∧ ∀ k, k < N → w.1 2 1 k = nI (Fr k)
def ViewM (w : AW) (N : Nat) (Fr : Nat → Nat) : Prop := ∀ k, k < N → w.1 0 47 k = nI (Fr k)
theorem lookX_V (w : AW) (N : Nat) (S : Nat → Nat) (sort : Nat) : ViewX (lookX w N S sort N) N (seenS N S sort) := by
  refine ⟨?_, fun k hk => ?_⟩
  · unfold lookX
    rw [setRow_row (by decide)]
    exact am_get_self _ _ _ _ _
  · exact setRow_in N hk
theorem lookM_V (w : AW) (N : Nat) (S : Nat → Nat) (sort : Nat) : ViewM (lookM w N S sort N) N (seenS N S sort) := fun k hk => setRow_in N hk
end
section
/-! worlds alike, by rounds: er r a b; no order of names in it -/
def e0 (A : Nat → Nat) (a b : Nat) : Bool := allT (fun i => (A i).testBit a == (A i).testBit b) 4
def exB (q : Nat → Bool) : Nat → Bool
  | 0 => false
  | n + 1 => exB q n || q n
theorem exB_iff {q : Nat → Bool} {n : Nat} : exB q n = true ↔ ∃ k, k < n ∧ q k = true := by
  induction n with
  | zero => exact ⟨(fun h => by cases h), (fun ⟨k, hk, _⟩ => by omega)⟩
  | succ n ih =>
    simp only [exB, Bool.or_eq_true, ih]
    constructor
    · rintro (⟨k, h1, h2⟩ | h)
      · exact ⟨k, by omega, h2⟩
      · exact ⟨n, by omega, h⟩
    · rintro ⟨k, h1, h2⟩
      by_cases e : k = n
      · subst e; exact Or.inr h2
      · exact Or.inl ⟨k, by omega, h2⟩
/-- each one seen from a has one alike seen from b -/
def goB (N : Nat) (Fr : Nat → Nat) (E : Nat → Nat → Bool) (a b : Nat) : Bool := allT (fun v => !(Fr a).testBit v || exB (fun u => (Fr b).testBit u && E v u) N) N
def er (N : Nat) (Fr A : Nat → Nat) : Nat → Nat → Nat → Bool
  | 0 => e0 A
  | r + 1 => fun a b => er N Fr A r a b && (goB N Fr (er N Fr A r) a b && goB N Fr (er N Fr A r) b a)
theorem goB_iff {N : Nat} {Fr : Nat → Nat} {E : Nat → Nat → Bool} {a b : Nat} : goB N Fr E a b = true ↔ ∀ v, v < N → (Fr a).testBit v = true → ∃ u, u < N ∧ (Fr b).testBit u = true ∧ E v u = true := by
  unfold goB
  rw [allT_iff]
  constructor
  · intro h v hv hb
    have := h v hv
    rw [hb] at this
    simp only [Bool.not_true, Bool.false_or] at this
    obtain ⟨u, h1, h2⟩ := exB_iff.mp this
    rw [Bool.and_eq_true] at h2
    exact ⟨u, h1, h2.1, h2.2⟩
  · intro h v hv
    cases q : (Fr a).testBit v
    · rfl
    · simp only [Bool.not_true, Bool.false_or]
      obtain ⟨u, h1, h2, h3⟩ := h v hv q
      exact exB_iff.mpr ⟨u, h1, by rw [h2, h3]; rfl⟩
section ER
variable {N : Nat} {Fr A : Nat → Nat}
theorem e0_refl (a : Nat) : e0 A a a = true := allT_iff.mpr (fun i _ => by simp)
theorem e0_symm {a b : Nat} (h : e0 A a b = true) : e0 A b a = true := allT_iff.mpr (fun i hi => by
  have := allT_iff.mp h i hi
  rw [beq_iff_eq] at this ⊢
  exact this.symm)
theorem e0_trans {a b c : Nat} (h : e0 A a b = true) (h2 : e0 A b c = true) : e0 A a c = true := allT_iff.mpr (fun i hi => by
  have q1 := allT_iff.mp h i hi
  have q2 := allT_iff.mp h2 i hi
  rw [beq_iff_eq] at q1 q2 ⊢
  exact q1.trans q2)
theorem er_eqv : ∀ r, (∀ a, er N Fr A r a a = true) ∧ (∀ a b, er N Fr A r a b = true → er N Fr A r b a = true) ∧ (∀ a b c, er N Fr A r a b = true → er N Fr A r b c = true → er N Fr A r a c = true)
  | 0 => ⟨e0_refl, fun _ _ => e0_symm, fun _ _ _ => e0_trans⟩
  | r + 1 => by
    obtain ⟨i1, i2, i3⟩ := er_eqv r
    simp only [er, Bool.and_eq_true, goB_iff]
    refine ⟨fun a => ⟨i1 a, fun v hv hb => ⟨v, hv, hb, i1 v⟩, fun v hv hb => ⟨v, hv, hb, i1 v⟩⟩, ?_, ?_⟩
    · rintro a b ⟨h1, h2, h3⟩
      exact ⟨i2 _ _ h1, h3, h2⟩
    · rintro a b c ⟨h1, h2, h3⟩ ⟨g1, g2, g3⟩
      refine ⟨i3 _ _ _ h1 g1, fun v hv hb => ?_, fun v hv hb => ?_⟩
      · obtain ⟨u, u1, u2, u3⟩ := h2 v hv hb
        obtain ⟨t, t1, t2, t3⟩ := g2 u u1 u2
        exact ⟨t, t1, t2, i3 _ _ _ u3 t3⟩
      · obtain ⟨u, u1, u2, u3⟩ := g3 v hv hb
        obtain ⟨t, t1, t2, t3⟩ := h3 u u1 u2
        exact ⟨t, t1, t2, i3 _ _ _ u3 t3⟩
theorem er_succ {r a b : Nat} : er N Fr A (r + 1) a b = true ↔ er N Fr A r a b = true ∧ (∀ v, v < N → (Fr a).testBit v = true → ∃ u, u < N ∧ (Fr b).testBit u = true ∧ er N Fr A r v u = true) ∧ (∀ v, v < N → (Fr b).testBit v = true → ∃ u, u < N ∧ (Fr a).testBit u = true ∧ er N Fr A r v u = true) := by
  show (er N Fr A r a b && (goB N Fr (er N Fr A r) a b && goB N Fr (er N Fr A r) b a)) = true ↔ _
  rw [Bool.and_eq_true, Bool.and_eq_true, goB_iff, goB_iff]
theorem er_down {r a b : Nat} (h : er N Fr A (r + 1) a b = true) : er N Fr A r a b = true := by
  simp only [er, Bool.and_eq_true] at h
  exact h.1
theorem er_le {r s a b : Nat} (hrs : r ≤ s) (h : er N Fr A s a b = true) : er N Fr A r a b = true := by
  obtain ⟨d, rfl⟩ := Nat.exists_eq_add_of_le hrs
  clear hrs
  induction d with
  | zero => exact h
  | succ d ih => exact ih (er_down h)
/-- nothing before w is like it -/
def isRep (N : Nat) (Fr A : Nat → Nat) (r w : Nat) : Bool := allT (fun v => !er N Fr A r v w) w
theorem isRep_iff {r w : Nat} : isRep N Fr A r w = true ↔ ∀ v, v < w → er N Fr A r v w = false := by
  unfold isRep
  rw [allT_iff]
  constructor
  · intro h v hv
    have := h v hv
    simpa using this
  · intro h v hv
    rw [h v hv]
    rfl
theorem isRep_up {r w : Nat} (h : isRep N Fr A r w = true) : isRep N Fr A (r + 1) w = true := by
  rw [isRep_iff] at h ⊢
  intro v hv
  cases q : er N Fr A (r + 1) v w
  · rfl
  · have := h v hv
    rw [er_down q] at this
    cases this
/-- the least that is like w -/
theorem rep_ex (N : Nat) (Fr A : Nat → Nat) (r w : Nat) : ∃ v, v ≤ w ∧ er N Fr A r v w = true ∧ isRep N Fr A r v = true := by
  obtain ⟨v, hv, hmin⟩ := pk_least (fun v => er N Fr A r v w = true) ⟨w, (er_eqv r).1 w⟩
  have hvw : v ≤ w := by
    rcases Nat.lt_or_ge w v with q | q
    · exact absurd ((er_eqv (N := N) (Fr := Fr) (A := A) r).1 w) (hmin w q)
    · exact q
  refine ⟨v, hvw, hv, isRep_iff.mpr (fun u hu => ?_)⟩
  cases q : er N Fr A r u v
  · rfl
  · exact absurd ((er_eqv r).2.2 _ _ _ q hv) (hmin u hu)
theorem rep_uniq {r u v : Nat} (hu : isRep N Fr A r u = true) (hv : isRep N Fr A r v = true) (h : er N Fr A r u v = true) : u = v := by
  rw [isRep_iff] at hu hv
  rcases Nat.lt_trichotomy u v with q | q | q
  · rw [hv u q] at h; cases h
  · exact q
  · have h2 := (er_eqv r).2.1 _ _ h
    rw [hu v q] at h2; cases h2
/-- the same least ones: nothing is cut -/
theorem rep_stable {r : Nat} (h : ∀ w, w < N → isRep N Fr A (r + 1) w = true → isRep N Fr A r w = true) {a b : Nat} (ha : a < N) (hb : b < N) (hab : er N Fr A r a b = true) : er N Fr A (r + 1) a b = true := by
  obtain ⟨v, v1, v2, v3⟩ := rep_ex N Fr A (r + 1) a
  obtain ⟨u, u1, u2, u3⟩ := rep_ex N Fr A (r + 1) b
  have e1 := h v (by omega) v3
  have e2 := h u (by omega) u3
  have e3 : er N Fr A r v u = true := (er_eqv r).2.2 _ _ _ ((er_eqv r).2.2 _ _ _ (er_down v2) hab) ((er_eqv r).2.1 _ _ (er_down u2))
  have := rep_uniq e1 e2 e3
  subst this
  exact (er_eqv (r + 1)).2.2 _ _ _ ((er_eqv (r + 1)).2.1 _ _ v2) u2
def repC (N : Nat) (Fr A : Nat → Nat) (r : Nat) : Nat → Nat
  | 0 => 0
  | w + 1 => repC N Fr A r w + bN (isRep N Fr A r w)
theorem repC_le (r : Nat) : ∀ w, repC N Fr A r w ≤ w
  | 0 => Nat.le_refl _
  | w + 1 => by
    have := repC_le r w
    have := bN_lt (isRep N Fr A r w)
    simp only [repC]
    omega
theorem repC_mono (r : Nat) : ∀ w, repC N Fr A r w ≤ repC N Fr A (r + 1) w
  | 0 => Nat.le_refl _
  | w + 1 => by
    have := repC_mono r w
    simp only [repC]
    cases q : isRep N Fr A r w
    · rw [bN_f]; omega
    · rw [isRep_up q]; omega
theorem repC_strict (r : Nat) : ∀ w, (∃ v, v < w ∧ isRep N Fr A (r + 1) v = true ∧ isRep N Fr A r v = false) → repC N Fr A r w + 1 ≤ repC N Fr A (r + 1) w := by
  intro w
  induction w with
  | zero => rintro ⟨v, hv, _⟩; omega
  | succ w ih =>
    rintro ⟨v, hv, h1, h2⟩
    simp only [repC]
    by_cases e : v = w
    · subst e
      have := repC_mono (N := N) (Fr := Fr) (A := A) r v
      rw [h1, h2, bN_t, bN_f]
      omega
    · have := ih ⟨v, by omega, h1, h2⟩
      cases q : isRep N Fr A r w
      · rw [bN_f]; omega
      · rw [isRep_up q]; omega
theorem repC_pos (r : Nat) (h : 1 ≤ N) : 1 ≤ repC N Fr A r N := by
  have e : ∀ w, 1 ≤ w → 1 ≤ repC N Fr A r w := by
    intro w
    induction w with
    | zero => intro h; omega
    | succ w ih =>
      intro _
      simp only [repC]
      by_cases e : w = 0
      · subst e
        have : isRep N Fr A r 0 = true := isRep_iff.mpr (fun v hv => by omega)
        rw [this]
        exact Nat.le_add_left 1 _
      · have := ih (by omega)
        omega
  exact e N h
theorem er_keeps {r a b : Nat} (ha : a < N) (hb : b < N) (h : ∀ a b, a < N → b < N → er N Fr A r a b = true → er N Fr A (r + 1) a b = true) : ∀ s, r ≤ s → er N Fr A r a b = true → er N Fr A s a b = true := by
  have key : ∀ d, ∀ a b, a < N → b < N → er N Fr A (r + d) a b = true → er N Fr A (r + d + 1) a b = true := by
    intro d
    induction d with
    | zero => exact h
    | succ d ih =>
      intro a b ha hb hab
      have h2 := er_succ.mp hab
      refine er_succ.mpr ⟨hab, fun v hv q => ?_, fun v hv q => ?_⟩
      · obtain ⟨u, u1, u2, u3⟩ := h2.2.1 v hv q
        exact ⟨u, u1, u2, ih v u hv u1 u3⟩
      · obtain ⟨u, u1, u2, u3⟩ := h2.2.2 v hv q
        exact ⟨u, u1, u2, ih v u hv u1 u3⟩
  intro s hs hab
  obtain ⟨d, rfl⟩ := Nat.exists_eq_add_of_le hs
  clear hs
  induction d with
  | zero => exact hab
  | succ d ih => exact key d a b ha hb ih
/-- after N - 1 rounds all that falls apart has -/
theorem er_end (h1 : 1 ≤ N) {r s a b : Nat} (hr : N ≤ r + 1) (hs : r ≤ s) (ha : a < N) (hb : b < N) (h : er N Fr A r a b = true) : er N Fr A s a b = true := by
  have grow : ∀ r, (∀ a b, a < N → b < N → er N Fr A r a b = true → er N Fr A (r + 1) a b = true) ∨ r + 2 ≤ repC N Fr A (r + 1) N := by
    intro r
    induction r with
    | zero =>
      by_cases q : ∃ v, v < N ∧ isRep N Fr A (0 + 1) v = true ∧ isRep N Fr A 0 v = false
      · have := repC_strict (N := N) (Fr := Fr) (A := A) 0 N q
        have := repC_pos (N := N) (Fr := Fr) (A := A) 0 h1
        exact Or.inr (by omega)
      · exact Or.inl (fun a b ha hb => rep_stable (fun w hw hw2 => by
          cases z : isRep N Fr A 0 w
          · exact absurd ⟨w, hw, hw2, z⟩ q
          · rfl) ha hb)
    | succ r ih =>
      by_cases q : ∃ v, v < N ∧ isRep N Fr A (r + 1 + 1) v = true ∧ isRep N Fr A (r + 1) v = false
      · rcases ih with ih | ih
        · refine Or.inl (fun a b ha hb hab => ?_)
          exact er_keeps ha hb ih (r + 1 + 1) (by omega) (er_down hab)
        · have := repC_strict (N := N) (Fr := Fr) (A := A) (r + 1) N q
          exact Or.inr (by omega)
      · exact Or.inl (fun a b ha hb => rep_stable (fun w hw hw2 => by
          cases z : isRep N Fr A (r + 1) w
          · exact absurd ⟨w, hw, hw2, z⟩ q
          · rfl) ha hb)
  rcases grow r with g | g
  · exact er_keeps ha hb g s hs h
  · have := repC_le (N := N) (Fr := Fr) (A := A) (r + 1) N
    omega
end ER
end
section
/-! the class's heaps -/
def Nm (N : Nat) (E : Nat → Nat → Bool) (g : Nat → Nat) : Prop := (∀ a b, a < N → b < N → (g a = g b ↔ E a b = true)) ∧ ∀ a, a < N → g a < 31
def hseen (N : Nat) (Fr g : Nat → Nat) (a : Nat) : Nat := orF (fun k => if (Fr a).testBit k then 2 ^ (g k) else 0) N
theorem tb_hseen {N : Nat} {Fr g : Nat → Nat} {a j : Nat} : (hseen N Fr g a).testBit j = true ↔ ∃ k, k < N ∧ (Fr a).testBit k = true ∧ g k = j := by
  unfold hseen
  rw [tb_orF]
  constructor
  · rintro ⟨k, h1, h2⟩
    split at h2
    · rename_i h
      rw [tb_pow, decide_eq_true_eq] at h2
      exact ⟨k, h1, h, h2⟩
    · rw [Nat.zero_testBit] at h2; cases h2
  · rintro ⟨k, h1, h2, h3⟩
    exact ⟨k, h1, by rw [if_pos h2, tb_pow, decide_eq_true_eq]; exact h3⟩
theorem hseen_lt {N : Nat} {Fr g : Nat → Nat} {a : Nat} (hg : ∀ a, a < N → g a < 31) : hseen N Fr g a < 2 ^ 31 := orF_lt (fun k hk => by
  split
  · exact pow_lt_of (hg k hk)
  · decide)
theorem hseen_eq {N : Nat} {Fr g : Nat → Nat} {E : Nat → Nat → Bool} (hn : Nm N E g) {a b : Nat} : hseen N Fr g a = hseen N Fr g b ↔ (goB N Fr E a b = true ∧ goB N Fr E b a = true) := by
  rw [goB_iff, goB_iff]
  constructor
  · intro h
    refine ⟨fun v hv q => ?_, fun v hv q => ?_⟩
    · have : (hseen N Fr g b).testBit (g v) = true := by rw [← h]; exact tb_hseen.mpr ⟨v, hv, q, rfl⟩
      obtain ⟨u, u1, u2, u3⟩ := tb_hseen.mp this
      exact ⟨u, u1, u2, (hn.1 v u hv u1).mp u3.symm⟩
    · have : (hseen N Fr g a).testBit (g v) = true := by rw [h]; exact tb_hseen.mpr ⟨v, hv, q, rfl⟩
      obtain ⟨u, u1, u2, u3⟩ := tb_hseen.mp this
      exact ⟨u, u1, u2, (hn.1 v u hv u1).mp u3.symm⟩
  · rintro ⟨h1, h2⟩
    apply sub_antisymm
    · intro j hj
      obtain ⟨v, v1, v2, rfl⟩ := tb_hseen.mp hj
      obtain ⟨u, u1, u2, u3⟩ := h1 v v1 v2
      exact tb_hseen.mpr ⟨u, u1, u2, ((hn.1 v u v1 u1).mpr u3).symm⟩
    · intro j hj
      obtain ⟨v, v1, v2, rfl⟩ := tb_hseen.mp hj
      obtain ⟨u, u1, u2, u3⟩ := h2 v v1 v2
      exact tb_hseen.mpr ⟨u, u1, u2, ((hn.1 v u v1 u1).mpr u3).symm⟩
section HX
variable {w : AW} {N : Nat} {Fr g : Nat → Nat}
def HeapX (w : AW) (N : Nat) (g : Nat → Nat) : Prop := ∀ k, k < N → w.1 2 3 k = nI (g k)
theorem heap_at (h : HeapX w N g) (h8 : N ≤ 8) {k : Nat} (hk : k < N) : mX5_at 2 3 (nI k) w = some (nI (g k), w) := by
  rw [at_in w (by rw [aL_2_3]; omega) (by rw [aL_2_3]; decide), h k hk]
theorem from_at (h : ViewX w N Fr) (h8 : N ≤ 8) {k : Nat} (hk : k < N) : mX5_at 2 1 (nI k) w = some (nI (Fr k), w) := by
  rw [at_in w (by rw [aL_2_1]; omega) (by rw [aL_2_1]; decide), h.2 k hk]
theorem X_heapsSeen (hV : ViewX w N Fr) (hH : HeapX w N g) (h8 : N ≤ 8) (hF : ∀ k, k < N → Fr k < 2 ^ N) (hg : ∀ a, a < N → g a < 31) {a : Nat} (ha : a < N) : mX4_heapsSeen (nI a) w = some (nI (hseen N Fr g a), w) := by
  have h256 := two_le h8
  have hfa := hF a ha
  unfold mX4_heapsSeen
  refine loopE (fun n (s : Int32 × Int32) => mX4_heapsSeen_4 (nI a) n s.1 s.2 w) N (fun k => (nI (orF (fun k => if (Fr a).testBit k then 2 ^ (g k) else 0) k), nI k)) _ ?_ ?_ FU 0 (Nat.zero_le _) (FU_gt (by omega))
  · intro n k hk
    have c1 : ¬ nI N ≤ nI k := nI_ge hk (by omega)
    cases q : (Fr a).testBit k
    · simp only [mX4_heapsSeen_4, mX4_heapsSeen_41, hV.1, c1, from_at hV h8 ha, bit_f w (show Fr a < 2 ^ 32 by omega) (show k < 32 by omega) q, orF, q, cl_mk, nm_mk, pu_mk, lit, if_true, if_false, ne_eq, not_false_eq_true, not_true_eq_false, nI_add, nI_or, nI_and, Bool.false_eq_true, ne01, ne10, nI_m1', Nat.or_zero]
    · simp only [mX4_heapsSeen_4, mX4_heapsSeen_41, hV.1, c1, from_at hV h8 ha, bit_t w (show Fr a < 2 ^ 32 by omega) (show k < 32 by omega) q, heap_at hH h8 hk, one_shl (hg k hk), orF, q, cl_mk, nm_mk, pu_mk, lit, if_true, if_false, ne_eq, not_false_eq_true, not_true_eq_false, nI_add, nI_or, nI_and, Bool.false_eq_true, ne01, ne10, nI_m1', Nat.or_zero]
  · intro n
    have c1 : nI N ≤ nI N := nI_le (Nat.le_refl N) (by omega)
    simp only [mX4_heapsSeen_4, hV.1, c1, cl_mk, nm_mk, pu_mk, lit, if_true, if_false, ne_eq, not_false_eq_true, not_true_eq_false, nI_add, nI_or, nI_and, Bool.false_eq_true, ne01, ne10, nI_m1', Nat.or_zero]
    rfl
theorem X_sameHeaps {E : Nat → Nat → Bool} (hV : ViewX w N Fr) (hH : HeapX w N g) (h8 : N ≤ 8) (hF : ∀ k, k < N → Fr k < 2 ^ N) (hn : Nm N E g) {a b : Nat} (ha : a < N) (hb : b < N) : mX4_sameHeaps (nI a) (nI b) w = some (nI (bN (E a b && (goB N Fr E a b && goB N Fr E b a))), w) := by
  have e1 := X_heapsSeen hV hH h8 hF hn.2 ha
  have e2 := X_heapsSeen hV hH h8 hF hn.2 hb
  have l1 := hseen_lt (N := N) (Fr := Fr) (a := a) hn.2
  have l2 := hseen_lt (N := N) (Fr := Fr) (a := b) hn.2
  cases q : E a b
  · have q1 : (nI (g a) = nI (g b)) = False := eq_false (fun z => by
      have := (hn.1 a b ha hb).mp ((nI_eq (by have := hn.2 a ha; omega) (by have := hn.2 b hb; omega)).mp z)
      rw [q] at this; cases this)
    simp only [mX4_sameHeaps, heap_at hH h8 ha, heap_at hH h8 hb, q1, Bool.false_and, bN_f, cl_mk, nm_mk, pu_mk, lit, if_true, if_false, ne_eq, not_false_eq_true, not_true_eq_false, nI_add, nI_or, nI_and, Bool.false_eq_true, ne01, ne10, nI_m1', Nat.or_zero]
  · have q1 : g a = g b := (hn.1 a b ha hb).mpr q
    by_cases z : hseen N Fr g a = hseen N Fr g b
    · have z2 := (hseen_eq hn).mp z
      rw [z2.1, z2.2]
      simp only [mX4_sameHeaps, heap_at hH h8 ha, heap_at hH h8 hb, q1, e1, e2, z, Bool.and_self, bN_t, cl_mk, nm_mk, pu_mk, lit, if_true, if_false, ne_eq, not_false_eq_true, not_true_eq_false, nI_add, nI_or, nI_and, Bool.false_eq_true, ne01, ne10, nI_m1', Nat.or_zero]
    · have z2 : (goB N Fr E a b && goB N Fr E b a) = false := by
        cases y : (goB N Fr E a b && goB N Fr E b a)
        · rfl
        · rw [Bool.and_eq_true] at y
          exact absurd ((hseen_eq hn).mpr y) z
      have z3 : (nI (hseen N Fr g a) = nI (hseen N Fr g b)) = False := eq_false (fun y => z ((nI_eq l1 l2).mp y))
      rw [z2]
      simp only [mX4_sameHeaps, heap_at hH h8 ha, heap_at hH h8 hb, q1, e1, e2, z3, Bool.and_false, bN_f, cl_mk, nm_mk, pu_mk, lit, if_true, if_false, ne_eq, not_false_eq_true, not_true_eq_false, nI_add, nI_or, nI_and, Bool.false_eq_true, ne01, ne10, nI_m1', Nat.or_zero]
end HX
end
section
/-! the class's heaps, round by round -/
theorem lst_ex {E : Nat → Nat → Bool} {w : Nat} (h : E w w = true) : ∃ v, v ≤ w ∧ E v w = true ∧ ∀ u, u < v → E u w = false := by
  obtain ⟨v, hv, hmin⟩ := pk_least (fun v => E v w = true) ⟨w, h⟩
  refine ⟨v, ?_, hv, fun u hu => ?_⟩
  · rcases Nat.lt_or_ge w v with q | q
    · exact absurd h (hmin w q)
    · exact q
  · cases q : E u w
    · rfl
    · exact absurd q (hmin u hu)
noncomputable def lst (E : Nat → Nat → Bool) (w : Nat) : Nat := if h : E w w = true then Classical.choose (lst_ex h) else w
theorem lst_spec {E : Nat → Nat → Bool} {w : Nat} (h : E w w = true) : lst E w ≤ w ∧ E (lst E w) w = true ∧ ∀ u, u < lst E w → E u w = false := by
  unfold lst
  rw [dif_pos h]
  exact Classical.choose_spec (lst_ex h)
section H2
variable {w : AW} {N : Nat} {S A Fr : Nat → Nat}
theorem lst_rep {r v : Nat} : isRep N Fr A r (lst (er N Fr A r) v) = true := by
  obtain ⟨h1, h2, h3⟩ := lst_spec ((er_eqv (N := N) (Fr := Fr) (A := A) r).1 v)
  refine isRep_iff.mpr (fun u hu => ?_)
  cases q : er N Fr A r u (lst (er N Fr A r) v)
  · rfl
  · have := (er_eqv r).2.2 _ _ _ q h2
    rw [h3 u hu] at this
    cases this
theorem lst_Nm (r : Nat) (h8 : N ≤ 8) : Nm N (er N Fr A r) (lst (er N Fr A r)) := by
  refine ⟨fun a b ha hb => ⟨fun h => ?_, fun h => ?_⟩, fun a ha => ?_⟩
  · have h1 := (lst_spec ((er_eqv (N := N) (Fr := Fr) (A := A) r).1 a)).2.1
    have h2 := (lst_spec ((er_eqv (N := N) (Fr := Fr) (A := A) r).1 b)).2.1
    rw [h] at h1
    exact (er_eqv r).2.2 _ _ _ ((er_eqv r).2.1 _ _ h1) h2
  · have h1 := (lst_spec ((er_eqv (N := N) (Fr := Fr) (A := A) r).1 a)).2.1
    have h2 := (lst_spec ((er_eqv (N := N) (Fr := Fr) (A := A) r).1 b)).2.1
    exact rep_uniq lst_rep lst_rep ((er_eqv r).2.2 _ _ _ ((er_eqv r).2.2 _ _ _ h1 h) ((er_eqv r).2.1 _ _ h2))
  · have := (lst_spec ((er_eqv (N := N) (Fr := Fr) (A := A) r).1 a)).1
    omega
theorem X_sameAtoms (h : NetX w N S A) (hN : NetOK N S A) {a b : Nat} (ha : a < 8) (hb : b < 8) : mX4_sameAtoms (nI a) (nI b) w = some (nI (bN (e0 A a b)), w) := by
  have h8 := hN.2.1
  have h256 := two_le h8
  unfold mX4_sameAtoms
  have hat : mX0_atoms w = some ((), w) := rfl
  have e := loopAll (fun n v => mX4_sameAtoms_2 (nI a) (nI b) n v w) 4 (fun i => (A i).testBit a == (A i).testBit b) (some (nI 1, w)) (some (nI 0, w)) (by decide) ?_ ?_ ?_
  · refine Eq.trans e ?_
    unfold e0
    cases allT (fun i => (A i).testBit a == (A i).testBit b) 4 <;> rfl
  · intro n k hk ho
    have c1 : ¬ nI 4 ≤ nI k := nI_ge hk (by decide)
    have hA := hN.2.2.2.2 k
    rw [beq_iff_eq] at ho
    simp only [mX4_sameAtoms_2, c1, hat, atoms_at h hk, bit_eq w (show A k < 2 ^ 32 by omega) (show a < 32 by omega), bit_eq w (show A k < 2 ^ 32 by omega) (show b < 32 by omega), ho, cl_mk, nm_mk, pu_mk, lit, if_true, if_false, ne_eq, not_false_eq_true, not_true_eq_false, nI_add, nI_or, nI_and, Bool.false_eq_true, ne01, ne10, nI_m1', Nat.or_zero]
  · intro n k hk ho
    have c1 : ¬ nI 4 ≤ nI k := nI_ge hk (by decide)
    have hA := hN.2.2.2.2 k
    cases qa : (A k).testBit a
    · cases qb : (A k).testBit b
      · rw [qa, qb] at ho; cases ho
      · simp only [mX4_sameAtoms_2, c1, hat, atoms_at h hk, bit_f w (show A k < 2 ^ 32 by omega) (show a < 32 by omega) qa, bit_t w (show A k < 2 ^ 32 by omega) (show b < 32 by omega) qb, cl_mk, nm_mk, pu_mk, lit, if_true, if_false, ne_eq, not_false_eq_true, not_true_eq_false, nI_add, nI_or, nI_and, Bool.false_eq_true, ne01, ne10, nI_m1', Nat.or_zero]
    · cases qb : (A k).testBit b
      · simp only [mX4_sameAtoms_2, c1, hat, atoms_at h hk, bit_t w (show A k < 2 ^ 32 by omega) (show a < 32 by omega) qa, bit_f w (show A k < 2 ^ 32 by omega) (show b < 32 by omega) qb, cl_mk, nm_mk, pu_mk, lit, if_true, if_false, ne_eq, not_false_eq_true, not_true_eq_false, nI_add, nI_or, nI_and, Bool.false_eq_true, ne01, ne10, nI_m1', Nat.or_zero]
      · rw [qa, qb] at ho; cases ho
  · intro n
    have c1 : nI 4 ≤ nI 4 := by decide
    simp only [mX4_sameAtoms_2, c1, cl_mk, nm_mk, pu_mk, lit, if_true, if_false, ne_eq, not_false_eq_true, not_true_eq_false, nI_add, nI_or, nI_and, Bool.false_eq_true, ne01, ne10, nI_m1', Nat.or_zero]
def HS (w : AW) (N : Nat) (Fr A : Nat → Nat) (r : Nat) : Prop := ViewX w N Fr ∧ HeapX w N (lst (er N Fr A r))
noncomputable def hrow (w : AW) (a : Nat) (E : Nat → Nat → Bool) (k : Nat) : AW := setRow w 2 a (fun k => nI (lst E k)) k
theorem hrow_K (w : AW) (a : Nat) (E : Nat → Nat → Bool) : ∀ k, KX w (hrow w a E k)
  | 0 => KX.rf w
  | k + 1 => (hrow_K w a E k).set (Or.inl ⟨by decide, by decide⟩)
theorem hrow_V {a : Nat} {E : Nat → Nat → Bool} (hV : ViewX w N Fr) (h : a ≠ 0 ∧ a ≠ 1) (k : Nat) : ViewX (hrow w a E k) N Fr := by
  refine ⟨?_, fun j hj => ?_⟩
  · unfold hrow
    rw [setRow_row (by omega)]
    exact hV.1
  · unfold hrow
    rw [setRow_row (by omega)]
    exact hV.2 j hj
theorem X_heapByAtoms (h : NetX w N S A) (hN : NetOK N S A) (hV : ViewX w N Fr) : ∃ w2, mX4_heapByAtoms w = some ((), w2) ∧ KX w w2 ∧ HS w2 N Fr A 0 := by
  have h8 := hN.2.1
  refine ⟨hrow w 3 (er N Fr A 0) N, ?_, hrow_K _ _ _ _, hrow_V hV (by decide) N, fun k hk => setRow_in N hk⟩
  unfold mX4_heapByAtoms
  refine loopE (fun n (s : Int32 × AW) => mX4_heapByAtoms_2 n s.1 s.2) N (fun k => (nI k, hrow w 3 (er N Fr A 0) k)) _ ?_ ?_ FU 0 (Nat.zero_le _) (FU_gt (by omega))
  · intro n k hk
    have c1 : ¬ nI N ≤ nI k := nI_ge hk (by omega)
    have hVk := hrow_V (E := er N Fr A 0) (a := 3) hV (by decide) k
    have hXk := h.k (hrow_K w 3 (er N Fr A 0) k)
    obtain ⟨l1, l2, l3⟩ := lst_spec ((er_eqv (N := N) (Fr := Fr) (A := A) 0).1 k)
    have hput : ∀ x, mX5_put 2 3 (nI k) x (hrow w 3 (er N Fr A 0) k) = some ((), am_set (hrow w 3 (er N Fr A 0) k) 2 3 k x) := fun x => put_in _ (by rw [aL_2_3]; omega) (by rw [aL_2_3]; decide)
    have inner : mX4_heapByAtoms_12 (mX4_heapByAtoms_2 n) (nI k) FU (nI 0) (hrow w 3 (er N Fr A 0) k) = mX4_heapByAtoms_2 n (nI (k + 1)) (hrow w 3 (er N Fr A 0) (k + 1)) := by
      refine loopE (fun n2 v => mX4_heapByAtoms_12 (mX4_heapByAtoms_2 n) (nI k) n2 v (hrow w 3 (er N Fr A 0) k)) (lst (er N Fr A 0) k) nI _ ?_ ?_ FU 0 (Nat.zero_le _) (FU_gt (by omega))
      · intro n2 v hv
        have d1 : ¬ nI k ≤ nI v := nI_ge (by omega) (by omega)
        have e1 := X_sameAtoms hXk hN (a := v) (b := k) (by omega) (by omega)
        have e2 : e0 A v k = false := l3 v hv
        rw [e2] at e1
        simp only [mX4_heapByAtoms_12, d1, e1, bN_f, cl_mk, nm_mk, pu_mk, lit, if_true, if_false, ne_eq, not_false_eq_true, not_true_eq_false, nI_add, nI_or, nI_and, Bool.false_eq_true, ne01, ne10, nI_m1', Nat.or_zero]
      · intro n2
        by_cases q : lst (er N Fr A 0) k = k
        · have d1 : nI k ≤ nI (lst (er N Fr A 0) k) := by rw [q]; exact nI_le (Nat.le_refl k) (by omega)
          simp only [mX4_heapByAtoms_12, mX4_heapByAtoms_32, d1, hput, cl_mk, nm_mk, pu_mk, lit, if_true, if_false, ne_eq, not_false_eq_true, not_true_eq_false, nI_add, nI_or, nI_and, Bool.false_eq_true, ne01, ne10, nI_m1', Nat.or_zero]
          rfl
        · have d1 : ¬ nI k ≤ nI (lst (er N Fr A 0) k) := nI_ge (by omega) (by omega)
          have e1 := X_sameAtoms hXk hN (a := lst (er N Fr A 0) k) (b := k) (by omega) (by omega)
          have e2 : e0 A (lst (er N Fr A 0) k) k = true := l2
          rw [e2] at e1
          simp only [mX4_heapByAtoms_12, mX4_heapByAtoms_32, d1, e1, bN_t, hput, cl_mk, nm_mk, pu_mk, lit, if_true, if_false, ne_eq, not_false_eq_true, not_true_eq_false, nI_add, nI_or, nI_and, Bool.false_eq_true, ne01, ne10, nI_m1', Nat.or_zero]
          rfl
    simp only [mX4_heapByAtoms_2, hVk.1, c1, cl_mk, nm_mk, pu_mk, lit, if_true, if_false, ne_eq, not_false_eq_true, not_true_eq_false, nI_add, nI_or, nI_and, Bool.false_eq_true, ne01, ne10, nI_m1', Nat.or_zero]
    exact inner
  · intro n
    have c1 : nI N ≤ nI N := nI_le (Nat.le_refl N) (by omega)
    have hVk := hrow_V (E := er N Fr A 0) (a := 3) hV (by decide) N
    simp only [mX4_heapByAtoms_2, hVk.1, c1, cl_mk, nm_mk, pu_mk, lit, if_true, if_false, ne_eq, not_false_eq_true, not_true_eq_false, nI_add, nI_or, nI_and, Bool.false_eq_true, ne01, ne10, nI_m1', Nat.or_zero]
theorem X_heapFiner (h1 : 1 ≤ N) (h8 : N ≤ 8) (hF : ∀ k, k < N → Fr k < 2 ^ N) {r : Nat} (hS : HS w N Fr A r) : ∃ w2, mX4_heapFiner w = some ((), w2) ∧ KX w w2 ∧ HS w2 N Fr A (r + 1) := by
  obtain ⟨hV, hH⟩ := hS
  have hn := lst_Nm (N := N) (Fr := Fr) (A := A) r h8
  refine ⟨hrow (hrow w 4 (er N Fr A (r + 1)) N) 3 (er N Fr A (r + 1)) N, ?_, (hrow_K _ _ _ _).tr (hrow_K _ _ _ _), hrow_V (hrow_V hV (by decide) N) (by decide) N, fun k hk => setRow_in N hk⟩
  have second : ∀ w0, w0 = hrow w 4 (er N Fr A (r + 1)) N → mX4_heapFiner_49 FU (nI 0) w0 = some ((), hrow w0 3 (er N Fr A (r + 1)) N) := by
    intro w0 hw0
    refine loopE (fun n (s : Int32 × AW) => mX4_heapFiner_49 n s.1 s.2) N (fun k => (nI k, hrow w0 3 (er N Fr A (r + 1)) k)) _ ?_ ?_ FU 0 (Nat.zero_le _) (FU_gt (by omega))
    · intro n k hk
      have c1 : ¬ nI N ≤ nI k := nI_ge hk (by omega)
      have hVk : ViewX (hrow w0 3 (er N Fr A (r + 1)) k) N Fr := hrow_V (by rw [hw0]; exact hrow_V hV (by decide) N) (by decide) k
      have hat : mX5_at 2 4 (nI k) (hrow w0 3 (er N Fr A (r + 1)) k) = some (nI (lst (er N Fr A (r + 1)) k), hrow w0 3 (er N Fr A (r + 1)) k) := by
        rw [at_in _ (by rw [aL_2_4]; omega) (by rw [aL_2_4]; decide)]
        unfold hrow
        rw [setRow_row (by decide), hw0]
        unfold hrow
        rw [setRow_in N hk]
      have hput : ∀ x, mX5_put 2 3 (nI k) x (hrow w0 3 (er N Fr A (r + 1)) k) = some ((), am_set (hrow w0 3 (er N Fr A (r + 1)) k) 2 3 k x) := fun x => put_in _ (by rw [aL_2_3]; omega) (by rw [aL_2_3]; decide)
      simp only [mX4_heapFiner_49, hVk.1, c1, hat, hput, cl_mk, nm_mk, pu_mk, lit, if_true, if_false, ne_eq, not_false_eq_true, not_true_eq_false, nI_add, nI_or, nI_and, Bool.false_eq_true, ne01, ne10, nI_m1', Nat.or_zero]
      rfl
    · intro n
      have c1 : nI N ≤ nI N := nI_le (Nat.le_refl N) (by omega)
      have hVk : ViewX (hrow w0 3 (er N Fr A (r + 1)) N) N Fr := hrow_V (by rw [hw0]; exact hrow_V hV (by decide) N) (by decide) N
      simp only [mX4_heapFiner_49, hVk.1, c1, cl_mk, nm_mk, pu_mk, lit, if_true, if_false, ne_eq, not_false_eq_true, not_true_eq_false, nI_add, nI_or, nI_and, Bool.false_eq_true, ne01, ne10, nI_m1', Nat.or_zero]
  unfold mX4_heapFiner
  refine loopE (fun n (s : Int32 × AW) => mX4_heapFiner_2 n s.1 s.2) N (fun k => (nI k, hrow w 4 (er N Fr A (r + 1)) k)) _ ?_ ?_ FU 0 (Nat.zero_le _) (FU_gt (by omega))
  · intro n k hk
    have c1 : ¬ nI N ≤ nI k := nI_ge hk (by omega)
    have hVk := hrow_V (E := er N Fr A (r + 1)) (a := 4) hV (by decide) k
    have hHk : HeapX (hrow w 4 (er N Fr A (r + 1)) k) N (lst (er N Fr A r)) := fun j hj => by
      unfold hrow
      rw [setRow_row (by decide)]
      exact hH j hj
    obtain ⟨l1, l2, l3⟩ := lst_spec ((er_eqv (N := N) (Fr := Fr) (A := A) (r + 1)).1 k)
    have hput : ∀ x, mX5_put 2 4 (nI k) x (hrow w 4 (er N Fr A (r + 1)) k) = some ((), am_set (hrow w 4 (er N Fr A (r + 1)) k) 2 4 k x) := fun x => put_in _ (by rw [aL_2_4]; omega) (by rw [aL_2_4]; decide)
    have inner : mX4_heapFiner_12 (mX4_heapFiner_2 n) (nI k) FU (nI 0) (hrow w 4 (er N Fr A (r + 1)) k) = mX4_heapFiner_2 n (nI (k + 1)) (hrow w 4 (er N Fr A (r + 1)) (k + 1)) := by
      refine loopE (fun n2 v => mX4_heapFiner_12 (mX4_heapFiner_2 n) (nI k) n2 v (hrow w 4 (er N Fr A (r + 1)) k)) (lst (er N Fr A (r + 1)) k) nI _ ?_ ?_ FU 0 (Nat.zero_le _) (FU_gt (by omega))
      · intro n2 v hv
        have d1 : ¬ nI k ≤ nI v := nI_ge (by omega) (by omega)
        have e1 := X_sameHeaps hVk hHk h8 hF hn (a := v) (b := k) (by omega) hk
        have e2 : (er N Fr A r v k && (goB N Fr (er N Fr A r) v k && goB N Fr (er N Fr A r) k v)) = false := l3 v hv
        rw [e2] at e1
        simp only [mX4_heapFiner_12, d1, e1, bN_f, cl_mk, nm_mk, pu_mk, lit, if_true, if_false, ne_eq, not_false_eq_true, not_true_eq_false, nI_add, nI_or, nI_and, Bool.false_eq_true, ne01, ne10, nI_m1', Nat.or_zero]
      · intro n2
        by_cases q : lst (er N Fr A (r + 1)) k = k
        · have d1 : nI k ≤ nI (lst (er N Fr A (r + 1)) k) := by rw [q]; exact nI_le (Nat.le_refl k) (by omega)
          simp only [mX4_heapFiner_12, mX4_heapFiner_32, d1, hput, cl_mk, nm_mk, pu_mk, lit, if_true, if_false, ne_eq, not_false_eq_true, not_true_eq_false, nI_add, nI_or, nI_and, Bool.false_eq_true, ne01, ne10, nI_m1', Nat.or_zero]
          rfl
        · have d1 : ¬ nI k ≤ nI (lst (er N Fr A (r + 1)) k) := nI_ge (by omega) (by omega)
          have e1 := X_sameHeaps hVk hHk h8 hF hn (a := lst (er N Fr A (r + 1)) k) (b := k) (by omega) hk
          have e2 : (er N Fr A r (lst (er N Fr A (r + 1)) k) k && (goB N Fr (er N Fr A r) (lst (er N Fr A (r + 1)) k) k && goB N Fr (er N Fr A r) k (lst (er N Fr A (r + 1)) k))) = true := l2
          rw [e2] at e1
          simp only [mX4_heapFiner_12, mX4_heapFiner_32, d1, e1, bN_t, hput, cl_mk, nm_mk, pu_mk, lit, if_true, if_false, ne_eq, not_false_eq_true, not_true_eq_false, nI_add, nI_or, nI_and, Bool.false_eq_true, ne01, ne10, nI_m1', Nat.or_zero]
          rfl
    simp only [mX4_heapFiner_2, hVk.1, c1, cl_mk, nm_mk, pu_mk, lit, if_true, if_false, ne_eq, not_false_eq_true, not_true_eq_false, nI_add, nI_or, nI_and, Bool.false_eq_true, ne01, ne10, nI_m1', Nat.or_zero]
    exact inner
  · intro n
    have c1 : nI N ≤ nI N := nI_le (Nat.le_refl N) (by omega)
    have hVk := hrow_V (E := er N Fr A (r + 1)) (a := 4) hV (by decide) N
    simp only [mX4_heapFiner_2, hVk.1, c1, cl_mk, nm_mk, pu_mk, lit, if_true, if_false, ne_eq, not_false_eq_true, not_true_eq_false, nI_add, nI_or, nI_and, Bool.false_eq_true, ne01, ne10, nI_m1', Nat.or_zero]
    exact second _ rfl
end H2
end
section
/-! the class's heaps: all rounds, how many, how deep -/
theorem lst_iff {E : Nat → Nat → Bool} {w : Nat} (h : E w w = true) : lst E w = w ↔ ∀ u, u < w → E u w = false := by
  obtain ⟨h1, h2, h3⟩ := lst_spec h
  constructor
  · intro e u hu
    exact h3 u (by rw [e]; exact hu)
  · intro g
    rcases Nat.lt_or_ge (lst E w) w with q | q
    · rw [g _ q] at h2; cases h2
    · omega
def DepIs (N : Nat) (Fr A : Nat → Nat) (a b : Nat) (x : Int32) : Prop := (∃ r, r ≤ N ∧ er N Fr A r a b = false ∧ (∀ s, s < r → er N Fr A s a b = true) ∧ x = nI r) ∨ ((∀ s, s ≤ N → er N Fr A s a b = true) ∧ x = -9)
section H3
variable {N : Nat} {S A Fr : Nat → Nat}
theorem X_heapUp7 (h1 : 1 ≤ N) (h8 : N ≤ 8) (hF : ∀ k, k < N → Fr k < 2 ^ N) : ∀ (d k n : Nat) (w : AW), N = k + d → d < n → HS w N Fr A k → ∃ w2, mX4_heapUp_7 n (nI k) w = some ((), w2) ∧ KX w w2 ∧ HS w2 N Fr A N := by
  intro d
  induction d with
  | zero =>
    intro k n w e hn hS
    obtain ⟨n, rfl⟩ : ∃ m, n = m + 1 := ⟨n - 1, by omega⟩
    have e2 : N = k := by omega
    subst e2
    have c1 : nI N ≤ nI N := nI_le (Nat.le_refl N) (by omega)
    refine ⟨w, ?_, KX.rf w, hS⟩
    simp only [mX4_heapUp_7, hS.1.1, c1, cl_mk, nm_mk, pu_mk, lit, if_true, if_false, ne_eq, not_false_eq_true, not_true_eq_false, nI_add, nI_or, nI_and, Bool.false_eq_true, ne01, ne10, nI_m1', Nat.or_zero]
  | succ d ih =>
    intro k n w e hn hS
    obtain ⟨n, rfl⟩ : ∃ m, n = m + 1 := ⟨n - 1, by omega⟩
    have c1 : ¬ nI N ≤ nI k := nI_ge (by omega) (by omega)
    obtain ⟨w2, g1, g2, g3⟩ := X_heapFiner h1 h8 hF hS
    obtain ⟨w3, f1, f2, f3⟩ := ih (k + 1) n w2 (by omega) (by omega) g3
    refine ⟨w3, ?_, g2.tr f2, f3⟩
    simp only [mX4_heapUp_7, hS.1.1, c1, g1, cl_mk, nm_mk, pu_mk, lit, if_true, if_false, ne_eq, not_false_eq_true, not_true_eq_false, nI_add, nI_or, nI_and, Bool.false_eq_true, ne01, ne10, nI_m1', Nat.or_zero]
    exact f1
theorem X_heapUp {w : AW} (h : NetX w N S A) (hN : NetOK N S A) (hV : ViewX w N Fr) (hF : ∀ k, k < N → Fr k < 2 ^ N) : ∃ w2, mX4_heapUp w = some ((), w2) ∧ KX w w2 ∧ HS w2 N Fr A N := by
  have h8 := hN.2.1
  obtain ⟨w1, g1, g2, g3⟩ := X_heapByAtoms h hN hV
  obtain ⟨w2, f1, f2, f3⟩ := X_heapUp7 hN.1 h8 hF N 0 FU w1 (by omega) (FU_gt (by omega)) g3
  refine ⟨w2, ?_, g2.tr f2, f3⟩
  simp only [mX4_heapUp, g1, cl_mk, nm_mk, pu_mk, lit, if_true, if_false, ne_eq, not_false_eq_true, not_true_eq_false, nI_add, nI_or, nI_and, Bool.false_eq_true, ne01, ne10, nI_m1', Nat.or_zero]
  exact f1
theorem X_howManyHeaps {w : AW} {r : Nat} (h8 : N ≤ 8) (hS : HS w N Fr A r) : mX4_howManyHeaps w = some (nI (repC N Fr A r N), w) := by
  unfold mX4_howManyHeaps
  refine loopE (fun n (s : Int32 × Int32) => mX4_howManyHeaps_4 n s.1 s.2 w) N (fun k => (nI (repC N Fr A r k), nI k)) _ ?_ ?_ FU 0 (Nat.zero_le _) (FU_gt (by omega))
  · intro n k hk
    have c1 : ¬ nI N ≤ nI k := nI_ge hk (by omega)
    have hr := (er_eqv (N := N) (Fr := Fr) (A := A) r).1 k
    have hl := (lst_spec hr).1
    cases q : isRep N Fr A r k
    · have e1 : lst (er N Fr A r) k ≠ k := fun z => by
        have := isRep_iff.mpr ((lst_iff hr).mp z)
        rw [q] at this; cases this
      have e2 : (nI (lst (er N Fr A r) k) = nI k) = False := eq_false (fun z => e1 ((nI_eq (by omega) (by omega)).mp z))
      simp only [mX4_howManyHeaps_4, mX4_howManyHeaps_27, hS.1.1, c1, heap_at hS.2 h8 hk, e2, repC, q, bN_f, Nat.add_zero, cl_mk, nm_mk, pu_mk, lit, if_true, if_false, ne_eq, not_false_eq_true, not_true_eq_false, nI_add, nI_or, nI_and, Bool.false_eq_true, ne01, ne10, nI_m1', Nat.or_zero]
    · have e1 : lst (er N Fr A r) k = k := (lst_iff hr).mpr (isRep_iff.mp q)
      simp only [mX4_howManyHeaps_4, mX4_howManyHeaps_27, hS.1.1, c1, heap_at hS.2 h8 hk, e1, repC, q, bN_t, cl_mk, nm_mk, pu_mk, lit, if_true, if_false, ne_eq, not_false_eq_true, not_true_eq_false, nI_add, nI_or, nI_and, Bool.false_eq_true, ne01, ne10, nI_m1', Nat.or_zero]
  · intro n
    have c1 : nI N ≤ nI N := nI_le (Nat.le_refl N) (by omega)
    simp only [mX4_howManyHeaps_4, hS.1.1, c1, cl_mk, nm_mk, pu_mk, lit, if_true, if_false, ne_eq, not_false_eq_true, not_true_eq_false, nI_add, nI_or, nI_and, Bool.false_eq_true, ne01, ne10, nI_m1', Nat.or_zero]
theorem X_depth8 (h1 : 1 ≤ N) (h8 : N ≤ 8) (hF : ∀ k, k < N → Fr k < 2 ^ N) {a b : Nat} (ha : a < N) (hb : b < N) : ∀ (d k n : Nat) (w : AW), N + 1 = k + d → d < n → HS w N Fr A k → (∀ s, s < k → er N Fr A s a b = true) → ∃ x w2, mX4_depthApart_8 (nI a) (nI b) n (nI k) w = some (x, w2) ∧ KX w w2 ∧ DepIs N Fr A a b x := by
  intro d
  induction d with
  | zero =>
    intro k n w e hn hS hall
    obtain ⟨n, rfl⟩ : ∃ m, n = m + 1 := ⟨n - 1, by omega⟩
    have e2 : k = N + 1 := by omega
    subst e2
    have c1 : nI N < nI (N + 1) := nI_lt (by omega) (by omega)
    refine ⟨-9, w, ?_, KX.rf w, Or.inr ⟨fun s hs => hall s (by omega), rfl⟩⟩
    simp only [mX4_depthApart_8, hS.1.1, c1, cl_mk, nm_mk, pu_mk, lit, if_true, if_false, ne_eq, not_false_eq_true, not_true_eq_false, nI_add, nI_or, nI_and, Bool.false_eq_true, ne01, ne10, nI_m1', Nat.or_zero]
  | succ d ih =>
    intro k n w e hn hS hall
    obtain ⟨n, rfl⟩ : ∃ m, n = m + 1 := ⟨n - 1, by omega⟩
    have c1 : ¬ nI N < nI k := nI_nlt (by omega) (by omega)
    have hn2 := lst_Nm (N := N) (Fr := Fr) (A := A) k h8
    cases q : er N Fr A k a b
    · have e2 : (nI (lst (er N Fr A k) a) = nI (lst (er N Fr A k) b)) = False := eq_false (fun z => by
        have := (hn2.1 a b ha hb).mp ((nI_eq (by have := hn2.2 a ha; omega) (by have := hn2.2 b hb; omega)).mp z)
        rw [q] at this; cases this)
      refine ⟨nI k, w, ?_, KX.rf w, Or.inl ⟨k, by omega, q, hall, rfl⟩⟩
      simp only [mX4_depthApart_8, hS.1.1, c1, heap_at hS.2 h8 ha, heap_at hS.2 h8 hb, e2, cl_mk, nm_mk, pu_mk, lit, if_true, if_false, ne_eq, not_false_eq_true, not_true_eq_false, nI_add, nI_or, nI_and, Bool.false_eq_true, ne01, ne10, nI_m1', Nat.or_zero]
    · have e2 : lst (er N Fr A k) a = lst (er N Fr A k) b := (hn2.1 a b ha hb).mpr q
      obtain ⟨w2, g1, g2, g3⟩ := X_heapFiner h1 h8 hF hS
      obtain ⟨x, w3, f1, f2, f3⟩ := ih (k + 1) n w2 (by omega) (by omega) g3 (fun s hs => by
        by_cases z : s = k
        · subst z; exact q
        · exact hall s (by omega))
      refine ⟨x, w3, ?_, g2.tr f2, f3⟩
      simp only [mX4_depthApart_8, hS.1.1, c1, heap_at hS.2 h8 ha, heap_at hS.2 h8 hb, e2, g1, cl_mk, nm_mk, pu_mk, lit, if_true, if_false, ne_eq, not_false_eq_true, not_true_eq_false, nI_add, nI_or, nI_and, Bool.false_eq_true, ne01, ne10, nI_m1', Nat.or_zero]
      exact f1
theorem X_depthApart {w : AW} (h : NetX w N S A) (hN : NetOK N S A) (hV : ViewX w N Fr) (hF : ∀ k, k < N → Fr k < 2 ^ N) {a b : Nat} (ha : a < N) (hb : b < N) : ∃ x w2, mX4_depthApart (nI a) (nI b) w = some (x, w2) ∧ KX w w2 ∧ DepIs N Fr A a b x := by
  have h8 := hN.2.1
  obtain ⟨w1, g1, g2, g3⟩ := X_heapByAtoms h hN hV
  obtain ⟨x, w2, f1, f2, f3⟩ := X_depth8 hN.1 h8 hF ha hb (N + 1) 0 FU w1 (by omega) (FU_gt (by omega)) g3 (fun s hs => by omega)
  refine ⟨x, w2, ?_, g2.tr f2, f3⟩
  simp only [mX4_depthApart, g1, cl_mk, nm_mk, pu_mk, lit, if_true, if_false, ne_eq, not_false_eq_true, not_true_eq_false, nI_add, nI_or, nI_and, Bool.false_eq_true, ne01, ne10, nI_m1', Nat.or_zero]
  exact f1
end H3
end
