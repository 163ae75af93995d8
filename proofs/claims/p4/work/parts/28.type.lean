/-! type -/
def byteX (v : Int64) (j : Nat) : Int32 := (((v.toUInt64 >>> ((nI (8 * j)).toInt64.toUInt64 &&& Int64.toUInt64 63)).toInt64).toInt32) &&& nI 255
def byteM (v : Int64) (j : Nat) : Int32 := ((v >>> ((nI (8 * j)).toInt64 &&& 63)) &&& (255 : Int64)).toInt32
theorem byte_same (v : Int64) {j : Nat} (hj : j < 8) : byteM v j = byteX v j := by
  have h1 : ∀ j, j < 8 → ((((nI (8 * j)).toInt64.toUInt64 &&& Int64.toUInt64 63)).toBitVec % 64#64).toNat = 8 * j := by decide +kernel
  have h2 : ∀ j, j < 8 → (((nI (8 * j)).toInt64 &&& 63).toBitVec.smod 64).toNat = 8 * j := by decide +kernel
  apply Int32.toBitVec_inj.mp
  unfold byteM byteX
  apply BitVec.eq_of_getLsbD_eq
  intro i hi
  simp only [Int32.toBitVec_and, Int64.toBitVec_toInt32, Int64.toBitVec_and, Int64.toBitVec_shiftRight, UInt64.toBitVec_toInt64, UInt64.toBitVec_shiftRight, BitVec.getLsbD_and]
  have f1 : ∀ i, i < 32 → (Int64.toBitVec 255).getLsbD i = decide (i < 8) := by decide +kernel
  have f2 : ∀ i, i < 32 → (nI 255).toBitVec.getLsbD i = decide (i < 8) := by decide +kernel
  have e1 : (((nI (8 * j)).toInt64.toBitVec &&& Int64.toBitVec 63).smod 64).toNat = 8 * j := h2 j hj
  have e2 : (((nI (8 * j)).toInt64.toUInt64 &&& Int64.toUInt64 63).toBitVec % 64).toNat = 8 * j := h1 j hj
  rw [BitVec.signExtend_eq_setWidth_of_le _ (by decide), BitVec.signExtend_eq_setWidth_of_le _ (by decide), BitVec.getLsbD_setWidth, BitVec.getLsbD_setWidth, BitVec.getLsbD_and, f1 i hi, f2 i hi]
  by_cases h8 : i < 8
  · rw [decide_eq_true h8, decide_eq_true hi, Bool.and_true, Bool.and_true, Bool.true_and]
    simp only [BitVec.sshiftRight']
    rw [e1, BitVec.getLsbD_sshiftRight, BitVec.ushiftRight_eq', e2, BitVec.getLsbD_ushiftRight]
    rw [if_pos (by omega)]
    simp
    omega
  · rw [decide_eq_false h8, Bool.and_false, Bool.and_false, Bool.and_false]
theorem byte_nI (v : Int64) (j : Nat) : ∃ b, b < 256 ∧ byteX v j = nI b := by
  obtain ⟨b, hb, e⟩ := pk_andE ((((v.toUInt64 >>> ((nI (8 * j)).toInt64.toUInt64 &&& Int64.toUInt64 63)).toInt64).toInt32)) (m := nI 255) 8 rfl
  exact ⟨b, hb, e⟩
noncomputable def byN (v : Int64) (j : Nat) : Nat := Classical.choose (byte_nI v j)
theorem byN_lt (v : Int64) (j : Nat) : byN v j < 256 := (Classical.choose_spec (byte_nI v j)).1
theorem byN_X (v : Int64) (j : Nat) : byteX v j = nI (byN v j) := (Classical.choose_spec (byte_nI v j)).2
theorem byN_M (v : Int64) {j : Nat} (hj : j < 8) : byteM v j = nI (byN v j) := (byte_same v hj).trans (byN_X v j)
/-- bytes b typed behind T others: row (0, a), their number at (0, 0, c) -/
def typed (w : AW) (a c T : Nat) (b : Nat → Nat) : Nat → AW
  | 0 => w
  | k + 1 => am_set (am_set (typed w a c T b k) 0 a (T + k) (nI (b k))) 0 0 c (nI (T + k + 1))
theorem typed_2 (w : AW) (a c T : Nat) (b : Nat → Nat) : ∀ k, (typed w a c T b k).2 = w.2
  | 0 => rfl
  | k + 1 => typed_2 w a c T b k
theorem typed_row {w : AW} {a c T : Nat} {b : Nat → Nat} {o x : Nat} (h : o ≠ 0 ∨ (x ≠ a ∧ x ≠ 0)) : ∀ k, (typed w a c T b k).1 o x = w.1 o x
  | 0 => rfl
  | k + 1 => by
    have e := typed_row (w := w) (a := a) (c := c) (T := T) (b := b) h k
    show (am_set (am_set _ 0 a _ _) 0 0 c _).1 o x = _
    rw [am_get_row (by omega), am_get_row (by omega), e]
theorem typed_cell {w : AW} {a c T : Nat} {b : Nat → Nat} {i : Nat} (ha : a ≠ 0) (hi : i ≠ c) : ∀ k, (typed w a c T b k).1 0 0 i = w.1 0 0 i
  | 0 => rfl
  | k + 1 => by
    show (am_set (am_set _ 0 a _ _) 0 0 c _).1 0 0 i = _
    rw [am_get_other hi, am_get_row (Or.inr (fun e => ha e.symm)), typed_cell ha hi k]
theorem typed_num {w : AW} {a c T : Nat} {b : Nat → Nat} (h : w.1 0 0 c = nI T) : ∀ k, (typed w a c T b k).1 0 0 c = nI (T + k)
  | 0 => h
  | k + 1 => by
    show (am_set _ 0 0 c _).1 0 0 c = _
    rw [am_get_self]
    rfl
theorem typed_at {w : AW} {a c T : Nat} {b : Nat → Nat} (ha : a ≠ 0) {j : Nat} : ∀ k, (typed w a c T b k).1 0 a j = if T ≤ j ∧ j < T + k then nI (b (j - T)) else w.1 0 a j
  | 0 => by rw [if_neg (by omega)]; rfl
  | k + 1 => by
    show (am_set (am_set (typed w a c T b k) 0 a _ _) 0 0 c _).1 0 a j = _
    rw [am_get_row (Or.inr ha)]
    by_cases e : j = T + k
    · subst e
      rw [am_get_self, if_pos (by omega), Nat.add_sub_cancel_left]
    · rw [am_get_other e, typed_at ha k]
      by_cases h : T ≤ j ∧ j < T + k
      · rw [if_pos h, if_pos (by omega)]
      · rw [if_neg h, if_neg (by omega)]
theorem neg1_lt : nI 4294967295 < nI 0 := by decide
theorem aL_0_9 : am_aL false 0 9 = 200 := rfl
def lft (n k : Nat) : Int32 := if k < n then nI (n - 1 - k) else -nI 1
theorem lft_step {n k : Nat} (hk : k < n) : lft n k + -nI 1 = lft n (k + 1) := by
  unfold lft
  rw [if_pos hk]
  by_cases h : k + 1 < n
  · rw [if_pos h, show n - 1 - k = (n - 1 - (k + 1)) + 1 by omega]
    exact pk_m1 _
  · rw [if_neg h, show n - 1 - k = 0 by omega]
    rfl
theorem X_type33 (w : AW) (v : Int64) {T n : Nat} (hT : T + n ≤ 200) (hn1 : 1 ≤ n) (hn8 : n ≤ 8) (h : w.1 0 0 9 = nI T) : mX5_type_33 v FU (nI (n - 1)) w = some (nI (T + n), typed w 9 9 T (fun k => byN v (n - 1 - k)) n) := by
  have e := loopE (fun m (s : Int32 × AW) => mX5_type_33 v m s.1 s.2) n (fun k => (lft n k, typed w 9 9 T (fun k => byN v (n - 1 - k)) k)) (some (nI (T + n), typed w 9 9 T (fun k => byN v (n - 1 - k)) n)) ?_ ?_ FU 0 (Nat.zero_le _) (FU_gt (by omega))
  · have e0 : lft n 0 = nI (n - 1) := by unfold lft; rw [if_pos (by omega)]; rfl
    rw [← e0]
    exact e
  · intro m k hk
    have e1 := lft_step hk
    have e2 : lft n k = nI (n - 1 - k) := if_pos hk
    have c1 : ¬ nI (n - 1 - k) < nI 0 := nI_nlt (Nat.zero_le _) (by omega)
    have e3 := typed_num (a := 9) (b := fun k => byN v (n - 1 - k)) h k
    have e4 : ∀ x, mX5_put 0 9 (nI (T + k)) x (typed w 9 9 T (fun k => byN v (n - 1 - k)) k) = some ((), am_set (typed w 9 9 T (fun k => byN v (n - 1 - k)) k) 0 9 (T + k) x) := fun x => put_in _ (by rw [aL_0_9]; omega) (by rw [aL_0_9]; decide)
    have e5 := byN_X v (n - 1 - k)
    unfold byteX at e5
    have e6 : (am_set (typed w 9 9 T (fun k => byN v (n - 1 - k)) k) 0 9 (T + k) (nI (byN v (n - 1 - k)))).1 0 0 9 = nI (T + k) := by rw [am_get_row (Or.inr (by decide))]; exact e3
    rw [← e1]
    simp only [e2, mX5_type_33, c1, e3, e4, pk_mul, e5, e6, cl_mk, nm_mk, pu_mk, lit, if_true, if_false, ne_eq, not_false_eq_true, not_true_eq_false, nI_add, nI_or, nI_and, Bool.false_eq_true, ne01, ne10, nI_m1', Nat.or_zero]
    rfl
  · intro m
    have e2 : lft n n = -nI 1 := if_neg (by omega)
    have e3 := typed_num (a := 9) (b := fun k => byN v (n - 1 - k)) h n
    simp only [e2, mX5_type_33, neg1_lt, e3, cl_mk, nm_mk, pu_mk, lit, if_true, if_false, ne_eq, not_false_eq_true, not_true_eq_false, nI_add, nI_or, nI_and, Bool.false_eq_true, ne01, ne10, nI_m1', Nat.or_zero]
theorem M_type37 (w : AW) (v : Int64) {T n : Nat} (hT : T + n ≤ 200) (hn1 : 1 ≤ n) (hn8 : n ≤ 8) (h : w.1 0 0 6 = nI T) : mX6_type_37 v FU (nI (n - 1)) w = some (nI (T + n), typed w 6 6 T (fun k => byN v (n - 1 - k)) n) := by
  have e := loopE (fun m (s : Int32 × AW) => mX6_type_37 v m s.1 s.2) n (fun k => (lft n k, typed w 6 6 T (fun k => byN v (n - 1 - k)) k)) (some (nI (T + n), typed w 6 6 T (fun k => byN v (n - 1 - k)) n)) ?_ ?_ FU 0 (Nat.zero_le _) (FU_gt (by omega))
  · have e0 : lft n 0 = nI (n - 1) := by unfold lft; rw [if_pos (by omega)]; rfl
    rw [← e0]
    exact e
  · intro m k hk
    have e1 := lft_step hk
    have e2 : lft n k = nI (n - 1 - k) := if_pos hk
    have c1 : ¬ nI (n - 1 - k) < nI 0 := nI_nlt (Nat.zero_le _) (by omega)
    have e3 := typed_num (a := 6) (b := fun k => byN v (n - 1 - k)) h k
    have e5 := byN_M v (show n - 1 - k < 8 by omega)
    unfold byteM at e5
    have e6 : (am_set (typed w 6 6 T (fun k => byN v (n - 1 - k)) k) 0 6 (T + k) (nI (byN v (n - 1 - k)))).1 0 0 6 = nI (T + k) := by rw [am_get_row (Or.inr (by decide))]; exact e3
    rw [← e1]
    simp only [e2, mX6_type_37, c1, e3, wr_in (show T + k < 200 by omega) (show 200 < 2 ^ 31 by decide), pk_mul, e5, e6, cl_mk, nm_mk, pu_mk, lit, if_true, if_false, ne_eq, not_false_eq_true, not_true_eq_false, nI_add, nI_or, nI_and, Bool.false_eq_true, ne01, ne10, nI_m1', Nat.or_zero]
    rfl
  · intro m
    have e2 : lft n n = -nI 1 := if_neg (by omega)
    have e3 := typed_num (a := 6) (b := fun k => byN v (n - 1 - k)) h n
    simp only [e2, mX6_type_37, neg1_lt, e3, cl_mk, nm_mk, pu_mk, lit, if_true, if_false, ne_eq, not_false_eq_true, not_true_eq_false, nI_add, nI_or, nI_and, Bool.false_eq_true, ne01, ne10, nI_m1', Nat.or_zero]
theorem pub_type : Pub_type Rel := by
  rintro wX wM ⟨N, S, A, T, y, D, h⟩ v0 v1
  have hR := h
  obtain ⟨hN, hX, hM, hT, h2, hS, h12⟩ := h
  by_cases c0 : v1 < nI 1
  · refine pub_same hR (-nI 1) ?_ ?_ (KX.rf _) (KM0 wM)
    · simp only [mX5_type, c0, cl_mk, nm_mk, pu_mk, lit, if_true, if_false, ne_eq, not_false_eq_true, not_true_eq_false, nI_add, nI_or, nI_and, Bool.false_eq_true, ne01, ne10, nI_m1', Nat.or_zero]
    · simp only [mX6_type, M_inO (lo := 1) (hi := 8) _ (Or.inl c0), cl_mk, nm_mk, pu_mk, lit, if_true, if_false, ne_eq, not_false_eq_true, not_true_eq_false, nI_add, nI_or, nI_and, Bool.false_eq_true, ne01, ne10, nI_m1', Nat.or_zero]
  by_cases c1 : v1 ≤ nI 8
  rotate_left
  · refine pub_same hR (-nI 1) ?_ ?_ (KX.rf _) (KM0 wM)
    · simp only [mX5_type, c0, c1, cl_mk, nm_mk, pu_mk, lit, if_true, if_false, ne_eq, not_false_eq_true, not_true_eq_false, nI_add, nI_or, nI_and, Bool.false_eq_true, ne01, ne10, nI_m1', Nat.or_zero]
    · have c2 : nI 8 < v1 := Int32.not_le.mp c1
      simp only [mX6_type, M_inO (lo := 1) (hi := 8) _ (Or.inr c2), cl_mk, nm_mk, pu_mk, lit, if_true, if_false, ne_eq, not_false_eq_true, not_true_eq_false, nI_add, nI_or, nI_and, Bool.false_eq_true, ne01, ne10, nI_m1', Nat.or_zero]
  obtain ⟨n, hn1, hn8, rfl⟩ : ∃ n, 1 ≤ n ∧ n ≤ 8 ∧ v1 = nI n := by
    have q : ¬ v1 < 0 := fun q => c0 (Int32.lt_trans q (by decide))
    obtain ⟨n, hn, rfl⟩ := nI_of q
    refine ⟨n, ?_, (nI_leI hn (by decide)).mp c1, rfl⟩
    rcases Nat.lt_or_ge n 1 with r | r
    · exact absurd (nI_lt r (by decide)) c0
    · exact r
  have e8 := M_inL (lo := 1) (hi := 8) (am_set wM 0 0 0 (nI 0)) hn1 hn8 (by decide)
  have hT200 := hT.1
  have eT : (am_set wM 0 0 0 (nI 0)).1 0 0 6 = nI T := by rw [am_get_other (by decide)]; exact hT.2.2.1
  by_cases c2 : T + n ≤ 200
  rotate_left
  · have c3 : ¬ nI (T + n) ≤ nI 200 := nI_ge (by omega) (by omega)
    refine pub_same hR (-nI 3) ?_ ?_ (KX.rf _) (KM0 wM)
    · simp only [mX5_type, c0, c1, hT.2.1, c3, cl_mk, nm_mk, pu_mk, lit, if_true, if_false, ne_eq, not_false_eq_true, not_true_eq_false, nI_add, nI_or, nI_and, Bool.false_eq_true, ne01, ne10, nI_m1', Nat.or_zero]
    · simp only [mX6_type, e8, eT, c3, cl_mk, nm_mk, pu_mk, lit, if_true, if_false, ne_eq, not_false_eq_true, not_true_eq_false, nI_add, nI_or, nI_and, Bool.false_eq_true, ne01, ne10, nI_m1', Nat.or_zero]
  have c3 : nI (T + n) ≤ nI 200 := nI_le c2 (by decide)
  have e9 : nI n - nI 1 = nI (n - 1) := pk_sub hn1
  refine ⟨nI (T + n), typed wX 9 9 T (fun k => byN v0 (n - 1 - k)) n, typed (am_set wM 0 0 0 (nI 0)) 6 6 T (fun k => byN v0 (n - 1 - k)) n, ?_, ?_, N, S, A, T + n, (fun j => if T ≤ j ∧ j < T + n then byN v0 (n - 1 - (j - T)) else y j), D, hN, ?_, ?_, ?_, ?_, ?_, ?_⟩
  · simp only [mX5_type, c0, c1, hT.2.1, c3, e9, X_type33 wX v0 c2 hn1 hn8 hT.2.1, cl_mk, nm_mk, pu_mk, lit, if_true, if_false, ne_eq, not_false_eq_true, not_true_eq_false, nI_add, nI_or, nI_and, Bool.false_eq_true, ne01, ne10, nI_m1', Nat.or_zero]
  · simp only [mX6_type, e8, eT, c3, e9, M_type37 _ v0 c2 hn1 hn8 eT, cl_mk, nm_mk, pu_mk, lit, if_true, if_false, ne_eq, not_false_eq_true, not_true_eq_false, nI_add, nI_or, nI_and, Bool.false_eq_true, ne01, ne10, nI_m1', Nat.or_zero]
  · exact hX.c (by rw [typed_row (by decide)]) (typed_row (by decide) n) (typed_row (by decide) n)
  · exact hM.c (by rw [typed_cell (by decide) (by decide)]; rfl) (by rw [typed_row (by decide)]; rfl) (by rw [typed_row (by decide)]; rfl)
  · refine ⟨c2, typed_num hT.2.1 n, typed_num eT n, fun j hj => ?_, fun j => ?_⟩
    · rw [typed_at (by decide), typed_at (by decide)]
      dsimp only
      by_cases hq : T ≤ j ∧ j < T + n
      · rw [if_pos hq, if_pos hq, if_pos hq]
        exact ⟨rfl, rfl⟩
      · rw [if_neg hq, if_neg hq, if_neg hq]
        exact hT.2.2.2.1 j (by omega)
    · dsimp only
      split
      · exact byN_lt _ _
      · exact hT.2.2.2.2 j
  · rw [typed_2, typed_2]
    exact h2
  · refine fun i hi => (hS i hi).c ?_ (fun a h8 _ => ?_)
    · funext a
      rw [typed_row (by omega)]
    · rw [typed_row (by omega), am_get_row (by omega)]
  · rw [typed_row (by decide)]
    exact h12
