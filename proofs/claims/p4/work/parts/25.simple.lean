/-! the plain calls: worlds, see, atom, seen, clear, trace, type -/
theorem zr_0 (w : AW) : zr (nI 0) w = some (nI 0, w) := by
  exact if_pos nar_0
theorem zr_1 (w : AW) : zr (nI 1) w = some (nI 1, w) := by
  exact if_pos nar_1
theorem M_in_t {k n : Nat} (w : AW) (hk : k < n) (hn : n < 2 ^ 30) : mX6_in (nI k) (nI 0) (nI (n - 1)) w = some (nI 1, w) := by
  have c1 : ¬ nI k < nI 0 := nI_nlt (Nat.zero_le k) (by omega)
  have c2 : ¬ nI (n - 1) < nI k := nI_nlt (by omega) (by omega)
  simp only [mX6_in, c1, c2, cl_mk, nm_mk, pu_mk, lit, if_true, if_false, ne_eq, not_false_eq_true, not_true_eq_false, nI_add, nI_or, nI_and, Bool.false_eq_true, ne01, ne10, nI_m1', Nat.or_zero]
theorem M_in_f {v : Int32} {n : Nat} (w : AW) (hv : ¬ ∃ k, k < n ∧ v = nI k) (h1 : 1 ≤ n) (hn : n < 2 ^ 30) : mX6_in v (nI 0) (nI (n - 1)) w = some (nI 0, w) := by
  rcases pk_ix v (n := n) (by omega) with q | q | ⟨k, hk, rfl⟩
  · have c1 : v < nI 0 := q
    simp only [mX6_in, c1, cl_mk, nm_mk, pu_mk, lit, if_true, if_false, ne_eq, not_false_eq_true, not_true_eq_false, nI_add, nI_or, nI_and, Bool.false_eq_true, ne01, ne10, nI_m1', Nat.or_zero]
  · by_cases c1 : v < nI 0
    · simp only [mX6_in, c1, cl_mk, nm_mk, pu_mk, lit, if_true, if_false, ne_eq, not_false_eq_true, not_true_eq_false, nI_add, nI_or, nI_and, Bool.false_eq_true, ne01, ne10, nI_m1', Nat.or_zero]
    · have c2 : nI (n - 1) < v := by
        obtain ⟨j, hj, rfl⟩ := nI_of c1
        have := (nI_leI (by omega) hj).mp q
        exact nI_lt (by omega) (by omega)
      simp only [mX6_in, c1, c2, cl_mk, nm_mk, pu_mk, lit, if_true, if_false, ne_eq, not_false_eq_true, not_true_eq_false, nI_add, nI_or, nI_and, Bool.false_eq_true, ne01, ne10, nI_m1', Nat.or_zero]
  · exact absurd ⟨k, hk, rfl⟩ hv
theorem M_inL {lo hi k : Nat} (w : AW) (h1 : lo ≤ k) (h2 : k ≤ hi) (hh : hi < 2 ^ 30) : mX6_in (nI k) (nI lo) (nI hi) w = some (nI 1, w) := by
  have c1 : ¬ nI k < nI lo := nI_nlt h1 (by omega)
  have c2 : ¬ nI hi < nI k := nI_nlt h2 (by omega)
  simp only [mX6_in, c1, c2, cl_mk, nm_mk, pu_mk, lit, if_true, if_false, ne_eq, not_false_eq_true, not_true_eq_false, nI_add, nI_or, nI_and, Bool.false_eq_true, ne01, ne10, nI_m1', Nat.or_zero]
theorem M_inO {lo hi : Nat} {v : Int32} (w : AW) (h : v < nI lo ∨ nI hi < v) : mX6_in v (nI lo) (nI hi) w = some (nI 0, w) := by
  rcases h with c1 | c2
  · simp only [mX6_in, c1, cl_mk, nm_mk, pu_mk, lit, if_true, if_false, ne_eq, not_false_eq_true, not_true_eq_false, nI_add, nI_or, nI_and, Bool.false_eq_true, ne01, ne10, nI_m1', Nat.or_zero]
  · by_cases c1 : v < nI lo
    · simp only [mX6_in, c1, cl_mk, nm_mk, pu_mk, lit, if_true, if_false, ne_eq, not_false_eq_true, not_true_eq_false, nI_add, nI_or, nI_and, Bool.false_eq_true, ne01, ne10, nI_m1', Nat.or_zero]
    · simp only [mX6_in, c1, c2, cl_mk, nm_mk, pu_mk, lit, if_true, if_false, ne_eq, not_false_eq_true, not_true_eq_false, nI_add, nI_or, nI_and, Bool.false_eq_true, ne01, ne10, nI_m1', Nat.or_zero]
theorem M_sort_t {k : Nat} (w : AW) (hk : k < 4) : mX6_isSort (nI k) w = some (nI 1, w) := by
  have e := M_in_t w (show k < 3 + 1 from hk) (by decide)
  simp only [Nat.add_sub_cancel] at e
  simp only [mX6_isSort, e, zr_1, cl_mk, nm_mk, pu_mk, lit, if_true, if_false, ne_eq, not_false_eq_true, not_true_eq_false, nI_add, nI_or, nI_and, Bool.false_eq_true, ne01, ne10, nI_m1', Nat.or_zero]
theorem M_sort_f {v : Int32} (w : AW) (hv : ¬ ∃ k, k < 4 ∧ v = nI k) : mX6_isSort v w = some (nI 0, w) := by
  have e := M_in_f (n := 3 + 1) w hv (by decide) (by decide)
  simp only [Nat.add_sub_cancel] at e
  simp only [mX6_isSort, e, zr_0, cl_mk, nm_mk, pu_mk, lit, if_true, if_false, ne_eq, not_false_eq_true, not_true_eq_false, nI_add, nI_or, nI_and, Bool.false_eq_true, ne01, ne10, nI_m1', Nat.or_zero]
theorem M_world_t {w : AW} {N : Nat} {S A : Nat → Nat} (h : NetM w N S A) (hN : NetOK N S A) {k : Nat} (hk : k < N) : mX6_isWorld (nI k) w = some (nI 1, w) := by
  have := hN.2.1
  simp only [mX6_isWorld, h.1, cl_mk, nm_mk, pu_mk, lit, if_true, if_false, ne_eq, not_false_eq_true, not_true_eq_false, nI_add, nI_or, nI_and, Bool.false_eq_true, ne01, ne10, nI_m1', Nat.or_zero]
  rw [pk_sub hN.1, M_in_t w hk (by omega)]
  simp only [zr_1, cl_mk, nm_mk, pu_mk, lit, if_true, if_false, ne_eq, not_false_eq_true, not_true_eq_false, nI_add, nI_or, nI_and, Bool.false_eq_true, ne01, ne10, nI_m1', Nat.or_zero]
theorem M_world_f {w : AW} {N : Nat} {S A : Nat → Nat} (h : NetM w N S A) (hN : NetOK N S A) {v : Int32} (hv : ¬ ∃ k, k < N ∧ v = nI k) : mX6_isWorld v w = some (nI 0, w) := by
  have := hN.2.1
  simp only [mX6_isWorld, h.1, cl_mk, nm_mk, pu_mk, lit, if_true, if_false, ne_eq, not_false_eq_true, not_true_eq_false, nI_add, nI_or, nI_and, Bool.false_eq_true, ne01, ne10, nI_m1', Nat.or_zero]
  rw [pk_sub hN.1, M_in_f w hv hN.1 (by omega)]
  simp only [zr_0, cl_mk, nm_mk, pu_mk, lit, if_true, if_false, ne_eq, not_false_eq_true, not_true_eq_false, nI_add, nI_or, nI_and, Bool.false_eq_true, ne01, ne10, nI_m1', Nat.or_zero]
theorem X_has_t {w : AW} {N : Nat} {S A : Nat → Nat} (h : NetX w N S A) (hN : NetOK N S A) {k : Nat} (hk : k < N) : mX0_has (nI k) w = some (nI 1, w) := by
  rcases X_has h hN (nI k) with ⟨_, _, _, e⟩ | ⟨e, _⟩
  · exact e
  · exact absurd ⟨k, hk, rfl⟩ e
theorem X_has_f {w : AW} {N : Nat} {S A : Nat → Nat} (h : NetX w N S A) (hN : NetOK N S A) {v : Int32} (hv : ¬ ∃ k, k < N ∧ v = nI k) : mX0_has v w = some (nI 0, w) := by
  rcases X_has h hN v with ⟨k, hk, e, _⟩ | ⟨_, e⟩
  · exact absurd ⟨k, hk, e⟩ hv
  · exact e
theorem X_sort_t {k : Nat} (w : AW) (hk : k < 4) : mX5_isSort (nI k) w = some (nI 1, w) := by
  have c1 : ¬ nI k < nI 0 := nI_nlt (Nat.zero_le k) (by omega)
  have c2 : ¬ nI 4 ≤ nI k := nI_ge hk (by decide)
  simp only [mX5_isSort, c1, c2, cl_mk, nm_mk, pu_mk, lit, if_true, if_false, ne_eq, not_false_eq_true, not_true_eq_false, nI_add, nI_or, nI_and, Bool.false_eq_true, ne01, ne10, nI_m1', Nat.or_zero]
theorem X_sort_f {v : Int32} (w : AW) (hv : ¬ ∃ k, k < 4 ∧ v = nI k) : mX5_isSort v w = some (nI 0, w) := by
  rcases pk_ix v (n := 4) (by decide) with q | q | ⟨k, hk, rfl⟩
  · have c1 : v < nI 0 := q
    simp only [mX5_isSort, c1, cl_mk, nm_mk, pu_mk, lit, if_true, if_false, ne_eq, not_false_eq_true, not_true_eq_false, nI_add, nI_or, nI_and, Bool.false_eq_true, ne01, ne10, nI_m1', Nat.or_zero]
  · by_cases c1 : v < nI 0
    · simp only [mX5_isSort, c1, cl_mk, nm_mk, pu_mk, lit, if_true, if_false, ne_eq, not_false_eq_true, not_true_eq_false, nI_add, nI_or, nI_and, Bool.false_eq_true, ne01, ne10, nI_m1', Nat.or_zero]
    · simp only [mX5_isSort, c1, q, cl_mk, nm_mk, pu_mk, lit, if_true, if_false, ne_eq, not_false_eq_true, not_true_eq_false, nI_add, nI_or, nI_and, Bool.false_eq_true, ne01, ne10, nI_m1', Nat.or_zero]
  · exact absurd ⟨k, hk, rfl⟩ hv
/-- the first n of a row written -/
def setRow (w : AW) (o a : Nat) (f : Nat → Int32) : Nat → AW
  | 0 => w
  | n + 1 => am_set (setRow w o a f n) o a n (f n)
theorem setRow_2 (w : AW) (o a : Nat) (f : Nat → Int32) : ∀ n, (setRow w o a f n).2 = w.2
  | 0 => rfl
  | n + 1 => setRow_2 w o a f n
theorem setRow_row {w : AW} {o a o' a' : Nat} {f : Nat → Int32} (h : o' ≠ o ∨ a' ≠ a) : ∀ n, (setRow w o a f n).1 o' a' = w.1 o' a'
  | 0 => rfl
  | n + 1 => (am_get_row h).trans (setRow_row h n)
theorem setRow_in {w : AW} {o a i : Nat} {f : Nat → Int32} : ∀ n, i < n → (setRow w o a f n).1 o a i = f i := by
  intro n
  induction n with
  | zero => intro h; omega
  | succ n ih =>
    intro h
    by_cases e : i = n
    · subst e
      exact am_get_self _ _ _ _ _
    · exact (am_get_other e).trans (ih (by omega))
theorem setRow_out {w : AW} {o a i : Nat} {f : Nat → Int32} : ∀ n, n ≤ i → (setRow w o a f n).1 o a i = w.1 o a i := by
  intro n
  induction n with
  | zero => intro _; rfl
  | succ n ih =>
    intro h
    exact (am_get_other (by omega)).trans (ih (by omega))
theorem NetX.c {w w2 : AW} {N : Nat} {S A : Nat → Nat} (h : NetX w N S A) (e0 : w2.1 1 0 2 = w.1 1 0 2) (e1 : w2.1 1 1 = w.1 1 1) (e2 : w2.1 1 2 = w.1 1 2) : NetX w2 N S A := ⟨e0.trans h.1, by rw [e1]; exact h.2.1, by rw [e2]; exact h.2.2⟩
theorem NetM.c {w w2 : AW} {N : Nat} {S A : Nat → Nat} (h : NetM w N S A) (e0 : w2.1 0 0 2 = w.1 0 0 2) (e1 : w2.1 0 4 = w.1 0 4) (e2 : w2.1 0 5 = w.1 0 5) : NetM w2 N S A := ⟨e0.trans h.1, by rw [e1]; exact h.2.1, by rw [e2]; exact h.2.2⟩
theorem TextR.c {wX wM wX2 wM2 : AW} {T : Nat} {y : Nat → Nat} (h : TextR wX wM T y) (e0 : wX2.1 0 0 9 = wX.1 0 0 9) (e1 : wX2.1 0 9 = wX.1 0 9) (e2 : wM2.1 0 0 6 = wM.1 0 0 6) (e3 : wM2.1 0 6 = wM.1 0 6) : TextR wX2 wM2 T y := ⟨h.1, e0.trans h.2.1, e2.trans h.2.2.1, fun j hj => by rw [e1, e3]; exact h.2.2.2.1 j hj, h.2.2.2.2⟩
theorem SenR.c {wX wM wX2 wM2 : AW} {i : Nat} {d : SD} (h : SenR wX wM i d) (e0 : wX2.1 (6 + i) = wX.1 (6 + i)) (e1 : ∀ a, 8 ≤ a → a < 16 → wM2.1 0 a = wM.1 0 a) : SenR wX2 wM2 i d := by
  refine ⟨h.1, ?_, ?_⟩
  · unfold SenX
    rw [e0]
    exact h.2.1
  · unfold SenM
    rw [e1 8 (by decide) (by decide), e1 9 (by decide) (by decide), e1 10 (by decide) (by decide), e1 11 (by decide) (by decide), e1 12 (by decide) (by decide), e1 13 (by decide) (by decide), e1 14 (by decide) (by decide), e1 15 (by decide) (by decide)]
    exact h.2.2
theorem KM0 (w : AW) : KM w (am_set w 0 0 0 (nI 0)) := (KM.rf w).set (Or.inr ⟨rfl, by decide, by decide⟩)
theorem pub_trace : Pub_trace Rel := by
  rintro wX wM ⟨N, S, A, T, y, D, h⟩
  refine pub_same h wX.2 rfl ?_ (KX.rf _) (KM0 wM)
  simp only [mX6_trace, cl_mk, nm_mk, pu_mk, lit, if_true, if_false, ne_eq, not_false_eq_true, not_true_eq_false, nI_add, nI_or, nI_and, Bool.false_eq_true, ne01, ne10, nI_m1', Nat.or_zero]
  rw [h.2.2.2.2.1]
  rfl
theorem pub_clear : Pub_clear Rel := by
  rintro wX wM ⟨N, S, A, T, y, D, h⟩
  obtain ⟨hN, hX, hM, hT, h2, hS, h12⟩ := h
  have e6 : (am_set wM 0 0 0 (nI 0)).1 0 0 6 = nI T := by rw [am_get, if_neg (by decide)]; exact hT.2.2.1
  refine ⟨nI T, am_set wX 0 0 9 (nI 0), am_set (am_set wM 0 0 0 (nI 0)) 0 0 6 (nI 0), ?_, ?_, N, S, A, 0, y, D, hN, ?_, ?_, ?_, h2, ?_, h12⟩
  · simp only [mX5_clear, hT.2.1, cl_mk, nm_mk, pu_mk, lit, if_true, if_false, ne_eq, not_false_eq_true, not_true_eq_false, nI_add, nI_or, nI_and, Bool.false_eq_true, ne01, ne10, nI_m1', Nat.or_zero]
  · simp only [mX6_clear, e6, cl_mk, nm_mk, pu_mk, lit, if_true, if_false, ne_eq, not_false_eq_true, not_true_eq_false, nI_add, nI_or, nI_and, Bool.false_eq_true, ne01, ne10, nI_m1', Nat.or_zero]
  · exact hX.c rfl rfl rfl
  · exact hM.c rfl rfl rfl
  · refine ⟨by omega, rfl, rfl, fun j hj => by omega, hT.2.2.2.2⟩
  · exact fun i hi => (hS i hi).c (am_row_ne (by omega)) (fun a h8 _ => (am_get_row (Or.inr (by omega))).trans (am_get_row (Or.inr (by omega))))
theorem pub_see : Pub_see Rel := by
  rintro wX wM ⟨N, S, A, T, y, D, h⟩ v0 v1 v2
  have hR := h
  obtain ⟨hN, hX, hM, hT, h2, hS, h12⟩ := h
  have hM0 : NetM (am_set wM 0 0 0 (nI 0)) N S A := hM.k (KM0 wM)
  have h8 := hN.2.1
  have h256 := two_le h8
  by_cases c0 : ∃ k, k < N ∧ v0 = nI k
  rotate_left
  · refine pub_same hR (-nI 1) ?_ ?_ (KX.rf _) (KM0 wM)
    · simp only [mX5_see, X_has_f hX hN c0, cl_mk, nm_mk, pu_mk, lit, if_true, if_false, ne_eq, not_false_eq_true, not_true_eq_false, nI_add, nI_or, nI_and, Bool.false_eq_true, ne01, ne10, nI_m1', Nat.or_zero]
    · simp only [mX6_see, M_world_f hM0 hN c0, cl_mk, nm_mk, pu_mk, lit, if_true, if_false, ne_eq, not_false_eq_true, not_true_eq_false, nI_add, nI_or, nI_and, Bool.false_eq_true, ne01, ne10, nI_m1', Nat.or_zero]
  by_cases c1 : ∃ k, k < N ∧ v1 = nI k
  rotate_left
  · obtain ⟨a, ha, rfl⟩ := c0
    refine pub_same hR (-nI 1) ?_ ?_ (KX.rf _) (KM0 wM)
    · simp only [mX5_see, X_has_t hX hN ha, X_has_f hX hN c1, cl_mk, nm_mk, pu_mk, lit, if_true, if_false, ne_eq, not_false_eq_true, not_true_eq_false, nI_add, nI_or, nI_and, Bool.false_eq_true, ne01, ne10, nI_m1', Nat.or_zero]
    · simp only [mX6_see, M_world_t hM0 hN ha, M_world_f hM0 hN c1, cl_mk, nm_mk, pu_mk, lit, if_true, if_false, ne_eq, not_false_eq_true, not_true_eq_false, nI_add, nI_or, nI_and, Bool.false_eq_true, ne01, ne10, nI_m1', Nat.or_zero]
  obtain ⟨a, ha, rfl⟩ := c0
  obtain ⟨b, hb, rfl⟩ := c1
  have e01 : ∀ (w : AW) (v : Int32), (¬ ∃ k, k < 2 ∧ v = nI k) → mX6_in v (nI 0) (nI 1) w = some (nI 0, w) := fun w v q => M_in_f (n := 2) w q (by decide) (by decide)
  by_cases c2 : ∃ k, k < 2 ∧ v2 = nI k
  rotate_left
  · have z0 : (v2 = nI 0) = False := eq_false (fun e => c2 ⟨0, by decide, e⟩)
    have z1 : (v2 = nI 1) = False := eq_false (fun e => c2 ⟨1, by decide, e⟩)
    refine pub_same hR (-nI 1) ?_ ?_ (KX.rf _) (KM0 wM)
    · simp only [mX5_see, mX5_isWhether, X_has_t hX hN ha, X_has_t hX hN hb, z0, z1, cl_mk, nm_mk, pu_mk, lit, if_true, if_false, ne_eq, not_false_eq_true, not_true_eq_false, nI_add, nI_or, nI_and, Bool.false_eq_true, ne01, ne10, nI_m1', Nat.or_zero]
    · simp only [mX6_see, M_world_t hM0 hN ha, M_world_t hM0 hN hb, e01 _ _ c2, cl_mk, nm_mk, pu_mk, lit, if_true, if_false, ne_eq, not_false_eq_true, not_true_eq_false, nI_add, nI_or, nI_and, Bool.false_eq_true, ne01, ne10, nI_m1', Nat.or_zero]
  obtain ⟨c, hc, rfl⟩ := c2
  have hSa := hN.2.2.1 a
  have hb2 := pow_lt_of hb
  have hcb : c * 2 ^ b < 2 ^ N := by
    rcases (show c = 0 ∨ c = 1 by omega) with rfl | rfl
    · rw [Nat.zero_mul]; omega
    · rw [Nat.one_mul]; omega
  have hwh : ∀ w : AW, mX5_isWhether (nI c) w = some (nI 1, w) := by
    intro w
    rcases (show c = 0 ∨ c = 1 by omega) with rfl | rfl
    · simp only [mX5_isWhether, mX5_isWhether_9, cl_mk, nm_mk, pu_mk, lit, if_true, if_false, ne_eq, not_false_eq_true, not_true_eq_false, nI_add, nI_or, nI_and, Bool.false_eq_true, ne01, ne10, nI_m1', Nat.or_zero]
    · simp only [mX5_isWhether, mX5_isWhether_9, cl_mk, nm_mk, pu_mk, lit, if_true, if_false, ne_eq, not_false_eq_true, not_true_eq_false, nI_add, nI_or, nI_and, Bool.false_eq_true, ne01, ne10, nI_m1', Nat.or_zero]
  have eseen : mX0_seenBy (nI 0) (nI a) wX = some (nI (S a), wX) := X_seenBy hX hN (sort := 0) (by decide) ha
  have eput : ∀ x, mX5_put 1 1 (nI a) x wX = some ((), am_set wX 1 1 a x) := fun x => put_in wX (by rw [aL_1_1]; omega) (by rw [aL_1_1]; decide)
  have hnew : (S a &&& (2 ^ b ^^^ 4294967295)) ||| c * 2 ^ b < 2 ^ N := or_lt (sdiff_lt hSa) hcb
  refine ⟨nI (if (S a).testBit b then 1 else 0), am_set wX 1 1 a (nI ((S a &&& (2 ^ b ^^^ 4294967295)) ||| c * 2 ^ b)), am_set (am_set wM 0 0 0 (nI 0)) 0 4 a (nI ((S a &&& (2 ^ b ^^^ 4294967295)) ||| c * 2 ^ b)), ?_, ?_, N, (fun k => if k = a then (S a &&& (2 ^ b ^^^ 4294967295)) ||| c * 2 ^ b else S k), A, T, y, D, ?_, ?_, ?_, ?_, h2, ?_, ?_⟩
  · simp only [mX5_see, mX0_let, X_has_t hX hN ha, X_has_t hX hN hb, hwh, eseen, bit_eq wX (show S a < 2 ^ 32 by omega) (show b < 32 by omega), sees_at hX (show a < 8 by omega), eput, one_shl (show b < 31 by omega), shlN (show b < 32 by omega) (show c * 2 ^ b < 2 ^ 32 by omega), nI_xor, cl_mk, nm_mk, pu_mk, lit, if_true, if_false, ne_eq, not_false_eq_true, not_true_eq_false, nI_add, nI_or, nI_and, Bool.false_eq_true, ne01, ne10, nI_m1', Nat.or_zero]
  · have e1 := M_inL (lo := 0) (hi := 1) (am_set wM 0 0 0 (nI 0)) (Nat.zero_le c) (show c ≤ 1 by omega) (by decide)
    simp only [mX6_see, M_world_t hM0 hN ha, M_world_t hM0 hN hb, e1, M_row hM0 (show a < 8 by omega), shr_bit (show b < 32 by omega) (show S a < 2 ^ 31 by omega), one_shl (show b < 31 by omega), shlN (show b < 32 by omega) (show c * 2 ^ b < 2 ^ 32 by omega), nI_xor, wr_in (show a < 8 by omega) (show 8 < 2 ^ 31 by decide), cl_mk, nm_mk, pu_mk, lit, if_true, if_false, ne_eq, not_false_eq_true, not_true_eq_false, nI_add, nI_or, nI_and, Bool.false_eq_true, ne01, ne10, nI_m1', Nat.or_zero]
  · refine ⟨hN.1, hN.2.1, fun k => ?_, fun k hk => ?_, hN.2.2.2.2⟩
    · show (if k = a then _ else S k) < _
      split
      · exact hnew
      · exact hN.2.2.1 k
    · show (if k = a then _ else S k) = 0
      rw [if_neg (by omega)]
      exact hN.2.2.2.1 k hk
  · refine ⟨hX.1, fun k hk => ?_, hX.2.2⟩
    by_cases e : k = a
    · subst e
      rw [am_get_self]
      dsimp only
      rw [if_pos rfl]
    · rw [am_get_other e]
      dsimp only
      rw [if_neg e]
      exact hX.2.1 k hk
  · refine ⟨hM.1, fun k hk => ?_, hM.2.2⟩
    by_cases e : k = a
    · subst e
      rw [am_get_self]
      dsimp only
      rw [if_pos rfl]
    · rw [am_get_other e]
      dsimp only
      rw [if_neg e]
      exact hM.2.1 k hk
  · exact hT.c rfl rfl rfl rfl
  · exact fun i hi => (hS i hi).c (am_row_ne (by omega)) (fun a h8 _ => (am_get_row (Or.inr (by omega))).trans (am_get_row (Or.inr (by omega))))
  · exact h12
theorem X_all' {w : AW} {N : Nat} {S A : Nat → Nat} (h : NetM w N S A) (hN : NetOK N S A) : mX6_all w = some (nI (2 ^ N - 1), w) := by
  simp only [mX6_all, h.1, cl_mk, nm_mk, pu_mk, lit, if_true, if_false, ne_eq, not_false_eq_true, not_true_eq_false, nI_add, nI_or, nI_and, Bool.false_eq_true, ne01, ne10, nI_m1', Nat.or_zero]
  rw [full_nI hN]
theorem pub_atom : Pub_atom Rel := by
  rintro wX wM ⟨N, S, A, T, y, D, h⟩ v0 v1
  have hR := h
  obtain ⟨hN, hX, hM, hT, h2, hS, h12⟩ := h
  have hM0 : NetM (am_set wM 0 0 0 (nI 0)) N S A := hM.k (KM0 wM)
  have h8 := hN.2.1
  have h256 := two_le h8
  by_cases c0 : ∃ k, k < 4 ∧ v0 = nI k
  rotate_left
  · have e := M_in_f (n := 4) (am_set wM 0 0 0 (nI 0)) c0 (by decide) (by decide)
    refine pub_same hR (-nI 1) ?_ ?_ (KX.rf _) (KM0 wM)
    · rcases pk_ix v0 (n := 4) (by decide) with q | q | ⟨k, hk, e⟩
      · have c1 : v0 < nI 0 := q
        simp only [mX5_atom, c1, cl_mk, nm_mk, pu_mk, lit, if_true, if_false, ne_eq, not_false_eq_true, not_true_eq_false, nI_add, nI_or, nI_and, Bool.false_eq_true, ne01, ne10, nI_m1', Nat.or_zero]
      · by_cases c1 : v0 < nI 0
        · simp only [mX5_atom, c1, cl_mk, nm_mk, pu_mk, lit, if_true, if_false, ne_eq, not_false_eq_true, not_true_eq_false, nI_add, nI_or, nI_and, Bool.false_eq_true, ne01, ne10, nI_m1', Nat.or_zero]
        · simp only [mX5_atom, c1, q, cl_mk, nm_mk, pu_mk, lit, if_true, if_false, ne_eq, not_false_eq_true, not_true_eq_false, nI_add, nI_or, nI_and, Bool.false_eq_true, ne01, ne10, nI_m1', Nat.or_zero]
      · exact absurd ⟨k, hk, e⟩ c0
    · simp only [mX6_atom, cl_mk, nm_mk, pu_mk, lit, if_true, if_false, ne_eq, not_false_eq_true, not_true_eq_false, nI_add, nI_or, nI_and, Bool.false_eq_true, ne01, ne10, nI_m1', Nat.or_zero]
      rw [show (3 : Nat) = 4 - 1 from rfl, e]
      simp only [cl_mk, nm_mk, pu_mk, lit, if_true, if_false, ne_eq, not_false_eq_true, not_true_eq_false, nI_add, nI_or, nI_and, Bool.false_eq_true, ne01, ne10, nI_m1', Nat.or_zero]
  obtain ⟨a, ha, rfl⟩ := c0
  have d1 : ¬ nI a < nI 0 := nI_nlt (Nat.zero_le a) (by omega)
  have d2 : ¬ nI 4 ≤ nI a := nI_ge ha (by decide)
  have e0 := M_inL (lo := 0) (hi := 3) (am_set wM 0 0 0 (nI 0)) (Nat.zero_le a) (show a ≤ 3 by omega) (by decide)
  have hall := X_all hX hN
  have hallM := X_all' hM0 hN
  have hat : mX0_atoms wX = some ((), wX) := rfl
  by_cases c1 : ∃ k, k < 2 ^ N ∧ v1 = nI k
  rotate_left
  · have e1 := M_in_f (n := 2 ^ N) (am_set wM 0 0 0 (nI 0)) c1 (Nat.two_pow_pos N) (by omega)
    refine pub_same hR (-nI 1) ?_ ?_ (KX.rf _) (KM0 wM)
    · by_cases q : v1 < nI 0
      · simp only [mX5_atom, d1, d2, q, cl_mk, nm_mk, pu_mk, lit, if_true, if_false, ne_eq, not_false_eq_true, not_true_eq_false, nI_add, nI_or, nI_and, Bool.false_eq_true, ne01, ne10, nI_m1', Nat.or_zero]
      · have q2 : ¬ v1 ≤ nI (2 ^ N - 1) := by
          intro q2
          obtain ⟨j, hj, rfl⟩ := nI_of q
          have := (nI_leI hj (by omega)).mp q2
          exact c1 ⟨j, by have := Nat.two_pow_pos N; omega, rfl⟩
        simp only [mX5_atom, d1, d2, q, hall, q2, cl_mk, nm_mk, pu_mk, lit, if_true, if_false, ne_eq, not_false_eq_true, not_true_eq_false, nI_add, nI_or, nI_and, Bool.false_eq_true, ne01, ne10, nI_m1', Nat.or_zero]
    · simp only [mX6_atom, e0, hallM, e1, cl_mk, nm_mk, pu_mk, lit, if_true, if_false, ne_eq, not_false_eq_true, not_true_eq_false, nI_add, nI_or, nI_and, Bool.false_eq_true, ne01, ne10, nI_m1', Nat.or_zero]
  obtain ⟨m, hm, rfl⟩ := c1
  have d3 : ¬ nI m < nI 0 := nI_nlt (Nat.zero_le m) (by omega)
  have d4 : nI m ≤ nI (2 ^ N - 1) := nI_le (by omega) (by omega)
  have e1 := M_in_t (n := 2 ^ N) (am_set wM 0 0 0 (nI 0)) hm (by omega)
  have eput : ∀ x, mX5_put 1 2 (nI a) x wX = some ((), am_set wX 1 2 a x) := fun x => put_in wX (by rw [aL_1_2]; omega) (by rw [aL_1_2]; decide)
  refine ⟨nI (A a), am_set wX 1 2 a (nI m), am_set (am_set wM 0 0 0 (nI 0)) 0 5 a (nI m), ?_, ?_, N, S, (fun k => if k = a then m else A k), T, y, D, ?_, ?_, ?_, ?_, h2, ?_, ?_⟩
  · simp only [mX5_atom, d1, d2, d3, hall, d4, hat, atoms_at hX ha, eput, cl_mk, nm_mk, pu_mk, lit, if_true, if_false, ne_eq, not_false_eq_true, not_true_eq_false, nI_add, nI_or, nI_and, Bool.false_eq_true, ne01, ne10, nI_m1', Nat.or_zero]
  · simp only [mX6_atom, e0, hallM, e1, M_atom hM0 ha, wr_in ha (show 4 < 2 ^ 31 by decide), cl_mk, nm_mk, pu_mk, lit, if_true, if_false, ne_eq, not_false_eq_true, not_true_eq_false, nI_add, nI_or, nI_and, Bool.false_eq_true, ne01, ne10, nI_m1', Nat.or_zero]
  · refine ⟨hN.1, hN.2.1, hN.2.2.1, hN.2.2.2.1, fun k => ?_⟩
    show (if k = a then _ else A k) < _
    split
    · exact hm
    · exact hN.2.2.2.2 k
  · refine ⟨hX.1, hX.2.1, fun k hk => ?_⟩
    by_cases e : k = a
    · subst e
      rw [am_get_self]
      dsimp only
      rw [if_pos rfl]
    · rw [am_get_other e]
      dsimp only
      rw [if_neg e]
      exact hX.2.2 k hk
  · refine ⟨hM.1, hM.2.1, fun k hk => ?_⟩
    by_cases e : k = a
    · subst e
      rw [am_get_self]
      dsimp only
      rw [if_pos rfl]
    · rw [am_get_other e]
      dsimp only
      rw [if_neg e]
      exact hM.2.2 k hk
  · exact hT.c rfl rfl rfl rfl
  · exact fun i hi => (hS i hi).c (am_row_ne (by omega)) (fun a h8 _ => (am_get_row (Or.inr (by omega))).trans (am_get_row (Or.inr (by omega))))
  · exact h12
