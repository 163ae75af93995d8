/-! where a sentence holds: one node -/
def mustF (N : Nat) (Fr : Nat → Nat) (v : Nat) : Nat := orF (fun k => if sdiff (Fr k) v = 0 then 2 ^ k else 0) N
theorem mustF_lt {N : Nat} {Fr : Nat → Nat} {v : Nat} : mustF N Fr v < 2 ^ N := orF_lt (fun k hk => by
  split
  · exact pow_lt_of hk
  · exact Nat.two_pow_pos N)
def opH (N : Nat) (A Fr : Nat → Nat) (c a b : Nat) : Nat := if c = 33 then sdiff (2 ^ N - 1) a else if c = 38 then a &&& b else if c = 62 then sdiff (2 ^ N - 1) a ||| b else if c = 84 then 2 ^ N - 1 else if c = 70 then 0 else if c = 124 then a ||| b else if c = 91 then mustF N Fr a else if c = 123 then sdiff (2 ^ N - 1) (mustF N Fr (sdiff (2 ^ N - 1) a)) else A (c - 112)
def opJ (g : Bool) (N : Nat) (A Fr : Nat → Nat) (c a b : Nat) : Nat := if g = true ∧ (c = 33 ∨ c = 62) then mustF N Fr (opH N A Fr c a b) else opH N A Fr c a b
theorem full_lt (N : Nat) : 2 ^ N - 1 < 2 ^ N := by have := Nat.two_pow_pos N; omega
theorem opH_lt {N : Nat} {A Fr : Nat → Nat} (hA : ∀ i, A i < 2 ^ N) {c a b : Nat} (ha : a < 2 ^ N) (hb : b < 2 ^ N) : opH N A Fr c a b < 2 ^ N := by
  have h0 := Nat.two_pow_pos N
  have hf := full_lt N
  unfold opH
  split
  · exact sdiff_lt hf
  split
  · exact Nat.lt_of_le_of_lt Nat.and_le_left ha
  split
  · exact or_lt (sdiff_lt hf) hb
  split
  · exact hf
  split
  · exact h0
  split
  · exact or_lt ha hb
  split
  · exact mustF_lt
  split
  · exact sdiff_lt hf
  · exact hA _
theorem opJ_lt {g : Bool} {N : Nat} {A Fr : Nat → Nat} (hA : ∀ i, A i < 2 ^ N) {c a b : Nat} (ha : a < 2 ^ N) (hb : b < 2 ^ N) : opJ g N A Fr c a b < 2 ^ N := by
  unfold opJ
  split
  · exact mustF_lt
  · exact opH_lt hA ha hb
/-- what of v lies in the net counts alone -/
theorem mustF_not {N : Nat} {Fr : Nat → Nat} (h8 : N ≤ 8) (hF : ∀ k, k < N → Fr k < 2 ^ N) (v : Nat) : mustF N Fr (v ^^^ 4294967295) = mustF N Fr (sdiff (2 ^ N - 1) v) := by
  have h256 := two_le h8
  have hf := full_lt N
  have key : ∀ n, n ≤ N → orF (fun k => if sdiff (Fr k) (v ^^^ 4294967295) = 0 then 2 ^ k else 0) n = orF (fun k => if sdiff (Fr k) (sdiff (2 ^ N - 1) v) = 0 then 2 ^ k else 0) n := by
    intro n
    induction n with
    | zero => intro _; rfl
    | succ n ih =>
      intro hn
      have e : sdiff (Fr n) (v ^^^ 4294967295) = sdiff (Fr n) (sdiff (2 ^ N - 1) v) := by
        have h1 := hF n (by omega)
        apply Nat.eq_of_testBit_eq
        intro j
        rw [tb_sdiff (by omega), tb_sdiff (by omega), tb_sdiff (by omega), Nat.testBit_xor, tb_all, tb_full]
        by_cases hj : j < N
        · have h32 : j < 32 := by omega
          simp [hj, h32]
        · rw [bits_of_lt h1 (by omega)]
          rfl
      simp only [orF]
      rw [ih (by omega), e]
  exact key N (Nat.le_refl N)
theorem imp_full {N a b : Nat} (h8 : N ≤ 8) (hb : b < 2 ^ N) : (2 ^ N - 1) &&& ((a ^^^ 4294967295) ||| b) = sdiff (2 ^ N - 1) a ||| b := by
  have h256 := two_le h8
  have hf := full_lt N
  apply Nat.eq_of_testBit_eq
  intro j
  rw [Nat.testBit_and, Nat.testBit_or, Nat.testBit_or, tb_sdiff (by omega), Nat.testBit_xor, tb_all, tb_full]
  by_cases hj : j < N
  · have h32 : j < 32 := by omega
    simp [hj, h32]
  · rw [bits_of_lt hb (by omega)]
    simp [hj]
theorem at_m1 {o a : Nat} (w : AW) : mX5_at o a (-nI 1) w = some (nI 0, w) := at_neg w (by decide)
section HD
variable {w : AW} {N : Nat} {S A Fr : Nat → Nat}
theorem X_must (hV : ViewX w N Fr) (h8 : N ≤ 8) (hF : ∀ k, k < N → Fr k < 2 ^ N) (v : Nat) : mX4_must (nI v) w = some (nI (mustF N Fr v), w) := by
  unfold mX4_must
  refine loopE (fun n (s : Int32 × Int32) => mX4_must_4 (nI v) n s.1 s.2 w) N (fun k => (nI (orF (fun k => if sdiff (Fr k) v = 0 then 2 ^ k else 0) k), nI k)) _ ?_ ?_ FU 0 (Nat.zero_le _) (FU_gt (by omega))
  · intro n k hk
    have c1 : ¬ nI N ≤ nI k := nI_ge hk (by omega)
    have e1 := within_B (b := v) w (hF k hk) (by omega)
    by_cases q : sdiff (Fr k) v = 0
    · simp only [mX4_must_4, mX4_must_33, hV.1, c1, from_at hV h8 hk, e1, q, decide_true, bN_t, one_shl (show k < 31 by omega), orF, cl_mk, nm_mk, pu_mk, lit, if_true, if_false, ne_eq, not_false_eq_true, not_true_eq_false, nI_add, nI_or, nI_and, Bool.false_eq_true, ne01, ne10, nI_m1', Nat.or_zero]
    · simp only [mX4_must_4, mX4_must_33, hV.1, c1, from_at hV h8 hk, e1, q, decide_false, bN_f, orF, cl_mk, nm_mk, pu_mk, lit, if_true, if_false, ne_eq, not_false_eq_true, not_true_eq_false, nI_add, nI_or, nI_and, Bool.false_eq_true, ne01, ne10, nI_m1', Nat.or_zero]
  · intro n
    have c1 : nI N ≤ nI N := nI_le (Nat.le_refl N) (by omega)
    simp only [mX4_must_4, hV.1, c1, cl_mk, nm_mk, pu_mk, lit, if_true, if_false, ne_eq, not_false_eq_true, not_true_eq_false, nI_add, nI_or, nI_and, Bool.false_eq_true, ne01, ne10, nI_m1', Nat.or_zero]
    rfl
theorem M_allIn (hz : w.1 0 0 2 = nI N) (hV : ViewM w N Fr) (h8 : N ≤ 8) (hF : ∀ k, k < N → Fr k < 2 ^ N) (v : Nat) : mX6_allIn (nI v) w = some (nI (mustF N Fr v), w) := by
  have h256 := two_le h8
  unfold mX6_allIn
  refine loopE (fun n (s : Int32 × Int32) => mX6_allIn_4 (nI v) n s.1 s.2 w) N (fun k => (nI (orF (fun k => if sdiff (Fr k) v = 0 then 2 ^ k else 0) k), nI k)) _ ?_ ?_ FU 0 (Nat.zero_le _) (FU_gt (by omega))
  · intro n k hk
    have c1 : ¬ nI N ≤ nI k := nI_ge hk (by omega)
    have hfk := hF k hk
    have hsd : sdiff (Fr k) v < 2 ^ N := sdiff_lt hfk
    have r1 : ∀ f : Int32 → Option (Int32 × AW), rd 8 (w.1 0 47) (nI k) f = f (nI (Fr k)) := fun f => by
      rw [rd_in (by omega) (by decide), hV k hk]
    by_cases q : sdiff (Fr k) v = 0
    · simp only [mX6_allIn_4, mX6_allIn_33, hz, c1, r1, nI_sdiff, q, one_shl (show k < 31 by omega), orF, cl_mk, nm_mk, pu_mk, lit, if_true, if_false, ne_eq, not_false_eq_true, not_true_eq_false, nI_add, nI_or, nI_and, Bool.false_eq_true, ne01, ne10, nI_m1', Nat.or_zero]
    · have q2 : (nI (sdiff (Fr k) v) = nI 0) = False := eq_false (fun z => q ((nI_eq (by omega) (by decide)).mp z))
      simp only [mX6_allIn_4, mX6_allIn_33, hz, c1, r1, nI_sdiff, q, q2, orF, cl_mk, nm_mk, pu_mk, lit, if_true, if_false, ne_eq, not_false_eq_true, not_true_eq_false, nI_add, nI_or, nI_and, Bool.false_eq_true, ne01, ne10, nI_m1', Nat.or_zero]
  · intro n
    have c1 : nI N ≤ nI N := nI_le (Nat.le_refl N) (by omega)
    simp only [mX6_allIn_4, hz, c1, cl_mk, nm_mk, pu_mk, lit, if_true, if_false, ne_eq, not_false_eq_true, not_true_eq_false, nI_add, nI_or, nI_and, Bool.false_eq_true, ne01, ne10, nI_m1', Nat.or_zero]
    rfl
/-- the class's step over one unlike part -/
theorem X_jstep {g : Bool} {W : AW} {o ro ra n p P cc x y : Nat} {f1 f2 : Int32} (hcc : isLeaf cc ∨ isPre cc ∨ isJn cc) (hV : ViewX W N Fr) (h8 : N ≤ 8) (hF : ∀ k, k < N → Fr k < 2 ^ N) (hA : ∀ i, i < 4 → cc = 112 + i → W.1 ro ra i = nI (A i)) (hra : am_aL false ro ra = 4) (hpa : W.1 o 0 5 = nI P) (hp : p < P) (hP : P ≤ 40)
    (hs : mX2_sign o (nI p) W = some (nI cc, W)) (h1 : mX2_first o (nI p) W = some (f1, W)) (h2 : mX2_second o (nI p) W = some (f2, W)) (hx : mX5_at 2 2 f1 W = some (nI x, W)) (hy : mX5_at 2 2 f2 W = some (nI y, W)) (hyl : y < 2 ^ N) :
    mX4_judge_13 o ro ra (nI (bN g)) (nI (2 ^ N - 1)) (n + 1) (nI p) W = mX4_judge_13 o ro ra (nI (bN g)) (nI (2 ^ N - 1)) n (nI (p + 1)) (am_set W 2 2 p (nI (opJ g N A Fr cc x y))) := by
  have c1 : ¬ nI P ≤ nI p := nI_ge hp (by omega)
  have hpt : mX2_parts o W = some (nI P, W) := by unfold mX2_parts; rw [hpa]
  have hput : ∀ z, mX5_put 2 2 (nI p) z W = some ((), am_set W 2 2 p z) := fun z => put_in W (by show p < 40; omega) (by decide)
  have hat : ∀ i, i < 4 → cc = 112 + i → mX5_at ro ra (nI i) W = some (nI (A i), W) := fun i hi hz => by
    rw [at_in W (by rw [hra]; exact hi) (by rw [hra]; decide), hA i hi hz]
  have hmu := X_must hV h8 hF
  rcases hcc with (rfl | rfl | rfl | rfl | rfl | rfl) | (rfl | rfl | rfl) | (rfl | rfl | rfl)
  · cases g <;> simp only [mX4_judge_13, mX4_judge_91, mX4_judge_108, mX4_judge_130, mX4_judge_148, mX4_judge_156, hpt, c1, hs, h1, h2, hx, hy, mX5_isAtom, mX5_joined, hput, hat 0 (by decide) rfl, bN_t, bN_f, opJ, opH, pk_sub (show 112 ≤ 112 by decide), cl_mk, nm_mk, pu_mk, lit, if_true, if_false, ne_eq, not_false_eq_true, not_true_eq_false, nI_add, nI_or, nI_and, Bool.false_eq_true, ne01, ne10, nI_m1', Nat.or_zero, nI_eqD, nI_leD, nI_ltD, Nat.reduceLT, Nat.reduceLeDiff, Nat.reduceEqDiff, Nat.reduceSub, or_true, true_or, or_false, false_or, and_true, true_and, and_false, false_and]
  · cases g <;> simp only [mX4_judge_13, mX4_judge_91, mX4_judge_108, mX4_judge_130, mX4_judge_148, mX4_judge_156, hpt, c1, hs, h1, h2, hx, hy, mX5_isAtom, mX5_joined, hput, hat 1 (by decide) rfl, bN_t, bN_f, opJ, opH, pk_sub (show 112 ≤ 113 by decide), cl_mk, nm_mk, pu_mk, lit, if_true, if_false, ne_eq, not_false_eq_true, not_true_eq_false, nI_add, nI_or, nI_and, Bool.false_eq_true, ne01, ne10, nI_m1', Nat.or_zero, nI_eqD, nI_leD, nI_ltD, Nat.reduceLT, Nat.reduceLeDiff, Nat.reduceEqDiff, Nat.reduceSub, or_true, true_or, or_false, false_or, and_true, true_and, and_false, false_and]
  · cases g <;> simp only [mX4_judge_13, mX4_judge_91, mX4_judge_108, mX4_judge_130, mX4_judge_148, mX4_judge_156, hpt, c1, hs, h1, h2, hx, hy, mX5_isAtom, mX5_joined, hput, hat 2 (by decide) rfl, bN_t, bN_f, opJ, opH, pk_sub (show 112 ≤ 114 by decide), cl_mk, nm_mk, pu_mk, lit, if_true, if_false, ne_eq, not_false_eq_true, not_true_eq_false, nI_add, nI_or, nI_and, Bool.false_eq_true, ne01, ne10, nI_m1', Nat.or_zero, nI_eqD, nI_leD, nI_ltD, Nat.reduceLT, Nat.reduceLeDiff, Nat.reduceEqDiff, Nat.reduceSub, or_true, true_or, or_false, false_or, and_true, true_and, and_false, false_and]
  · cases g <;> simp only [mX4_judge_13, mX4_judge_91, mX4_judge_108, mX4_judge_130, mX4_judge_148, mX4_judge_156, hpt, c1, hs, h1, h2, hx, hy, mX5_isAtom, mX5_joined, hput, hat 3 (by decide) rfl, bN_t, bN_f, opJ, opH, pk_sub (show 112 ≤ 115 by decide), cl_mk, nm_mk, pu_mk, lit, if_true, if_false, ne_eq, not_false_eq_true, not_true_eq_false, nI_add, nI_or, nI_and, Bool.false_eq_true, ne01, ne10, nI_m1', Nat.or_zero, nI_eqD, nI_leD, nI_ltD, Nat.reduceLT, Nat.reduceLeDiff, Nat.reduceEqDiff, Nat.reduceSub, or_true, true_or, or_false, false_or, and_true, true_and, and_false, false_and]
  · cases g <;> simp only [mX4_judge_13, mX4_judge_91, mX4_judge_108, mX4_judge_130, mX4_judge_148, mX4_judge_156, hpt, c1, hs, h1, h2, hx, hy, mX5_isAtom, mX5_joined, hput, bN_t, bN_f, opJ, opH, cl_mk, nm_mk, pu_mk, lit, if_true, if_false, ne_eq, not_false_eq_true, not_true_eq_false, nI_add, nI_or, nI_and, Bool.false_eq_true, ne01, ne10, nI_m1', Nat.or_zero, nI_eqD, nI_leD, nI_ltD, Nat.reduceLT, Nat.reduceLeDiff, Nat.reduceEqDiff, Nat.reduceSub, or_true, true_or, or_false, false_or, and_true, true_and, and_false, false_and]
  · cases g <;> simp only [mX4_judge_13, mX4_judge_91, mX4_judge_108, mX4_judge_130, mX4_judge_148, mX4_judge_156, hpt, c1, hs, h1, h2, hx, hy, mX5_isAtom, mX5_joined, hput, bN_t, bN_f, opJ, opH, cl_mk, nm_mk, pu_mk, lit, if_true, if_false, ne_eq, not_false_eq_true, not_true_eq_false, nI_add, nI_or, nI_and, Bool.false_eq_true, ne01, ne10, nI_m1', Nat.or_zero, nI_eqD, nI_leD, nI_ltD, Nat.reduceLT, Nat.reduceLeDiff, Nat.reduceEqDiff, Nat.reduceSub, or_true, true_or, or_false, false_or, and_true, true_and, and_false, false_and]
  · cases g <;> simp only [mX4_judge_13, mX4_judge_91, mX4_judge_108, mX4_judge_130, mX4_judge_148, mX4_judge_156, hpt, c1, hs, h1, h2, hx, hy, mX5_isAtom, mX5_joined, hput, bN_t, bN_f, opJ, opH, nI_sdiff, hmu, cl_mk, nm_mk, pu_mk, lit, if_true, if_false, ne_eq, not_false_eq_true, not_true_eq_false, nI_add, nI_or, nI_and, Bool.false_eq_true, ne01, ne10, nI_m1', Nat.or_zero, nI_eqD, nI_leD, nI_ltD, Nat.reduceLT, Nat.reduceLeDiff, Nat.reduceEqDiff, Nat.reduceSub, or_true, true_or, or_false, false_or, and_true, true_and, and_false, false_and]
  · cases g <;> simp only [mX4_judge_13, mX4_judge_91, mX4_judge_108, mX4_judge_130, mX4_judge_148, mX4_judge_156, hpt, c1, hs, h1, h2, hx, hy, mX5_isAtom, mX5_joined, hput, bN_t, bN_f, opJ, opH, nI_sdiff, hmu, cl_mk, nm_mk, pu_mk, lit, if_true, if_false, ne_eq, not_false_eq_true, not_true_eq_false, nI_add, nI_or, nI_and, Bool.false_eq_true, ne01, ne10, nI_m1', Nat.or_zero, nI_eqD, nI_leD, nI_ltD, Nat.reduceLT, Nat.reduceLeDiff, Nat.reduceEqDiff, Nat.reduceSub, or_true, true_or, or_false, false_or, and_true, true_and, and_false, false_and]
  · cases g <;> simp only [mX4_judge_13, mX4_judge_91, mX4_judge_108, mX4_judge_130, mX4_judge_148, mX4_judge_156, hpt, c1, hs, h1, h2, hx, hy, mX5_isAtom, mX5_joined, hput, bN_t, bN_f, opJ, opH, nI_sdiff, nI_xor, hmu, mustF_not h8 hF, ← sdiff.eq_1, cl_mk, nm_mk, pu_mk, lit, if_true, if_false, ne_eq, not_false_eq_true, not_true_eq_false, nI_add, nI_or, nI_and, Bool.false_eq_true, ne01, ne10, nI_m1', Nat.or_zero, nI_eqD, nI_leD, nI_ltD, Nat.reduceLT, Nat.reduceLeDiff, Nat.reduceEqDiff, Nat.reduceSub, or_true, true_or, or_false, false_or, and_true, true_and, and_false, false_and]
  · cases g <;> simp only [mX4_judge_13, mX4_judge_91, mX4_judge_108, mX4_judge_130, mX4_judge_148, mX4_judge_156, hpt, c1, hs, h1, h2, hx, hy, mX5_isAtom, mX5_joined, hput, bN_t, bN_f, opJ, opH, cl_mk, nm_mk, pu_mk, lit, if_true, if_false, ne_eq, not_false_eq_true, not_true_eq_false, nI_add, nI_or, nI_and, Bool.false_eq_true, ne01, ne10, nI_m1', Nat.or_zero, nI_eqD, nI_leD, nI_ltD, Nat.reduceLT, Nat.reduceLeDiff, Nat.reduceEqDiff, Nat.reduceSub, or_true, true_or, or_false, false_or, and_true, true_and, and_false, false_and]
  · cases g <;> simp only [mX4_judge_13, mX4_judge_91, mX4_judge_108, mX4_judge_130, mX4_judge_148, mX4_judge_156, hpt, c1, hs, h1, h2, hx, hy, mX5_isAtom, mX5_joined, hput, bN_t, bN_f, opJ, opH, cl_mk, nm_mk, pu_mk, lit, if_true, if_false, ne_eq, not_false_eq_true, not_true_eq_false, nI_add, nI_or, nI_and, Bool.false_eq_true, ne01, ne10, nI_m1', Nat.or_zero, nI_eqD, nI_leD, nI_ltD, Nat.reduceLT, Nat.reduceLeDiff, Nat.reduceEqDiff, Nat.reduceSub, or_true, true_or, or_false, false_or, and_true, true_and, and_false, false_and]
  · cases g <;> simp only [mX4_judge_13, mX4_judge_91, mX4_judge_108, mX4_judge_130, mX4_judge_148, mX4_judge_156, hpt, c1, hs, h1, h2, hx, hy, mX5_isAtom, mX5_joined, hput, bN_t, bN_f, opJ, opH, nI_xor, hmu, imp_full h8 hyl, cl_mk, nm_mk, pu_mk, lit, if_true, if_false, ne_eq, not_false_eq_true, not_true_eq_false, nI_add, nI_or, nI_and, Bool.false_eq_true, ne01, ne10, nI_m1', Nat.or_zero, nI_eqD, nI_leD, nI_ltD, Nat.reduceLT, Nat.reduceLeDiff, Nat.reduceEqDiff, Nat.reduceSub, or_true, true_or, or_false, false_or, and_true, true_and, and_false, false_and]
/-- the model's step over one node -/
theorem M_hstep {W : AW} {n p M cc x y lp rp : Nat} {v : Int32} (hcc : isLeaf cc ∨ isPre cc ∨ isJn cc) (hM : NetM W N S A) (hN : NetOK N S A) (hV : ViewM W N Fr) (hF : ∀ k, k < N → Fr k < 2 ^ N) (h26 : W.1 0 0 26 = nI M) (hp : p < M) (hMM : M ≤ 90) (hc : W.1 0 30 p = nI cc)
    (hx0 : kd cc = 0 → x = 0) (hx : kd cc ≠ 0 → lp < 90 ∧ W.1 0 31 p = nI lp ∧ W.1 0 38 lp = nI x) (hy0 : kd cc ≠ 2 → y = 0) (hy : kd cc = 2 → rp < 90 ∧ W.1 0 32 p = nI rp ∧ W.1 0 38 rp = nI y) :
    mX6_holding_4 (n + 1) v (nI p) W = mX6_holding_4 n (nI (opH N A Fr cc x y)) (nI (p + 1)) (am_set W 0 38 p (nI (opH N A Fr cc x y))) := by
  have h8 := hN.2.1
  have c1 : ¬ nI M ≤ nI p := nI_ge hp (by omega)
  have r30 : ∀ f : Int32 → Option (Int32 × AW), rd 90 (W.1 0 30) (nI p) f = f (nI cc) := fun f => by
    rw [rd_in (by omega) (by decide), hc]
  have r31 : kd cc ≠ 0 → (∀ f : Int32 → Option (Int32 × AW), rd 90 (W.1 0 31) (nI p) f = f (nI lp)) ∧ (∀ f : Int32 → Option (Int32 × AW), rd 90 (W.1 0 38) (nI lp) f = f (nI x)) := fun z => by
    obtain ⟨z1, z2, z3⟩ := hx z
    exact ⟨fun f => by rw [rd_in (by omega) (by decide), z2], fun f => by rw [rd_in z1 (by decide), z3]⟩
  have r32 : kd cc = 2 → (∀ f : Int32 → Option (Int32 × AW), rd 90 (W.1 0 32) (nI p) f = f (nI rp)) ∧ (∀ f : Int32 → Option (Int32 × AW), rd 90 (W.1 0 38) (nI rp) f = f (nI y)) := fun z => by
    obtain ⟨z1, z2, z3⟩ := hy z
    exact ⟨fun f => by rw [rd_in (by omega) (by decide), z2], fun f => by rw [rd_in z1 (by decide), z3]⟩
  have hall := X_all' hM hN
  have hmu := M_allIn hM.1 hV h8 hF
  have hw := fun z => wr_in (α := Int32 × AW) (show p < 90 by omega) (show 90 < 2 ^ 31 by decide) W 0 38 z
  have hat := fun (i : Nat) (hi : i < 4) => M_atom hM hi (α := Int32 × AW)
  clear hx hy hM hN hV hF hc
  rcases hcc with (rfl | rfl | rfl | rfl | rfl | rfl) | (rfl | rfl | rfl) | (rfl | rfl | rfl)
  · simp only [mX6_holding_4, mX6_holding_33, mX6_holding_48, mX6_holding_72, mX6_holding_218, h26, c1, r30, mX6_isPrefix, mX6_isPrefix_18, mX6_isJoin, mX6_isJoin_18, mX6_isAtom, mX6_in, zr_0, zr_1, hat 0 (by decide), hw, opH, pk_sub (show 112 ≤ 112 by decide), cl_mk, nm_mk, pu_mk, lit, if_true, if_false, ne_eq, not_false_eq_true, not_true_eq_false, nI_add, nI_or, nI_and, Bool.false_eq_true, ne01, ne10, nI_m1', Nat.or_zero, nI_eqD, nI_leD, nI_ltD, Nat.reduceLT, Nat.reduceLeDiff, Nat.reduceEqDiff, Nat.reduceSub, or_true, true_or, or_false, false_or, and_true, true_and, and_false, false_and]
  · simp only [mX6_holding_4, mX6_holding_33, mX6_holding_48, mX6_holding_72, mX6_holding_218, h26, c1, r30, mX6_isPrefix, mX6_isPrefix_18, mX6_isJoin, mX6_isJoin_18, mX6_isAtom, mX6_in, zr_0, zr_1, hat 1 (by decide), hw, opH, pk_sub (show 112 ≤ 113 by decide), cl_mk, nm_mk, pu_mk, lit, if_true, if_false, ne_eq, not_false_eq_true, not_true_eq_false, nI_add, nI_or, nI_and, Bool.false_eq_true, ne01, ne10, nI_m1', Nat.or_zero, nI_eqD, nI_leD, nI_ltD, Nat.reduceLT, Nat.reduceLeDiff, Nat.reduceEqDiff, Nat.reduceSub, or_true, true_or, or_false, false_or, and_true, true_and, and_false, false_and]
  · simp only [mX6_holding_4, mX6_holding_33, mX6_holding_48, mX6_holding_72, mX6_holding_218, h26, c1, r30, mX6_isPrefix, mX6_isPrefix_18, mX6_isJoin, mX6_isJoin_18, mX6_isAtom, mX6_in, zr_0, zr_1, hat 2 (by decide), hw, opH, pk_sub (show 112 ≤ 114 by decide), cl_mk, nm_mk, pu_mk, lit, if_true, if_false, ne_eq, not_false_eq_true, not_true_eq_false, nI_add, nI_or, nI_and, Bool.false_eq_true, ne01, ne10, nI_m1', Nat.or_zero, nI_eqD, nI_leD, nI_ltD, Nat.reduceLT, Nat.reduceLeDiff, Nat.reduceEqDiff, Nat.reduceSub, or_true, true_or, or_false, false_or, and_true, true_and, and_false, false_and]
  · simp only [mX6_holding_4, mX6_holding_33, mX6_holding_48, mX6_holding_72, mX6_holding_218, h26, c1, r30, mX6_isPrefix, mX6_isPrefix_18, mX6_isJoin, mX6_isJoin_18, mX6_isAtom, mX6_in, zr_0, zr_1, hat 3 (by decide), hw, opH, pk_sub (show 112 ≤ 115 by decide), cl_mk, nm_mk, pu_mk, lit, if_true, if_false, ne_eq, not_false_eq_true, not_true_eq_false, nI_add, nI_or, nI_and, Bool.false_eq_true, ne01, ne10, nI_m1', Nat.or_zero, nI_eqD, nI_leD, nI_ltD, Nat.reduceLT, Nat.reduceLeDiff, Nat.reduceEqDiff, Nat.reduceSub, or_true, true_or, or_false, false_or, and_true, true_and, and_false, false_and]
  · simp only [mX6_holding_4, mX6_holding_33, mX6_holding_48, mX6_holding_72, mX6_holding_218, h26, c1, r30, mX6_isPrefix, mX6_isPrefix_18, mX6_isJoin, mX6_isJoin_18, mX6_isAtom, mX6_in, zr_0, zr_1, hall, hw, opH, cl_mk, nm_mk, pu_mk, lit, if_true, if_false, ne_eq, not_false_eq_true, not_true_eq_false, nI_add, nI_or, nI_and, Bool.false_eq_true, ne01, ne10, nI_m1', Nat.or_zero, nI_eqD, nI_leD, nI_ltD, Nat.reduceLT, Nat.reduceLeDiff, Nat.reduceEqDiff, Nat.reduceSub, or_true, true_or, or_false, false_or, and_true, true_and, and_false, false_and]
  · simp only [mX6_holding_4, mX6_holding_33, mX6_holding_48, mX6_holding_72, mX6_holding_218, h26, c1, r30, mX6_isPrefix, mX6_isPrefix_18, mX6_isJoin, mX6_isJoin_18, mX6_isAtom, mX6_in, zr_0, zr_1, hw, opH, cl_mk, nm_mk, pu_mk, lit, if_true, if_false, ne_eq, not_false_eq_true, not_true_eq_false, nI_add, nI_or, nI_and, Bool.false_eq_true, ne01, ne10, nI_m1', Nat.or_zero, nI_eqD, nI_leD, nI_ltD, Nat.reduceLT, Nat.reduceLeDiff, Nat.reduceEqDiff, Nat.reduceSub, or_true, true_or, or_false, false_or, and_true, true_and, and_false, false_and]
  · obtain ⟨r1, r2⟩ := r31 (by decide)
    simp only [mX6_holding_4, mX6_holding_33, mX6_holding_48, mX6_holding_72, mX6_holding_218, h26, c1, r30, r1, r2, mX6_isPrefix, mX6_isPrefix_18, mX6_isJoin, mX6_isJoin_18, mX6_isAtom, mX6_in, zr_0, zr_1, hall, nI_sdiff, hw, opH, cl_mk, nm_mk, pu_mk, lit, if_true, if_false, ne_eq, not_false_eq_true, not_true_eq_false, nI_add, nI_or, nI_and, Bool.false_eq_true, ne01, ne10, nI_m1', Nat.or_zero, nI_eqD, nI_leD, nI_ltD, Nat.reduceLT, Nat.reduceLeDiff, Nat.reduceEqDiff, Nat.reduceSub, or_true, true_or, or_false, false_or, and_true, true_and, and_false, false_and]
  · obtain ⟨r1, r2⟩ := r31 (by decide)
    simp only [mX6_holding_4, mX6_holding_33, mX6_holding_48, mX6_holding_72, mX6_holding_218, h26, c1, r30, r1, r2, mX6_isPrefix, mX6_isPrefix_18, mX6_isJoin, mX6_isJoin_18, mX6_isAtom, mX6_in, zr_0, zr_1, hmu, hw, opH, cl_mk, nm_mk, pu_mk, lit, if_true, if_false, ne_eq, not_false_eq_true, not_true_eq_false, nI_add, nI_or, nI_and, Bool.false_eq_true, ne01, ne10, nI_m1', Nat.or_zero, nI_eqD, nI_leD, nI_ltD, Nat.reduceLT, Nat.reduceLeDiff, Nat.reduceEqDiff, Nat.reduceSub, or_true, true_or, or_false, false_or, and_true, true_and, and_false, false_and]
  · obtain ⟨r1, r2⟩ := r31 (by decide)
    simp only [mX6_holding_4, mX6_holding_33, mX6_holding_48, mX6_holding_72, mX6_holding_218, h26, c1, r30, r1, r2, mX6_isPrefix, mX6_isPrefix_18, mX6_isJoin, mX6_isJoin_18, mX6_isAtom, mX6_in, zr_0, zr_1, hall, nI_sdiff, hmu, hw, opH, cl_mk, nm_mk, pu_mk, lit, if_true, if_false, ne_eq, not_false_eq_true, not_true_eq_false, nI_add, nI_or, nI_and, Bool.false_eq_true, ne01, ne10, nI_m1', Nat.or_zero, nI_eqD, nI_leD, nI_ltD, Nat.reduceLT, Nat.reduceLeDiff, Nat.reduceEqDiff, Nat.reduceSub, or_true, true_or, or_false, false_or, and_true, true_and, and_false, false_and]
  · obtain ⟨r1, r2⟩ := r31 (by decide)
    obtain ⟨r3, r4⟩ := r32 (by decide)
    simp only [mX6_holding_4, mX6_holding_33, mX6_holding_48, mX6_holding_72, mX6_holding_218, h26, c1, r30, r1, r2, r3, r4, mX6_isPrefix, mX6_isPrefix_18, mX6_isJoin, mX6_isJoin_18, mX6_isAtom, mX6_in, zr_0, zr_1, hw, opH, cl_mk, nm_mk, pu_mk, lit, if_true, if_false, ne_eq, not_false_eq_true, not_true_eq_false, nI_add, nI_or, nI_and, Bool.false_eq_true, ne01, ne10, nI_m1', Nat.or_zero, nI_eqD, nI_leD, nI_ltD, Nat.reduceLT, Nat.reduceLeDiff, Nat.reduceEqDiff, Nat.reduceSub, or_true, true_or, or_false, false_or, and_true, true_and, and_false, false_and]
  · obtain ⟨r1, r2⟩ := r31 (by decide)
    obtain ⟨r3, r4⟩ := r32 (by decide)
    simp only [mX6_holding_4, mX6_holding_33, mX6_holding_48, mX6_holding_72, mX6_holding_218, h26, c1, r30, r1, r2, r3, r4, mX6_isPrefix, mX6_isPrefix_18, mX6_isJoin, mX6_isJoin_18, mX6_isAtom, mX6_in, zr_0, zr_1, hw, opH, cl_mk, nm_mk, pu_mk, lit, if_true, if_false, ne_eq, not_false_eq_true, not_true_eq_false, nI_add, nI_or, nI_and, Bool.false_eq_true, ne01, ne10, nI_m1', Nat.or_zero, nI_eqD, nI_leD, nI_ltD, Nat.reduceLT, Nat.reduceLeDiff, Nat.reduceEqDiff, Nat.reduceSub, or_true, true_or, or_false, false_or, and_true, true_and, and_false, false_and]
  · obtain ⟨r1, r2⟩ := r31 (by decide)
    obtain ⟨r3, r4⟩ := r32 (by decide)
    simp only [mX6_holding_4, mX6_holding_33, mX6_holding_48, mX6_holding_72, mX6_holding_218, h26, c1, r30, r1, r2, r3, r4, mX6_isPrefix, mX6_isPrefix_18, mX6_isJoin, mX6_isJoin_18, mX6_isAtom, mX6_in, zr_0, zr_1, hall, nI_sdiff, hw, opH, cl_mk, nm_mk, pu_mk, lit, if_true, if_false, ne_eq, not_false_eq_true, not_true_eq_false, nI_add, nI_or, nI_and, Bool.false_eq_true, ne01, ne10, nI_m1', Nat.or_zero, nI_eqD, nI_leD, nI_ltD, Nat.reduceLT, Nat.reduceLeDiff, Nat.reduceEqDiff, Nat.reduceSub, or_true, true_or, or_false, false_or, and_true, true_and, and_false, false_and]
end HD
