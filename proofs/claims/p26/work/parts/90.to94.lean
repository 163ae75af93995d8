section
/-! logic, falls -/
theorem in7 {v : Int32} (hv : ¬ ∃ k, k < 7 ∧ v = nI k) : v < 0 ∨ ¬ v ≤ 6 := by
  rcases pk_ix v (n := 7) (by decide) with q | q | ⟨k, hk, rfl⟩
  · exact Or.inl q
  · refine Or.inr (fun z => ?_)
    have := Int32.le_trans q z
    exact absurd this (by decide)
  · exact absurd ⟨k, hk, rfl⟩ hv
theorem M_in7_t {k : Nat} (w : AW) (hk : k < 7) : mX6_in (nI k) 0 6 w = some (nI 1, w) := by
  have e := M_in_t w (show k < 6 + 1 from hk) (by decide)
  simp only [Nat.add_sub_cancel] at e
  exact e
theorem M_in7_f {v : Int32} (w : AW) (hv : ¬ ∃ k, k < 7 ∧ v = nI k) : mX6_in v 0 6 w = some (nI 0, w) := by
  have e := M_in_f (n := 6 + 1) w hv (by decide) (by decide)
  simp only [Nat.add_sub_cancel] at e
  exact e
/-- what the two sides know in the end, put so that their answers can be compared -/
theorem both_ans {wX w1 : AW} {o L : Nat} (hL : L < 8) (h : BothYes wX w1 o L id) {what : Nat} (hw : what ≤ 6) :
    ∃ (wX2 wX3 W2 W3 W4 W5 : AW) (a rho : Int32) (nb : Nat), nb ≤ 10 ∧ mX3_sortOut o (nI L) wX = some (nI 1, wX2) ∧ mX3_answer (nI what) wX2 = some (a, wX3) ∧ KX wX wX3 ∧
      mX6_tells 0 w1 = some (nI 1, W2) ∧ mX6_types W2 = some ((), W3) ∧ mX6_rounds (nI L) W3 = some (rho, W4) ∧ W4.1 0 0 35 = nI nb ∧ mX6_logic_78 (nI L) (nI what) rho FU (-9) 0 0 (nI (2 ^ nb - 1)) W4 = some (a, W5) ∧ KM w1 W5 := by
  obtain ⟨wX2, W2, W3, W4, nb, rho, CL, TU, OW, mu, my, pi, br, wh, inn, hd, hnb, hrho, hbit, hmk, hbr, hwl, hwh, hcb, x1, x2, x3, t1, t2, t3, t4, t5, t6, t7, t8⟩ := h
  have hpw := pow_nb hnb
  have h2n : 2 ^ nb ≤ 2 ^ 10 := Nat.pow_le_pow_right (by decide) hnb
  have hCL : CL < 2 ^ 10 := Nat.lt_of_lt_of_le hmk.1 h2n
  have hmu : mu < 2 ^ 10 := Nat.lt_of_lt_of_le hmk.2.2.2.1 h2n
  have hmy : my < 2 ^ 10 := Nat.lt_of_lt_of_le hmk.2.2.2.2.1 h2n
  obtain ⟨s1, s2, s3, s4⟩ := x3
  obtain ⟨wX3, a, a1, a2, a3⟩ := X_ans (fit := fitX L CL TU br) s1 hpw hCL (show L < 9 by omega) s4 hwl (fun u hu => by rw [s2 u hu]; exact flV_fit rho (by omega)) s3 hw
  have hth := flV_th (fit := fitM L mu my inn) (mf := mfM L mu my inn (2 ^ nb)) (fun _ _ => trivial) rho (by omega)
  obtain ⟨W5, a', b1, b2, b3⟩ := M_ans (rho := rho) (fit := fitM L mu my inn) (th := thN (fitM L mu my inn) (mfM L mu my inn (2 ^ nb)) rho) t7 hnb hmu hmy hL (fun u hu => by
    rw [t8 u hu]
    have := (hth u).1
    cases q : thN (fitM L mu my inn) (mfM L mu my inn (2 ^ nb)) rho u
    · exact decide_eq_false (fun z => by rw [this.mp z] at q; cases q)
    · exact decide_eq_true (this.mpr q)) (fun u hu => by rw [t8 u hu]; exact flV_fit rho (by omega)) hw
  have b4 := b3.cg (th2 := thN (fitX L CL TU br) (mfX L (2 ^ nb) CL TU OW br) rho) (see2 := seeX L CL TU br) (fit2 := fitX L CL TU br) (hd2 := fun t => decide (wh t = 1)) (fun t ht => th_eq hbit hmk hbr hnb hL rho t ht) (fun t ht => hwh t ht) (fun t ht => fit_eq hbit hmk hbr hnb hL ht) (fun x y hx hy => see_eq hbit hmk hbr hnb hL hx hy)
  have e : a = a' := a3.uniq hpw hw b4
  subst e
  exact ⟨wX2, wX3, W2, W3, W4, W5, a, nI rho, nb, hnb, x1, a1, x2.tr a2, t1, t4, t5, t7.1, b1, t6.tr b2⟩
theorem pub_logic : Pub_logic Rel := by
  rintro wX wM ⟨N, S, A, T, y, D, h⟩ v0 v1 v2
  have hR := h
  obtain ⟨hN, hX, hM, hT, h2, hS, h12⟩ := h
  by_cases c0 : ∃ k, k < 6 ∧ v0 = nI k
  rotate_left
  · refine pub_same hR (-nI 1) ?_ ?_ (KX.rf _) (KM0 wM)
    · simp only [mX5_logic, X_sen_f _ c0, nS_none, cl_mk, nm_mk, pu_mk, lit, if_true, if_false, ne_eq, not_false_eq_true, not_true_eq_false, nI_add, nI_or, nI_and, Bool.false_eq_true, ne01, ne10, nI_m1', Nat.or_zero]
    · simp only [mX6_logic, M_sen_f _ c0, cl_mk, nm_mk, pu_mk, lit, if_true, if_false, ne_eq, not_false_eq_true, not_true_eq_false, nI_add, nI_or, nI_and, Bool.false_eq_true, ne01, ne10, nI_m1', Nat.or_zero]
  obtain ⟨i, hi, rfl⟩ := c0
  have hcl := cls_sen i hi
  by_cases c1 : ∃ k, k < 8 ∧ v1 = nI k
  rotate_left
  · refine pub_same hR (-nI 1) ?_ ?_ (KX.rf _) (KM0 wM)
    · simp only [mX5_logic, X_sen_t _ hi, nS_some hcl, X_log_f _ c1, cl_mk, nm_mk, pu_mk, lit, if_true, if_false, ne_eq, not_false_eq_true, not_true_eq_false, nI_add, nI_or, nI_and, Bool.false_eq_true, ne01, ne10, nI_m1', Nat.or_zero]
    · simp only [mX6_logic, M_sen_t _ hi, M_log_f _ c1, cl_mk, nm_mk, pu_mk, lit, if_true, if_false, ne_eq, not_false_eq_true, not_true_eq_false, nI_add, nI_or, nI_and, Bool.false_eq_true, ne01, ne10, nI_m1', Nat.or_zero]
  obtain ⟨L, hL, rfl⟩ := c1
  have n10 : ¬ (nI 1 : Int32) = 0 := by decide
  have n11 : (nI 1 : Int32) ≠ 0 := by decide
  have n00 : ¬ ((nI 0 : Int32) ≠ 0) := fun z => z rfl
  have hX0 : mX5_logic (nI i) (nI L) v2 wX = (if v2 < 0 then some ((-1), wX) else if v2 ≤ 6 then cl (mX3_sortOut (6 + i) (nI L) wX) fun x_7 w_6 => if x_7 ≠ 0 then cl (mX3_answer v2 w_6) fun x_9 w_8 => some (x_9, w_8) else some ((-2), w_6) else some ((-1), wX)) := by
    unfold mX5_logic
    rw [X_sen_t _ hi, cl_mk, nS_some hcl, X_log_t _ hL, cl_mk, if_neg n10]
  by_cases c2 : ∃ k, k < 7 ∧ v2 = nI k
  rotate_left
  · refine pub_same hR (-nI 1) ?_ ?_ (KX.rf _) (KM0 wM)
    · rw [hX0]
      rcases in7 c2 with q | q
      · rw [if_pos q]; rfl
      · rw [if_neg q]
        split <;> rfl
    · unfold mX6_logic
      rw [pu_mk, M_sen_t _ hi, cl_mk, if_neg n10, M_log_t _ hL, cl_mk, if_neg n10, M_in7_f _ c2, cl_mk, if_neg n00]
      rfl
  obtain ⟨what, hw, rfl⟩ := c2
  obtain ⟨hd, hSX, hSM⟩ := hS i hi
  generalize D i = d at hd hSX hSM
  have e1 := M_works (hSM.k (KM0 wM)) hi hd.2.1 hd.2.2.2.2.1
  have k1 := wkW_K (w := am_set wM 0 0 0 (nI 0)) (m := sdM d) (z := sdZ d) (c := sdc d) (l := sdl d) (r := sdr d) (b := sdb d) (e := sde d) (y := sdy d)
  have hW := wkW_W (w := am_set wM 0 0 0 (nI 0)) (m := sdM d) (z := sdZ d) (c := sdc d) (l := sdl d) (r := sdr d) (b := sdb d) (e := sde d) (y := sdy d)
  generalize wkW (am_set wM 0 0 0 (nI 0)) (sdM d) (sdZ d) (sdc d) (sdl d) (sdr d) (sdb d) (sde d) (sdy d) = w1 at e1 k1 hW
  have hM0 : mX6_logic (nI i) (nI L) (nI what) wM = cl (mX6_tells 0 w1) fun x_11 w_10 => if x_11 ≠ 0 then cl (mX6_types w_10) fun x_13 w_12 => cl (mX6_rounds (nI L) w_12) fun x_15 w_14 => nm ((1 <<< ((w_14.1 0 0 35) &&& 31)) - 1) fun v8_16 => mX6_logic_78 (nI L) (nI what) x_15 FU (-9) 0 0 v8_16 w_14 else some ((-2), w_10) := by
    unfold mX6_logic
    have e1' : mX6_works (nI i) (am_set wM 0 0 0 0) = some ((), w1) := e1
    rw [pu_mk, M_sen_t _ hi, cl_mk, if_neg n10, M_log_t _ hL, cl_mk, if_neg n10, M_in7_t _ hw, cl_mk, if_pos n11, e1', cl_mk]
  have hXg : mX5_logic (nI i) (nI L) (nI what) wX = cl (mX3_sortOut (6 + i) (nI L) wX) fun x_7 w_6 => if x_7 ≠ 0 then cl (mX3_answer (nI what) w_6) fun x_9 w_8 => some (x_9, w_8) else some ((-2), w_6) := by
    rw [hX0, if_neg (nI_pos (by omega)), if_pos (show nI what ≤ 6 from nI_le (b := 6) (by omega) (by decide))]
  rcases both_one hd hi hSX hW hL with ⟨z1, W2, z2, z3⟩ | hB
  · refine pub_same hR (-nI 2) ?_ ?_ (KX.rf _) (((KM0 wM).tr k1).tr z3)
    · rw [hXg, z1, cl_mk, if_neg n00]; rfl
    · have z2' : mX6_tells 0 w1 = some (nI 0, W2) := z2
      rw [hM0, z2', cl_mk, if_neg n00]; rfl
  · obtain ⟨wX2, wX3, W2, W3, W4, W5, a, rho, nb, hnb, x1, x2, x3, t1, t2, t3, t4, t5, t6⟩ := both_ans hL hB (show what ≤ 6 by omega)
    refine pub_same hR a ?_ ?_ x3 (((KM0 wM).tr k1).tr t6)
    · rw [hXg, x1, cl_mk, if_pos n11, x2, cl_mk]
    · rw [hM0, t1, cl_mk, if_pos n11, t2, cl_mk, t3, cl_mk, t4, sh_nb hnb, show nI (2 ^ nb) - 1 = nI (2 ^ nb - 1) from pk_sub (a := 2 ^ nb) (b := 1) (Nat.two_pow_pos nb), nm_mk]
      exact t5
theorem fallOf_any (v : Int32) (w : AW) : ∃ r, mX3_fallOf v w = some (r, w) := by
  unfold mX3_fallOf
  rcases pk_ix v (n := 1024) (by decide) with q | q | ⟨k, hk, rfl⟩
  · exact ⟨nI 0, by rw [at_neg w q, cl_mk]⟩
  · refine ⟨nI 0, ?_⟩
    have : mX5_at 4 6 v w = some (nI 0, w) := by
      unfold mX5_at
      by_cases z : v < 0
      · rw [if_pos z]; rfl
      · rw [if_neg z, if_pos (show Int32.ofNat (am_aL false 4 6) ≤ v from q)]
        rfl
    rw [this, cl_mk]
  · exact ⟨w.1 4 6 k, by rw [at_in w (show k < 1024 from hk) (by decide), cl_mk]⟩
/-- both answer, and the state stays alike; the answers may differ -/
theorem pubV_falls : PubV_falls Rel Rel := by
  rintro wX wM ⟨N, S, A, T, y, D, h⟩ v0 v1 v2
  have hR := h
  obtain ⟨hN, hX, hM, hT, h2, hS, h12⟩ := h
  have two : ∀ {wX2 wM2 : AW} {r s : Int32}, mX5_falls v0 v1 v2 wX = some (r, wX2) → mX6_falls v0 v1 v2 wM = some (s, wM2) → KX wX wX2 → KM wM wM2 → ∃ (r s : Int32) (wX2 wM2 : AW), mX5_falls v0 v1 v2 wX = some (r, wX2) ∧ mX6_falls v0 v1 v2 wM = some (s, wM2) ∧ Rel wX2 wM2 := fun e1 e2 k k2 => ⟨_, _, _, _, e1, e2, (hR.k k k2).rel⟩
  by_cases c0 : ∃ k, k < 6 ∧ v0 = nI k
  rotate_left
  · refine two (r := -nI 1) (s := -nI 1) ?_ ?_ (KX.rf _) (KM0 wM)
    · simp only [mX5_falls, X_sen_f _ c0, nS_none, cl_mk, nm_mk, pu_mk, lit, if_true, if_false, ne_eq, not_false_eq_true, not_true_eq_false, nI_add, nI_or, nI_and, Bool.false_eq_true, ne01, ne10, nI_m1', Nat.or_zero]
    · simp only [mX6_falls, M_sen_f _ c0, cl_mk, nm_mk, pu_mk, lit, if_true, if_false, ne_eq, not_false_eq_true, not_true_eq_false, nI_add, nI_or, nI_and, Bool.false_eq_true, ne01, ne10, nI_m1', Nat.or_zero]
  obtain ⟨i, hi, rfl⟩ := c0
  have hcl := cls_sen i hi
  by_cases c1 : ∃ k, k < 8 ∧ v1 = nI k
  rotate_left
  · refine two (r := -nI 1) (s := -nI 1) ?_ ?_ (KX.rf _) (KM0 wM)
    · simp only [mX5_falls, X_sen_t _ hi, nS_some hcl, X_log_f _ c1, cl_mk, nm_mk, pu_mk, lit, if_true, if_false, ne_eq, not_false_eq_true, not_true_eq_false, nI_add, nI_or, nI_and, Bool.false_eq_true, ne01, ne10, nI_m1', Nat.or_zero]
    · simp only [mX6_falls, M_sen_t _ hi, M_log_f _ c1, cl_mk, nm_mk, pu_mk, lit, if_true, if_false, ne_eq, not_false_eq_true, not_true_eq_false, nI_add, nI_or, nI_and, Bool.false_eq_true, ne01, ne10, nI_m1', Nat.or_zero]
  obtain ⟨L, hL, rfl⟩ := c1
  have n10 : ¬ (nI 1 : Int32) = 0 := by decide
  have n11 : (nI 1 : Int32) ≠ 0 := by decide
  have n00 : ¬ ((nI 0 : Int32) ≠ 0) := fun z => z rfl
  obtain ⟨hd, hSX, hSM⟩ := hS i hi
  generalize D i = d at hd hSX hSM
  have e1 := M_works (hSM.k (KM0 wM)) hi hd.2.1 hd.2.2.2.2.1
  have k1 := wkW_K (w := am_set wM 0 0 0 (nI 0)) (m := sdM d) (z := sdZ d) (c := sdc d) (l := sdl d) (r := sdr d) (b := sdb d) (e := sde d) (y := sdy d)
  have hW := wkW_W (w := am_set wM 0 0 0 (nI 0)) (m := sdM d) (z := sdZ d) (c := sdc d) (l := sdl d) (r := sdr d) (b := sdb d) (e := sde d) (y := sdy d)
  generalize wkW (am_set wM 0 0 0 (nI 0)) (sdM d) (sdZ d) (sdc d) (sdl d) (sdr d) (sdb d) (sde d) (sdy d) = w1 at e1 k1 hW
  have hP := hd.P40
  have ecb := X_countBits hSX.p (len_sen hi hP) hd.cl hd.sh (show sdP d ≤ 81 by omega) (show L < 9 by omega)
  have hX0 : mX5_falls (nI i) (nI L) v2 wX = (if v2 < 0 then some ((-1), wX) else if (lg_cmp v2.toInt64 ((1 : Int64) <<< ((nI (cntF (hq L (sdM d) (sdc d) (sdf d)) (sdP d))).toInt64 &&& 63))) < 0 then cl (mX3_sortOut (6 + i) (nI L) wX) fun x_9 w_8 => if x_9 ≠ 0 then cl (mX3_fallOf v2 w_8) fun x_11 w_10 => some (x_11, w_10) else some ((-2), w_8) else some ((-1), wX)) := by
    unfold mX5_falls mX3_howMany
    rw [X_sen_t _ hi, cl_mk, nS_some hcl, X_log_t _ hL, cl_mk, if_neg n10, ecb]
    rfl
  have hM0 : mX6_falls (nI i) (nI L) v2 wM = (if 0 ≤ v2 then cl (mX6_tells 0 w1) fun x_9 w_8 => if x_9 ≠ 0 then if v2 < (1 <<< ((w_8.1 0 0 35) &&& 31)) then cl (mX6_types w_8) fun x_11 w_10 => cl (mX6_rounds (nI L) w_10) fun x_13 w_12 => rd 1024 (w_12.1 0 42) v2 fun x_14 => some (x_14, w_12) else some ((-1), w_8) else some ((-2), w_8) else some ((-1), am_set wM 0 0 0 (nI 0))) := by
    unfold mX6_falls
    have e1' : mX6_works (nI i) (am_set wM 0 0 0 0) = some ((), w1) := e1
    rw [pu_mk, M_sen_t _ hi, cl_mk, if_neg n10, M_log_t _ hL, cl_mk, if_neg n10, e1', cl_mk]
    rfl
  have hXe : ∃ r wX2, mX5_falls (nI i) (nI L) v2 wX = some (r, wX2) ∧ KX wX wX2 := by
    rw [hX0]
    by_cases q : v2 < 0
    · rw [if_pos q]
      exact ⟨_, _, rfl, KX.rf _⟩
    · rw [if_neg q]
      by_cases q2 : (lg_cmp v2.toInt64 ((1 : Int64) <<< ((nI (cntF (hq L (sdM d) (sdc d) (sdf d)) (sdP d))).toInt64 &&& 63))) < 0
      · rw [if_pos q2]
        rcases both_one hd hi hSX hW hL with ⟨z1, -⟩ | ⟨wX2, W2, W3, W4, nb, rho, CL, TU, OW, mu, my, pi, br, wh, inn, hd, hnb, hrho, hbit, hmk, hbr, hwl, hwh, hcb, x1, x2, x3, t1, t2, t3, t4, t5, t6, t7, t8⟩
        · rw [z1, cl_mk, if_neg n00]
          exact ⟨_, _, rfl, KX.rf _⟩
        · obtain ⟨r, hr⟩ := fallOf_any v2 wX2
          rw [x1, cl_mk, if_pos n11, hr, cl_mk]
          exact ⟨_, _, rfl, x2⟩
      · rw [if_neg q2]
        exact ⟨_, _, rfl, KX.rf _⟩
  have hMe : ∃ s wM2, mX6_falls (nI i) (nI L) v2 wM = some (s, wM2) ∧ KM wM wM2 := by
    rw [hM0]
    by_cases q : 0 ≤ v2
    · rw [if_pos q]
      rcases both_one hd hi hSX hW hL with ⟨-, W2, z2, z3⟩ | ⟨wX2, W2, W3, W4, nb, rho, CL, TU, OW, mu, my, pi, br, wh, inn, hd, hnb, hrho, hbit, hmk, hbr, hwl, hwh, hcb, x1, x2, x3, t1, t2, t3, t4, t5, t6, t7, t8⟩
      · have z2' : mX6_tells 0 w1 = some (nI 0, W2) := z2
        rw [z2', cl_mk, if_neg n00]
        exact ⟨_, _, rfl, ((KM0 wM).tr k1).tr z3⟩
      · have t1' : mX6_tells 0 w1 = some (nI 1, W2) := t1
        have hpw := pow_nb hnb
        rw [t1', cl_mk, if_pos n11, t3, sh_nb hnb]
        by_cases q2 : v2 < nI (2 ^ nb)
        · rw [if_pos q2, t4, cl_mk, t5, cl_mk]
          rcases pk_ix v2 (n := 2 ^ nb) (by omega) with z | z | ⟨k, hk, rfl⟩
          · exact absurd z (Int32.not_lt.mpr q)
          · exact absurd q2 (Int32.not_lt.mpr z)
          · rw [rd_in (show k < 1024 by omega) (by decide)]
            exact ⟨_, _, rfl, ((KM0 wM).tr k1).tr t6⟩
        · rw [if_neg q2]
          exact ⟨_, _, rfl, ((KM0 wM).tr k1).tr t2⟩
    · rw [if_neg q]
      exact ⟨_, _, rfl, KM0 wM⟩
  obtain ⟨r, wX2, e2, e3⟩ := hXe
  obtain ⟨s, wM2, e4, e5⟩ := hMe
  exact two e2 e4 e3 e5
end
section
/-! falls of a sentence of 10 bits at most: the answers alike -/
theorem shl64 : ∀ n, n < 11 → (1 : Int64) <<< ((nI n).toInt64 &&& 63) = (nI (2 ^ n)).toInt64 := by decide +kernel
theorem cmp64 {x y : Int32} : lg_cmp x.toInt64 y.toInt64 < 0 ↔ x < y := by
  have h1 : x.toInt64 > y.toInt64 ↔ y < x := by
    rw [gt_iff_lt, Int64.lt_iff_toInt_lt, Int32.toInt_toInt64, Int32.toInt_toInt64, Int32.lt_iff_toInt_lt]
  have h2 : x.toInt64 = y.toInt64 ↔ x = y := by
    rw [← Int64.toInt_inj, Int32.toInt_toInt64, Int32.toInt_toInt64, Int32.toInt_inj]
  unfold lg_cmp
  by_cases a : x.toInt64 > y.toInt64
  · rw [if_pos a]
    have := h1.mp a
    constructor
    · intro z
      exact absurd z (by decide)
    · intro z
      rw [Int32.lt_iff_toInt_lt] at z this
      omega
  · rw [if_neg a]
    by_cases b : x.toInt64 = y.toInt64
    · rw [if_pos b]
      have := h2.mp b
      constructor
      · intro z
        exact absurd z (by decide)
      · intro z
        rw [this] at z
        rw [Int32.lt_iff_toInt_lt] at z
        omega
    · rw [if_neg b]
      have c1 : ¬ y < x := fun z => a (h1.mpr z)
      have c2 : ¬ x = y := fun z => b (h2.mpr z)
      constructor
      · intro _
        rw [Int32.lt_iff_toInt_lt] at c1 ⊢
        have : x.toInt ≠ y.toInt := fun z => c2 (Int32.toInt_inj.mp z)
        omega
      · intro _
        decide
theorem falls_alike {wX wM : AW} {i L : Nat} {d : SD} {v2 : Int32} (hd : SDok d) (hi : i < 6) (hSX : SenX wX (6 + i) (sdM d) (sdP d) (sdc d) (sdl d) (sdr d) (sdf d) (sdp d) (sdd d)) (hSM : SenM wM i (sdM d) (sdZ d) (sdc d) (sdl d) (sdr d) (sdb d) (sde d) (sdy d)) (hL : L < 8) (hB : cntF (hq L (sdM d) (sdc d) (sdf d)) (sdP d) ≤ 10) :
    ∃ (r : Int32) (wX2 wM2 : AW), mX5_falls (nI i) (nI L) v2 wX = some (r, wX2) ∧ mX6_falls (nI i) (nI L) v2 wM = some (r, wM2) ∧ KX wX wX2 ∧ KM wM wM2 := by
  have hcl := cls_sen i hi
  have n10 : ¬ (nI 1 : Int32) = 0 := by decide
  have n11 : (nI 1 : Int32) ≠ 0 := by decide
  have n00 : ¬ ((nI 0 : Int32) ≠ 0) := fun z => z rfl
  have hP := hd.P40
  have e1 := M_works (hSM.k (KM0 wM)) hi hd.2.1 hd.2.2.2.2.1
  have k1 := wkW_K (w := am_set wM 0 0 0 (nI 0)) (m := sdM d) (z := sdZ d) (c := sdc d) (l := sdl d) (r := sdr d) (b := sdb d) (e := sde d) (y := sdy d)
  have hW := wkW_W (w := am_set wM 0 0 0 (nI 0)) (m := sdM d) (z := sdZ d) (c := sdc d) (l := sdl d) (r := sdr d) (b := sdb d) (e := sde d) (y := sdy d)
  generalize wkW (am_set wM 0 0 0 (nI 0)) (sdM d) (sdZ d) (sdc d) (sdl d) (sdr d) (sdb d) (sde d) (sdy d) = w1 at e1 k1 hW
  have hM0 : mX6_falls (nI i) (nI L) v2 wM = (if 0 ≤ v2 then cl (mX6_tells 0 w1) fun x_9 w_8 => if x_9 ≠ 0 then if v2 < (1 <<< ((w_8.1 0 0 35) &&& 31)) then cl (mX6_types w_8) fun x_11 w_10 => cl (mX6_rounds (nI L) w_10) fun x_13 w_12 => rd 1024 (w_12.1 0 42) v2 fun x_14 => some (x_14, w_12) else some ((-1), w_8) else some ((-2), w_8) else some ((-1), am_set wM 0 0 0 (nI 0))) := by
    unfold mX6_falls
    have e1' : mX6_works (nI i) (am_set wM 0 0 0 0) = some ((), w1) := e1
    rw [pu_mk, M_sen_t _ hi, cl_mk, if_neg n10, M_log_t _ hL, cl_mk, if_neg n10, e1', cl_mk]
    rfl
  rcases both_one hd hi hSX hW hL with ⟨z1, -⟩ | ⟨wX2, W2, W3, W4, nb, rho, CL, TU, OW, mu, my, pi, br, wh, inn, hdm, hnb, hrho, hbit, hmk, hbr, hwl, hwh, hcb, x1, x2, x3, t1, t2, t3, t4, t5, t6, t7, t8⟩
  · exfalso
    obtain ⟨-, s2⟩ := X_sortOut hSX.p (len_sen hi hP) hd.cl hd.sh (show sdP d ≤ 81 by omega) hd.1 hd.2.2.2.2.2.2.2.1 (show 6 + i ≠ 4 by omega) (show L < 9 by omega) (fun p hp => hd.plZ hp)
    obtain ⟨rho, r1, r2, r3⟩ := any_end (fit := fitX L (CLf L (sdM d) (sdP d) (sdc d) (sdf d) (sdp d)) (TUf L (sdM d) (sdP d) (sdc d) (sdf d) (sdp d)) (brT L (sdM d) (sdP d) (sdc d) (sdl d) (sdr d) (sdf d) (sdp d))) (mf := mfX L (2 ^ cntF (hq L (sdM d) (sdc d) (sdf d)) (sdP d)) (CLf L (sdM d) (sdP d) (sdc d) (sdf d) (sdp d)) (TUf L (sdM d) (sdP d) (sdc d) (sdf d) (sdp d)) (OWf L (sdM d) (sdP d) (sdc d) (sdf d) (sdp d)) (brT L (sdM d) (sdP d) (sdc d) (sdl d) (sdr d) (sdf d) (sdp d))) (2 ^ cntF (hq L (sdM d) (sdc d) (sdf d)) (sdP d))
    obtain ⟨W2, y1, -⟩ := s2 hB rho r1 r2 r3
    rw [z1] at y1
    have := congrArg Prod.fst (Option.some.inj y1)
    exact absurd (show nI 0 = nI 1 from this) (by decide)
  · have hpw := pow_nb hnb
    have t1' : mX6_tells 0 w1 = some (nI 1, W2) := t1
    have hX0 : mX5_falls (nI i) (nI L) v2 wX = (if v2 < 0 then some ((-1), wX) else if v2 < nI (2 ^ nb) then cl (mX3_sortOut (6 + i) (nI L) wX) fun x_9 w_8 => if x_9 ≠ 0 then cl (mX3_fallOf v2 w_8) fun x_11 w_10 => some (x_11, w_10) else some ((-2), w_8) else some ((-1), wX)) := by
      unfold mX5_falls mX3_howMany
      rw [X_sen_t _ hi, cl_mk, nS_some hcl, X_log_t _ hL, cl_mk, if_neg n10, hcb, cl_mk]
      by_cases q : v2 < 0
      · rw [if_pos q, if_pos q]
      · rw [if_neg q, if_neg q, cl_mk, shl64 nb (by omega)]
        by_cases q2 : v2 < nI (2 ^ nb)
        · rw [if_pos q2, if_pos (cmp64.mpr q2)]
        · rw [if_neg q2, if_neg (fun z => q2 (cmp64.mp z))]
    rw [hX0, hM0]
    rcases pk_ix v2 (n := 2 ^ nb) (by omega) with z | z | ⟨k, hk, rfl⟩
    · rw [if_pos z, if_neg (Int32.not_le.mpr z)]
      exact ⟨_, _, _, rfl, rfl, KX.rf _, KM0 wM⟩
    · have z2 : ¬ v2 < nI (2 ^ nb) := Int32.not_lt.mpr z
      have z3 : nI 0 ≤ v2 := Int32.le_trans (nI_le (Nat.zero_le _) (by omega)) z
      have z4 : ¬ v2 < 0 := Int32.not_lt.mpr z3
      rw [if_neg z4, if_neg z2, if_pos (show 0 ≤ v2 from z3), t1', cl_mk, if_pos n11, t3, sh_nb hnb, if_neg z2]
      exact ⟨_, _, _, rfl, rfl, KX.rf _, ((KM0 wM).tr k1).tr t2⟩
    · have z4 : ¬ nI k < 0 := nI_pos (by omega)
      have z5 : nI k < nI (2 ^ nb) := nI_lt hk (by omega)
      obtain ⟨s1, s2, s3, s4⟩ := x3
      have efo : mX3_fallOf (nI k) wX2 = some (wX2.1 4 6 k, wX2) := by
        unfold mX3_fallOf
        rw [at_in wX2 (show k < 1024 by omega) (by decide), cl_mk]
      have esame : wX2.1 4 6 k = W4.1 0 42 k := by
        rw [s2 k hk, t8 k hk]
        exact fl_eq hbit hmk hbr hnb hL rho k hk
      rw [if_neg z4, if_pos z5, x1, cl_mk, if_pos n11, efo, cl_mk, if_pos (Int32.not_lt.mp z4), t1', cl_mk, if_pos n11, t3, sh_nb hnb, if_pos z5, t4, cl_mk, t5, cl_mk, rd_in (show k < 1024 by omega) (by decide), esame]
      exact ⟨_, _, _, rfl, rfl, x2, ((KM0 wM).tr k1).tr t6⟩
/-- new objects -/
def Fresh (wX wM : AW) : Prop := wX = wX0 ∧ wM = wM1
theorem fresh_rel {wX wM : AW} (h : Fresh wX wM) : Rel wX wM := by
  obtain ⟨rfl, rfl⟩ := h
  exact rel_0
theorem fresh_falls : PubA_falls Fresh Rel := by
  rintro wX wM ⟨rfl, rfl⟩ v0 v1 v2
  obtain ⟨N, S, A, T, y, D, h⟩ := rel_0
  have hR := h
  obtain ⟨hN, hX, hM, hT, h2, hS, h12⟩ := h
  by_cases c0 : ∃ k, k < 6 ∧ v0 = nI k
  rotate_left
  · refine pub_same hR (-nI 1) ?_ ?_ (KX.rf _) (KM0 wM1)
    · simp only [mX5_falls, X_sen_f _ c0, nS_none, cl_mk, nm_mk, pu_mk, lit, if_true, if_false, ne_eq, not_false_eq_true, not_true_eq_false, nI_add, nI_or, nI_and, Bool.false_eq_true, ne01, ne10, nI_m1', Nat.or_zero]
    · simp only [mX6_falls, M_sen_f _ c0, cl_mk, nm_mk, pu_mk, lit, if_true, if_false, ne_eq, not_false_eq_true, not_true_eq_false, nI_add, nI_or, nI_and, Bool.false_eq_true, ne01, ne10, nI_m1', Nat.or_zero]
  obtain ⟨i, hi, rfl⟩ := c0
  have hcl := cls_sen i hi
  by_cases c1 : ∃ k, k < 8 ∧ v1 = nI k
  rotate_left
  · refine pub_same hR (-nI 1) ?_ ?_ (KX.rf _) (KM0 wM1)
    · simp only [mX5_falls, X_sen_t _ hi, nS_some hcl, X_log_f _ c1, cl_mk, nm_mk, pu_mk, lit, if_true, if_false, ne_eq, not_false_eq_true, not_true_eq_false, nI_add, nI_or, nI_and, Bool.false_eq_true, ne01, ne10, nI_m1', Nat.or_zero]
    · simp only [mX6_falls, M_sen_t _ hi, M_log_f _ c1, cl_mk, nm_mk, pu_mk, lit, if_true, if_false, ne_eq, not_false_eq_true, not_true_eq_false, nI_add, nI_or, nI_and, Bool.false_eq_true, ne01, ne10, nI_m1', Nat.or_zero]
  obtain ⟨L, hL, rfl⟩ := c1
  obtain ⟨hd, hSX, hSM⟩ := hS i hi
  generalize D i = d at hd hSX hSM
  obtain ⟨r, a, b, e1, e2, k, k2⟩ := falls_alike (v2 := v2) hd hi hSX hSM hL (by
    have e5 : wX0.1 (6 + i) 0 5 = nI 1 ∧ wX0.1 (6 + i) 1 0 = nI 84 := by
      have : ∀ i, i < 6 → wX0.1 (6 + i) 0 5 = nI 1 ∧ wX0.1 (6 + i) 1 0 = nI 84 := by
        intro i hi
        match i, hi with
        | 0, _ => exact ⟨rfl, rfl⟩
        | 1, _ => exact ⟨rfl, rfl⟩
        | 2, _ => exact ⟨rfl, rfl⟩
        | 3, _ => exact ⟨rfl, rfl⟩
        | 4, _ => exact ⟨rfl, rfl⟩
        | 5, _ => exact ⟨rfl, rfl⟩
      exact this i hi
    have hP := hd.P40
    have p1 : sdP d = 1 := (nI_eq (by omega) (by decide)).mp (hSX.1.symm.trans e5.1)
    obtain ⟨z1, z2⟩ := rpF_spec hd.cl (show 0 < sdP d by omega)
    have hc := (hSX.2.2.1 _ z1).1
    rw [z2, e5.2] at hc
    have c84 : sdc d (rpF (sdM d) (sdf d) 0) = 84 := ((nI_eq (by decide) (by have := kinds_lt (kinds_of hd.sh z1); omega)).mp hc).symm
    have : cntF (hq L (sdM d) (sdc d) (sdf d)) 1 ≤ 1 := cntF_le _ 1
    rw [p1]
    omega)
  exact pub_same hR r e1 e2 k k2
end
section
/-! the class takes a sentence's parts in -/
theorem ex1_id {f : Nat → Nat} {m : Nat} : ex1 f m (f m) = f := by
  funext k
  unfold ex1
  split
  · rename_i h
    rw [h]
  · rfl
section TK2
variable {w w0 : AW} {o m P i m0 : Nat} {c l r ph pl dp cT lT rT : Nat → Nat}
theorem SenP.at5 (h : SenP w o m P c l r ph pl dp) (hL : LenOK o P) (hc : ClassOK m P c l r ph) (hs : ShapeOK m c l r) {k : Nat} (hk : k < m) : mX5_at o 1 (nI (ph k)) w = some (nI (c k), w) ∧ mX5_at o 2 (nI (ph k)) w = some (fsX c l ph k, w) ∧ mX5_at o 3 (nI (ph k)) w = some (ssX c r ph k, w) ∧ mX5_at o 4 (nI (ph k)) w = some (nI (pl (ph k)), w) := by
  have hp := hc.1 k hk
  obtain ⟨g1, g2, g3, g4⟩ := h.2.1 k hk
  have a1 := at_in (o := o) (a := 1) (i := ph k) w (by have := (hL 1 (by decide) (by decide)).1; omega) (hL 1 (by decide) (by decide)).2
  have a2 := at_in (o := o) (a := 2) (i := ph k) w (by have := (hL 2 (by decide) (by decide)).1; omega) (hL 2 (by decide) (by decide)).2
  have a3 := at_in (o := o) (a := 3) (i := ph k) w (by have := (hL 3 (by decide) (by decide)).1; omega) (hL 3 (by decide) (by decide)).2
  have a4 := at_in (o := o) (a := 4) (i := ph k) w (by have := (hL 4 (by decide) (by decide)).1; omega) (hL 4 (by decide) (by decide)).2
  rw [a1, a2, a3, a4, g1, (h.2.2 _ hp).1]
  refine ⟨rfl, ?_, ?_, rfl⟩
  · unfold fsX
    rcases hs k hk with q | ⟨q, -⟩ | ⟨q, -, -⟩
    · rw [(g2 q).1, kd_leaf q]; rfl
    · rw [(g3 q).1, kd_pre q]; rfl
    · rw [(g4 q).1, kd_jn q]; rfl
  · unfold ssX
    rcases hs k hk with q | ⟨q, -⟩ | ⟨q, -, -⟩
    · rw [(g2 q).2, kd_leaf q]; rfl
    · rw [(g3 q).2, kd_pre q]; rfl
    · rw [(g4 q).2, kd_jn q]; rfl
theorem X_moved {q : Nat} {ph' : Nat → Nat} (hrow : ∀ p, p < q → w.1 0 7 p = nI (ph' (m0 + p))) (hq : q ≤ 40) {p : Nat} (hp : p < q) (hlt : p < 2 ^ 31) : mX2_movedTo 0 7 (nI p) w = some (nI (ph' (m0 + p)), w) := by
  have ne : nI p ≠ -1 := fun z => by
    have := nI_pos hlt
    rw [z] at this
    exact this (by decide)
  unfold mX2_movedTo
  rw [if_pos ne, at_in w (show p < 40 by omega) (by decide), hrow p hp, cl_mk]
theorem X_moved0 : mX2_movedTo 0 7 (-nI 1) w = some (-nI 1, w) := by
  unfold mX2_movedTo
  rw [if_neg (show ¬ ((-nI 1 : Int32) ≠ -1) from fun z => z rfl)]
  rfl
/-- what a draft holds, of the first n nodes -/
def DrOK (W : AW) (n : Nat) (cT lT rT : Nat → Nat) (P' : Nat) (ph' pl' dp' : Nat → Nat) : Prop := DraftX W n P' cT lT rT ph' pl' dp' ∧ ClassOK n P' cT lT rT ph' ∧ ShapeOK n cT lT rT ∧ ∀ p, p < P' → dp' p ≤ n ∧ pl' p < 1000
theorem cls_le {n P' : Nat} {ph' : Nat → Nat} (h : ClassOK n P' cT lT rT ph') : P' ≤ n := by
  have h1 : cntF (fun _ => true) P' = P' := by
    have : ∀ k, cntF (fun _ => true) k = k := by
      intro k
      induction k with
      | zero => rfl
      | succ k ih =>
        show cntF (fun _ => true) k + bN true = k + 1
        rw [ih]
        rfl
    exact this P'
  have h2 := cnt_surj (h := fun _ => true) (P := P') (n := n) (q := ph') (fun p hp _ => h.2.1 p hp)
  omega
/-- one node more -/
theorem X_addT {W : AW} {n P' : Nat} {ph' pl' dp' : Nat → Nat} {f s : Int32} {pb : Nat} (hD : DrOK W n cT lT rT P' ph' pl' dp') (hn : n ≤ 80) (hk : isLeaf (cT n) ∨ isPre (cT n) ∨ isJn (cT n)) (hl : kd (cT n) ≠ 0 → lT n < n) (hr : kd (cT n) = 2 → rT n < n) (hpb : pb < 1000) (hq : asks (cT n) (lT n) (rT n) ph' f s) :
    ∃ P2 ph2 pl2 dp2 W2, mX2_part 5 (nI (cT n)) f s (nI pb) W = some (nI (ph2 n), W2) ∧ DrOK W2 (n + 1) cT lT rT P2 ph2 pl2 dp2 ∧ (∀ k, k < n → ph2 k = ph' k) ∧ KX W W2 ∧ (∀ o a, (o ≠ 5 ∨ 5 < a) → W2.1 o a = W.1 o a) ∧ ((P2 = P' + 1 ∧ ph2 n = P') ∨ (P2 = P' ∧ ∃ k, k < n ∧ ph2 n = ph2 k)) := by
  obtain ⟨d1, d2, d3, d4⟩ := hD
  have hPn := cls_le d2
  obtain ⟨P2, ph2, pl2, dp2, W2, g1, g2, ⟨a1, a2, a3, a4⟩, g4, g5, -⟩ := X_part (pb := pb) d1 d2 d3 (show P' < 81 by omega) hk hl hr (fun p hp => by have := (d4 p hp).1; omega) hq
  rw [ex1_id, ex1_id, ex1_id] at g2 a1
  refine ⟨P2, ph2, pl2, dp2, W2, g1, ⟨g2, a1, fun k hk2 => ?_, fun p hp => ?_⟩, a2, g4, g5, ?_⟩
  · by_cases e : k = n
    · subst e
      rcases hk with q | q | q
      · exact Or.inl q
      · exact Or.inr (Or.inl ⟨q, hl (by rw [kd_pre q]; decide)⟩)
      · exact Or.inr (Or.inr ⟨q, hl (by rw [kd_jn q]; decide), hr (kd_jn q)⟩)
    · exact d3 k (by omega)
  · rcases a4 with ⟨b1, b2, b3, b4⟩ | ⟨b1, -⟩
    · by_cases e : p < P'
      · have := d4 p e
        obtain ⟨c1, c2⟩ := a3 p e
        rw [c1, c2]
        omega
      · have e2 : p = P' := by omega
        subst e2
        rw [b3, b4]
        refine ⟨?_, hpb⟩
        have hb := bN_lt (modB (cT n))
        have h1 : (if kd (cT n) = 0 then 0 else dp' (ph' (lT n))) ≤ n := by
          split
          · omega
          · rename_i z
            exact (d4 _ (d2.1 _ (hl z))).1
        have h2 : (if kd (cT n) = 2 then dp' (ph' (rT n)) else 0) ≤ n := by
          split
          · rename_i z
            exact (d4 _ (d2.1 _ (hr z))).1
          · omega
        omega
    · rw [b1] at hp
      have := d4 p hp
      obtain ⟨c1, c2⟩ := a3 p hp
      rw [c1, c2]
      omega
  · rcases a4 with ⟨b1, b2, b3, b4⟩ | ⟨b1, k, k1, k2⟩
    · exact Or.inl ⟨b1, b2⟩
    · exact Or.inr ⟨b1, k, k1, by rw [k2, a2 k k1]⟩
theorem X_take2 (hS : SenP w0 (6 + i) m P c l r ph pl dp) (hLn : LenOK (6 + i) P) (hc : ClassOK m P c l r ph) (hs : ShapeOK m c l r) (hi : i < 6) (hP1 : 1 ≤ P) (hP : P ≤ 40) (hm0 : m0 + P ≤ 80) (hpl : ∀ p, p < P → pl p < 1000) (hcT : ∀ q, q < P → cT (m0 + q) = c (rpF m ph q)) (hlT : ∀ q, q < P → kd (c (rpF m ph q)) ≠ 0 → lT (m0 + q) = m0 + ph (l (rpF m ph q))) (hrT : ∀ q, q < P → kd (c (rpF m ph q)) = 2 → rT (m0 + q) = m0 + ph (r (rpF m ph q))) :
    ∀ (e q n : Nat) (W : AW) (P' : Nat) (ph' pl' dp' : Nat → Nat), P = q + e → e < n → KX w0 W → DrOK W (m0 + q) cT lT rT P' ph' pl' dp' → (∀ p, p < q → W.1 0 7 p = nI (ph' (m0 + p))) →
    ∃ W2 P2 ph2 pl2 dp2, mX2_takeIn_2 5 (6 + i) 0 7 n (nI q) W = some (nI (ph2 (m0 + P - 1)), W2) ∧ KX w0 W2 ∧ DrOK W2 (m0 + P) cT lT rT P2 ph2 pl2 dp2 ∧ (∀ k, k < m0 + q → ph2 k = ph' k) := by
  intro e
  induction e with
  | zero =>
    intro q n W P' ph' pl' dp' he hn hK hD hrow
    obtain ⟨n, rfl⟩ : ∃ k, n = k + 1 := ⟨n - 1, by omega⟩
    have e2 : q = P := by omega
    subst e2
    have h5 : W.1 (6 + i) 0 5 = nI q := by rw [hK.2.2.2.2.2 (6 + i) (by omega) (by omega)]; exact hS.1
    refine ⟨W, P', ph', pl', dp', ?_, hK, hD, fun _ _ => rfl⟩
    rw [mX2_takeIn_2, h5, if_pos (nI_le (Nat.le_refl q) (by omega)), show nI q - 1 = nI (q - 1) from pk_sub (a := q) (b := 1) hP1, at_in W (show q - 1 < 40 by omega) (by decide), hrow (q - 1) (by omega), cl_mk, show m0 + (q - 1) = m0 + q - 1 by omega]
  | succ e ih =>
    intro q n W P' ph' pl' dp' he hn hK hD hrow
    obtain ⟨n, rfl⟩ : ∃ k, n = k + 1 := ⟨n - 1, by omega⟩
    have hq : q < P := by omega
    have hWo := hK.2.2.2.2.2 (6 + i) (by omega) (by omega)
    have hSW : SenP W (6 + i) m P c l r ph pl dp := hS.cg hWo
    obtain ⟨k1, k2⟩ := rpF_spec hc hq
    obtain ⟨s1, s2, s3, s4⟩ := hSW.at5 hLn hc hs k1
    rw [k2] at s1 s2 s3 s4
    have hkd := kinds_of hs k1
    -- its first and second, where they now are
    have m1 : mX2_movedTo 0 7 (fsX c l ph (rpF m ph q)) W = some ((if kd (cT (m0 + q)) = 0 then -nI 1 else nI (ph' (lT (m0 + q)))), W) := by
      unfold fsX
      rw [hcT q hq]
      by_cases z : kd (c (rpF m ph q)) = 0
      · rw [if_pos z, if_pos z]
        exact X_moved0
      · have hlt : ph (l (rpF m ph q)) < q := by
          rcases hkd with y | y | y
          · exact absurd (kd_leaf y) z
          · have := hc.2.2.1 _ k1 y; rw [k2] at this; exact this
          · have := (hc.2.2.2.1 _ k1 y).1; rw [k2] at this; exact this
        rw [if_neg z, if_neg z, hlT q hq z]
        exact X_moved hrow (by omega) hlt (by omega)
    have m2 : mX2_movedTo 0 7 (ssX c r ph (rpF m ph q)) W = some ((if kd (cT (m0 + q)) = 2 then nI (ph' (rT (m0 + q))) else -nI 1), W) := by
      unfold ssX
      rw [hcT q hq]
      by_cases z : kd (c (rpF m ph q)) = 2
      · have hlt : ph (r (rpF m ph q)) < q := by
          rcases hkd with y | y | y
          · rw [kd_leaf y] at z; cases z
          · rw [kd_pre y] at z; cases z
          · have := (hc.2.2.2.1 _ k1 y).2; rw [k2] at this; exact this
        rw [if_pos z, if_pos z, hrT q hq z]
        exact X_moved hrow (by omega) hlt (by omega)
      · rw [if_neg z, if_neg z]
        exact X_moved0
    obtain ⟨P2, ph2, pl2, dp2, W2, g1, g2, g3, g4, g5, -⟩ := X_addT (pb := pl q) hD (by omega) (by rw [hcT q hq]; exact hkd) (fun z => by
      rw [hcT q hq] at z
      rw [hlT q hq z]
      rcases hkd with y | y | y
      · exact absurd (kd_leaf y) z
      · have := hc.2.2.1 _ k1 y; rw [k2] at this; omega
      · have := (hc.2.2.2.1 _ k1 y).1; rw [k2] at this; omega) (fun z => by
      rw [hcT q hq] at z
      rw [hrT q hq z]
      rcases hkd with y | y | y
      · rw [kd_leaf y] at z; cases z
      · rw [kd_pre y] at z; cases z
      · have := (hc.2.2.2.1 _ k1 y).2; rw [k2] at this; omega) (hpl q hq) (show asks (cT (m0 + q)) (lT (m0 + q)) (rT (m0 + q)) ph' _ _ from ⟨rfl, rfl⟩)
    have hput : mX5_put 0 7 (nI q) (nI (ph2 (m0 + q))) W2 = some ((), am_set W2 0 7 q (nI (ph2 (m0 + q)))) := put_in W2 (show q < 40 by omega) (by decide)
    obtain ⟨W3, P3, ph3, pl3, dp3, f1, f2, f3, f4⟩ := ih (q + 1) n (am_set W2 0 7 q (nI (ph2 (m0 + q)))) P2 ph2 pl2 dp2 (by omega) (by omega) ((hK.tr g4).set (Or.inr ⟨rfl, Or.inl rfl⟩)) (by
      obtain ⟨d1, d2, d3, d4⟩ := g2
      refine ⟨?_, d2, d3, d4⟩
      unfold DraftX
      rw [am_row_ne (by decide)]
      exact d1) (fun p hp => by
      by_cases z : p = q
      · rw [z, am_get_self]
      · rw [am_get_other z, g5 0 7 (Or.inl (by decide)), hrow p (by omega), g3 (m0 + p) (by omega)])
    refine ⟨W3, P3, ph3, pl3, dp3, ?_, f2, f3, fun k hk => (f4 k (by omega)).trans (g3 k (by omega))⟩
    have h5 : W.1 (6 + i) 0 5 = nI P := by rw [hWo]; exact hS.1
    rw [mX2_takeIn_2, h5, if_neg (nI_ge hq (by omega)), s2, cl_mk, m1, cl_mk, s3, cl_mk, m2, cl_mk, s1, cl_mk, s4, cl_mk, ← hcT q hq, g1, cl_mk, hput, cl_mk, nm_mk, show nI q + 1 = nI (q + 1) from nI_add q 1]
    exact f1
end TK2
end
section
/-! ( i > j ) in the model's work area -/
theorem takes_W {W : AW} {M0 Z0 m z : Nat} {c l r b e y C L R B E Y : Nat → Nat} (hW : WorkM W M0 Z0 C L R B E Y) (hc : ∀ k, k < m → C (M0 + k) = c k ∧ L (M0 + k) = l k + M0 ∧ R (M0 + k) = r k + M0 ∧ B (M0 + k) = b k + Z0 ∧ E (M0 + k) = e k + Z0) (hy : ∀ j, j < z → Y (Z0 + j) = y j) : WorkM (takesW W M0 Z0 m z c l r b e y) (M0 + m) (Z0 + z) C L R B E Y := by
  obtain ⟨h1, h2, h3, h4⟩ := hW
  have row : ∀ a k, 30 ≤ a → (takesW W M0 Z0 m z c l r b e y).1 0 a k = (tk5 W M0 Z0 c l r b e m).1 0 a k := fun a k ha => by
    unfold takesW
    rw [am_get_row (Or.inr (by omega)), am_get_row (Or.inr (by omega)), setAt_row (Or.inr (by omega))]
  refine ⟨?_, ?_, fun k hk => ?_, fun j hj => ?_⟩
  · unfold takesW
    rw [am_get_other (by decide), am_get_self]
  · unfold takesW
    rw [am_get_self]
  · rw [row 30 k (by decide), row 31 k (by decide), row 32 k (by decide), row 33 k (by decide), row 34 k (by decide)]
    by_cases q : k < M0
    · rw [tk5_out q, tk5_out q, tk5_out q, tk5_out q, tk5_out q]
      exact h3 k q
    · obtain ⟨i, rfl⟩ := Nat.exists_eq_add_of_le (Nat.le_of_not_lt q)
      have hi : i < m := by omega
      obtain ⟨g1, g2, g3, g4, g5⟩ := hc i hi
      rw [g1, g2, g3, g4, g5]
      exact tk5_in m hi
  · have e29 : (takesW W M0 Z0 m z c l r b e y).1 0 29 j = (setAt (tk5 W M0 Z0 c l r b e m) 0 29 Z0 (fun j => nI (y j)) z).1 0 29 j := by
      unfold takesW
      rw [am_get_row (by decide), am_get_row (by decide)]
    rw [e29]
    by_cases q : j < Z0
    · rw [setAt_out q, tk5_row (by decide)]
      exact h4 j q
    · obtain ⟨i, rfl⟩ := Nat.exists_eq_add_of_le (Nat.le_of_not_lt q)
      have hi : i < z := by omega
      rw [setAt_in z hi, hy i hi]
/-- the nodes and the text of ( d1 > d2 ) -/
def pcC (d1 d2 : SD) (k : Nat) : Nat := if k < sdM d1 then sdc d1 k else if k < sdM d1 + sdM d2 then sdc d2 (k - sdM d1) else 62
def pcL (d1 d2 : SD) (k : Nat) : Nat := if k < sdM d1 then sdl d1 k else if k < sdM d1 + sdM d2 then sdl d2 (k - sdM d1) + sdM d1 else sdM d1 - 1
def pcR (d1 d2 : SD) (k : Nat) : Nat := if k < sdM d1 then sdr d1 k else if k < sdM d1 + sdM d2 then sdr d2 (k - sdM d1) + sdM d1 else sdM d1 + sdM d2 - 1
def pcB (d1 d2 : SD) (k : Nat) : Nat := if k < sdM d1 then sdb d1 k + 1 else if k < sdM d1 + sdM d2 then sdb d2 (k - sdM d1) + (sdZ d1 + 2) else 0
def pcE (d1 d2 : SD) (k : Nat) : Nat := if k < sdM d1 then sde d1 k + 1 else if k < sdM d1 + sdM d2 then sde d2 (k - sdM d1) + (sdZ d1 + 2) else sdZ d1 + sdZ d2 + 3
def pcY (d1 d2 : SD) (j : Nat) : Nat := if j < 1 then 40 else if j < 1 + sdZ d1 then sdy d1 (j - 1) else if j < sdZ d1 + 2 then 62 else if j < sdZ d1 + 2 + sdZ d2 then sdy d2 (j - (sdZ d1 + 2)) else 41
/-- the same, but that leaves have no first and second -/
def pcL0 (d1 d2 : SD) (k : Nat) : Nat := if kd (pcC d1 d2 k) = 0 then 0 else pcL d1 d2 k
def pcR0 (d1 d2 : SD) (k : Nat) : Nat := if kd (pcC d1 d2 k) = 2 then pcR d1 d2 k else 0
section PC
variable {d1 d2 : SD}
theorem pc_1 {k : Nat} (hk : k < sdM d1) : pcC d1 d2 k = sdc d1 k ∧ pcL d1 d2 k = sdl d1 k ∧ pcR d1 d2 k = sdr d1 k ∧ pcB d1 d2 k = sdb d1 k + 1 ∧ pcE d1 d2 k = sde d1 k + 1 := ⟨if_pos hk, if_pos hk, if_pos hk, if_pos hk, if_pos hk⟩
theorem pc_2 {k : Nat} (hk : k < sdM d2) : pcC d1 d2 (sdM d1 + k) = sdc d2 k ∧ pcL d1 d2 (sdM d1 + k) = sdl d2 k + sdM d1 ∧ pcR d1 d2 (sdM d1 + k) = sdr d2 k + sdM d1 ∧ pcB d1 d2 (sdM d1 + k) = sdb d2 k + (sdZ d1 + 2) ∧ pcE d1 d2 (sdM d1 + k) = sde d2 k + (sdZ d1 + 2) := by
  have h1 : ¬ sdM d1 + k < sdM d1 := by omega
  have h2 : sdM d1 + k < sdM d1 + sdM d2 := by omega
  have h3 : sdM d1 + k - sdM d1 = k := by omega
  unfold pcC pcL pcR pcB pcE
  rw [if_neg h1, if_pos h2, if_neg h1, if_pos h2, if_neg h1, if_pos h2, if_neg h1, if_pos h2, if_neg h1, if_pos h2, h3]
  exact ⟨rfl, rfl, rfl, rfl, rfl⟩
theorem pc_3 : pcC d1 d2 (sdM d1 + sdM d2) = 62 ∧ pcL d1 d2 (sdM d1 + sdM d2) = sdM d1 - 1 ∧ pcR d1 d2 (sdM d1 + sdM d2) = sdM d1 + sdM d2 - 1 ∧ pcB d1 d2 (sdM d1 + sdM d2) = 0 ∧ pcE d1 d2 (sdM d1 + sdM d2) = sdZ d1 + sdZ d2 + 3 := by
  have h1 : ¬ sdM d1 + sdM d2 < sdM d1 := by omega
  have h2 : ¬ sdM d1 + sdM d2 < sdM d1 + sdM d2 := by omega
  unfold pcC pcL pcR pcB pcE
  rw [if_neg h1, if_neg h2, if_neg h1, if_neg h2, if_neg h1, if_neg h2, if_neg h1, if_neg h2, if_neg h1, if_neg h2]
  exact ⟨rfl, rfl, rfl, rfl, rfl⟩
theorem pcY_0 : pcY d1 d2 0 = 40 := rfl
theorem pcY_1 {j : Nat} (hj : j < sdZ d1) : pcY d1 d2 (j + 1) = sdy d1 j := by
  unfold pcY
  rw [if_neg (by omega), if_pos (by omega)]
  rfl
theorem pcY_2 : pcY d1 d2 (sdZ d1 + 1) = 62 := by
  unfold pcY
  rw [if_neg (by omega), if_neg (by omega), if_pos (by omega)]
theorem pcY_3 {j : Nat} (hj : j < sdZ d2) : pcY d1 d2 (j + (sdZ d1 + 2)) = sdy d2 j := by
  unfold pcY
  rw [if_neg (by omega), if_neg (by omega), if_neg (by omega), if_pos (by omega), Nat.add_sub_cancel]
theorem pcY_4 : pcY d1 d2 (sdZ d1 + sdZ d2 + 2) = 41 := by
  unfold pcY
  rw [if_neg (by omega), if_neg (by omega), if_neg (by omega), if_neg (by omega)]
theorem pcY_lt (h1 : SDok d1) (h2 : SDok d2) (j : Nat) : pcY d1 d2 j < 256 := by
  unfold pcY
  split
  · decide
  split
  · exact h1.2.2.2.2.2.2.2.2.2.2.1 _
  split
  · decide
  split
  · exact h2.2.2.2.2.2.2.2.2.2.2.1 _
  · decide
/-- a node is one of the three kinds of places -/
theorem pc_cases {k : Nat} (hk : k < sdM d1 + sdM d2 + 1) : k < sdM d1 ∨ (∃ j, j < sdM d2 ∧ k = sdM d1 + j) ∨ k = sdM d1 + sdM d2 := by
  rcases Nat.lt_or_ge k (sdM d1) with q | q
  · exact Or.inl q
  · rcases Nat.lt_or_ge k (sdM d1 + sdM d2) with q2 | q2
    · exact Or.inr (Or.inl ⟨k - sdM d1, by omega, by omega⟩)
    · exact Or.inr (Or.inr (by omega))
theorem jn62 : isJn 62 := Or.inr (Or.inr rfl)
theorem pc_shape (h1 : SDok d1) (h2 : SDok d2) : ShapeOK (sdM d1 + sdM d2 + 1) (pcC d1 d2) (pcL d1 d2) (pcR d1 d2) := by
  intro k hk
  have m1 := h1.1
  have m2 := h2.1
  rcases pc_cases hk with q | ⟨j, hj, rfl⟩ | rfl
  · obtain ⟨a1, a2, a3, -⟩ := pc_1 (d2 := d2) q
    rw [a1, a2, a3]
    exact h1.sh k q
  · obtain ⟨a1, a2, a3, -⟩ := pc_2 (d1 := d1) hj
    rw [a1, a2, a3]
    rcases h2.sh j hj with g | ⟨g, g1⟩ | ⟨g, g1, g2⟩
    · exact Or.inl g
    · exact Or.inr (Or.inl ⟨g, by omega⟩)
    · exact Or.inr (Or.inr ⟨g, by omega, by omega⟩)
  · obtain ⟨a1, a2, a3, -⟩ := pc_3 (d1 := d1) (d2 := d2)
    rw [a1, a2, a3]
    exact Or.inr (Or.inr ⟨jn62, by omega, by omega⟩)
theorem pc_tree (h1 : SDok d1) (h2 : SDok d2) : TreeOK (sdM d1 + sdM d2 + 1) (pcC d1 d2) (pcL0 d1 d2) (pcR0 d1 d2) (pcB d1 d2) (pcE d1 d2) (pcY d1 d2) := by
  intro k hk
  have m1 := h1.1
  have m2 := h2.1
  have T1 := h1.2.2.2.2.2.1
  have T2 := h2.2.2.2.2.2.1
  have E1 := h1.2.2.2.2.2.2.2.2.2.2.2.1
  have E2 := h2.2.2.2.2.2.2.2.2.2.2.2.1
  have lz : ∀ i, kd (pcC d1 d2 i) = 0 → pcL0 d1 d2 i = 0 := fun i z => if_pos z
  have ln : ∀ i, kd (pcC d1 d2 i) ≠ 0 → pcL0 d1 d2 i = pcL d1 d2 i := fun i z => if_neg z
  have rz : ∀ i, kd (pcC d1 d2 i) ≠ 2 → pcR0 d1 d2 i = 0 := fun i z => if_neg z
  have rn : ∀ i, kd (pcC d1 d2 i) = 2 → pcR0 d1 d2 i = pcR d1 d2 i := fun i z => if_pos z
  rcases pc_cases hk with q | ⟨j, hj, rfl⟩ | rfl
  · obtain ⟨a1, a2, a3, a4, a5⟩ := pc_1 (d2 := d2) q
    have b1 := h1.bZ q
    have b2 := E1 k q
    rcases T1 k q with ⟨g, g1, g2, g3, g4⟩ | ⟨g, g1, g2, g3, g4, g5⟩ | ⟨g, g1, g2, g3, g4, g5, g6, g7, g8⟩
    · refine Or.inl ⟨by rw [a1]; exact g, lz k (by rw [a1]; exact kd_leaf g), rz k (by rw [a1, kd_leaf g]; decide), by rw [a4, a5]; omega, by rw [a4, pcY_1 b1, a1]; exact g4⟩
    · have l1 := pc_1 (d2 := d2) (show sdl d1 k < sdM d1 by omega)
      refine Or.inr (Or.inl ⟨by rw [a1]; exact g, ?_, rz k (by rw [a1, kd_pre g]; decide), ?_, ?_, ?_⟩)
      · rw [ln k (by rw [a1, kd_pre g]; decide), a2]; exact g1
      · rw [ln k (by rw [a1, kd_pre g]; decide), a2, a5, l1.2.2.2.2, g3]
      · rw [ln k (by rw [a1, kd_pre g]; decide), a2, a4, l1.2.2.2.1, g4]
      · rw [a4, pcY_1 b1, a1]; exact g5
    · have l1 := pc_1 (d2 := d2) (show sdl d1 k < sdM d1 by omega)
      have r1 := pc_1 (d2 := d2) (show sdr d1 k < sdM d1 by omega)
      have ne := ln k (by rw [a1, kd_jn g]; decide)
      have re := rn k (by rw [a1]; exact kd_jn g)
      have el := E1 _ (show sdl d1 k < sdM d1 by omega)
      have er := E1 _ (show sdr d1 k < sdM d1 by omega)
      have bl := h1.bZ (show sdr d1 k < sdM d1 by omega)
      have b2' := E1 k q
      refine Or.inr (Or.inr ⟨by rw [a1]; exact g, ?_, ?_, ?_, ?_, ?_, ?_, ?_, ?_⟩)
      · rw [ne, a2]; exact g1
      · rw [re, a3]; exact g2
      · rw [a4, pcY_1 b1]; exact g3
      · rw [ne, a2, a4, l1.2.2.2.1, g4]
      · rw [ne, a2, l1.2.2.2.2, pcY_1 (by omega), a1]; exact g5
      · rw [ne, re, a2, a3, r1.2.2.2.1, l1.2.2.2.2, g6]
      · rw [re, a3, a5, r1.2.2.2.2, g7]
      · rw [re, a3, r1.2.2.2.2, pcY_1 (by omega)]; exact g8
  · obtain ⟨a1, a2, a3, a4, a5⟩ := pc_2 (d1 := d1) hj
    have b1 := h2.bZ hj
    have b2 := E2 j hj
    rcases T2 j hj with ⟨g, g1, g2, g3, g4⟩ | ⟨g, g1, g2, g3, g4, g5⟩ | ⟨g, g1, g2, g3, g4, g5, g6, g7, g8⟩
    · refine Or.inl ⟨by rw [a1]; exact g, lz _ (by rw [a1]; exact kd_leaf g), rz _ (by rw [a1, kd_leaf g]; decide), by rw [a4, a5]; omega, by rw [a4, pcY_3 b1, a1]; exact g4⟩
    · have l1 := pc_2 (d1 := d1) (show sdl d2 j < sdM d2 by omega)
      rw [Nat.add_comm (sdM d1) (sdl d2 j)] at l1
      have ne := ln (sdM d1 + j) (by rw [a1, kd_pre g]; decide)
      refine Or.inr (Or.inl ⟨by rw [a1]; exact g, ?_, rz _ (by rw [a1, kd_pre g]; decide), ?_, ?_, ?_⟩)
      · rw [ne, a2]; omega
      · rw [ne, a2, a5, l1.2.2.2.2, g3]
      · rw [ne, a2, a4, l1.2.2.2.1, g4]; omega
      · rw [a4, pcY_3 b1, a1]; exact g5
    · have l1 := pc_2 (d1 := d1) (show sdl d2 j < sdM d2 by omega)
      have r1 := pc_2 (d1 := d1) (show sdr d2 j < sdM d2 by omega)
      rw [Nat.add_comm (sdM d1) (sdl d2 j)] at l1
      rw [Nat.add_comm (sdM d1) (sdr d2 j)] at r1
      have ne := ln (sdM d1 + j) (by rw [a1, kd_jn g]; decide)
      have re := rn (sdM d1 + j) (by rw [a1]; exact kd_jn g)
      have el := E2 _ (show sdl d2 j < sdM d2 by omega)
      have er := E2 _ (show sdr d2 j < sdM d2 by omega)
      have bl := h2.bZ (show sdr d2 j < sdM d2 by omega)
      refine Or.inr (Or.inr ⟨by rw [a1]; exact g, ?_, ?_, ?_, ?_, ?_, ?_, ?_, ?_⟩)
      · rw [ne, a2]; omega
      · rw [re, a3]; omega
      · rw [a4, pcY_3 b1]; exact g3
      · rw [ne, a2, a4, l1.2.2.2.1, g4]; omega
      · rw [ne, a2, l1.2.2.2.2, pcY_3 (by omega), a1]; exact g5
      · rw [ne, re, a2, a3, r1.2.2.2.1, l1.2.2.2.2, g6]; omega
      · rw [re, a3, a5, r1.2.2.2.2, g7]; omega
      · rw [re, a3, r1.2.2.2.2, pcY_3 (by omega)]; exact g8
  · obtain ⟨a1, a2, a3, a4, a5⟩ := pc_3 (d1 := d1) (d2 := d2)
    have l1 := pc_1 (d1 := d1) (d2 := d2) (show sdM d1 - 1 < sdM d1 by omega)
    have r1 := pc_2 (d1 := d1) (d2 := d2) (show sdM d2 - 1 < sdM d2 by omega)
    rw [show sdM d1 + (sdM d2 - 1) = sdM d1 + sdM d2 - 1 by omega] at r1
    have ne := ln (sdM d1 + sdM d2) (by rw [a1]; decide)
    have re := rn (sdM d1 + sdM d2) (by rw [a1]; decide)
    have f1 := h1.2.2.2.2.2.2.2.2.1
    have f2 := h1.2.2.2.2.2.2.2.2.2.1
    have f3 := h2.2.2.2.2.2.2.2.2.1
    have f4 := h2.2.2.2.2.2.2.2.2.2.1
    refine Or.inr (Or.inr ⟨by rw [a1]; exact jn62, ?_, ?_, ?_, ?_, ?_, ?_, ?_, ?_⟩)
    · rw [ne, a2]; omega
    · rw [re, a3]; omega
    · rw [a4]; exact pcY_0
    · rw [ne, a2, a4, l1.2.2.2.1, f1]
    · rw [ne, a2, l1.2.2.2.2, f2, pcY_2, a1]
    · rw [ne, re, a2, a3, r1.2.2.2.1, l1.2.2.2.2, f2, f3]; omega
    · rw [re, a3, a5, r1.2.2.2.2, f4]; omega
    · rw [re, a3, r1.2.2.2.2, f4, show sdZ d2 + (sdZ d1 + 2) = sdZ d1 + sdZ d2 + 2 by omega]; exact pcY_4
theorem pc_E (h1 : SDok d1) (h2 : SDok d2) : ∀ k, k < sdM d1 + sdM d2 + 1 → pcE d1 d2 k ≤ sdZ d1 + sdZ d2 + 3 := by
  intro k hk
  rcases pc_cases hk with q | ⟨j, hj, rfl⟩ | rfl
  · have := h1.2.2.2.2.2.2.2.2.2.2.2.1 k q
    rw [(pc_1 (d2 := d2) q).2.2.2.2]; omega
  · have := h2.2.2.2.2.2.2.2.2.2.2.2.1 j hj
    rw [(pc_2 (d1 := d1) hj).2.2.2.2]; omega
  · rw [(pc_3 (d1 := d1) (d2 := d2)).2.2.2.2]
    omega
/-- the model's follows, up to tells -/
theorem M_pair {wM : AW} {i j L : Nat} (h1 : SDok d1) (h2 : SDok d2) (hi : i < 6) (hj : j < 6) (hL : L < 8) (hS1 : SenM wM i (sdM d1) (sdZ d1) (sdc d1) (sdl d1) (sdr d1) (sdb d1) (sde d1) (sdy d1)) (hS2 : SenM wM j (sdM d2) (sdZ d2) (sdc d2) (sdl d2) (sdr d2) (sdb d2) (sde d2) (sdy d2)) :
    ∃ W, mX6_follows (nI i) (nI j) (nI L) wM = (cl (mX6_tells 0 W) fun x_27 w_26 => if x_27 ≠ 0 then cl (mX6_types w_26) fun x_29 w_28 => cl (mX6_rounds (nI L) w_28) fun x_31 w_30 => cl (mX6_isLaw w_30) fun x_33 w_32 => if x_33 = 0 then some (0, w_32) else some (1, w_32) else some ((-2), w_26)) ∧ KM wM W ∧ WorkM W (sdM d1 + sdM d2 + 1) (sdZ d1 + sdZ d2 + 3) (pcC d1 d2) (pcL d1 d2) (pcR d1 d2) (pcB d1 d2) (pcE d1 d2) (pcY d1 d2) := by
  have m1 := h1.1
  have m2 := h2.1
  have M1 := h1.2.1
  have M2 := h2.2.1
  have Z1 := h1.2.2.2.2.1
  have Z2 := h2.2.2.2.2.1
  have n10 : ¬ (nI 1 : Int32) = 0 := by decide
  have n11 : (nI 1 : Int32) ≠ 0 := by decide
  have K0 := KM0 wM
  -- the first half
  have K3 : KM wM (am_set (am_set (am_set (am_set wM 0 0 0 (nI 0)) 0 0 26 (nI 0)) 0 29 0 (nI 40)) 0 0 27 (nI 1)) := ((K0.set (Or.inr ⟨rfl, by decide, by decide⟩)).set (Or.inl (by decide))).set (Or.inr ⟨rfl, by decide, by decide⟩)
  have w3 : WorkM (am_set (am_set (am_set (am_set wM 0 0 0 (nI 0)) 0 0 26 (nI 0)) 0 29 0 (nI 40)) 0 0 27 (nI 1)) 0 1 (pcC d1 d2) (pcL d1 d2) (pcR d1 d2) (pcB d1 d2) (pcE d1 d2) (pcY d1 d2) := by
    refine ⟨?_, am_get_self _ _ _ _ _, fun k hk => absurd hk (Nat.not_lt_zero k), fun j hj => ?_⟩
    · rw [am_get_other (by decide), am_get_row (by decide), am_get_self]
    · have : j = 0 := by omega
      subst this
      rw [am_get_row (by decide), am_get_self]
      rfl
  generalize hw3 : am_set (am_set (am_set (am_set wM 0 0 0 (nI 0)) 0 0 26 (nI 0)) 0 29 0 (nI 40)) 0 0 27 (nI 1) = W3 at K3 w3
  have t1 := M_takes (hS1.k K3) hi w3.1 w3.2.1 M1 (by omega) Z1 (by omega)
  have w4 := takes_W (m := sdM d1) (z := sdZ d1) (c := sdc d1) (l := sdl d1) (r := sdr d1) (b := sdb d1) (e := sde d1) (y := sdy d1) w3 (fun k hk => by
    obtain ⟨a1, a2, a3, a4, a5⟩ := pc_1 (d2 := d2) hk
    rw [Nat.zero_add, a1, a2, a3, a4, a5]
    exact ⟨rfl, rfl, rfl, rfl, rfl⟩) (fun j hj => by rw [Nat.add_comm]; exact pcY_1 hj)
  have K4 := K3.tr (takesW_K (w := W3) (M0 := 0) (Z0 := 1) (m := sdM d1) (z := sdZ d1) (c := sdc d1) (l := sdl d1) (r := sdr d1) (b := sdb d1) (e := sde d1) (y := sdy d1))
  rw [Nat.zero_add] at w4
  generalize takesW W3 0 1 (sdM d1) (sdZ d1) (sdc d1) (sdl d1) (sdr d1) (sdb d1) (sde d1) (sdy d1) = W4 at t1 w4 K4
  -- the sign between
  have K6 : KM wM (am_set (am_set W4 0 29 (1 + sdZ d1) (nI 62)) 0 0 27 (nI (sdZ d1 + 2))) := (K4.set (Or.inl (by decide))).set (Or.inr ⟨rfl, by decide, by decide⟩)
  have w6 : WorkM (am_set (am_set W4 0 29 (1 + sdZ d1) (nI 62)) 0 0 27 (nI (sdZ d1 + 2))) (sdM d1) (sdZ d1 + 2) (pcC d1 d2) (pcL d1 d2) (pcR d1 d2) (pcB d1 d2) (pcE d1 d2) (pcY d1 d2) := by
    obtain ⟨a1, a2, a3, a4⟩ := w4
    refine ⟨?_, am_get_self _ _ _ _ _, fun k hk => ?_, fun j hj => ?_⟩
    · rw [am_get_other (by decide), am_get_row (by decide)]; exact a1
    · rw [am_get_row (by decide), am_get_row (by decide), am_get_row (by decide), am_get_row (by decide), am_get_row (by decide), am_get_row (by decide), am_get_row (by decide), am_get_row (by decide), am_get_row (by decide), am_get_row (by decide)]
      exact a3 k hk
    · rw [am_get_row (by decide)]
      by_cases e : j = 1 + sdZ d1
      · rw [e, am_get_self, show 1 + sdZ d1 = sdZ d1 + 1 by omega, pcY_2]
      · rw [am_get_other e]
        exact a4 j (by omega)
  generalize hw6 : am_set (am_set W4 0 29 (1 + sdZ d1) (nI 62)) 0 0 27 (nI (sdZ d1 + 2)) = W6 at K6 w6
  have t2 := M_takes (hS2.k K6) hj w6.1 w6.2.1 M2 (by omega) Z2 (by omega)
  have w7 := takes_W (m := sdM d2) (z := sdZ d2) (c := sdc d2) (l := sdl d2) (r := sdr d2) (b := sdb d2) (e := sde d2) (y := sdy d2) w6 (fun k hk => pc_2 hk) (fun j hj => by rw [Nat.add_comm]; exact pcY_3 hj)
  have K7 := K6.tr (takesW_K (w := W6) (M0 := sdM d1) (Z0 := sdZ d1 + 2) (m := sdM d2) (z := sdZ d2) (c := sdc d2) (l := sdl d2) (r := sdr d2) (b := sdb d2) (e := sde d2) (y := sdy d2))
  generalize takesW W6 (sdM d1) (sdZ d1 + 2) (sdM d2) (sdZ d2) (sdc d2) (sdl d2) (sdr d2) (sdb d2) (sde d2) (sdy d2) = W7 at t2 w7 K7
  -- the whole
  refine ⟨am_set (am_set (am_set (am_set (am_set (am_set (am_set (am_set W7 0 30 (sdM d1 + sdM d2) (nI 62)) 0 31 (sdM d1 + sdM d2) (nI (sdM d1 - 1))) 0 32 (sdM d1 + sdM d2) (nI (sdM d1 + sdM d2 - 1))) 0 29 (sdZ d1 + 2 + sdZ d2) (nI 41)) 0 0 27 (nI (sdZ d1 + sdZ d2 + 3))) 0 33 (sdM d1 + sdM d2) (nI 0)) 0 34 (sdM d1 + sdM d2) (nI (sdZ d1 + sdZ d2 + 3))) 0 0 26 (nI (sdM d1 + sdM d2 + 1)), ?_, ?_, ?_⟩
  · have t1' : mX6_takes (nI i) (am_set (am_set (am_set (am_set wM 0 0 0 0) 0 0 26 0) 0 29 0 40) 0 0 27 1) = some ((), W4) := by
      have : am_set (am_set (am_set (am_set wM 0 0 0 0) 0 0 26 0) 0 29 0 40) 0 0 27 1 = W3 := hw3
      rw [this]
      exact t1
    have e26 : W4.1 0 0 26 = nI (sdM d1) := w4.1
    have e27 : W4.1 0 0 27 = nI (1 + sdZ d1) := w4.2.1
    have x26 : W7.1 0 0 26 = nI (sdM d1 + sdM d2) := w7.1
    have x27 : W7.1 0 0 27 = nI (sdZ d1 + 2 + sdZ d2) := w7.2.1
    have w0 : ∀ (W : AW) (x : Int32) (f : AW → Option (Int32 × AW)), wr 420 W 0 29 0 x f = f (am_set W 0 29 0 x) := fun W x f => wr_in (show 0 < 420 by decide) (by decide) W 0 29 x f
    unfold mX6_follows
    rw [pu_mk, M_sen_t _ hi, cl_mk, if_neg n10, M_sen_t _ hj, cl_mk, if_neg n10, M_log_t _ hL, cl_mk, if_pos n11, pu_mk, w0, pu_mk, t1', cl_mk, e26, show nI (sdM d1) - 1 = nI (sdM d1 - 1) from pk_sub (a := sdM d1) (b := 1) m1, nm_mk, e27, wr_in (show 1 + sdZ d1 < 420 by omega) (by decide), am_get_row (by decide), e27, show nI (1 + sdZ d1) + 1 = nI (sdZ d1 + 2) by rw [show (1 : Int32) = nI 1 from rfl, nI_add]; congr 1; omega, pu_mk]
    have hw6' : am_set (am_set W4 0 29 (1 + sdZ d1) 62) 0 0 27 (nI (sdZ d1 + 2)) = W6 := hw6
    rw [hw6', t2, cl_mk, x26, wr_in (show sdM d1 + sdM d2 < 90 by omega) (by decide), am_get_row (by decide), x26, wr_in (show sdM d1 + sdM d2 < 90 by omega) (by decide), am_get_row (by decide), am_get_row (by decide), x26, show nI (sdM d1 + sdM d2) - 1 = nI (sdM d1 + sdM d2 - 1) from pk_sub (a := sdM d1 + sdM d2) (b := 1) (by omega), wr_in (show sdM d1 + sdM d2 < 90 by omega) (by decide), am_get_row (by decide), am_get_row (by decide), am_get_row (by decide), x27, wr_in (show sdZ d1 + 2 + sdZ d2 < 420 by omega) (by decide), am_get_row (by decide), am_get_row (by decide), am_get_row (by decide), am_get_row (by decide), x27, show nI (sdZ d1 + 2 + sdZ d2) + 1 = nI (sdZ d1 + sdZ d2 + 3) by rw [show (1 : Int32) = nI 1 from rfl, nI_add]; congr 1; omega, pu_mk]
    have q29 : ∀ (V : AW) (k : Nat) (x : Int32), (am_set V 0 29 k x).1 0 0 = V.1 0 0 := fun V k x => am_get_row (Or.inr (by decide))
    have q30 : ∀ (V : AW) (k : Nat) (x : Int32), (am_set V 0 30 k x).1 0 0 = V.1 0 0 := fun V k x => am_get_row (Or.inr (by decide))
    have q31 : ∀ (V : AW) (k : Nat) (x : Int32), (am_set V 0 31 k x).1 0 0 = V.1 0 0 := fun V k x => am_get_row (Or.inr (by decide))
    have q32 : ∀ (V : AW) (k : Nat) (x : Int32), (am_set V 0 32 k x).1 0 0 = V.1 0 0 := fun V k x => am_get_row (Or.inr (by decide))
    have q33 : ∀ (V : AW) (k : Nat) (x : Int32), (am_set V 0 33 k x).1 0 0 = V.1 0 0 := fun V k x => am_get_row (Or.inr (by decide))
    have q34 : ∀ (V : AW) (k : Nat) (x : Int32), (am_set V 0 34 k x).1 0 0 = V.1 0 0 := fun V k x => am_get_row (Or.inr (by decide))
    have s26 : ∀ (V : AW) (x : Int32), (am_set V 0 0 27 x).1 0 0 26 = V.1 0 0 26 := fun V x => am_get_other (by decide)
    have s27 : ∀ (V : AW) (x : Int32), (am_set V 0 0 27 x).1 0 0 27 = x := fun V x => am_get_self _ _ _ _ _
    rw [s26, q29, q32, q31, q30, x26, wr_in (show sdM d1 + sdM d2 < 90 by omega) (by decide), q33, s26, s27, q29, q32, q31, q30, x26, wr_in (show sdM d1 + sdM d2 < 90 by omega) (by decide), q34, q33, s26, q29, q32, q31, q30, x26, show nI (sdM d1 + sdM d2) + 1 = nI (sdM d1 + sdM d2 + 1) from nI_add _ 1, pu_mk]
    rfl
  · exact (((((((K7.set (Or.inl (by decide))).set (Or.inl (by decide))).set (Or.inl (by decide))).set (Or.inl (by decide))).set (Or.inr ⟨rfl, by decide, by decide⟩)).set (Or.inl (by decide))).set (Or.inl (by decide))).set (Or.inr ⟨rfl, by decide, by decide⟩)
  · obtain ⟨a1, a2, a3, a4⟩ := w7
    obtain ⟨p1, p2, p3, p4, p5⟩ := pc_3 (d1 := d1) (d2 := d2)
    refine ⟨am_get_self _ _ _ _ _, ?_, fun k hk => ?_, fun j hj => ?_⟩
    · rw [am_get_other (by decide), am_get_row (by decide), am_get_row (by decide), am_get_self]
    · by_cases e : k = sdM d1 + sdM d2
      · subst e
        simp only [p1, p2, p3, p4, p5, am_get, and_true, true_and, if_true, if_false, and_false, false_and, Nat.reduceEqDiff, reduceCtorEq]
      · have := a3 k (by omega)
        simp only [am_get, e, and_false, if_false, false_and, Nat.reduceEqDiff]
        exact this
    · have e0 : (am_set (am_set (am_set (am_set (am_set (am_set (am_set (am_set W7 0 30 (sdM d1 + sdM d2) (nI 62)) 0 31 (sdM d1 + sdM d2) (nI (sdM d1 - 1))) 0 32 (sdM d1 + sdM d2) (nI (sdM d1 + sdM d2 - 1))) 0 29 (sdZ d1 + 2 + sdZ d2) (nI 41)) 0 0 27 (nI (sdZ d1 + sdZ d2 + 3))) 0 33 (sdM d1 + sdM d2) (nI 0)) 0 34 (sdM d1 + sdM d2) (nI (sdZ d1 + sdZ d2 + 3))) 0 0 26 (nI (sdM d1 + sdM d2 + 1))).1 0 29 j = if j = sdZ d1 + 2 + sdZ d2 then nI 41 else W7.1 0 29 j := by
        simp only [am_get, and_true, true_and, if_false, and_false, false_and, Nat.reduceEqDiff]
      rw [e0]
      by_cases e : j = sdZ d1 + 2 + sdZ d2
      · rw [if_pos e, e, show sdZ d1 + 2 + sdZ d2 = sdZ d1 + sdZ d2 + 2 by omega, pcY_4]
      · rw [if_neg e]
        exact a4 j (by omega)
end PC
end
section
/-! follows -/
theorem law_all {th hd : Nat → Bool} {Z : Nat} : lawM th hd Z = true ↔ ∀ t, t < Z → th t = true → hd t = true := by
  unfold lawM
  rw [allT_iff]
  constructor
  · intro h t ht z
    have := h t ht
    rw [z, Bool.not_true, Bool.false_or] at this
    exact this
  · intro h t ht
    cases z : th t
    · rfl
    · rw [h t ht z]; rfl
/-- the law by both sides -/
theorem both_law {wX w1 : AW} {o L : Nat} {f : Nat → Nat} (hL : L < 8) (h : BothYes wX w1 o L f) :
    ∃ (wX2 W2 W3 W4 : AW) (rho : Int32) (x : Bool), mX3_sortOut o (nI L) wX = some (nI 1, wX2) ∧ mX3_answer (nI 1) wX2 = some (nI (bN x), wX2) ∧ KX wX wX2 ∧
      mX6_tells 0 w1 = some (nI 1, W2) ∧ mX6_types W2 = some ((), W3) ∧ mX6_rounds (nI L) W3 = some (rho, W4) ∧ mX6_isLaw W4 = some (nI (bN x), W4) ∧ KM w1 W4 := by
  obtain ⟨wX2, W2, W3, W4, nb, rho, CL, TU, OW, mu, my, pi, br, wh, inn, hd, hnb, hrho, hbit, hmk, hbr, hwl, hwh, hcb, x1, x2, x3, t1, t2, t3, t4, t5, t6, t7, t8⟩ := h
  have hpw := pow_nb hnb
  obtain ⟨s1, s2, s3, s4⟩ := x3
  have el := X_law hpw s4.1 s4.2 (fun t ht => (s1.2.2.2 t ht).2.2) hwl
  have hth := flV_th (fit := fitM L mu my inn) (mf := mfM L mu my inn (2 ^ nb)) (fun _ _ => trivial) rho (by omega)
  have em := M_isLaw (th := thN (fitM L mu my inn) (mfM L mu my inn (2 ^ nb)) rho) t7.1 hnb (fun t ht => (t7.2.2.2 t ht).2.2) (fun u hu => by
    rw [t8 u hu]
    have := (hth u).1
    cases q : thN (fitM L mu my inn) (mfM L mu my inn (2 ^ nb)) rho u
    · exact decide_eq_false (fun z => by rw [this.mp z] at q; cases q)
    · exact decide_eq_true (this.mpr q))
  have same : lawB (thN (fitX L CL TU br) (mfX L (2 ^ nb) CL TU OW br) rho) wh (2 ^ nb) = lawM (thN (fitM L mu my inn) (mfM L mu my inn (2 ^ nb)) rho) hd (2 ^ nb) := by
    have e0 : lawB (thN (fitX L CL TU br) (mfX L (2 ^ nb) CL TU OW br) rho) wh (2 ^ nb) = lawM (thN (fitX L CL TU br) (mfX L (2 ^ nb) CL TU OW br) rho) (fun t => decide (wh t = 1)) (2 ^ nb) := rfl
    rw [e0]
    apply bool_eq
    rw [law_all, law_all]
    constructor
    · intro h t ht z
      rw [← hwh t ht]
      exact h (f t) (hbit.2.2.1 t ht) (by rw [th_eq hbit hmk hbr hnb hL rho t ht]; exact z)
    · intro h u hu z
      obtain ⟨t, t1, rfl⟩ := hbit.2.2.2.2 u hu
      show decide (wh (f t) = 1) = true
      rw [hwh t t1]
      exact h t t1 (by rw [← th_eq hbit hmk hbr hnb hL rho t t1]; exact z)
  rw [same] at el
  exact ⟨wX2, W2, W3, W4, nI rho, _, x1, el, x2, t1, t4, t5, em, t6⟩
/-- the parts of ( d1 > d2 ) as the class takes them in -/
noncomputable def rpS (d : SD) (q : Nat) : Nat := rpF (sdM d) (sdf d) q
noncomputable def ptC (d1 d2 : SD) (x : Nat) : Nat := if x < sdP d1 then sdc d1 (rpS d1 x) else if x < sdP d1 + sdP d2 then sdc d2 (rpS d2 (x - sdP d1)) else 62
noncomputable def ptL (d1 d2 : SD) (x : Nat) : Nat := if x < sdP d1 then sdf d1 (sdl d1 (rpS d1 x)) else if x < sdP d1 + sdP d2 then sdP d1 + sdf d2 (sdl d2 (rpS d2 (x - sdP d1))) else sdP d1 - 1
noncomputable def ptR (d1 d2 : SD) (x : Nat) : Nat := if x < sdP d1 then sdf d1 (sdr d1 (rpS d1 x)) else if x < sdP d1 + sdP d2 then sdP d1 + sdf d2 (sdr d2 (rpS d2 (x - sdP d1))) else sdP d1 + sdP d2 - 1
/-- which part a node is -/
def pgN (d1 d2 : SD) (k : Nat) : Nat := if k < sdM d1 then sdf d1 k else if k < sdM d1 + sdM d2 then sdP d1 + sdf d2 (k - sdM d1) else sdP d1 + sdP d2
section PG
variable {d1 d2 : SD}
theorem pt_1 {x : Nat} (hx : x < sdP d1) : ptC d1 d2 x = sdc d1 (rpS d1 x) ∧ ptL d1 d2 x = sdf d1 (sdl d1 (rpS d1 x)) ∧ ptR d1 d2 x = sdf d1 (sdr d1 (rpS d1 x)) := ⟨if_pos hx, if_pos hx, if_pos hx⟩
theorem pt_2 {x : Nat} (hx : x < sdP d2) : ptC d1 d2 (sdP d1 + x) = sdc d2 (rpS d2 x) ∧ ptL d1 d2 (sdP d1 + x) = sdP d1 + sdf d2 (sdl d2 (rpS d2 x)) ∧ ptR d1 d2 (sdP d1 + x) = sdP d1 + sdf d2 (sdr d2 (rpS d2 x)) := by
  unfold ptC ptL ptR
  rw [if_neg (by omega), if_pos (by omega), if_neg (by omega), if_pos (by omega), if_neg (by omega), if_pos (by omega), show sdP d1 + x - sdP d1 = x by omega]
  exact ⟨rfl, rfl, rfl⟩
theorem pt_3 : ptC d1 d2 (sdP d1 + sdP d2) = 62 ∧ ptL d1 d2 (sdP d1 + sdP d2) = sdP d1 - 1 ∧ ptR d1 d2 (sdP d1 + sdP d2) = sdP d1 + sdP d2 - 1 := by
  unfold ptC ptL ptR
  rw [if_neg (by omega), if_neg (by omega), if_neg (by omega), if_neg (by omega), if_neg (by omega), if_neg (by omega)]
  exact ⟨rfl, rfl, rfl⟩
theorem pg_1 {k : Nat} (hk : k < sdM d1) : pgN d1 d2 k = sdf d1 k := if_pos hk
theorem pg_2 {k : Nat} (hk : k < sdM d2) : pgN d1 d2 (sdM d1 + k) = sdP d1 + sdf d2 k := by
  unfold pgN
  rw [if_neg (by omega), if_pos (by omega), show sdM d1 + k - sdM d1 = k by omega]
theorem pg_3 : pgN d1 d2 (sdM d1 + sdM d2) = sdP d1 + sdP d2 := by
  unfold pgN
  rw [if_neg (by omega), if_neg (by omega)]
theorem same_rep {d : SD} (hd : SDok d) {k : Nat} (hk : k < sdM d) : sdc d (rpS d (sdf d k)) = sdc d k ∧ (kd (sdc d k) ≠ 0 → sdf d (sdl d (rpS d (sdf d k))) = sdf d (sdl d k)) ∧ (kd (sdc d k) = 2 → sdf d (sdr d (rpS d (sdf d k))) = sdf d (sdr d k)) := by
  obtain ⟨z1, z2⟩ := rpF_spec hd.cl (hd.cl.1 k hk)
  have h := (hd.cl.2.2.2.2 _ _ z1 hk).mp z2
  have e : sdc d (rpS d (sdf d k)) = sdc d k := h.1
  refine ⟨e, fun z => ?_, fun z => ?_⟩
  · rcases kinds_of hd.sh hk with g | g | g
    · exact absurd (kd_leaf g) z
    · exact h.2.1 (by rw [h.1]; exact g)
    · exact (h.2.2 (by rw [h.1]; exact g)).1
  · rcases kinds_of hd.sh hk with g | g | g
    · rw [kd_leaf g] at z; cases z
    · rw [kd_pre g] at z; cases z
    · exact (h.2.2 (by rw [h.1]; exact g)).2
/-- the node's words are its part's -/
theorem pg_ok (h1 : SDok d1) (h2 : SDok d2) {k : Nat} (hk : k < sdM d1 + sdM d2 + 1) : pgN d1 d2 k < sdP d1 + sdP d2 + 1 ∧ pcC d1 d2 k = ptC d1 d2 (pgN d1 d2 k) ∧ (kd (pcC d1 d2 k) ≠ 0 → pgN d1 d2 (pcL d1 d2 k) = ptL d1 d2 (pgN d1 d2 k)) ∧ (kd (pcC d1 d2 k) = 2 → pgN d1 d2 (pcR d1 d2 k) = ptR d1 d2 (pgN d1 d2 k)) := by
  have lt : ∀ {d : SD}, SDok d → ∀ k, k < sdM d → (kd (sdc d k) ≠ 0 → sdl d k < k) ∧ (kd (sdc d k) = 2 → sdr d k < k) := fun {d} hd k hk => by
    rcases hd.sh k hk with g | ⟨g, g1⟩ | ⟨g, g1, g2⟩
    · exact ⟨fun z => absurd (kd_leaf g) z, fun z => by rw [kd_leaf g] at z; cases z⟩
    · exact ⟨fun _ => g1, fun z => by rw [kd_pre g] at z; cases z⟩
    · exact ⟨fun _ => g1, fun _ => g2⟩
  rcases pc_cases hk with q | ⟨j, hj, rfl⟩ | rfl
  · obtain ⟨a1, a2, a3, -⟩ := pc_1 (d2 := d2) q
    have hp := h1.cl.1 k q
    obtain ⟨b1, b2, b3⟩ := pt_1 (d2 := d2) hp
    obtain ⟨c1, c2, c3⟩ := same_rep h1 q
    obtain ⟨l1, l2⟩ := lt h1 k q
    rw [pg_1 q, a1, a2, a3, b1, b2, b3]
    refine ⟨by omega, c1.symm, fun z => ?_, fun z => ?_⟩
    · rw [c2 z, pg_1 (show sdl d1 k < sdM d1 by have := l1 z; omega)]
    · rw [c3 z, pg_1 (show sdr d1 k < sdM d1 by have := l2 z; omega)]
  · obtain ⟨a1, a2, a3, -⟩ := pc_2 (d1 := d1) hj
    have hp := h2.cl.1 j hj
    obtain ⟨b1, b2, b3⟩ := pt_2 (d1 := d1) hp
    obtain ⟨c1, c2, c3⟩ := same_rep h2 hj
    obtain ⟨l1, l2⟩ := lt h2 j hj
    rw [pg_2 hj, a1, a2, a3, b1, b2, b3]
    refine ⟨by omega, c1.symm, fun z => ?_, fun z => ?_⟩
    · rw [c2 z, Nat.add_comm (sdl d2 j), pg_2 (show sdl d2 j < sdM d2 by have := l1 z; omega)]
    · rw [c3 z, Nat.add_comm (sdr d2 j), pg_2 (show sdr d2 j < sdM d2 by have := l2 z; omega)]
  · obtain ⟨a1, a2, a3, -⟩ := pc_3 (d1 := d1) (d2 := d2)
    obtain ⟨b1, b2, b3⟩ := pt_3 (d1 := d1) (d2 := d2)
    have m1 := h1.1
    have m2 := h2.1
    have r1 := h1.2.2.2.2.2.2.2.1
    have r2 := h2.2.2.2.2.2.2.2.1
    have p2 := h2.2.2.1
    rw [pg_3, a1, a2, a3, b1, b2, b3]
    refine ⟨by omega, rfl, fun _ => ?_, fun _ => ?_⟩
    · rw [pg_1 (show sdM d1 - 1 < sdM d1 by omega), r1]
    · rw [show sdM d1 + sdM d2 - 1 = sdM d1 + (sdM d2 - 1) by omega, pg_2 (show sdM d2 - 1 < sdM d2 by omega), r2]
      omega
theorem pg_surj (h1 : SDok d1) (h2 : SDok d2) {x : Nat} (hx : x < sdP d1 + sdP d2 + 1) : ∃ k, k < sdM d1 + sdM d2 + 1 ∧ pgN d1 d2 k = x ∧ (x < sdP d1 + sdP d2 → k < sdM d1 + sdM d2) := by
  rcases Nat.lt_or_ge x (sdP d1) with q | q
  · obtain ⟨z1, z2⟩ := rpF_spec h1.cl q
    exact ⟨rpF (sdM d1) (sdf d1) x, by omega, by rw [pg_1 z1]; exact z2, fun _ => by omega⟩
  · rcases Nat.lt_or_ge x (sdP d1 + sdP d2) with q2 | q2
    · obtain ⟨z1, z2⟩ := rpF_spec h2.cl (show x - sdP d1 < sdP d2 by omega)
      exact ⟨sdM d1 + rpF (sdM d2) (sdf d2) (x - sdP d1), by omega, by rw [pg_2 z1, z2]; omega, fun _ => by omega⟩
    · exact ⟨sdM d1 + sdM d2, by omega, by rw [pg_3]; omega, fun z => by omega⟩
/-- the draft's parts, told of the model's nodes -/
theorem cls_comp {M n P' : Nat} {c l r cT lT rT ph' g : Nat → Nat} (hc : ClassOK n P' cT lT rT ph') (hg : ∀ k, k < M → g k < n ∧ c k = cT (g k) ∧ (kd (c k) ≠ 0 → g (l k) = lT (g k)) ∧ (kd (c k) = 2 → g (r k) = rT (g k))) (hs : ∀ x, x < n → ∃ k, k < M ∧ g k = x) : ClassOK M P' c l r (fun k => ph' (g k)) := by
  refine ⟨fun k hk => hc.1 _ (hg k hk).1, fun p hp => ?_, fun k hk z => ?_, fun k hk z => ?_, fun k j hk hj => ?_⟩
  · obtain ⟨x, x1, x2⟩ := hc.2.1 p hp
    obtain ⟨k, k1, k2⟩ := hs x x1
    exact ⟨k, k1, by dsimp only; rw [k2]; exact x2⟩
  · obtain ⟨g1, g2, g3, g4⟩ := hg k hk
    dsimp only
    rw [g3 (by rw [kd_pre z]; decide)]
    exact hc.2.2.1 _ g1 (by rw [← g2]; exact z)
  · obtain ⟨g1, g2, g3, g4⟩ := hg k hk
    dsimp only
    rw [g3 (by rw [kd_jn z]; decide), g4 (kd_jn z)]
    exact hc.2.2.2.1 _ g1 (by rw [← g2]; exact z)
  · obtain ⟨g1, g2, g3, g4⟩ := hg k hk
    obtain ⟨j1, j2, j3, j4⟩ := hg j hj
    dsimp only
    rw [hc.2.2.2.2 _ _ g1 j1, ← g2, ← j2]
    constructor
    · rintro ⟨a1, a2, a3⟩
      refine ⟨a1, fun z => ?_, fun z => ?_⟩
      · rw [g3 (by rw [kd_pre z]; decide), j3 (by rw [← a1, kd_pre z]; decide)]
        exact a2 z
      · rw [g3 (by rw [kd_jn z]; decide), j3 (by rw [← a1, kd_jn z]; decide), g4 (kd_jn z), j4 (by rw [← a1]; exact kd_jn z)]
        exact a3 z
    · rintro ⟨a1, a2, a3⟩
      refine ⟨a1, fun z => ?_, fun z => ?_⟩
      · have := a2 z
        rw [g3 (by rw [kd_pre z]; decide), j3 (by rw [← a1, kd_pre z]; decide)] at this
        exact this
      · have := a3 z
        rw [g3 (by rw [kd_jn z]; decide), j3 (by rw [← a1, kd_jn z]; decide), g4 (kd_jn z), j4 (by rw [← a1]; exact kd_jn z)] at this
        exact this
theorem sen_comp {W : AW} {M n P' : Nat} {c l r cT lT rT ph' pl' dp' g : Nat → Nat} (hD : DraftX W n P' cT lT rT ph' pl' dp') (hk : ∀ k, k < M → isLeaf (c k) ∨ isPre (c k) ∨ isJn (c k)) (hg : ∀ k, k < M → g k < n ∧ c k = cT (g k) ∧ (kd (c k) ≠ 0 → g (l k) = lT (g k)) ∧ (kd (c k) = 2 → g (r k) = rT (g k))) : SenP W 5 M P' c l r (fun k => ph' (g k)) pl' dp' := by
  refine ⟨hD.1, fun k hkM => ?_, hD.2.2⟩
  obtain ⟨g1, g2, g3, g4⟩ := hg k hkM
  obtain ⟨a1, a2, a3⟩ := hD.2.1 _ g1
  unfold fsX at a2
  unfold ssX at a3
  rw [← g2] at a1 a2 a3
  refine ⟨a1, fun z => ?_, fun z => ?_, fun z => ?_⟩
  · rw [kd_leaf z, if_pos rfl] at a2
    rw [kd_leaf z, if_neg (by decide)] at a3
    exact ⟨a2, a3⟩
  · have e := g3 (by rw [kd_pre z]; decide)
    rw [kd_pre z, if_neg (by decide)] at a2
    rw [kd_pre z, if_neg (by decide)] at a3
    dsimp only
    rw [e]
    exact ⟨a2, a3⟩
  · have e := g3 (by rw [kd_jn z]; decide)
    have e2 := g4 (kd_jn z)
    rw [kd_jn z, if_neg (by decide)] at a2
    rw [kd_jn z, if_pos rfl] at a3
    dsimp only
    rw [e, e2]
    exact ⟨a2, a3⟩
theorem dr_0 {W : AW} {cT lT rT ph pl dp : Nat → Nat} (h : W.1 5 0 5 = nI 0) : DrOK W 0 cT lT rT 0 ph pl dp := by
  refine ⟨⟨h, fun k hk => absurd hk (Nat.not_lt_zero k), fun p hp => absurd hp (Nat.not_lt_zero p)⟩, ⟨fun k hk => absurd hk (Nat.not_lt_zero k), fun p hp => absurd hp (Nat.not_lt_zero p), fun k hk => absurd hk (Nat.not_lt_zero k), fun k hk => absurd hk (Nat.not_lt_zero k), fun k j hk => absurd hk (Nat.not_lt_zero k)⟩, fun k hk => absurd hk (Nat.not_lt_zero k), fun p hp => absurd hp (Nat.not_lt_zero p)⟩
theorem len_5 {P : Nat} (h : P ≤ 81) : LenOK 5 P := by
  have e : ∀ a, a < 6 → 1 ≤ a → am_aL false 5 a = 81 := by decide
  intro a h1 h2
  rw [e a (by omega) h1]
  exact ⟨h, by decide⟩
/-- the class's follows, up to sortOut -/
theorem X_pair {wX : AW} {i j L : Nat} (h1 : SDok d1) (h2 : SDok d2) (hi : i < 6) (hj : j < 6) (hL : L < 8) (hS1 : SenX wX (6 + i) (sdM d1) (sdP d1) (sdc d1) (sdl d1) (sdr d1) (sdf d1) (sdp d1) (sdd d1)) (hS2 : SenX wX (6 + j) (sdM d2) (sdP d2) (sdc d2) (sdl d2) (sdr d2) (sdf d2) (sdp d2) (sdd d2)) :
    ∃ (W : AW) (P' : Nat) (ph' pl' dp' : Nat → Nat), mX5_follows (nI i) (nI j) (nI L) wX = (cl (mX3_sortOut 5 (nI L) W) fun x_18 w_17 => if x_18 ≠ 0 then cl (mX3_answer 1 w_17) fun x_20 w_19 => some (x_20, w_19) else some ((-2), w_17)) ∧ KX wX W ∧ DrOK W (sdP d1 + sdP d2 + 1) (ptC d1 d2) (ptL d1 d2) (ptR d1 d2) P' ph' pl' dp' ∧ (ph' (sdP d1 + sdP d2) = P' - 1 ∨ ∃ k, k < sdP d1 + sdP d2 ∧ ph' (sdP d1 + sdP d2) = ph' k) := by
  have p1 := h1.2.2.1
  have p2 := h2.2.2.1
  have P1 := h1.P40
  have P2 := h2.P40
  have n11 : (nI 1 : Int32) ≠ 0 := by decide
  have K1 : KX wX (am_set (am_set wX 5 0 5 0) 5 0 6 0) := ((KX.rf wX).set (Or.inl ⟨by decide, by decide⟩)).set (Or.inl ⟨by decide, by decide⟩)
  have s1 : SenP (am_set (am_set wX 5 0 5 0) 5 0 6 0) (6 + i) (sdM d1) (sdP d1) (sdc d1) (sdl d1) (sdr d1) (sdf d1) (sdp d1) (sdd d1) := hS1.p.cg (K1.2.2.2.2.2 _ (by omega) (by omega))
  have s2 : SenP (am_set (am_set wX 5 0 5 0) 5 0 6 0) (6 + j) (sdM d2) (sdP d2) (sdc d2) (sdl d2) (sdr d2) (sdf d2) (sdp d2) (sdd d2) := hS2.p.cg (K1.2.2.2.2.2 _ (by omega) (by omega))
  have d0 : DrOK (am_set (am_set wX 5 0 5 0) 5 0 6 0) (0 + 0) (ptC d1 d2) (ptL d1 d2) (ptR d1 d2) 0 (fun _ => 0) (fun _ => 0) (fun _ => 0) := dr_0 (by rw [am_get_other (by decide), am_get_self]; rfl)
  generalize hw1 : am_set (am_set wX 5 0 5 0) 5 0 6 0 = w1 at K1 s1 s2 d0
  obtain ⟨W2, Q2, ph2, pl2, dp2, f1, f2, f3, -⟩ := X_take2 (m0 := 0) (cT := ptC d1 d2) (lT := ptL d1 d2) (rT := ptR d1 d2) s1 (len_sen hi P1) h1.cl h1.sh hi p1 P1 (by omega) (fun p hp => h1.plZ hp) (fun q hq => by rw [Nat.zero_add]; exact (pt_1 hq).1) (fun q hq _ => by rw [Nat.zero_add, Nat.zero_add]; exact (pt_1 hq).2.1) (fun q hq _ => by rw [Nat.zero_add, Nat.zero_add]; exact (pt_1 hq).2.2) (sdP d1) 0 FU w1 0 (fun _ => 0) (fun _ => 0) (fun _ => 0) (by omega) (FU_gt (by omega)) (KX.rf _) d0 (fun p hp => absurd hp (Nat.not_lt_zero p))
  rw [Nat.zero_add] at f1 f3
  obtain ⟨W3, Q3, ph3, pl3, dp3, g1, g2, g3, g4⟩ := X_take2 (m0 := sdP d1) (cT := ptC d1 d2) (lT := ptL d1 d2) (rT := ptR d1 d2) s2 (len_sen hj P2) h2.cl h2.sh hj p2 P2 (by omega) (fun p hp => h2.plZ hp) (fun q hq => (pt_2 hq).1) (fun q hq _ => (pt_2 hq).2.1) (fun q hq _ => (pt_2 hq).2.2) (sdP d2) 0 FU W2 Q2 ph2 pl2 dp2 (by omega) (FU_gt (by omega)) f2 f3 (fun p hp => absurd hp (Nat.not_lt_zero p))
  rw [Nat.add_zero] at g4
  obtain ⟨t1, t2, t3⟩ := pt_3 (d1 := d1) (d2 := d2)
  obtain ⟨Q4, ph4, pl4, dp4, W4, y1, y2, y3, y4, y5, y6⟩ := X_addT (pb := 0) (f := nI (ph3 (sdP d1 - 1))) (s := nI (ph3 (sdP d1 + sdP d2 - 1))) g3 (by omega) (by rw [t1]; exact Or.inr (Or.inr jn62)) (fun _ => by rw [t2]; omega) (fun _ => by rw [t3]; omega) (by decide) (by
    rw [t1, t2, t3]
    exact ⟨rfl, rfl⟩)
  rw [t1] at y1
  refine ⟨W4, Q4, ph4, pl4, dp4, ?_, (K1.tr g2).tr y4, y2, ?_⟩
  · have eb : mX2_begin 5 wX = some ((), w1) := by
      unfold mX2_begin
      rw [pu_mk, pu_mk, hw1]
    have e1 : mX2_takeIn 5 (6 + i) 0 7 w1 = some (nI (ph3 (sdP d1 - 1)), W2) := by
      unfold mX2_takeIn
      have f1' : mX2_takeIn_2 5 (6 + i) 0 7 FU 0 w1 = some (nI (ph2 (sdP d1 - 1)), W2) := f1
      rw [f1', g4 (sdP d1 - 1) (by omega)]
    have e2 : mX2_takeIn 5 (6 + j) 0 7 W2 = some (nI (ph3 (sdP d1 + sdP d2 - 1)), W3) := g1
    have e3 : mX2_part 5 62 (nI (ph3 (sdP d1 - 1))) (nI (ph3 (sdP d1 + sdP d2 - 1))) 0 W3 = some (nI (ph4 (sdP d1 + sdP d2)), W4) := y1
    unfold mX5_follows
    rw [X_sen_t _ hi, cl_mk, X_sen_t _ hj, cl_mk, nS_some (cls_sen i hi), nS_some (cls_sen j hj), X_log_t _ hL, cl_mk, if_pos n11, eb, cl_mk, e1, cl_mk, e2, cl_mk, e3, cl_mk]
  · rcases y6 with ⟨z1, z2⟩ | ⟨-, k, k1, k2⟩
    · exact Or.inl (by omega)
    · exact Or.inr ⟨k, k1, k2⟩
/-- both of follows, sorted out -/
theorem both_pair {wX wM : AW} {i j L : Nat} (h1 : SDok d1) (h2 : SDok d2) (hi : i < 6) (hj : j < 6) (hL : L < 8) (hS1 : SenX wX (6 + i) (sdM d1) (sdP d1) (sdc d1) (sdl d1) (sdr d1) (sdf d1) (sdp d1) (sdd d1)) (hS2 : SenX wX (6 + j) (sdM d2) (sdP d2) (sdc d2) (sdl d2) (sdr d2) (sdf d2) (sdp d2) (sdd d2)) (hM1 : SenM wM i (sdM d1) (sdZ d1) (sdc d1) (sdl d1) (sdr d1) (sdb d1) (sde d1) (sdy d1)) (hM2 : SenM wM j (sdM d2) (sdZ d2) (sdc d2) (sdl d2) (sdr d2) (sdb d2) (sde d2) (sdy d2)) :
    ∃ (r : Int32) (wX2 wM2 : AW), mX5_follows (nI i) (nI j) (nI L) wX = some (r, wX2) ∧ mX6_follows (nI i) (nI j) (nI L) wM = some (r, wM2) ∧ KX wX wX2 ∧ KM wM wM2 := by
  have m1 := h1.1
  have m2 := h2.1
  have M1 := h1.2.1
  have M2 := h2.2.1
  have Z1 := h1.2.2.2.2.1
  have Z2 := h2.2.2.2.2.1
  have P1 := h1.P40
  have P2 := h2.P40
  have n11 : (nI 1 : Int32) ≠ 0 := by decide
  have n00 : ¬ ((nI 0 : Int32) ≠ 0) := fun z => z rfl
  obtain ⟨W, eM, kM, hW⟩ := M_pair h1 h2 hi hj hL hM1 hM2
  obtain ⟨X, P', ph', pl', dp', eX, kX, hD, hlast⟩ := X_pair h1 h2 hi hj hL hS1 hS2
  obtain ⟨d1', d2', d3', d4'⟩ := hD
  have hP' := cls_le d2'
  have hT := pc_tree h1 h2
  have hsh := pc_shape h1 h2
  have hg := fun k (hk : k < sdM d1 + sdM d2 + 1) => pg_ok h1 h2 hk
  have hgs : ∀ x, x < sdP d1 + sdP d2 + 1 → ∃ k, k < sdM d1 + sdM d2 + 1 ∧ pgN d1 d2 k = x := fun x hx => by
    obtain ⟨k, k1, k2, -⟩ := pg_surj h1 h2 hx
    exact ⟨k, k1, k2⟩
  have hc := cls_comp (l := pcL d1 d2) (r := pcR d1 d2) d2' hg hgs
  have hc0 := cls_comp (l := pcL0 d1 d2) (r := pcR0 d1 d2) d2' (fun k hk => by
    obtain ⟨a1, a2, a3, a4⟩ := hg k hk
    refine ⟨a1, a2, fun z => ?_, fun z => ?_⟩
    · rw [show pcL0 d1 d2 k = pcL d1 d2 k from if_neg z]; exact a3 z
    · rw [show pcR0 d1 d2 k = pcR d1 d2 k from if_pos z]; exact a4 z) hgs
  have hs := sen_comp (l := pcL d1 d2) (r := pcR d1 d2) d1' (fun k hk => kinds_of hsh hk) hg
  have hb : ∀ k, k < sdM d1 + sdM d2 + 1 → pcB d1 d2 k < sdZ d1 + sdZ d2 + 3 := fun k hk => by
    have q1 := len_pos hT (k + 1) k (Nat.lt_succ_self k) hk
    have q2 := pc_E h1 h2 k hk
    omega
  have hl : (fun k => ph' (pgN d1 d2 k)) (sdM d1 + sdM d2 + 1 - 1) = P' - 1 := by
    rw [Nat.add_sub_cancel]
    dsimp only
    rw [pg_3]
    rcases hlast with z | ⟨x, x1, x2⟩
    · exact z
    · exfalso
      obtain ⟨k, k1, k2, k3⟩ := pg_surj h1 h2 (show x < sdP d1 + sdP d2 + 1 by omega)
      have k4 := k3 x1
      have e : (fun k => ph' (pgN d1 d2 k)) (sdM d1 + sdM d2) = (fun k => ph' (pgN d1 d2 k)) k := by
        dsimp only
        rw [pg_3, k2]
        exact x2
      have li := (like_of hT hc0 _ (sdM d1 + sdM d2) k (Nat.lt_succ_self _) (by omega) (by omega) e).1
      obtain ⟨-, -, -, b1, b2⟩ := pc_3 (d1 := d1) (d2 := d2)
      rw [b1, b2] at li
      rcases pc_cases k1 with q | ⟨y, hy, rfl⟩ | rfl
      · obtain ⟨-, -, -, c1, c2⟩ := pc_1 (d2 := d2) q
        have := h1.2.2.2.2.2.2.2.2.2.2.2.1 k q
        rw [c1, c2] at li
        omega
      · obtain ⟨-, -, -, c1, c2⟩ := pc_2 (d1 := d1) hy
        have := h2.2.2.2.2.2.2.2.2.2.2.2.1 y hy
        rw [c1, c2] at li
        omega
      · omega
  have hy := pcY_lt h1 h2
  rcases both_core (Q := fun _ => True) hs (len_5 (by omega)) hT hc0 hsh hc (by omega) (by omega) (by omega) hl (by decide) (fun p hp => (d4' p hp).2) hW (by omega) (pc_E h1 h2) hy hL (fun nb bp V hI => ⟨_, fT_ok (hI.lq hc0 hb), trivial⟩) with ⟨z1, V2, z2, z3⟩ | ⟨f, -, hB⟩
  · have z2' : mX6_tells 0 W = some (nI 0, V2) := z2
    refine ⟨-nI 2, X, V2, ?_, ?_, kX, kM.tr z3⟩
    · rw [eX, z1, cl_mk, if_neg n00]; rfl
    · rw [eM, z2', cl_mk, if_neg n00]; rfl
  · obtain ⟨X2, V2, V3, V4, rho, x, x1, x2, x3, t1, t2, t3, t4, t5⟩ := both_law hL hB
    have x2' : mX3_answer 1 X2 = some (nI (bN x), X2) := x2
    refine ⟨nI (bN x), X2, V4, ?_, ?_, kX.tr x3, kM.tr t5⟩
    · rw [eX, x1, cl_mk, if_pos n11, x2', cl_mk]
    · rw [eM, t1, cl_mk, if_pos n11, t2, cl_mk, t3, cl_mk, t4, cl_mk]
      cases x
      · rw [if_pos (show nI (bN false) = 0 from rfl)]; rfl
      · rw [if_neg (show ¬ (nI (bN true) = 0) by decide)]; rfl
end PG
theorem pub_follows : Pub_follows Rel := by
  rintro wX wM ⟨N, S, A, T, y, D, h⟩ v0 v1 v2
  have hR := h
  obtain ⟨hN, hX, hM, hT, h2, hS, h12⟩ := h
  have n10 : ¬ (nI 1 : Int32) = 0 := by decide
  by_cases c0 : ∃ k, k < 6 ∧ v0 = nI k
  rotate_left
  · refine pub_same hR (-nI 1) ?_ ?_ (KX.rf _) (KM0 wM)
    · by_cases c1 : ∃ k, k < 6 ∧ v1 = nI k
      · obtain ⟨j, hj, rfl⟩ := c1
        simp only [mX5_follows, X_sen_f _ c0, X_sen_t _ hj, nS_none, cl_mk, nm_mk, pu_mk, lit, if_true, if_false, ne_eq, not_false_eq_true, not_true_eq_false, nI_add, nI_or, nI_and, Bool.false_eq_true, ne01, ne10, nI_m1', Nat.or_zero]
      · simp only [mX5_follows, X_sen_f _ c0, X_sen_f _ c1, nS_none, cl_mk, nm_mk, pu_mk, lit, if_true, if_false, ne_eq, not_false_eq_true, not_true_eq_false, nI_add, nI_or, nI_and, Bool.false_eq_true, ne01, ne10, nI_m1', Nat.or_zero]
    · simp only [mX6_follows, M_sen_f _ c0, cl_mk, nm_mk, pu_mk, lit, if_true, if_false, ne_eq, not_false_eq_true, not_true_eq_false, nI_add, nI_or, nI_and, Bool.false_eq_true, ne01, ne10, nI_m1', Nat.or_zero]
  obtain ⟨i, hi, rfl⟩ := c0
  by_cases c1 : ∃ k, k < 6 ∧ v1 = nI k
  rotate_left
  · refine pub_same hR (-nI 1) ?_ ?_ (KX.rf _) (KM0 wM)
    · simp only [mX5_follows, X_sen_t _ hi, X_sen_f _ c1, nS_some (cls_sen i hi), nS_none, cl_mk, nm_mk, pu_mk, lit, if_true, if_false, ne_eq, not_false_eq_true, not_true_eq_false, nI_add, nI_or, nI_and, Bool.false_eq_true, ne01, ne10, nI_m1', Nat.or_zero]
    · simp only [mX6_follows, M_sen_t _ hi, M_sen_f _ c1, cl_mk, nm_mk, pu_mk, lit, if_true, if_false, ne_eq, not_false_eq_true, not_true_eq_false, nI_add, nI_or, nI_and, Bool.false_eq_true, ne01, ne10, nI_m1', Nat.or_zero]
  obtain ⟨j, hj, rfl⟩ := c1
  by_cases c2 : ∃ k, k < 8 ∧ v2 = nI k
  rotate_left
  · refine pub_same hR (-nI 1) ?_ ?_ (KX.rf _) (KM0 wM)
    · simp only [mX5_follows, X_sen_t _ hi, X_sen_t _ hj, nS_some (cls_sen i hi), nS_some (cls_sen j hj), X_log_f _ c2, cl_mk, nm_mk, pu_mk, lit, if_true, if_false, ne_eq, not_false_eq_true, not_true_eq_false, nI_add, nI_or, nI_and, Bool.false_eq_true, ne01, ne10, nI_m1', Nat.or_zero]
    · simp only [mX6_follows, M_sen_t _ hi, M_sen_t _ hj, M_log_f _ c2, cl_mk, nm_mk, pu_mk, lit, if_true, if_false, ne_eq, not_false_eq_true, not_true_eq_false, nI_add, nI_or, nI_and, Bool.false_eq_true, ne01, ne10, nI_m1', Nat.or_zero]
  obtain ⟨L, hL, rfl⟩ := c2
  obtain ⟨a1, a2, a3⟩ := hS i hi
  obtain ⟨b1, b2, b3⟩ := hS j hj
  obtain ⟨r, wX2, wM2, e1, e2, k1, k2⟩ := both_pair a1 b1 hi hj hL a2 b2 a3 b3
  exact pub_same hR r e1 e2 k1 k2
end
section
/-! shown: true whatever the atoms are -/
def opR (c : Nat → Nat) (row k a b : Nat) : Nat := if atmB (c k) = true then bN (row.testBit (c k - 112)) else joinF (c k) a b
theorem opR_lt {c : Nat → Nat} {row k a b : Nat} (ha : a < 2) (hb : b < 2) : opR c row k a b < 2 := by
  unfold opR
  split
  · exact bN_lt _
  · exact joinF_lt ha hb
theorem evV_cg {op op2 : Nat → Nat → Nat → Nat} {m : Nat} {c l r : Nat → Nat} (hs : ShapeOK m c l r) (h : ∀ k, k < m → op k = op2 k) : ∀ k, k < m → evV op c l r k = evV op2 c l r k := by
  have main : ∀ n k, k < n → k < m → evV op c l r k = evV op2 c l r k := by
    intro n
    induction n with
    | zero => intro k hk; omega
    | succ n ih =>
      intro k hkn hkm
      rw [evV_eq hs hkm, evV_eq hs hkm, h k hkm]
      unfold argA argB
      rcases hs k hkm with g | ⟨g, g1⟩ | ⟨g, g1, g2⟩
      · rw [kd_leaf g, if_pos rfl, if_pos rfl, if_neg (by decide), if_neg (by decide)]
      · rw [kd_pre g, ih (l k) (by omega) (by omega), if_neg (show ¬ (1 = 2) by decide), if_neg (show ¬ (1 = 2) by decide)]
      · rw [kd_jn g, ih (l k) (by omega) (by omega), ih (r k) (by omega) (by omega)]
  exact fun k hk => main (k + 1) k (Nat.lt_succ_self k) hk
section TR
variable {w : AW} {M Z : Nat} {c l r b e y : Nat → Nat}
theorem M_t91 {W : AW} {k4 k15 : Int32 → Int32 → AW → Option (Int32 × AW)} {v1 : Int32} {row p cc x z : Nat} (hp : p < 90) (hcc : isLeaf cc ∨ isPre cc ∨ isJn cc) (hx : x < 2) (hz : z < 2) (hrow : row < 16) (hnm : modB cc = false) :
    mX6_isTrue_91 k4 k15 v1 (nI row) (nI p) (nI cc) (nI x) (nI z) W = k15 (nI (if atmB cc = true then bN (row.testBit (cc - 112)) else joinF cc x z)) (nI (p + 1)) (am_set W 0 38 p (nI (if atmB cc = true then bN (row.testBit (cc - 112)) else joinF cc x z))) := by
  have hc := kinds_lt hcc
  have e186 : ∀ v : Int32, mX6_isTrue_186 k4 k15 v1 (nI row) (nI p) v W = k15 v (nI (p + 1)) (am_set W 0 38 p v) := fun v => by
    unfold mX6_isTrue_186
    rw [wr_in hp (by decide), nm_mk, show nI p + 1 = nI (p + 1) from nI_add p 1]
  have em : (1 : Int32) - nI x = nI (1 - x) := pk_sub (a := 1) (b := x) (by omega)
  have es : sdiff 1 x = 1 - x := by
    rcases (show x = 0 ∨ x = 1 by omega) with q | q
    · rw [q]; decide
    · rw [q]; decide
  have ea : decide (112 ≤ cc ∧ cc ≤ 115) = atmB cc := rfl
  unfold mX6_isTrue_91
  rw [M_isAtom W (by omega), cl_mk, ea]
  cases hh : atmB cc
  · rw [if_pos (show nI (bN false) = 0 from rfl), if_neg (show ¬ (false = true) by decide)]
    have hm2 : ¬ (cc = 91 ∨ cc = 123) := of_decide_eq_false hnm
    unfold joinF
    by_cases h1 : cc = 84
    · rw [if_neg (show ¬ (nI cc ≠ 84) from fun z => z (by rw [h1]; rfl)), e186, if_neg (by omega), if_neg (by omega), if_neg (by omega), if_pos h1]
      rfl
    rw [if_pos (show nI cc ≠ 84 from ne_nI (b := 84) (by omega) (by decide) h1)]
    by_cases h2 : cc = 70
    · rw [if_neg (show ¬ (nI cc ≠ 70) from fun z => z (by rw [h2]; rfl)), e186, if_neg (by omega), if_neg (by omega), if_neg (by omega), if_neg h1, if_neg (by omega)]
      rfl
    rw [if_pos (show nI cc ≠ 70 from ne_nI (b := 70) (by omega) (by decide) h2)]
    by_cases h3 : cc = 33
    · rw [if_neg (show ¬ (nI cc ≠ 33) from fun z => z (by rw [h3]; rfl)), em, e186, if_pos h3, es]
    rw [if_pos (show nI cc ≠ 33 from ne_nI (b := 33) (by omega) (by decide) h3)]
    by_cases h4 : cc = 38
    · rw [if_neg (show ¬ (nI cc ≠ 38) from fun z => z (by rw [h4]; rfl)), nI_and, e186, if_neg h3, if_pos h4]
    rw [if_pos (show nI cc ≠ 38 from ne_nI (b := 38) (by omega) (by decide) h4)]
    by_cases h5 : cc = 124
    · rw [if_neg (show ¬ (nI cc ≠ 124) from fun z => z (by rw [h5]; rfl)), nI_or, e186, if_neg h3, if_neg h4, if_neg (by omega), if_neg h1, if_pos h5]
    rw [if_pos (show nI cc ≠ 124 from ne_nI (b := 124) (by omega) (by decide) h5), em, nI_or, e186]
    have h6 : cc = 62 := by
      have ha2 : ¬ (112 ≤ cc ∧ cc ≤ 115) := of_decide_eq_false hh
      unfold isLeaf isPre isJn at hcc
      omega
    rw [if_neg h3, if_neg h4, if_pos h6, es]
  · have ha2 : 112 ≤ cc ∧ cc ≤ 115 := of_decide_eq_true hh
    have esh : nI row >>> nI ((cc - 112) &&& 31) &&& 1 = nI (bN (row.testBit (cc - 112))) := shr_B (by omega) (by omega)
    rw [if_neg (show ¬ (nI (bN true) = 0) by decide), if_pos rfl, show nI cc - 112 = nI (cc - 112) from pk_sub (a := cc) (b := 112) ha2.1, show nI (cc - 112) &&& 31 = nI ((cc - 112) &&& 31) from nI_and _ 31, esh, e186]
theorem M_t15 {k4 : Int32 → Int32 → AW → Option (Int32 × AW)} {v1 : Int32} {row : Nat} (hW : WorkM w M Z c l r b e y) (hs : ShapeOK M c l r) (hM1 : 1 ≤ M) (hM2 : M ≤ 90) (hrow : row < 16) (hnm : ∀ k, k < M → modB (c k) = false) :
    mX6_isTrue_15 k4 v1 (nI row) FU 0 0 w = mX6_isTrue_212 k4 (nI row) (nI (bN (decide (evV (opR c row) c l r (M - 1) = 1)))) v1 (hdW w (evV (opR c row) c l r) M) := by
  have hb : ∀ k, k < M → evV (opR c row) c l r k < 2 := fun k hk => evV_lt hs (by decide) (fun k _ a b ha hb => opR_lt ha hb) (k + 1) k (Nat.lt_succ_self k) hk
  refine loopE (fun n (s : Int32 × Int32 × AW) => mX6_isTrue_15 k4 v1 (nI row) n s.1 s.2.1 s.2.2) M (fun k => (nI (if k = 0 then 0 else evV (opR c row) c l r (k - 1)), nI k, hdW w (evV (opR c row) c l r) k)) _ ?_ ?_ FU 0 (Nat.zero_le _) (FU_gt (by omega))
  · intro n k hk
    have hWk : WorkM (hdW w (evV (opR c row) c l r) k) M Z c l r b e y := hW.c (by rw [hdW_row k 0 (by decide)]) (by rw [hdW_row k 0 (by decide)]) (fun a h1 h2 => hdW_row k a (by omega))
    obtain ⟨a1, a2, a3, a4⟩ := M_args (op := opR c row) hWk hs hM2 hk (fun j hj => setRow_in k hj)
    have hcc := kinds_of hs hk
    have hc128 := kinds_lt hcc
    obtain ⟨kp, kj⟩ := pre_kd hcc
    have ab : argA c l (evV (opR c row) c l r) k < 2 ∧ argB c r (evV (opR c row) c l r) k < 2 := by
      unfold argA argB
      rcases hs k hk with g | ⟨g, g1⟩ | ⟨g, g1, g2⟩
      · rw [kd_leaf g]; exact ⟨(show (0 : Nat) < 2 by decide), (show (0 : Nat) < 2 by decide)⟩
      · rw [kd_pre g]; exact ⟨hb _ (by omega), (show (0 : Nat) < 2 by decide)⟩
      · rw [kd_jn g]; exact ⟨hb _ (by omega), hb _ (by omega)⟩
    have e2 := evV_eq (op := opR c row) hs hk
    have w30 := (hWk.2.2.1 k hk).1
    generalize hWd : hdW w (evV (opR c row) c l r) k = W at *
    generalize hx : argA c l (evV (opR c row) c l r) k = x at *
    generalize hz : argB c r (evV (opR c row) c l r) k = z at *
    have r30 : ∀ f : Int32 → Option (Int32 × AW), rd 90 (W.1 0 30) (nI k) f = f (nI (c k)) := fun f => by rw [rd_in (by omega) (by decide), w30]
    have e91 := M_t91 (W := W) (k4 := k4) (k15 := mX6_isTrue_15 k4 v1 (nI row) n) (v1 := v1) (show k < 90 by omega) hcc ab.1 ab.2 hrow (hnm k hk)
    have e65 : mX6_isTrue_65 k4 (mX6_isTrue_15 k4 v1 (nI row) n) v1 (nI row) (nI k) (nI (c k)) (nI x) W = mX6_isTrue_91 k4 (mX6_isTrue_15 k4 v1 (nI row) n) v1 (nI row) (nI k) (nI (c k)) (nI x) (nI z) W := by
      unfold mX6_isTrue_65
      rw [M_isJn W (by omega), cl_mk, kj]
      by_cases q : kd (c k) = 2
      · obtain ⟨z1, z2, z3⟩ := a4 q
        rw [decide_eq_true q, if_neg (show ¬ (nI (bN true) = 0) by decide), rd_in (by omega) (by decide), z2, rd_in z1 (by decide), z3]
      · rw [decide_eq_false q, if_pos (show nI (bN false) = 0 from rfl), a3 q]
        rfl
    have e49 : kd (c k) ≠ 0 → mX6_isTrue_49 k4 (mX6_isTrue_15 k4 v1 (nI row) n) v1 (nI row) (nI k) (nI (c k)) W = mX6_isTrue_65 k4 (mX6_isTrue_15 k4 v1 (nI row) n) v1 (nI row) (nI k) (nI (c k)) (nI x) W := fun q => by
      obtain ⟨z1, z2, z3⟩ := a2 q
      unfold mX6_isTrue_49
      rw [rd_in (by omega) (by decide), z2, rd_in z1 (by decide), z3]
    have efin : mX6_isTrue_91 k4 (mX6_isTrue_15 k4 v1 (nI row) n) v1 (nI row) (nI k) (nI (c k)) (nI x) (nI z) W = mX6_isTrue_15 k4 v1 (nI row) n (nI (evV (opR c row) c l r k)) (nI (k + 1)) (am_set W 0 38 k (nI (evV (opR c row) c l r k))) := by
      rw [e91, e2]
      rfl
    have ehd : am_set W 0 38 k (nI (evV (opR c row) c l r k)) = hdW w (evV (opR c row) c l r) (k + 1) := by rw [← hWd]; rfl
    have es0 : (if k + 1 = 0 then 0 else evV (opR c row) c l r (k + 1 - 1)) = evV (opR c row) c l r k := by rw [if_neg (by omega), Nat.add_sub_cancel]
    dsimp only
    rw [es0, ← ehd, mX6_isTrue_15, hWk.1, if_neg (nI_ge hk (by omega)), r30, M_isPre W (by omega), cl_mk, kp]
    by_cases q1 : kd (c k) = 1
    · rw [decide_eq_true q1, if_pos (show nI (bN true) ≠ 0 by decide), e49 (by omega), e65, efin]
    · rw [decide_eq_false q1, if_neg (show ¬ (nI (bN false) ≠ 0) from fun z => z rfl), M_isJn W (by omega), cl_mk, kj]
      by_cases q2 : kd (c k) = 2
      · rw [decide_eq_true q2, if_neg (show ¬ (nI (bN true) = 0) by decide), e49 (by omega), e65, efin]
      · have q0 : kd (c k) = 0 := by
          rcases hcc with g | g | g
          · exact kd_leaf g
          · exact absurd (kd_pre g) q1
          · exact absurd (kd_jn g) q2
        rw [decide_eq_false q2, if_pos (show nI (bN false) = 0 from rfl)]
        have e65' : mX6_isTrue_65 k4 (mX6_isTrue_15 k4 v1 (nI row) n) v1 (nI row) (nI k) (nI (c k)) 0 W = mX6_isTrue_65 k4 (mX6_isTrue_15 k4 v1 (nI row) n) v1 (nI row) (nI k) (nI (c k)) (nI x) W := by
          rw [a1 q0]
          rfl
        rw [e65', e65, efin]
  · intro n
    have e26 : (hdW w (evV (opR c row) c l r) M).1 0 0 26 = nI M := by rw [hdW_row M 0 (by decide)]; exact hW.1
    have hlt := hb (M - 1) (by omega)
    dsimp only
    rw [mX6_isTrue_15, e26, if_pos (nI_le (Nat.le_refl M) (by omega)), if_neg (show ¬ M = 0 by omega)]
    by_cases q : evV (opR c row) c l r (M - 1) = 1
    · rw [q, if_neg (show ¬ (nI 1 ≠ 1) from fun z => z rfl), decide_eq_true rfl]
      rfl
    · rw [if_pos (show nI (evV (opR c row) c l r (M - 1)) ≠ 1 from ne_nI (b := 1) (by omega) (by decide) q), decide_eq_false q]
      rfl
noncomputable def trW (w : AW) (c l r : Nat → Nat) (M : Nat) : Nat → AW
  | 0 => w
  | k + 1 => hdW (trW w c l r M k) (evV (opR c k) c l r) M
theorem trW_row {a : Nat} (h : a ≠ 38) : ∀ k, (trW w c l r M k).1 0 a = w.1 0 a
  | 0 => rfl
  | k + 1 => (hdW_row M a h).trans (trW_row h k)
theorem trW_K : ∀ k, KM w (trW w c l r M k)
  | 0 => KM.rf w
  | k + 1 => (trW_K k).tr (hdW_K M)
/-- whether it holds whatever its atoms are -/
noncomputable def truB (M : Nat) (c l r : Nat → Nat) : Bool := allT (fun row => decide (evV (opR c row) c l r (M - 1) = 1)) 16
theorem M_isTrue (hW : WorkM w M Z c l r b e y) (hs : ShapeOK M c l r) (hM1 : 1 ≤ M) (hM2 : M ≤ 90) (hnm : ∀ k, k < M → modB (c k) = false) : mX6_isTrue w = some (nI (bN (truB M c l r)), trW w c l r M 16) := by
  unfold mX6_isTrue truB
  refine loopE (fun n (s : Int32 × Int32 × AW) => mX6_isTrue_4 n s.1 s.2.1 s.2.2) 16 (fun k => (nI (bN (allT (fun row => decide (evV (opR c row) c l r (M - 1) = 1)) k)), nI k, trW w c l r M k)) _ ?_ ?_ FU 0 (Nat.zero_le _) (FU_gt (by omega))
  · intro n k hk
    have hWk : WorkM (trW w c l r M k) M Z c l r b e y := hW.c (by rw [trW_row (by decide)]) (by rw [trW_row (by decide)]) (fun a h1 h2 => trW_row (by omega) k)
    dsimp only
    rw [mX6_isTrue_4, if_neg (show ¬ (16 : Int32) ≤ nI k from nI_ge (b := 16) hk (by decide)), M_t15 hWk hs hM1 hM2 hk hnm]
    unfold mX6_isTrue_212
    rw [nm_mk, nm_mk, nbN_and, show nI k + 1 = nI (k + 1) from nI_add k 1]
    rfl
  · intro n
    dsimp only
    rw [mX6_isTrue_4, if_pos (show (16 : Int32) ≤ nI 16 by decide), zr_B]
end TR
section CT
variable {m P : Nat} {c l r ph pl : Nat → Nat}
theorem msk_bit2 {h g : Nat → Bool} {p : Nat} (hp : p < P) (hh : h p = true) (hg : ∀ q, g q = true → h q = true) : (mskF g (rkF h pl P) P).testBit (rkF h pl P p) = g p := by
  apply bool_eq
  unfold mskF
  rw [tb_orF]
  constructor
  · rintro ⟨q, q1, q2⟩
    split at q2
    · rename_i z
      rw [tb_pow, decide_eq_true_eq] at q2
      rw [← rk_inj q1 hp (hg q z) hh q2]
      exact z
    · rw [Nat.zero_testBit] at q2; cases q2
  · intro z
    exact ⟨p, hp, by rw [if_pos z, tb_pow, decide_eq_true rfl]⟩
/-- of a plain sentence the bits by K are the atoms -/
theorem hq_plain (hnm : ∀ k, k < m → modB (c k) = false) (hc : ClassOK m P c l r ph) {p : Nat} (hp : p < P) : hq 0 m c ph p = atmB (c (rpF m ph p)) := by
  unfold hq hbB
  rw [if_neg (show ¬ (decide (0 = 8) = true) by decide), hnm _ (rpF_spec hc hp).1, Bool.or_false]
theorem atom_same (hs : ShapeOK m c l r) (hc : ClassOK m P c l r ph) {k j : Nat} (hk : k < m) (hj : j < m) (ha : atmB (c k) = true) (he : c k = c j) : ph k = ph j := by
  have h1 : 112 ≤ c k ∧ c k ≤ 115 := of_decide_eq_true ha
  refine (hc.2.2.2.2 k j hk hj).mpr ⟨he, fun z => ?_, fun z => ?_⟩
  · unfold isPre at z; omega
  · unfold isJn at z; omega
theorem plain_cnt (hnm : ∀ k, k < m → modB (c k) = false) (hs : ShapeOK m c l r) (hc : ClassOK m P c l r ph) : cntF (hq 0 m c ph) P ≤ 4 := by
  refine cnt_surj (q := fun a => Classical.epsilon (fun p => p < P ∧ c (rpF m ph p) = 112 + a)) (fun p hp z => ?_)
  rw [hq_plain hnm hc hp] at z
  have h1 : 112 ≤ c (rpF m ph p) ∧ c (rpF m ph p) ≤ 115 := of_decide_eq_true z
  refine ⟨c (rpF m ph p) - 112, by omega, ?_⟩
  have sp : (Classical.epsilon (fun q => q < P ∧ c (rpF m ph q) = 112 + (c (rpF m ph p) - 112))) < P ∧ c (rpF m ph (Classical.epsilon (fun q => q < P ∧ c (rpF m ph q) = 112 + (c (rpF m ph p) - 112)))) = 112 + (c (rpF m ph p) - 112) := Classical.epsilon_spec (p := fun q => q < P ∧ c (rpF m ph q) = 112 + (c (rpF m ph p) - 112)) ⟨p, hp, by omega⟩
  show (Classical.epsilon (fun q => q < P ∧ c (rpF m ph q) = 112 + (c (rpF m ph p) - 112))) = p
  generalize Classical.epsilon (fun q => q < P ∧ c (rpF m ph q) = 112 + (c (rpF m ph p) - 112)) = q at sp
  obtain ⟨y1, y2⟩ := rpF_spec hc hp
  obtain ⟨x1, x2⟩ := rpF_spec hc sp.1
  rw [← y2, ← x2]
  exact (atom_same hs hc y1 x1 z (by omega)).symm
/-- by K nothing falls -/
theorem plain_th (hnm : ∀ k, k < m → modB (c k) = false) (hc : ClassOK m P c l r ph) {Zn CL TU : Nat} {br : Nat → Nat} : (∀ th t, mfX 0 Zn CL TU (OWf 0 m P c ph pl) br th t = false) ∧ ∀ t, fitX 0 CL TU br t = true := by
  have hO : OWf 0 m P c ph pl = 0 := by
    refine zero_iff_bits.mpr (fun k => ?_)
    cases e : (OWf 0 m P c ph pl).testBit k
    · rfl
    · unfold OWf mskF at e
      rw [tb_orF] at e
      obtain ⟨p, p1, p2⟩ := e
      split at p2
      · rename_i z
        unfold owF at z
        rw [Bool.and_eq_true, hq_plain hnm hc p1] at z
        rw [z.1] at z
        cases z.2
      · rw [Nat.zero_testBit] at p2; cases p2
  refine ⟨fun th t => ?_, fun t => rfl⟩
  cases e : mfX 0 Zn CL TU (OWf 0 m P c ph pl) br th t
  · rfl
  · unfold mfX at e
    rw [mfB_iff, hO] at e
    rcases e with ⟨k, k1, -⟩ | ⟨z, -⟩
    · have : sdiff 0 (clN CL TU t) = 0 := by unfold sdiff; exact Nat.zero_and _
      rw [this, Nat.zero_testBit] at k1
      cases k1
    · cases z
/-- the types of a plain sentence by K are the rows of its atoms -/
theorem plain_law (hnm : ∀ k, k < m → modB (c k) = false) (hs : ShapeOK m c l r) (hc : ClassOK m P c l r ph) (hm : 1 ≤ m) : (∀ t, t < 2 ^ cntF (hq 0 m c ph) P → whT 0 m P c l r ph pl t = 1) ↔ truB m c l r = true := by
  have hh : ∀ k, k < m → atmB (c k) = true → ph k < P ∧ hq 0 m c ph (ph k) = true ∧ c (rpF m ph (ph k)) = c k := fun k hk z => by
    have h1 := hc.1 k hk
    obtain ⟨y1, y2⟩ := rpF_spec hc h1
    have e : c (rpF m ph (ph k)) = c k := ((hc.2.2.2.2 _ _ y1 hk).mp y2).1
    exact ⟨h1, by rw [hq_plain hnm hc h1, e]; exact z, e⟩
  have opsame : ∀ t row, (∀ k, k < m → atmB (c k) = true → t.testBit (rkF (hq 0 m c ph) pl P (ph k)) = row.testBit (c k - 112)) → whT 0 m P c l r ph pl t = evV (opR c row) c l r (m - 1) := fun t row h => by
    unfold whT
    refine evV_cg hs (fun k hk => ?_) (m - 1) (by omega)
    funext a b
    unfold opT opR
    have eh : hbB (decide (0 = 8)) (c k) = atmB (c k) := by
      unfold hbB
      rw [if_neg (show ¬ (decide (0 = 8) = true) by decide), hnm k hk, Bool.or_false]
    rw [eh]
    by_cases z : atmB (c k) = true
    · rw [if_pos z, if_pos z, h k hk z]
    · rw [if_neg z, if_neg z]
  constructor
  · intro H
    refine allT_iff.mpr (fun row _ => decide_eq_true ?_)
    have e := opsame (mskF (fun p => hq 0 m c ph p && row.testBit (c (rpF m ph p) - 112)) (rkF (hq 0 m c ph) pl P) P) row (fun k hk z => by
      obtain ⟨h1, h2, h3⟩ := hh k hk z
      rw [msk_bit2 h1 h2 (fun q y => by rw [Bool.and_eq_true] at y; exact y.1), h2, h3, Bool.true_and])
    rw [← e]
    exact H _ (msk_lt (fun q y => by rw [Bool.and_eq_true] at y; exact y.1) (Nat.le_refl _))
  · intro H t _
    have hrow : orF (fun a => if (exB (fun p => hq 0 m c ph p && (decide (c (rpF m ph p) = 112 + a) && t.testBit (rkF (hq 0 m c ph) pl P p))) P) = true then 2 ^ a else 0) 4 < 2 ^ 4 := orF_lt (fun a ha => by
      split
      · exact pow_lt_of ha
      · exact Nat.two_pow_pos 4)
    rw [opsame t (orF (fun a => if (exB (fun p => hq 0 m c ph p && (decide (c (rpF m ph p) = 112 + a) && t.testBit (rkF (hq 0 m c ph) pl P p))) P) = true then 2 ^ a else 0) 4) (fun k hk z => by
      obtain ⟨h1, h2, h3⟩ := hh k hk z
      have h4 : 112 ≤ c k ∧ c k ≤ 115 := of_decide_eq_true z
      apply bool_eq
      rw [tb_orF]
      constructor
      · intro y
        refine ⟨c k - 112, by omega, ?_⟩
        rw [if_pos (exB_iff.mpr ⟨ph k, h1, by rw [h2, h3, decide_eq_true (by omega), y]; rfl⟩), tb_pow, decide_eq_true rfl]
      · rintro ⟨a, a1, a2⟩
        split at a2
        · rename_i y
          rw [tb_pow, decide_eq_true_eq] at a2
          obtain ⟨p, p1, p2⟩ := exB_iff.mp y
          rw [Bool.and_eq_true, Bool.and_eq_true, decide_eq_true_eq] at p2
          obtain ⟨p3, p4, p5⟩ := p2
          obtain ⟨y1, y2⟩ := rpF_spec hc p1
          have : ph k = p := by
            rw [← y2]
            exact atom_same hs hc hk y1 z (by omega)
          rw [this]
          exact p5
        · rw [Nat.zero_testBit] at a2; cases a2)]
    exact of_decide_eq_true (allT_iff.mp H _ hrow)
end CT
end
