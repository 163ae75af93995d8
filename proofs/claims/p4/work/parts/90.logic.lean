/-! logic, falls -/
theorem in7 {v : Int32} (hv : ¬ ∃ k, k < 7 ∧ v = nI k) : v < 0 ∨ ¬ v ≤ 6 := by
  rcases pk_ix v (n := 7) (by decide) with q | q | ⟨k, hk, rfl⟩
  · exact Or.inl q
  · refine Or.inr (fun z => ?_)
    have := Int32.le_trans q z
    exact absurd this (by decide)
  · exact absurd ⟨k, hk, rfl⟩ hv
theorem M_in7_t {k : Nat} (w : AW) (hk : k < 7) : mX6_in (nI k) 0 6 w = some (nI 1, w) := by
  have e := M_in_t w (show k < 6 + 1 from hk) (by decide)
  simp only [Nat.add_sub_cancel] at e
  exact e
theorem M_in7_f {v : Int32} (w : AW) (hv : ¬ ∃ k, k < 7 ∧ v = nI k) : mX6_in v 0 6 w = some (nI 0, w) := by
  have e := M_in_f (n := 6 + 1) w hv (by decide) (by decide)
  simp only [Nat.add_sub_cancel] at e
  exact e
/-- what the two sides know in the end, put so that their answers can be compared -/
theorem both_ans {wX w1 : AW} {o L : Nat} (hL : L < 8) (h : BothYes wX w1 o L id) {what : Nat} (hw : what ≤ 6) :
    ∃ (wX2 wX3 W2 W3 W4 W5 : AW) (a rho : Int32) (nb : Nat), nb ≤ 10 ∧ mX3_sortOut o (nI L) wX = some (nI 1, wX2) ∧ mX3_answer (nI what) wX2 = some (a, wX3) ∧ KX wX wX3 ∧
      mX6_tells 0 w1 = some (nI 1, W2) ∧ mX6_types W2 = some ((), W3) ∧ mX6_rounds (nI L) W3 = some (rho, W4) ∧ W4.1 0 0 35 = nI nb ∧ mX6_logic_78 (nI L) (nI what) rho FU (-9) 0 0 (nI (2 ^ nb - 1)) W4 = some (a, W5) ∧ KM w1 W5 := by
  obtain ⟨wX2, W2, W3, W4, nb, rho, CL, TU, OW, mu, my, pi, br, wh, inn, hd, hnb, hrho, hbit, hmk, hbr, hwl, hwh, hcb, x1, x2, x3, t1, t2, t3, t4, t5, t6, t7, t8⟩ := h
  have hpw := pow_nb hnb
  have h2n : 2 ^ nb ≤ 2 ^ 10 := Nat.pow_le_pow_right (by decide) hnb
  have hCL : CL < 2 ^ 10 := Nat.lt_of_lt_of_le hmk.1 h2n
  have hmu : mu < 2 ^ 10 := Nat.lt_of_lt_of_le hmk.2.2.2.1 h2n
  have hmy : my < 2 ^ 10 := Nat.lt_of_lt_of_le hmk.2.2.2.2.1 h2n
  obtain ⟨s1, s2, s3, s4⟩ := x3
  obtain ⟨wX3, a, a1, a2, a3⟩ := X_ans (fit := fitX L CL TU br) s1 hpw hCL (show L < 9 by omega) s4 hwl (fun u hu => by rw [s2 u hu]; exact flV_fit rho (by omega)) s3 hw
  have hth := flV_th (fit := fitM L mu my inn) (mf := mfM L mu my inn (2 ^ nb)) (fun _ _ => trivial) rho (by omega)
  obtain ⟨W5, a', b1, b2, b3⟩ := M_ans (rho := rho) (fit := fitM L mu my inn) (th := thN (fitM L mu my inn) (mfM L mu my inn (2 ^ nb)) rho) t7 hnb hmu hmy hL (fun u hu => by
    rw [t8 u hu]
    have := (hth u).1
    cases q : thN (fitM L mu my inn) (mfM L mu my inn (2 ^ nb)) rho u
    · exact decide_eq_false (fun z => by rw [this.mp z] at q; cases q)
    · exact decide_eq_true (this.mpr q)) (fun u hu => by rw [t8 u hu]; exact flV_fit rho (by omega)) hw
  have b4 := b3.cg (th2 := thN (fitX L CL TU br) (mfX L (2 ^ nb) CL TU OW br) rho) (see2 := seeX L CL TU br) (fit2 := fitX L CL TU br) (hd2 := fun t => decide (wh t = 1)) (fun t ht => th_eq hbit hmk hbr hnb hL rho t ht) (fun t ht => hwh t ht) (fun t ht => fit_eq hbit hmk hbr hnb hL ht) (fun x y hx hy => see_eq hbit hmk hbr hnb hL hx hy)
  have e : a = a' := a3.uniq hpw hw b4
  subst e
  exact ⟨wX2, wX3, W2, W3, W4, W5, a, nI rho, nb, hnb, x1, a1, x2.tr a2, t1, t4, t5, t7.1, b1, t6.tr b2⟩
theorem pub_logic : Pub_logic Rel := by
  rintro wX wM ⟨N, S, A, T, y, D, h⟩ v0 v1 v2
  have hR := h
  obtain ⟨hN, hX, hM, hT, h2, hS, h12⟩ := h
  by_cases c0 : ∃ k, k < 6 ∧ v0 = nI k
  rotate_left
  · refine pub_same hR (-nI 1) ?_ ?_ (KX.rf _) (KM0 wM)
    · simp only [mX5_logic, X_sen_f _ c0, nS_none, cl_mk, nm_mk, pu_mk, lit, if_true, if_false, ne_eq, not_false_eq_true, not_true_eq_false, nI_add, nI_or, nI_and, Bool.false_eq_true, ne01, ne10, nI_m1', Nat.or_zero]
    · simp only [mX6_logic, M_sen_f _ c0, cl_mk, nm_mk, pu_mk, lit, if_true, if_false, ne_eq, not_false_eq_true, not_true_eq_false, nI_add, nI_or, nI_and, Bool.false_eq_true, ne01, ne10, nI_m1', Nat.or_zero]
  obtain ⟨i, hi, rfl⟩ := c0
  have hcl := cls_sen i hi
  by_cases c1 : ∃ k, k < 8 ∧ v1 = nI k
  rotate_left
  · refine pub_same hR (-nI 1) ?_ ?_ (KX.rf _) (KM0 wM)
    · simp only [mX5_logic, X_sen_t _ hi, nS_some hcl, X_log_f _ c1, cl_mk, nm_mk, pu_mk, lit, if_true, if_false, ne_eq, not_false_eq_true, not_true_eq_false, nI_add, nI_or, nI_and, Bool.false_eq_true, ne01, ne10, nI_m1', Nat.or_zero]
    · simp only [mX6_logic, M_sen_t _ hi, M_log_f _ c1, cl_mk, nm_mk, pu_mk, lit, if_true, if_false, ne_eq, not_false_eq_true, not_true_eq_false, nI_add, nI_or, nI_and, Bool.false_eq_true, ne01, ne10, nI_m1', Nat.or_zero]
  obtain ⟨L, hL, rfl⟩ := c1
  have n10 : ¬ (nI 1 : Int32) = 0 := by decide
  have n11 : (nI 1 : Int32) ≠ 0 := by decide
  have n00 : ¬ ((nI 0 : Int32) ≠ 0) := fun z => z rfl
  have hX0 : mX5_logic (nI i) (nI L) v2 wX = (if v2 < 0 then some ((-1), wX) else if v2 ≤ 6 then cl (mX3_sortOut (6 + i) (nI L) wX) fun x_7 w_6 => if x_7 ≠ 0 then cl (mX3_answer v2 w_6) fun x_9 w_8 => some (x_9, w_8) else some ((-2), w_6) else some ((-1), wX)) := by
    unfold mX5_logic
    rw [X_sen_t _ hi, cl_mk, nS_some hcl, X_log_t _ hL, cl_mk, if_neg n10]
  by_cases c2 : ∃ k, k < 7 ∧ v2 = nI k
  rotate_left
  · refine pub_same hR (-nI 1) ?_ ?_ (KX.rf _) (KM0 wM)
    · rw [hX0]
      rcases in7 c2 with q | q
      · rw [if_pos q]; rfl
      · rw [if_neg q]
        split <;> rfl
    · unfold mX6_logic
      rw [pu_mk, M_sen_t _ hi, cl_mk, if_neg n10, M_log_t _ hL, cl_mk, if_neg n10, M_in7_f _ c2, cl_mk, if_neg n00]
      rfl
  obtain ⟨what, hw, rfl⟩ := c2
  obtain ⟨hd, hSX, hSM⟩ := hS i hi
  generalize D i = d at hd hSX hSM
  have e1 := M_works (hSM.k (KM0 wM)) hi hd.2.1 hd.2.2.2.2.1
  have k1 := wkW_K (w := am_set wM 0 0 0 (nI 0)) (m := sdM d) (z := sdZ d) (c := sdc d) (l := sdl d) (r := sdr d) (b := sdb d) (e := sde d) (y := sdy d)
  have hW := wkW_W (w := am_set wM 0 0 0 (nI 0)) (m := sdM d) (z := sdZ d) (c := sdc d) (l := sdl d) (r := sdr d) (b := sdb d) (e := sde d) (y := sdy d)
  generalize wkW (am_set wM 0 0 0 (nI 0)) (sdM d) (sdZ d) (sdc d) (sdl d) (sdr d) (sdb d) (sde d) (sdy d) = w1 at e1 k1 hW
  have hM0 : mX6_logic (nI i) (nI L) (nI what) wM = cl (mX6_tells 0 w1) fun x_11 w_10 => if x_11 ≠ 0 then cl (mX6_types w_10) fun x_13 w_12 => cl (mX6_rounds (nI L) w_12) fun x_15 w_14 => nm ((1 <<< ((w_14.1 0 0 35) &&& 31)) - 1) fun v8_16 => mX6_logic_78 (nI L) (nI what) x_15 FU (-9) 0 0 v8_16 w_14 else some ((-2), w_10) := by
    unfold mX6_logic
    have e1' : mX6_works (nI i) (am_set wM 0 0 0 0) = some ((), w1) := e1
    rw [pu_mk, M_sen_t _ hi, cl_mk, if_neg n10, M_log_t _ hL, cl_mk, if_neg n10, M_in7_t _ hw, cl_mk, if_pos n11, e1', cl_mk]
  have hXg : mX5_logic (nI i) (nI L) (nI what) wX = cl (mX3_sortOut (6 + i) (nI L) wX) fun x_7 w_6 => if x_7 ≠ 0 then cl (mX3_answer (nI what) w_6) fun x_9 w_8 => some (x_9, w_8) else some ((-2), w_6) := by
    rw [hX0, if_neg (nI_pos (by omega)), if_pos (show nI what ≤ 6 from nI_le (b := 6) (by omega) (by decide))]
  rcases both_one hd hi hSX hW hL with ⟨z1, W2, z2, z3⟩ | hB
  · refine pub_same hR (-nI 2) ?_ ?_ (KX.rf _) (((KM0 wM).tr k1).tr z3)
    · rw [hXg, z1, cl_mk, if_neg n00]; rfl
    · have z2' : mX6_tells 0 w1 = some (nI 0, W2) := z2
      rw [hM0, z2', cl_mk, if_neg n00]; rfl
  · obtain ⟨wX2, wX3, W2, W3, W4, W5, a, rho, nb, hnb, x1, x2, x3, t1, t2, t3, t4, t5, t6⟩ := both_ans hL hB (show what ≤ 6 by omega)
    refine pub_same hR a ?_ ?_ x3 (((KM0 wM).tr k1).tr t6)
    · rw [hXg, x1, cl_mk, if_pos n11, x2, cl_mk]
    · rw [hM0, t1, cl_mk, if_pos n11, t2, cl_mk, t3, cl_mk, t4, sh_nb hnb, show nI (2 ^ nb) - 1 = nI (2 ^ nb - 1) from pk_sub (a := 2 ^ nb) (b := 1) (Nat.two_pow_pos nb), nm_mk]
      exact t5
theorem fallOf_any (v : Int32) (w : AW) : ∃ r, mX3_fallOf v w = some (r, w) := by
  unfold mX3_fallOf
  rcases pk_ix v (n := 1024) (by decide) with q | q | ⟨k, hk, rfl⟩
  · exact ⟨nI 0, by rw [at_neg w q, cl_mk]⟩
  · refine ⟨nI 0, ?_⟩
    have : mX5_at 4 6 v w = some (nI 0, w) := by
      unfold mX5_at
      by_cases z : v < 0
      · rw [if_pos z]; rfl
      · rw [if_neg z, if_pos (show Int32.ofNat (am_aL false 4 6) ≤ v from q)]
        rfl
    rw [this, cl_mk]
  · exact ⟨w.1 4 6 k, by rw [at_in w (show k < 1024 from hk) (by decide), cl_mk]⟩
/-- both answer, and the state stays alike; the answers may differ -/
theorem pubV_falls : PubV_falls Rel Rel := by
  rintro wX wM ⟨N, S, A, T, y, D, h⟩ v0 v1 v2
  have hR := h
  obtain ⟨hN, hX, hM, hT, h2, hS, h12⟩ := h
  have two : ∀ {wX2 wM2 : AW} {r s : Int32}, mX5_falls v0 v1 v2 wX = some (r, wX2) → mX6_falls v0 v1 v2 wM = some (s, wM2) → KX wX wX2 → KM wM wM2 → ∃ (r s : Int32) (wX2 wM2 : AW), mX5_falls v0 v1 v2 wX = some (r, wX2) ∧ mX6_falls v0 v1 v2 wM = some (s, wM2) ∧ Rel wX2 wM2 := fun e1 e2 k k2 => ⟨_, _, _, _, e1, e2, (hR.k k k2).rel⟩
  by_cases c0 : ∃ k, k < 6 ∧ v0 = nI k
  rotate_left
  · refine two (r := -nI 1) (s := -nI 1) ?_ ?_ (KX.rf _) (KM0 wM)
    · simp only [mX5_falls, X_sen_f _ c0, nS_none, cl_mk, nm_mk, pu_mk, lit, if_true, if_false, ne_eq, not_false_eq_true, not_true_eq_false, nI_add, nI_or, nI_and, Bool.false_eq_true, ne01, ne10, nI_m1', Nat.or_zero]
    · simp only [mX6_falls, M_sen_f _ c0, cl_mk, nm_mk, pu_mk, lit, if_true, if_false, ne_eq, not_false_eq_true, not_true_eq_false, nI_add, nI_or, nI_and, Bool.false_eq_true, ne01, ne10, nI_m1', Nat.or_zero]
  obtain ⟨i, hi, rfl⟩ := c0
  have hcl := cls_sen i hi
  by_cases c1 : ∃ k, k < 8 ∧ v1 = nI k
  rotate_left
  · refine two (r := -nI 1) (s := -nI 1) ?_ ?_ (KX.rf _) (KM0 wM)
    · simp only [mX5_falls, X_sen_t _ hi, nS_some hcl, X_log_f _ c1, cl_mk, nm_mk, pu_mk, lit, if_true, if_false, ne_eq, not_false_eq_true, not_true_eq_false, nI_add, nI_or, nI_and, Bool.false_eq_true, ne01, ne10, nI_m1', Nat.or_zero]
    · simp only [mX6_falls, M_sen_t _ hi, M_log_f _ c1, cl_mk, nm_mk, pu_mk, lit, if_true, if_false, ne_eq, not_false_eq_true, not_true_eq_false, nI_add, nI_or, nI_and, Bool.false_eq_true, ne01, ne10, nI_m1', Nat.or_zero]
  obtain ⟨L, hL, rfl⟩ := c1
  have n10 : ¬ (nI 1 : Int32) = 0 := by decide
  have n11 : (nI 1 : Int32) ≠ 0 := by decide
  have n00 : ¬ ((nI 0 : Int32) ≠ 0) := fun z => z rfl
  obtain ⟨hd, hSX, hSM⟩ := hS i hi
  generalize D i = d at hd hSX hSM
  have e1 := M_works (hSM.k (KM0 wM)) hi hd.2.1 hd.2.2.2.2.1
  have k1 := wkW_K (w := am_set wM 0 0 0 (nI 0)) (m := sdM d) (z := sdZ d) (c := sdc d) (l := sdl d) (r := sdr d) (b := sdb d) (e := sde d) (y := sdy d)
  have hW := wkW_W (w := am_set wM 0 0 0 (nI 0)) (m := sdM d) (z := sdZ d) (c := sdc d) (l := sdl d) (r := sdr d) (b := sdb d) (e := sde d) (y := sdy d)
  generalize wkW (am_set wM 0 0 0 (nI 0)) (sdM d) (sdZ d) (sdc d) (sdl d) (sdr d) (sdb d) (sde d) (sdy d) = w1 at e1 k1 hW
  have hP := hd.P40
  have ecb := X_countBits hSX.p (len_sen hi hP) hd.cl hd.sh (show sdP d ≤ 81 by omega) (show L < 9 by omega)
  have hX0 : mX5_falls (nI i) (nI L) v2 wX = (if v2 < 0 then some ((-1), wX) else if (lg_cmp v2.toInt64 ((1 : Int64) <<< ((nI (cntF (hq L (sdM d) (sdc d) (sdf d)) (sdP d))).toInt64 &&& 63))) < 0 then cl (mX3_sortOut (6 + i) (nI L) wX) fun x_9 w_8 => if x_9 ≠ 0 then cl (mX3_fallOf v2 w_8) fun x_11 w_10 => some (x_11, w_10) else some ((-2), w_8) else some ((-1), wX)) := by
    unfold mX5_falls mX3_howMany
    rw [X_sen_t _ hi, cl_mk, nS_some hcl, X_log_t _ hL, cl_mk, if_neg n10, ecb]
    rfl
  have hM0 : mX6_falls (nI i) (nI L) v2 wM = (if 0 ≤ v2 then cl (mX6_tells 0 w1) fun x_9 w_8 => if x_9 ≠ 0 then if v2 < (1 <<< ((w_8.1 0 0 35) &&& 31)) then cl (mX6_types w_8) fun x_11 w_10 => cl (mX6_rounds (nI L) w_10) fun x_13 w_12 => rd 1024 (w_12.1 0 42) v2 fun x_14 => some (x_14, w_12) else some ((-1), w_8) else some ((-2), w_8) else some ((-1), am_set wM 0 0 0 (nI 0))) := by
    unfold mX6_falls
    have e1' : mX6_works (nI i) (am_set wM 0 0 0 0) = some ((), w1) := e1
    rw [pu_mk, M_sen_t _ hi, cl_mk, if_neg n10, M_log_t _ hL, cl_mk, if_neg n10, e1', cl_mk]
    rfl
  have hXe : ∃ r wX2, mX5_falls (nI i) (nI L) v2 wX = some (r, wX2) ∧ KX wX wX2 := by
    rw [hX0]
    by_cases q : v2 < 0
    · rw [if_pos q]
      exact ⟨_, _, rfl, KX.rf _⟩
    · rw [if_neg q]
      by_cases q2 : (lg_cmp v2.toInt64 ((1 : Int64) <<< ((nI (cntF (hq L (sdM d) (sdc d) (sdf d)) (sdP d))).toInt64 &&& 63))) < 0
      · rw [if_pos q2]
        rcases both_one hd hi hSX hW hL with ⟨z1, -⟩ | ⟨wX2, W2, W3, W4, nb, rho, CL, TU, OW, mu, my, pi, br, wh, inn, hd, hnb, hrho, hbit, hmk, hbr, hwl, hwh, hcb, x1, x2, x3, t1, t2, t3, t4, t5, t6, t7, t8⟩
        · rw [z1, cl_mk, if_neg n00]
          exact ⟨_, _, rfl, KX.rf _⟩
        · obtain ⟨r, hr⟩ := fallOf_any v2 wX2
          rw [x1, cl_mk, if_pos n11, hr, cl_mk]
          exact ⟨_, _, rfl, x2⟩
      · rw [if_neg q2]
        exact ⟨_, _, rfl, KX.rf _⟩
  have hMe : ∃ s wM2, mX6_falls (nI i) (nI L) v2 wM = some (s, wM2) ∧ KM wM wM2 := by
    rw [hM0]
    by_cases q : 0 ≤ v2
    · rw [if_pos q]
      rcases both_one hd hi hSX hW hL with ⟨-, W2, z2, z3⟩ | ⟨wX2, W2, W3, W4, nb, rho, CL, TU, OW, mu, my, pi, br, wh, inn, hd, hnb, hrho, hbit, hmk, hbr, hwl, hwh, hcb, x1, x2, x3, t1, t2, t3, t4, t5, t6, t7, t8⟩
      · have z2' : mX6_tells 0 w1 = some (nI 0, W2) := z2
        rw [z2', cl_mk, if_neg n00]
        exact ⟨_, _, rfl, ((KM0 wM).tr k1).tr z3⟩
      · have t1' : mX6_tells 0 w1 = some (nI 1, W2) := t1
        have hpw := pow_nb hnb
        rw [t1', cl_mk, if_pos n11, t3, sh_nb hnb]
        by_cases q2 : v2 < nI (2 ^ nb)
        · rw [if_pos q2, t4, cl_mk, t5, cl_mk]
          rcases pk_ix v2 (n := 2 ^ nb) (by omega) with z | z | ⟨k, hk, rfl⟩
          · exact absurd z (Int32.not_lt.mpr q)
          · exact absurd q2 (Int32.not_lt.mpr z)
          · rw [rd_in (show k < 1024 by omega) (by decide)]
            exact ⟨_, _, rfl, ((KM0 wM).tr k1).tr t6⟩
        · rw [if_neg q2]
          exact ⟨_, _, rfl, ((KM0 wM).tr k1).tr t2⟩
    · rw [if_neg q]
      exact ⟨_, _, rfl, KM0 wM⟩
  obtain ⟨r, wX2, e2, e3⟩ := hXe
  obtain ⟨s, wM2, e4, e5⟩ := hMe
  exact two e2 e4 e3 e5
