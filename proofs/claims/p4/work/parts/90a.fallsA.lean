/-! falls of a sentence of 10 bits at most: the answers alike -/
theorem shl64 : ∀ n, n < 11 → (1 : Int64) <<< ((nI n).toInt64 &&& 63) = (nI (2 ^ n)).toInt64 := by decide +kernel
theorem cmp64 {x y : Int32} : lg_cmp x.toInt64 y.toInt64 < 0 ↔ x < y := by
  have h1 : x.toInt64 > y.toInt64 ↔ y < x := by
    rw [gt_iff_lt, Int64.lt_iff_toInt_lt, Int32.toInt_toInt64, Int32.toInt_toInt64, Int32.lt_iff_toInt_lt]
  have h2 : x.toInt64 = y.toInt64 ↔ x = y := by
    rw [← Int64.toInt_inj, Int32.toInt_toInt64, Int32.toInt_toInt64, Int32.toInt_inj]
  unfold lg_cmp
  by_cases a : x.toInt64 > y.toInt64
  · rw [if_pos a]
    have := h1.mp a
    constructor
    · intro z
      exact absurd z (by decide)
    · intro z
      rw [Int32.lt_iff_toInt_lt] at z this
      omega
  · rw [if_neg a]
    by_cases b : x.toInt64 = y.toInt64
    · rw [if_pos b]
      have := h2.mp b
      constructor
      · intro z
        exact absurd z (by decide)
      · intro z
        rw [this] at z
        rw [Int32.lt_iff_toInt_lt] at z
        omega
    · rw [if_neg b]
      have c1 : ¬ y < x := fun z => a (h1.mpr z)
      have c2 : ¬ x = y := fun z => b (h2.mpr z)
      constructor
      · intro _
        rw [Int32.lt_iff_toInt_lt] at c1 ⊢
        have : x.toInt ≠ y.toInt := fun z => c2 (Int32.toInt_inj.mp z)
        omega
      · intro _
        decide
theorem falls_alike {wX wM : AW} {i L : Nat} {d : SD} {v2 : Int32} (hd : SDok d) (hi : i < 6) (hSX : SenX wX (6 + i) (sdM d) (sdP d) (sdc d) (sdl d) (sdr d) (sdf d) (sdp d) (sdd d)) (hSM : SenM wM i (sdM d) (sdZ d) (sdc d) (sdl d) (sdr d) (sdb d) (sde d) (sdy d)) (hL : L < 8) (hB : cntF (hq L (sdM d) (sdc d) (sdf d)) (sdP d) ≤ 10) :
    ∃ (r : Int32) (wX2 wM2 : AW), mX5_falls (nI i) (nI L) v2 wX = some (r, wX2) ∧ mX6_falls (nI i) (nI L) v2 wM = some (r, wM2) ∧ KX wX wX2 ∧ KM wM wM2 := by
  have hcl := cls_sen i hi
  have n10 : ¬ (nI 1 : Int32) = 0 := by decide
  have n11 : (nI 1 : Int32) ≠ 0 := by decide
  have n00 : ¬ ((nI 0 : Int32) ≠ 0) := fun z => z rfl
  have hP := hd.P40
  have e1 := M_works (hSM.k (KM0 wM)) hi hd.2.1 hd.2.2.2.2.1
  have k1 := wkW_K (w := am_set wM 0 0 0 (nI 0)) (m := sdM d) (z := sdZ d) (c := sdc d) (l := sdl d) (r := sdr d) (b := sdb d) (e := sde d) (y := sdy d)
  have hW := wkW_W (w := am_set wM 0 0 0 (nI 0)) (m := sdM d) (z := sdZ d) (c := sdc d) (l := sdl d) (r := sdr d) (b := sdb d) (e := sde d) (y := sdy d)
  generalize wkW (am_set wM 0 0 0 (nI 0)) (sdM d) (sdZ d) (sdc d) (sdl d) (sdr d) (sdb d) (sde d) (sdy d) = w1 at e1 k1 hW
  have hM0 : mX6_falls (nI i) (nI L) v2 wM = (if 0 ≤ v2 then cl (mX6_tells 0 w1) fun x_9 w_8 => if x_9 ≠ 0 then if v2 < (1 <<< ((w_8.1 0 0 35) &&& 31)) then cl (mX6_types w_8) fun x_11 w_10 => cl (mX6_rounds (nI L) w_10) fun x_13 w_12 => rd 1024 (w_12.1 0 42) v2 fun x_14 => some (x_14, w_12) else some ((-1), w_8) else some ((-2), w_8) else some ((-1), am_set wM 0 0 0 (nI 0))) := by
    unfold mX6_falls
    have e1' : mX6_works (nI i) (am_set wM 0 0 0 0) = some ((), w1) := e1
    rw [pu_mk, M_sen_t _ hi, cl_mk, if_neg n10, M_log_t _ hL, cl_mk, if_neg n10, e1', cl_mk]
    rfl
  rcases both_one hd hi hSX hW hL with ⟨z1, -⟩ | ⟨wX2, W2, W3, W4, nb, rho, CL, TU, OW, mu, my, pi, br, wh, inn, hdm, hnb, hrho, hbit, hmk, hbr, hwl, hwh, hcb, x1, x2, x3, t1, t2, t3, t4, t5, t6, t7, t8⟩
  · exfalso
    obtain ⟨-, s2⟩ := X_sortOut hSX.p (len_sen hi hP) hd.cl hd.sh (show sdP d ≤ 81 by omega) hd.1 hd.2.2.2.2.2.2.2.1 (show 6 + i ≠ 4 by omega) (show L < 9 by omega) (fun p hp => hd.plZ hp)
    obtain ⟨rho, r1, r2, r3⟩ := any_end (fit := fitX L (CLf L (sdM d) (sdP d) (sdc d) (sdf d) (sdp d)) (TUf L (sdM d) (sdP d) (sdc d) (sdf d) (sdp d)) (brT L (sdM d) (sdP d) (sdc d) (sdl d) (sdr d) (sdf d) (sdp d))) (mf := mfX L (2 ^ cntF (hq L (sdM d) (sdc d) (sdf d)) (sdP d)) (CLf L (sdM d) (sdP d) (sdc d) (sdf d) (sdp d)) (TUf L (sdM d) (sdP d) (sdc d) (sdf d) (sdp d)) (OWf L (sdM d) (sdP d) (sdc d) (sdf d) (sdp d)) (brT L (sdM d) (sdP d) (sdc d) (sdl d) (sdr d) (sdf d) (sdp d))) (2 ^ cntF (hq L (sdM d) (sdc d) (sdf d)) (sdP d))
    obtain ⟨W2, y1, -⟩ := s2 hB rho r1 r2 r3
    rw [z1] at y1
    have := congrArg Prod.fst (Option.some.inj y1)
    exact absurd (show nI 0 = nI 1 from this) (by decide)
  · have hpw := pow_nb hnb
    have t1' : mX6_tells 0 w1 = some (nI 1, W2) := t1
    have hX0 : mX5_falls (nI i) (nI L) v2 wX = (if v2 < 0 then some ((-1), wX) else if v2 < nI (2 ^ nb) then cl (mX3_sortOut (6 + i) (nI L) wX) fun x_9 w_8 => if x_9 ≠ 0 then cl (mX3_fallOf v2 w_8) fun x_11 w_10 => some (x_11, w_10) else some ((-2), w_8) else some ((-1), wX)) := by
      unfold mX5_falls mX3_howMany
      rw [X_sen_t _ hi, cl_mk, nS_some hcl, X_log_t _ hL, cl_mk, if_neg n10, hcb, cl_mk]
      by_cases q : v2 < 0
      · rw [if_pos q, if_pos q]
      · rw [if_neg q, if_neg q, cl_mk, shl64 nb (by omega)]
        by_cases q2 : v2 < nI (2 ^ nb)
        · rw [if_pos q2, if_pos (cmp64.mpr q2)]
        · rw [if_neg q2, if_neg (fun z => q2 (cmp64.mp z))]
    rw [hX0, hM0]
    rcases pk_ix v2 (n := 2 ^ nb) (by omega) with z | z | ⟨k, hk, rfl⟩
    · rw [if_pos z, if_neg (Int32.not_le.mpr z)]
      exact ⟨_, _, _, rfl, rfl, KX.rf _, KM0 wM⟩
    · have z2 : ¬ v2 < nI (2 ^ nb) := Int32.not_lt.mpr z
      have z3 : nI 0 ≤ v2 := Int32.le_trans (nI_le (Nat.zero_le _) (by omega)) z
      have z4 : ¬ v2 < 0 := Int32.not_lt.mpr z3
      rw [if_neg z4, if_neg z2, if_pos (show 0 ≤ v2 from z3), t1', cl_mk, if_pos n11, t3, sh_nb hnb, if_neg z2]
      exact ⟨_, _, _, rfl, rfl, KX.rf _, ((KM0 wM).tr k1).tr t2⟩
    · have z4 : ¬ nI k < 0 := nI_pos (by omega)
      have z5 : nI k < nI (2 ^ nb) := nI_lt hk (by omega)
      obtain ⟨s1, s2, s3, s4⟩ := x3
      have efo : mX3_fallOf (nI k) wX2 = some (wX2.1 4 6 k, wX2) := by
        unfold mX3_fallOf
        rw [at_in wX2 (show k < 1024 by omega) (by decide), cl_mk]
      have esame : wX2.1 4 6 k = W4.1 0 42 k := by
        rw [s2 k hk, t8 k hk]
        exact fl_eq hbit hmk hbr hnb hL rho k hk
      rw [if_neg z4, if_pos z5, x1, cl_mk, if_pos n11, efo, cl_mk, if_pos (Int32.not_lt.mp z4), t1', cl_mk, if_pos n11, t3, sh_nb hnb, if_pos z5, t4, cl_mk, t5, cl_mk, rd_in (show k < 1024 by omega) (by decide), esame]
      exact ⟨_, _, _, rfl, rfl, x2, ((KM0 wM).tr k1).tr t6⟩
/-- new objects -/
def Fresh (wX wM : AW) : Prop := wX = wX0 ∧ wM = wM1
theorem fresh_rel {wX wM : AW} (h : Fresh wX wM) : Rel wX wM := by
  obtain ⟨rfl, rfl⟩ := h
  exact rel_0
theorem fresh_falls : PubA_falls Fresh Rel := by
  rintro wX wM ⟨rfl, rfl⟩ v0 v1 v2
  obtain ⟨N, S, A, T, y, D, h⟩ := rel_0
  have hR := h
  obtain ⟨hN, hX, hM, hT, h2, hS, h12⟩ := h
  by_cases c0 : ∃ k, k < 6 ∧ v0 = nI k
  rotate_left
  · refine pub_same hR (-nI 1) ?_ ?_ (KX.rf _) (KM0 wM1)
    · simp only [mX5_falls, X_sen_f _ c0, nS_none, cl_mk, nm_mk, pu_mk, lit, if_true, if_false, ne_eq, not_false_eq_true, not_true_eq_false, nI_add, nI_or, nI_and, Bool.false_eq_true, ne01, ne10, nI_m1', Nat.or_zero]
    · simp only [mX6_falls, M_sen_f _ c0, cl_mk, nm_mk, pu_mk, lit, if_true, if_false, ne_eq, not_false_eq_true, not_true_eq_false, nI_add, nI_or, nI_and, Bool.false_eq_true, ne01, ne10, nI_m1', Nat.or_zero]
  obtain ⟨i, hi, rfl⟩ := c0
  have hcl := cls_sen i hi
  by_cases c1 : ∃ k, k < 8 ∧ v1 = nI k
  rotate_left
  · refine pub_same hR (-nI 1) ?_ ?_ (KX.rf _) (KM0 wM1)
    · simp only [mX5_falls, X_sen_t _ hi, nS_some hcl, X_log_f _ c1, cl_mk, nm_mk, pu_mk, lit, if_true, if_false, ne_eq, not_false_eq_true, not_true_eq_false, nI_add, nI_or, nI_and, Bool.false_eq_true, ne01, ne10, nI_m1', Nat.or_zero]
    · simp only [mX6_falls, M_sen_t _ hi, M_log_f _ c1, cl_mk, nm_mk, pu_mk, lit, if_true, if_false, ne_eq, not_false_eq_true, not_true_eq_false, nI_add, nI_or, nI_and, Bool.false_eq_true, ne01, ne10, nI_m1', Nat.or_zero]
  obtain ⟨L, hL, rfl⟩ := c1
  obtain ⟨hd, hSX, hSM⟩ := hS i hi
  generalize D i = d at hd hSX hSM
  obtain ⟨r, a, b, e1, e2, k, k2⟩ := falls_alike (v2 := v2) hd hi hSX hSM hL (by
    have e5 : wX0.1 (6 + i) 0 5 = nI 1 ∧ wX0.1 (6 + i) 1 0 = nI 84 := by
      have : ∀ i, i < 6 → wX0.1 (6 + i) 0 5 = nI 1 ∧ wX0.1 (6 + i) 1 0 = nI 84 := by
        intro i hi
        match i, hi with
        | 0, _ => exact ⟨rfl, rfl⟩
        | 1, _ => exact ⟨rfl, rfl⟩
        | 2, _ => exact ⟨rfl, rfl⟩
        | 3, _ => exact ⟨rfl, rfl⟩
        | 4, _ => exact ⟨rfl, rfl⟩
        | 5, _ => exact ⟨rfl, rfl⟩
      exact this i hi
    have hP := hd.P40
    have p1 : sdP d = 1 := (nI_eq (by omega) (by decide)).mp (hSX.1.symm.trans e5.1)
    obtain ⟨z1, z2⟩ := rpF_spec hd.cl (show 0 < sdP d by omega)
    have hc := (hSX.2.2.1 _ z1).1
    rw [z2, e5.2] at hc
    have c84 : sdc d (rpF (sdM d) (sdf d) 0) = 84 := ((nI_eq (by decide) (by have := kinds_lt (kinds_of hd.sh z1); omega)).mp hc).symm
    have : cntF (hq L (sdM d) (sdc d) (sdf d)) 1 ≤ 1 := cntF_le _ 1
    rw [p1]
    omega)
  exact pub_same hR r e1 e2 k k2
