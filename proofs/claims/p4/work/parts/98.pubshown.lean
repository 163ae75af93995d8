/-! shown -/
theorem in2 {v : Int32} (hv : ¬ ∃ k, k < 2 ∧ v = nI k) : v < 0 ∨ ¬ v ≤ 1 := by
  rcases pk_ix v (n := 2) (by decide) with q | q | ⟨k, hk, rfl⟩
  · exact Or.inl q
  · refine Or.inr (fun z => ?_)
    have := Int32.le_trans q z
    exact absurd this (by decide)
  · exact absurd ⟨k, hk, rfl⟩ hv
theorem M_in2_t {k : Nat} (w : AW) (hk : k < 2) : mX6_in (nI k) 0 1 w = some (nI 1, w) := by
  have e := M_in_t w (show k < 1 + 1 from hk) (by decide)
  simp only [Nat.add_sub_cancel] at e
  exact e
theorem M_in2_f {v : Int32} (w : AW) (hv : ¬ ∃ k, k < 2 ∧ v = nI k) : mX6_in v 0 1 w = some (nI 0, w) := by
  have e := M_in_f (n := 1 + 1) w hv (by decide) (by decide)
  simp only [Nat.add_sub_cancel] at e
  exact e
section SD8
variable {wX w1 : AW} {i : Nat} {d : SD}
/-- true whatever its atoms are: the class's law by K -/
theorem X_true (hd : SDok d) (hi : i < 6) (hSX : SenX wX (6 + i) (sdM d) (sdP d) (sdc d) (sdl d) (sdr d) (sdf d) (sdp d) (sdd d)) (hnm : ∀ k, k < sdM d → modB (sdc d k) = false) : ∃ wX2, mX5_shown_43 0 (6 + i) wX = some (nI (bN (truB (sdM d) (sdc d) (sdl d) (sdr d))), wX2) ∧ KX wX wX2 := by
  have hP := hd.P40
  have hc := hd.cl
  have hs := hd.sh
  have n11 : (nI 1 : Int32) ≠ 0 := by decide
  obtain ⟨-, s2⟩ := X_sortOut (L := 0) hSX.p (len_sen hi hP) hc hs (show sdP d ≤ 81 by omega) hd.1 hd.2.2.2.2.2.2.2.1 (show 6 + i ≠ 4 by omega) (by decide) (fun p hp => hd.plZ hp)
  have hcn := plain_cnt hnm hs hc
  obtain ⟨mf0, fit1⟩ := plain_th (pl := sdp d) (Zn := 2 ^ cntF (hq 0 (sdM d) (sdc d) (sdf d)) (sdP d)) (CL := CLf 0 (sdM d) (sdP d) (sdc d) (sdf d) (sdp d)) (TU := TUf 0 (sdM d) (sdP d) (sdc d) (sdf d) (sdp d)) (br := brT 0 (sdM d) (sdP d) (sdc d) (sdl d) (sdr d) (sdf d) (sdp d)) hnm hc
  obtain ⟨wX2, x1, x2, s1, s3, s4, s5⟩ := s2 (by omega) 0 (Nat.zero_le _) (by
    cases e : anyN (fitX 0 (CLf 0 (sdM d) (sdP d) (sdc d) (sdf d) (sdp d)) (TUf 0 (sdM d) (sdP d) (sdc d) (sdf d) (sdp d)) (brT 0 (sdM d) (sdP d) (sdc d) (sdl d) (sdr d) (sdf d) (sdp d))) (mfX 0 (2 ^ cntF (hq 0 (sdM d) (sdc d) (sdf d)) (sdP d)) (CLf 0 (sdM d) (sdP d) (sdc d) (sdf d) (sdp d)) (TUf 0 (sdM d) (sdP d) (sdc d) (sdf d) (sdp d)) (OWf 0 (sdM d) (sdP d) (sdc d) (sdf d) (sdp d)) (brT 0 (sdM d) (sdP d) (sdc d) (sdl d) (sdr d) (sdf d) (sdp d))) (2 ^ cntF (hq 0 (sdM d) (sdc d) (sdf d)) (sdP d)) 0
    · rfl
    · obtain ⟨k, k1, k2⟩ := exB_iff.mp e
      rw [Bool.and_eq_true, mf0] at k2
      cases k2.2) (fun s hs2 => absurd hs2 (Nat.not_lt_zero s))
  have hZ : 2 ^ cntF (hq 0 (sdM d) (sdc d) (sdf d)) (sdP d) ≤ 1024 := pow_nb (by omega)
  have hwl : ∀ t, whT 0 (sdM d) (sdP d) (sdc d) (sdl d) (sdr d) (sdf d) (sdp d) t < 2 := fun t => evV_lt hs (by decide) (fun k _ a b ha hb => opT_lt ha hb) _ _ (Nat.lt_succ_self _) (by have := hd.1; omega)
  have el := X_law hZ s5.1 s5.2 (fun t ht => (s1.2.2.2 t ht).2.2) hwl
  have esame : lawB (thN (fitX 0 (CLf 0 (sdM d) (sdP d) (sdc d) (sdf d) (sdp d)) (TUf 0 (sdM d) (sdP d) (sdc d) (sdf d) (sdp d)) (brT 0 (sdM d) (sdP d) (sdc d) (sdl d) (sdr d) (sdf d) (sdp d))) (mfX 0 (2 ^ cntF (hq 0 (sdM d) (sdc d) (sdf d)) (sdP d)) (CLf 0 (sdM d) (sdP d) (sdc d) (sdf d) (sdp d)) (TUf 0 (sdM d) (sdP d) (sdc d) (sdf d) (sdp d)) (OWf 0 (sdM d) (sdP d) (sdc d) (sdf d) (sdp d)) (brT 0 (sdM d) (sdP d) (sdc d) (sdl d) (sdr d) (sdf d) (sdp d))) 0) (whT 0 (sdM d) (sdP d) (sdc d) (sdl d) (sdr d) (sdf d) (sdp d)) (2 ^ cntF (hq 0 (sdM d) (sdc d) (sdf d)) (sdP d)) = truB (sdM d) (sdc d) (sdl d) (sdr d) := by
    apply bool_eq
    rw [← plain_law (pl := sdp d) hnm hs hc hd.1]
    unfold lawB
    rw [allT_iff]
    have hth : ∀ t, thN (fitX 0 (CLf 0 (sdM d) (sdP d) (sdc d) (sdf d) (sdp d)) (TUf 0 (sdM d) (sdP d) (sdc d) (sdf d) (sdp d)) (brT 0 (sdM d) (sdP d) (sdc d) (sdl d) (sdr d) (sdf d) (sdp d))) (mfX 0 (2 ^ cntF (hq 0 (sdM d) (sdc d) (sdf d)) (sdP d)) (CLf 0 (sdM d) (sdP d) (sdc d) (sdf d) (sdp d)) (TUf 0 (sdM d) (sdP d) (sdc d) (sdf d) (sdp d)) (OWf 0 (sdM d) (sdP d) (sdc d) (sdf d) (sdp d)) (brT 0 (sdM d) (sdP d) (sdc d) (sdl d) (sdr d) (sdf d) (sdp d))) 0 t = true := fun t => fit1 t
    constructor
    · intro h t ht
      have := h t ht
      rw [hth t, Bool.not_true, Bool.false_or, decide_eq_true_eq] at this
      exact this
    · intro h t ht
      rw [hth t, Bool.not_true, Bool.false_or, decide_eq_true_eq]
      exact h t ht
  rw [esame] at el
  refine ⟨wX2, ?_, x2⟩
  have x1' : mX3_sortOut (6 + i) 0 wX = some (nI 1, wX2) := x1
  have el' : mX3_answer 1 wX2 = some (nI (bN (truB (sdM d) (sdc d) (sdl d) (sdr d))), wX2) := el
  unfold mX5_shown_43
  rw [x1', cl_mk, if_pos n11, el', cl_mk]
/-- shown growing, both sides -/
theorem both_grow (hd : SDok d) (hi : i < 6) (hSX : SenX wX (6 + i) (sdM d) (sdP d) (sdc d) (sdl d) (sdr d) (sdf d) (sdp d) (sdd d)) (hW : WorkM w1 (sdM d) (sdZ d) (sdc d) (sdl d) (sdr d) (sdb d) (sde d) (sdy d)) (hnm : ∀ k, k < sdM d → modB (sdc d k) = false) :
    (mX5_shown_43 8 (6 + i) wX = some (-nI 2, wX) ∧ ∃ W2, mX6_tells 1 w1 = some (nI 0, W2) ∧ KM w1 W2) ∨
    ∃ wX2 W2 W3 x, mX5_shown_43 8 (6 + i) wX = some (nI (bN x), wX2) ∧ KX wX wX2 ∧ mX6_tells 1 w1 = some (nI 1, W2) ∧ mX6_isShown W2 = some (nI (bN x), W3) ∧ KM w1 W3 := by
  have hM := hd.2.1
  have hm := hd.1
  have hZ := hd.2.2.2.2.1
  have hP := hd.P40
  have hc := hd.cl
  have hs := hd.sh
  have n11 : (nI 1 : Int32) ≠ 0 := by decide
  have n00 : ¬ ((nI 0 : Int32) ≠ 0) := fun z => z rfl
  obtain ⟨s1, s2⟩ := X_sortOut (L := 8) hSX.p (len_sen hi hP) hc hs (show sdP d ≤ 81 by omega) hm hd.2.2.2.2.2.2.2.1 (show 6 + i ≠ 4 by omega) (by decide) (fun p hp => hd.plZ hp)
  have hte := M_tells (gr := true) hW hd.2.2.2.2.2.1 hc (show sdM d ≤ 90 by omega) (show sdZ d ≤ 420 by omega) hd.2.2.2.2.2.2.2.2.2.2.2.1 hd.2.2.2.2.2.2.2.2.2.2.1
  have ecn : cntF (fun q => hbB true (sdc d (rpF (sdM d) (sdf d) q))) (sdP d) = cntF (hq 8 (sdM d) (sdc d) (sdf d)) (sdP d) := rfl
  rcases hte with ⟨W2, nb, bp, t1, hI⟩ | ⟨W2, t1, t2, t3⟩
  · refine Or.inr ?_
    have hI8 : TI w1 W2 (decide (8 = 8)) (sdM d) (sdc d) (sdb d) (sdf d) nb bp (sdZ d) 0 := hI
    have hb : ∀ k, k < sdM d → sdb d k < sdZ d := fun k hk => hd.bZ hk
    have hk := hI8.lq (L := 8) hc hb
    have hcn := hk.cnt
    have hnb := hI.2.2.2.2.1
    have hpw := pow_nb hnb
    have hid := hI8.rank (L := 8) hd.2.2.2.2.2.1 hd.2.2.2.2.2.2.1 hb
    have hbp : ∀ j, j < nb → bp j < sdM d := fun j hj => (hI.2.2.2.2.2.1 j hj).1
    have hh : ∀ j, j < nb → hbB true (sdc d (bp j)) = true := fun j hj => (hI.2.2.2.2.2.1 j hj).2.2.1
    have hTB : TB W2 true (sdM d) (sdZ d) nb (sdc d) (sdl d) (sdr d) (sdb d) (sde d) (sdy d) (sdf d) (jqF nb (fun j => sdf d (bp j))) bp := hI8.tb (L := 8) hc hb hW
    obtain ⟨g1, g2⟩ := gr_same hk hid hs hc hbp hnm hnb
    -- the class
    obtain ⟨rho, r1, r2, r3⟩ := any_end (fit := fitX 8 (CLf 8 (sdM d) (sdP d) (sdc d) (sdf d) (sdp d)) (TUf 8 (sdM d) (sdP d) (sdc d) (sdf d) (sdp d)) (brT 8 (sdM d) (sdP d) (sdc d) (sdl d) (sdr d) (sdf d) (sdp d))) (mf := mfX 8 (2 ^ nb) (CLf 8 (sdM d) (sdP d) (sdc d) (sdf d) (sdp d)) (TUf 8 (sdM d) (sdP d) (sdc d) (sdf d) (sdp d)) (OWf 8 (sdM d) (sdP d) (sdc d) (sdf d) (sdp d)) (brT 8 (sdM d) (sdP d) (sdc d) (sdl d) (sdr d) (sdf d) (sdp d))) (2 ^ nb)
    rw [hcn] at s2
    obtain ⟨wX2, x1, x2, y1, y2, y3, y4⟩ := s2 hnb rho r1 r2 r3
    have hwl : ∀ t, whT 8 (sdM d) (sdP d) (sdc d) (sdl d) (sdr d) (sdf d) (sdp d) t < 2 := fun t => evV_lt hs (by decide) (fun k _ a b ha hb => opT_lt ha hb) _ _ (Nat.lt_succ_self _) (by omega)
    have el := X_law hpw y4.1 y4.2 (fun t ht => (y1.2.2.2 t ht).2.2) hwl
    -- the model
    have e4 := M_s4 hTB hs (show sdM d ≤ 90 by omega) hnb
    obtain ⟨W3, u1, u2, u3, u4⟩ := M_s47 (w0 := w1) (rest := nI (restN (sdc d) bp nb)) hs hm (show sdM d ≤ 90 by omega) hnb (fun k _ => jq_lt hnb) hnm hh (2 ^ nb) 0 FU W2 (by omega) (FU_gt (by omega)) hI.1 hTB (fun u hu => absurd hu (Nat.not_lt_zero u))
    have hrest : restN (sdc d) bp nb < 2 ^ 10 := Nat.lt_of_lt_of_le (orF_lt (b := nb) (fun j hj => by
      split
      · exact Nat.two_pow_pos nb
      · exact pow_lt_of hj)) (Nat.pow_le_pow_right (by decide) hnb)
    have hB : SwB W3 nb (fun u => brkN (sdc d) (sdl d) (sdr d) (evV (opT true (sdc d) (sdf d) (jqF nb (fun j => sdf d (bp j))) u) (sdc d) (sdl d) (sdr d)) bp nb) (fun u => decide (evV (opT true (sdc d) (sdf d) (jqF nb (fun j => sdf d (bp j))) u) (sdc d) (sdl d) (sdr d) (sdM d - 1) = 1)) := ⟨u3.2.1, fun t ht => (u4 t ht).2⟩
    have key : ∀ b : Bool, decide ((if b = true then (-9 : Int32) else nI 0) = -9) = b := by
      intro b
      cases b <;> decide
    have hSw : SwI W3 W3 nb (fun t => fitG (sdc d) (sdl d) (sdr d) (evV (opT true (sdc d) (sdf d) (jqF nb (fun j => sdf d (bp j))) t) (sdc d) (sdl d) (sdr d)) bp nb t) := ⟨KM.rf W3, fun _ _ => rfl, fun u hu => by
      rw [(u4 u hu).1]
      exact key _⟩
    obtain ⟨W4, th2, v1, v2, v3, v4⟩ := M_s96 (fit := fun t => fitG (sdc d) (sdl d) (sdr d) (evV (opT true (sdc d) (sdf d) (jqF nb (fun j => sdf d (bp j))) t) (sdc d) (sdl d) (sdr d)) bp nb t) hB hnb hrest 1024 FU W3 _ (Nat.le_trans (cntF_le _ _) hpw) (FU_gt (by decide)) hSw ⟨fun _ _ h => h, fun S hS u hu z => (hS u hu z).1⟩
    have hth := gr_end g1 g2 r2 v3 v4
    have hbit : BitOK nb (fun j => rkF (hq 8 (sdM d) (sdc d) (sdf d)) (sdp d) (sdP d) (sdf d (bp j))) id := id_ok hk hid
    have same : lawB (thN (fitX 8 (CLf 8 (sdM d) (sdP d) (sdc d) (sdf d) (sdp d)) (TUf 8 (sdM d) (sdP d) (sdc d) (sdf d) (sdp d)) (brT 8 (sdM d) (sdP d) (sdc d) (sdl d) (sdr d) (sdf d) (sdp d))) (mfX 8 (2 ^ nb) (CLf 8 (sdM d) (sdP d) (sdc d) (sdf d) (sdp d)) (TUf 8 (sdM d) (sdP d) (sdc d) (sdf d) (sdp d)) (OWf 8 (sdM d) (sdP d) (sdc d) (sdf d) (sdp d)) (brT 8 (sdM d) (sdP d) (sdc d) (sdl d) (sdr d) (sdf d) (sdp d))) rho) (whT 8 (sdM d) (sdP d) (sdc d) (sdl d) (sdr d) (sdf d) (sdp d)) (2 ^ nb) = lawM th2 (fun u => decide (evV (opT true (sdc d) (sdf d) (jqF nb (fun j => sdf d (bp j))) u) (sdc d) (sdl d) (sdr d) (sdM d - 1) = 1)) (2 ^ nb) := by
      unfold lawB lawM
      refine allT_cg (fun t ht => ?_)
      have hev := ev_same (L := 8) hk hs hc hbit ht (sdM d - 1) (by omega)
      have hev2 : whT 8 (sdM d) (sdP d) (sdc d) (sdl d) (sdr d) (sdf d) (sdp d) t = evV (opT true (sdc d) (sdf d) (jqF nb (fun j => sdf d (bp j))) t) (sdc d) (sdl d) (sdr d) (sdM d - 1) := hev
      rw [hth t ht, hev2]
    refine ⟨wX2, W2, W4, lawM th2 (fun u => decide (evV (opT true (sdc d) (sdf d) (jqF nb (fun j => sdf d (bp j))) u) (sdc d) (sdl d) (sdr d) (sdM d - 1) = 1)) (2 ^ nb), ?_, x2, t1, ?_, u2.tr v2⟩
    · rw [same] at el
      have x1' : mX3_sortOut (6 + i) 8 wX = some (nI 1, wX2) := x1
      have el' : mX3_answer 1 wX2 = some (nI (bN (lawM th2 (fun u => decide (evV (opT true (sdc d) (sdf d) (jqF nb (fun j => sdf d (bp j))) u) (sdc d) (sdl d) (sdr d) (sdM d - 1) = 1)) (2 ^ nb))), wX2) := el
      unfold mX5_shown_43
      rw [x1', cl_mk, if_pos n11, el', cl_mk]
    · unfold mX6_isShown
      have u1' : mX6_isShown_47 (nI (restN (sdc d) bp nb)) FU 0 W2 = mX6_isShown_96 (nI (restN (sdc d) bp nb)) FU 1 W3 := u1
      rw [e4, u1']
      exact v1
  · refine Or.inl ⟨?_, W2, t1, t2⟩
    have x1' : mX3_sortOut (6 + i) 8 wX = some (nI 0, wX) := s1 (by rw [← ecn]; omega)
    unfold mX5_shown_43
    rw [x1', cl_mk, if_neg n00]
    rfl
end SD8
theorem pub_shown : Pub_shown Rel := by
  rintro wX wM ⟨N, S, A, T, y, D, h⟩ v0 v2
  have hR := h
  obtain ⟨hN, hX, hM, hT, h2, hS, h12⟩ := h
  have n10 : ¬ (nI 1 : Int32) = 0 := by decide
  have n11 : (nI 1 : Int32) ≠ 0 := by decide
  have n00 : ¬ ((nI 0 : Int32) ≠ 0) := fun z => z rfl
  by_cases c0 : ∃ k, k < 6 ∧ v0 = nI k
  rotate_left
  · refine pub_same hR (-nI 1) ?_ ?_ (KX.rf _) (KM0 wM)
    · simp only [mX5_shown, X_sen_f _ c0, nS_none, cl_mk, nm_mk, pu_mk, lit, if_true, if_false, ne_eq, not_false_eq_true, not_true_eq_false, nI_add, nI_or, nI_and, Bool.false_eq_true, ne01, ne10, nI_m1', Nat.or_zero]
    · simp only [mX6_shown, M_sen_f _ c0, cl_mk, nm_mk, pu_mk, lit, if_true, if_false, ne_eq, not_false_eq_true, not_true_eq_false, nI_add, nI_or, nI_and, Bool.false_eq_true, ne01, ne10, nI_m1', Nat.or_zero]
  obtain ⟨i, hi, rfl⟩ := c0
  have hcl := cls_sen i hi
  obtain ⟨hd, hSX, hSM⟩ := hS i hi
  generalize D i = d at hd hSX hSM
  have f2 := X_isPlain hSX (len_sen hi hd.P40) hd.2.2.1 (by have := hd.P40; omega) hd.2.2.2.2.2.2.2.1 hd.dlt
  have hX0 : mX5_shown (nI i) v2 wX = (if v2 < 0 then some ((-1), wX) else if v2 ≤ 1 then cl (mX2_isPlain (6 + i) wX) fun x_5 w_4 => if x_5 = 0 then some ((-2), w_4) else if v2 ≠ 0 then mX5_shown_43 0 (6 + i) w_4 else mX5_shown_43 8 (6 + i) w_4 else some ((-1), wX)) := by
    unfold mX5_shown
    rw [X_sen_t _ hi, cl_mk, nS_some hcl]
  by_cases c2 : ∃ k, k < 2 ∧ v2 = nI k
  rotate_left
  · refine pub_same hR (-nI 1) ?_ ?_ (KX.rf _) (KM0 wM)
    · rw [hX0]
      rcases in2 c2 with q | q
      · rw [if_pos q]; rfl
      · rw [if_neg q]
        split <;> rfl
    · unfold mX6_shown
      rw [pu_mk, M_sen_t _ hi, cl_mk, if_neg n10, M_in2_f _ c2, cl_mk, if_neg n00]
      rfl
  obtain ⟨what, hw, rfl⟩ := c2
  have e1 := M_works (hSM.k (KM0 wM)) hi hd.2.1 hd.2.2.2.2.1
  have k1 := wkW_K (w := am_set wM 0 0 0 (nI 0)) (m := sdM d) (z := sdZ d) (c := sdc d) (l := sdl d) (r := sdr d) (b := sdb d) (e := sde d) (y := sdy d)
  have hW := wkW_W (w := am_set wM 0 0 0 (nI 0)) (m := sdM d) (z := sdZ d) (c := sdc d) (l := sdl d) (r := sdr d) (b := sdb d) (e := sde d) (y := sdy d)
  generalize wkW (am_set wM 0 0 0 (nI 0)) (sdM d) (sdZ d) (sdc d) (sdl d) (sdr d) (sdb d) (sde d) (sdy d) = w1 at e1 k1 hW
  have e2 := M_isPlain hW hd.sh (by have := hd.2.1; omega)
  rw [hd.plain] at e2
  have hXg : mX5_shown (nI i) (nI what) wX = cl (mX2_isPlain (6 + i) wX) fun x_5 w_4 => if x_5 = 0 then some ((-2), w_4) else if nI what ≠ 0 then mX5_shown_43 0 (6 + i) w_4 else mX5_shown_43 8 (6 + i) w_4 := by
    rw [hX0, if_neg (nI_pos (by omega)), if_pos (show nI what ≤ 1 from nI_le (b := 1) (by omega) (by decide))]
  have hMg : mX6_shown (nI i) (nI what) wM = cl (mX6_isPlain w1) fun x_9 w_8 => if x_9 = 0 then some ((-2), w_8) else if nI what ≠ 0 then mX6_shown_50 (nI what) w_8 else cl (mX6_tells 1 w_8) fun x_11 w_10 => if x_11 ≠ 0 then mX6_shown_50 (nI what) w_10 else some ((-2), w_10) := by
    have e1' : mX6_works (nI i) (am_set wM 0 0 0 0) = some ((), w1) := e1
    unfold mX6_shown
    rw [pu_mk, M_sen_t _ hi, cl_mk, if_neg n10, M_in2_t _ hw, cl_mk, if_pos n11, e1', cl_mk]
  by_cases q : sdd d (sdf d (sdM d - 1)) = 0
  rotate_left
  · rw [decide_eq_false q] at e2 f2
    refine pub_same hR (-nI 2) ?_ ?_ (KX.rf _) ((KM0 wM).tr k1)
    · rw [hXg, f2, cl_mk, if_pos (show nI (bN false) = 0 from rfl)]; rfl
    · rw [hMg, e2, cl_mk, if_pos (show nI (bN false) = 0 from rfl)]; rfl
  have hnm : ∀ k, k < sdM d → modB (sdc d k) = false := fun k hk => by
    have := hd.plain
    rw [q, show decide (0 = 0) = true from rfl, allT_iff] at this
    have := this k hk
    simpa using this
  rw [decide_eq_true q] at e2 f2
  rw [f2, cl_mk, if_neg (show ¬ (nI (bN true) = 0) by decide)] at hXg
  rw [e2, cl_mk, if_neg (show ¬ (nI (bN true) = 0) by decide)] at hMg
  have out : ∀ x : Bool, ∀ W : AW, (if nI (bN x) = 0 then (some (0, W) : Option (Int32 × AW)) else some (1, W)) = some (nI (bN x), W) := fun x W => by
    cases x
    · rw [if_pos (show nI (bN false) = 0 from rfl)]; rfl
    · rw [if_neg (show ¬ (nI (bN true) = 0) by decide)]; rfl
  rcases (show what = 0 ∨ what = 1 by omega) with rfl | rfl
  · rw [if_neg n00] at hXg hMg
    rcases both_grow hd hi hSX hW hnm with ⟨a1, W2, a2, a3⟩ | ⟨wX2, W2, W3, x, a1, a2, a3, a4, a5⟩
    · refine pub_same hR (-nI 2) (hXg.trans a1) ?_ (KX.rf _) (((KM0 wM).tr k1).tr a3)
      rw [hMg, a2, cl_mk, if_neg n00]; rfl
    · refine pub_same hR (nI (bN x)) (hXg.trans a1) ?_ a2 (((KM0 wM).tr k1).tr a5)
      rw [hMg, a3, cl_mk, if_pos n11]
      unfold mX6_shown_50
      rw [if_neg n00, a4, cl_mk, out]
  · rw [if_pos n11] at hXg hMg
    obtain ⟨wX2, a1, a2⟩ := X_true hd hi hSX hnm
    have eT := M_isTrue hW hd.sh hd.1 (show sdM d ≤ 90 by have := hd.2.1; omega) hnm
    refine pub_same hR (nI (bN (truB (sdM d) (sdc d) (sdl d) (sdr d)))) (hXg.trans a1) ?_ a2 (((KM0 wM).tr k1).tr (trW_K (w := w1) (c := sdc d) (l := sdl d) (r := sdr d) (M := sdM d) 16))
    rw [hMg]
    unfold mX6_shown_50
    rw [if_pos n11, eT, cl_mk, out]
