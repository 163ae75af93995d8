/-! the model judges a type -/
theorem pre_kd {c : Nat} (h : isLeaf c ∨ isPre c ∨ isJn c) : preB c = decide (kd c = 1) ∧ jnB c = decide (kd c = 2) := by
  rcases h with g | g | g
  · rw [kd_leaf g]
    unfold isLeaf at g
    exact ⟨decide_eq_false (by omega), decide_eq_false (by omega)⟩
  · rw [kd_pre g]
    unfold isPre at g
    exact ⟨decide_eq_true g, decide_eq_false (by omega)⟩
  · rw [kd_jn g]
    unfold isJn at g
    exact ⟨decide_eq_false (by omega), decide_eq_true g⟩
section JM2
variable {gr : Bool}
theorem M_j76 {W : AW} {k4 : Int32 → Int32 → AW → Option (Unit × AW)} {t p cc x y bt : Nat} (hp : p < 90) (hcc : isLeaf cc ∨ isPre cc ∨ isJn cc) (hx : x < 2) (hy : y < 2) (ht : t < 1024) (hbt : bt < 10) (hnm : hbB gr cc = false → modB cc = false) (h35 : W.1 0 35 p = if hbB gr cc = true then nI bt else -9) :
    mX6_judges_76 k4 (nI t) (nI p) (nI cc) (nI x) (nI y) W = k4 (nI (if hbB gr cc = true then bN (t.testBit bt) else joinF cc x y)) (nI (p + 1)) (am_set W 0 38 p (nI (if hbB gr cc = true then bN (t.testBit bt) else joinF cc x y))) := by
  have hc := kinds_lt hcc
  have r35 : ∀ f : Int32 → Option (Unit × AW), rd 90 (W.1 0 35) (nI p) f = f (if hbB gr cc = true then nI bt else -9) := fun f => by rw [rd_in hp (by decide), h35]
  have e175 : ∀ v : Int32, mX6_judges_175 k4 (nI t) (nI p) v W = k4 v (nI (p + 1)) (am_set W 0 38 p v) := fun v => by
    unfold mX6_judges_175
    rw [wr_in hp (by decide), nm_mk, show nI p + 1 = nI (p + 1) from nI_add p 1]
  have em : (1 : Int32) - nI x = nI (1 - x) := pk_sub (a := 1) (b := x) (by omega)
  have es : sdiff 1 x = 1 - x := by
    rcases (show x = 0 ∨ x = 1 by omega) with q | q
    · rw [q]; decide
    · rw [q]; decide
  unfold mX6_judges_76
  cases hh : hbB gr cc
  · rw [r35, hh, if_neg (show ¬ (false = true) by decide), if_neg (show ¬ (false = true) by decide), if_pos rfl]
    have hm := hnm hh
    unfold modB at hm
    have hm2 := of_decide_eq_false hm
    unfold joinF
    by_cases h1 : cc = 84
    · rw [if_neg (show ¬ (nI cc ≠ 84) from fun z => z (by rw [h1]; rfl)), e175, if_neg (by omega), if_neg (by omega), if_neg (by omega), if_pos h1]
      rfl
    rw [if_pos (show nI cc ≠ 84 from ne_nI (b := 84) (by omega) (by decide) h1)]
    by_cases h2 : cc = 70
    · rw [if_neg (show ¬ (nI cc ≠ 70) from fun z => z (by rw [h2]; rfl)), e175, if_neg (by omega), if_neg (by omega), if_neg (by omega), if_neg h1, if_neg (by omega)]
      rfl
    rw [if_pos (show nI cc ≠ 70 from ne_nI (b := 70) (by omega) (by decide) h2)]
    by_cases h3 : cc = 33
    · rw [if_neg (show ¬ (nI cc ≠ 33) from fun z => z (by rw [h3]; rfl)), em, e175, if_pos h3, es]
    rw [if_pos (show nI cc ≠ 33 from ne_nI (b := 33) (by omega) (by decide) h3)]
    by_cases h4 : cc = 38
    · rw [if_neg (show ¬ (nI cc ≠ 38) from fun z => z (by rw [h4]; rfl)), nI_and, e175, if_neg h3, if_pos h4]
    rw [if_pos (show nI cc ≠ 38 from ne_nI (b := 38) (by omega) (by decide) h4)]
    by_cases h5 : cc = 124
    · rw [if_neg (show ¬ (nI cc ≠ 124) from fun z => z (by rw [h5]; rfl)), nI_or, e175, if_neg h3, if_neg h4, if_neg (by omega), if_neg h1, if_pos h5]
    rw [if_pos (show nI cc ≠ 124 from ne_nI (b := 124) (by omega) (by decide) h5), em, nI_or, e175]
    have h6 : cc = 62 := by
      have ha : atmB cc = false := by
        cases q : atmB cc
        · rfl
        · unfold hbB at hh
          rw [q] at hh
          cases hh
      have ha2 : ¬ (112 ≤ cc ∧ cc ≤ 115) := of_decide_eq_false ha
      unfold isLeaf isPre isJn at hcc
      omega
    rw [if_neg h3, if_neg h4, if_pos h6, es]
  · have n9 := nI_n9 (show bt < 2 ^ 31 by omega)
    rw [r35, hh, if_pos rfl, if_pos rfl, if_neg n9, r35, hh, if_pos rfl, e175]
    have e31 : nI bt &&& 31 = nI (bt &&& 31) := nI_and bt 31
    have eb : (nI t >>> (nI bt &&& 31)) &&& 1 = nI (bN (t.testBit bt)) := by
      rw [e31]
      exact shr_B (by omega) (by omega)
    rw [eb]
theorem M_jdstep {W : AW} {n t p M cc x y lp rp bt : Nat} {v : Int32} (hcc : isLeaf cc ∨ isPre cc ∨ isJn cc) (h26 : W.1 0 0 26 = nI M) (hp : p < M) (hMM : M ≤ 90) (hc : W.1 0 30 p = nI cc) (hxl : x < 2) (hyl : y < 2) (ht : t < 1024) (hbt : bt < 10) (hnm : hbB gr cc = false → modB cc = false) (h35 : W.1 0 35 p = if hbB gr cc = true then nI bt else -9)
    (hx0 : kd cc = 0 → x = 0) (hx : kd cc ≠ 0 → lp < 90 ∧ W.1 0 31 p = nI lp ∧ W.1 0 38 lp = nI x) (hy0 : kd cc ≠ 2 → y = 0) (hy : kd cc = 2 → rp < 90 ∧ W.1 0 32 p = nI rp ∧ W.1 0 38 rp = nI y) :
    mX6_judges_4 (nI t) (n + 1) v (nI p) W = mX6_judges_4 (nI t) n (nI (if hbB gr cc = true then bN (t.testBit bt) else joinF cc x y)) (nI (p + 1)) (am_set W 0 38 p (nI (if hbB gr cc = true then bN (t.testBit bt) else joinF cc x y))) := by
  have hc128 := kinds_lt hcc
  obtain ⟨kp, kj⟩ := pre_kd hcc
  have r30 : ∀ f : Int32 → Option (Unit × AW), rd 90 (W.1 0 30) (nI p) f = f (nI cc) := fun f => by rw [rd_in (by omega) (by decide), hc]
  have e76 := M_j76 (k4 := mX6_judges_4 (nI t) n) (show p < 90 by omega) hcc hxl hyl ht hbt hnm h35
  have e51 : mX6_judges_51 (mX6_judges_4 (nI t) n) (nI t) (nI p) (nI cc) (nI x) W = mX6_judges_76 (mX6_judges_4 (nI t) n) (nI t) (nI p) (nI cc) (nI x) (nI y) W := by
    unfold mX6_judges_51
    rw [M_isJn W (by omega), cl_mk, kj]
    by_cases q : kd cc = 2
    · obtain ⟨z1, z2, z3⟩ := hy q
      rw [decide_eq_true q, if_neg (show ¬ (nI (bN true) = 0) by decide), rd_in (by omega) (by decide), z2, rd_in z1 (by decide), z3]
    · rw [decide_eq_false q, if_pos (show nI (bN false) = 0 from rfl), hy0 q]
      rfl
  have e36 : kd cc ≠ 0 → mX6_judges_36 (mX6_judges_4 (nI t) n) (nI t) (nI p) (nI cc) W = mX6_judges_51 (mX6_judges_4 (nI t) n) (nI t) (nI p) (nI cc) (nI x) W := fun q => by
    obtain ⟨z1, z2, z3⟩ := hx q
    unfold mX6_judges_36
    rw [rd_in (by omega) (by decide), z2, rd_in z1 (by decide), z3]
  rw [mX6_judges_4, h26, if_neg (nI_ge hp (by omega)), r30, M_isPre W (by omega), cl_mk, kp]
  by_cases q1 : kd cc = 1
  · rw [decide_eq_true q1, if_pos (show nI (bN true) ≠ 0 by decide), e36 (by omega), e51, e76]
  · rw [decide_eq_false q1, if_neg (show ¬ (nI (bN false) ≠ 0) from fun z => z rfl), M_isJn W (by omega), cl_mk, kj]
    by_cases q2 : kd cc = 2
    · rw [decide_eq_true q2, if_neg (show ¬ (nI (bN true) = 0) by decide), e36 (by omega), e51, e76]
    · have q0 : kd cc = 0 := by
        rcases hcc with g | g | g
        · exact kd_leaf g
        · exact absurd (kd_pre g) q1
        · exact absurd (kd_jn g) q2
      rw [decide_eq_false q2, if_pos (show nI (bN false) = 0 from rfl)]
      have e51' : mX6_judges_51 (mX6_judges_4 (nI t) n) (nI t) (nI p) (nI cc) 0 W = mX6_judges_76 (mX6_judges_4 (nI t) n) (nI t) (nI p) (nI cc) (nI x) (nI y) W := by
        rw [← e51, hx0 q0]
        rfl
      rw [e51', e76]
variable {w : AW} {M Z P : Nat} {c l r b e y ph btq : Nat → Nat}
theorem bool_nar (x : Bool) : vp_nar .boolean (nI (bN x)) = nI (bN x) := by
  cases x
  · exact nar_0
  · exact nar_1
theorem M_judges (hW : WorkM w M Z c l r b e y) (hs : ShapeOK M c l r) (hM1 : 1 ≤ M) (hM2 : M ≤ 90) {t : Nat} (ht : t < 1024) (hbt : ∀ k, k < M → btq (ph k) < 10) (hnm : ∀ k, k < M → hbB gr (c k) = false → modB (c k) = false) (h35 : ∀ k, k < M → w.1 0 35 k = if hbB gr (c k) = true then nI (btq (ph k)) else -9) :
    mX6_judges (nI t) w = some ((), am_set (hdW w (evV (opT gr c ph btq t) c l r) M) 0 41 t (nI (bN (decide (evV (opT gr c ph btq t) c l r (M - 1) = 1))))) := by
  have hb : ∀ k, k < M → evV (opT gr c ph btq t) c l r k < 2 := fun k hk => evV_lt hs (by decide) (fun k _ a b ha hb => opT_lt ha hb) (k + 1) k (Nat.lt_succ_self k) hk
  unfold mX6_judges
  refine loopE (fun n (s : Int32 × Int32 × AW) => mX6_judges_4 (nI t) n s.1 s.2.1 s.2.2) M (fun k => (nI (if k = 0 then 0 else evV (opT gr c ph btq t) c l r (k - 1)), nI k, hdW w (evV (opT gr c ph btq t) c l r) k)) _ ?_ ?_ FU 0 (Nat.zero_le _) (FU_gt (by omega))
  · intro n k hk
    have hWk : WorkM (hdW w (evV (opT gr c ph btq t) c l r) k) M Z c l r b e y := hW.c (by rw [hdW_row k 0 (by decide)]) (by rw [hdW_row k 0 (by decide)]) (fun a h1 h2 => hdW_row k a (by omega))
    obtain ⟨a1, a2, a3, a4⟩ := M_args (op := opT gr c ph btq t) hWk hs hM2 hk (fun j hj => setRow_in k hj)
    obtain ⟨xl, yl⟩ := args_lt (ph := ph) (bt := btq) (gr := gr) (t := t) hs hk
    have e1 := M_jdstep (gr := gr) (n := n) (t := t) (v := nI (if k = 0 then 0 else evV (opT gr c ph btq t) c l r (k - 1))) (kinds_of hs hk) hWk.1 hk hM2 (hWk.2.2.1 k hk).1 xl yl ht (hbt k hk) (hnm k hk) (by rw [hdW_row k 35 (by decide)]; exact h35 k hk) a1 a2 a3 a4
    refine e1.trans ?_
    have e2 := evV_eq (op := opT gr c ph btq t) hs hk
    have e3 : opT gr c ph btq t k (argA c l (evV (opT gr c ph btq t) c l r) k) (argB c r (evV (opT gr c ph btq t) c l r) k) = (if hbB gr (c k) = true then bN (t.testBit (btq (ph k))) else joinF (c k) (argA c l (evV (opT gr c ph btq t) c l r) k) (argB c r (evV (opT gr c ph btq t) c l r) k)) := rfl
    rw [← e3, ← e2]
    rfl
  · intro n
    have e26 : (hdW w (evV (opT gr c ph btq t) c l r) M).1 0 0 26 = nI M := by rw [hdW_row M 0 (by decide)]; exact hW.1
    have hl := hb (M - 1) (by omega)
    dsimp only
    rw [mX6_judges_4, e26, if_pos (nI_le (Nat.le_refl M) (by omega)), if_neg (show ¬ M = 0 by omega)]
    by_cases q : evV (opT gr c ph btq t) c l r (M - 1) = 1
    · rw [if_neg (show ¬ (nI (evV (opT gr c ph btq t) c l r (M - 1)) ≠ 1) from fun z => z (by rw [q]; rfl)), decide_eq_true q]
      unfold mX6_judges_204
      have e1 : vp_nar .boolean 1 = nI (bN true) := bool_nar true
      rw [e1, wr_in (show t < 1024 from ht) (by decide)]
    · rw [if_pos (show nI (evV (opT gr c ph btq t) c l r (M - 1)) ≠ 1 from ne_nI (b := 1) (by omega) (by decide) q), decide_eq_false q]
      unfold mX6_judges_204
      have e1 : vp_nar .boolean 0 = nI (bN false) := bool_nar false
      rw [e1, wr_in (show t < 1024 from ht) (by decide)]
end JM2
