/-! one byte, by what is due -/
theorem X_one_leaf {c : Nat} (v2 : Int32) (w : AW) (h : isLeaf c) : mX1_takesOne (nI c) v2 5 w = mX1_takesOne_19 (nI c) v2 5 w := by
  unfold mX1_takesOne
  rw [X_isAtom w (by unfold isLeaf at h; omega), cl_mk]
  rcases h with rfl | rfl | rfl | rfl | rfl | rfl
  · rw [if_pos (show nI (bN (decide (112 ≤ 112 ∧ 112 ≤ 115))) ≠ 0 by decide)]
  · rw [if_pos (show nI (bN (decide (112 ≤ 113 ∧ 113 ≤ 115))) ≠ 0 by decide)]
  · rw [if_pos (show nI (bN (decide (112 ≤ 114 ∧ 114 ≤ 115))) ≠ 0 by decide)]
  · rw [if_pos (show nI (bN (decide (112 ≤ 115 ∧ 115 ≤ 115))) ≠ 0 by decide)]
  · rw [if_neg (show ¬ (nI (bN (decide (112 ≤ 84 ∧ 84 ≤ 115))) ≠ 0) from fun z => z rfl), if_pos (show nI 84 = 84 from rfl)]
  · rw [if_neg (show ¬ (nI (bN (decide (112 ≤ 70 ∧ 70 ≤ 115))) ≠ 0) from fun z => z rfl), if_neg (show ¬ (nI 70 = 84) by decide), if_neg (show ¬ (nI 70 ≠ 70) from fun z => z rfl)]
theorem X_one_other {c : Nat} (v2 : Int32) (w : AW) (hc : c < 256) (h : ¬ isLeaf c) : mX1_takesOne (nI c) v2 5 w = if preB c = true ∨ c = 40 then mX1_takesOne_47 (nI c) v2 w else some (nI 0, w) := by
  unfold isLeaf at h
  unfold mX1_takesOne
  rw [X_isAtom w (by omega), cl_mk, decide_eq_false (show ¬ (112 ≤ c ∧ c ≤ 115) by omega), if_neg (show ¬ (nI (bN false) ≠ 0) from fun z => z rfl), if_neg (show ¬ nI c = 84 from ne_nI (b := 84) (by omega) (by decide) (by omega)), if_pos (show nI c ≠ 70 from ne_nI (b := 70) (by omega) (by decide) (by omega))]
  by_cases q : c = 40
  · subst q
    rw [if_pos (show nI 40 = 40 from rfl), if_pos (Or.inr rfl)]
  · rw [if_neg (show ¬ nI c = 40 from ne_nI (b := 40) (by omega) (by decide) q), X_isPre w (by omega), cl_mk]
    cases z : preB c
    · rw [if_pos (show nI (bN false) = 0 from rfl), if_neg (by intro y; rcases y with y | y; exact Bool.noConfusion y; exact q y)]
      rfl
    · rw [if_neg (show ¬ (nI (bN true) = 0) by decide), if_pos (Or.inl rfl)]
theorem M_one_leaf {c sg : Nat} {k17 : Int32 → Int32 → Int32 → Int32 → Int32 → AW → Option (Int32 × AW)} {v2 v3 v5 s0 s1 : Int32} (w : AW) (hs : s1 + s0 = nI sg) (h : isLeaf c) : mX6_reads_90 k17 v2 v3 (nI 1) v5 (nI c) s0 s1 w = mX6_reads_175 k17 (nI sg) v2 v3 (nI 1) v5 (nI c) w := by
  have hp : preB c = false := decide_eq_false (by unfold isLeaf at h; omega)
  unfold mX6_reads_90
  rw [hs, nm_mk, if_neg (show ¬ (nI 1 = 0) by decide), M_isPre w (by unfold isLeaf at h; omega), cl_mk, hp, if_neg (show ¬ (nI (bN false) ≠ 0) from fun z => z rfl), if_pos (show nI c ≠ 40 from ne_nI (b := 40) (by unfold isLeaf at h; omega) (by decide) (by unfold isLeaf at h; omega)), M_isAtom w (by unfold isLeaf at h; omega), cl_mk]
  rcases h with rfl | rfl | rfl | rfl | rfl | rfl
  · rw [if_pos (show nI (bN (decide (112 ≤ 112 ∧ 112 ≤ 115))) ≠ 0 by decide)]
  · rw [if_pos (show nI (bN (decide (112 ≤ 113 ∧ 113 ≤ 115))) ≠ 0 by decide)]
  · rw [if_pos (show nI (bN (decide (112 ≤ 114 ∧ 114 ≤ 115))) ≠ 0 by decide)]
  · rw [if_pos (show nI (bN (decide (112 ≤ 115 ∧ 115 ≤ 115))) ≠ 0 by decide)]
  · rw [if_neg (show ¬ (nI (bN (decide (112 ≤ 84 ∧ 84 ≤ 115))) ≠ 0) from fun z => z rfl), if_pos (show nI 84 = 84 from rfl)]
  · rw [if_neg (show ¬ (nI (bN (decide (112 ≤ 70 ∧ 70 ≤ 115))) ≠ 0) from fun z => z rfl), if_neg (show ¬ (nI 70 = 84) by decide), if_neg (show ¬ (nI 70 ≠ 70) from fun z => z rfl)]
theorem M_one_other {c sg : Nat} {k17 : Int32 → Int32 → Int32 → Int32 → Int32 → AW → Option (Int32 × AW)} {v2 v3 v5 s0 s1 : Int32} (w : AW) (hs : s1 + s0 = nI sg) (hc : c < 256) (h : ¬ isLeaf c) : mX6_reads_90 k17 v2 v3 (nI 1) v5 (nI c) s0 s1 w = if preB c = true ∨ c = 40 then mX6_reads_116 k17 (nI sg) v2 v3 (nI 1) v5 (nI c) (-9) w else some (nI 0, w) := by
  unfold isLeaf at h
  unfold mX6_reads_90
  rw [hs, nm_mk, if_neg (show ¬ (nI 1 = 0) by decide), M_isPre w (by omega), cl_mk]
  cases z : preB c
  · rw [if_neg (show ¬ (nI (bN false) ≠ 0) from fun z => z rfl)]
    by_cases q : c = 40
    · subst q
      rw [if_neg (show ¬ (nI 40 ≠ 40) from fun z => z rfl), if_pos (Or.inr rfl)]
    · rw [if_pos (show nI c ≠ 40 from ne_nI (b := 40) (by omega) (by decide) q), M_isAtom w (by omega), cl_mk, decide_eq_false (show ¬ (112 ≤ c ∧ c ≤ 115) by omega), if_neg (show ¬ (nI (bN false) ≠ 0) from fun z => z rfl), if_neg (show ¬ nI c = 84 from ne_nI (b := 84) (by omega) (by decide) (by omega)), if_pos (show nI c ≠ 70 from ne_nI (b := 70) (by omega) (by decide) (by omega)), if_neg (by intro y; rcases y with y | y; exact Bool.noConfusion y; exact q y)]
      rfl
  · rw [if_pos (show nI (bN true) ≠ 0 by decide), if_pos (Or.inl rfl)]
section S0
variable {wX wM : AW} {d : SD} {H sg pos c : Nat} {op at_ st lf : Nat → Nat} {k17 : Int32 → Int32 → Int32 → Int32 → Int32 → AW → Option (Int32 × AW)}
theorem SI.facts {p : Prop} (hI : SI d H sg pos op at_ st lf p) : sdM d ≤ 40 ∧ H ≤ 20 ∧ sdP d ≤ 40 ∧ ShapeOK (sdM d) (sdc d) (sdl d) (sdr d) ∧ ClassOK (sdM d) (sdP d) (sdc d) (sdl d) (sdr d) (sdf d) := by
  obtain ⟨i1, i2, i3, i4, i5, i6, i7, i8, i9, i10, i11, i12, i13⟩ := hI
  have hcls := i2.cls
  have := P_le_M hcls
  exact ⟨by omega, i11, by omega, i1.shape, hcls⟩
/-- a leaf -/
theorem step_leaf {sg2 : Nat} {s0 s1 : Int32} (hpos : pos < 1000) (hJ : JM wX wM d H sg2 op at_ st lf) (hI : SI d H sg pos op at_ st lf False) (hD : (∀ i, i < H → st i = 0 ∨ st i = 2) ∧ pos = begF at_ st lf (sde d) H ∧ (H = 0 → sdM d = 0)) (h35 : wX.1 3 0 5 = nI 0) (hs : s1 + s0 = nI sg2) (hsg : sg2 = sg + 1) (h40 : sg2 ≤ 40) (hy : sdy d pos = c) (hc : isLeaf c) :
    GoOn (mX1_takes_27 (nI c) (nI pos) 5 wX) (mX6_reads_90 k17 (nI H) (nI 0) (nI 1) (nI pos) (nI c) s0 s1 wM) k17 wX wM (sdy d) (sdZ d) sg2 pos := by
  obtain ⟨hM40, h20, hP40, hsh, hcls⟩ := hI.facts
  have hI0 := hI
  obtain ⟨i1, i2, i3, i4, i5, i6, i7, i8, i9, i10, i11, i12, i13⟩ := hI
  obtain ⟨hst, hbeg, hz⟩ := hD
  have hn : NodeIs (sdM d) c 0 0 pos (pos + 1) (sdb d) (sde d) (sdy d) := Or.inl ⟨hc, rfl, rfl, rfl, hy⟩
  obtain ⟨P', ph', pl', dp', w2, f1, f2, f3, f4, f5, f6⟩ := X_part (cc := c) (lm := 0) (rm := 0) (pb := pos) (f := -nI 1) (s := -nI 1) hJ.1 hcls hsh (by omega) (Or.inl hc) (fun z => absurd (kd_leaf hc) z) (fun z => absurd z (by rw [kd_leaf hc]; decide)) (dp_small hsh i2 (by omega)) ⟨by rw [kd_leaf hc]; rfl, by rw [kd_leaf hc]; rfl⟩
  obtain ⟨hI', hroot⟩ := SI_add (H' := H) (sg' := sg2) (em := pos + 1) hI0 (Nat.le_refl H) (by omega) hn f3 (by omega) h40 (fun hh => by
    rw [hbeg]
    unfold begF
    rw [if_neg (by omega)]
    exact nbF_pos _ _ _ _ _) (fun h hh z => by
    rcases z with ⟨i, z1, z2, -⟩ | ⟨z, -⟩
    · omega
    · exact z.elim)
  have hJ' := JM_add (H' := H) (cc := c) (lm := 0) (rm := 0) (bm := pos) (em := pos + 1) hJ (Nat.le_refl H) hst (fun i hi z => ((i6 i hi).2.2.1 z).1) f3.2.1 f2 (by rw [f6]; exact hJ.2.1) (by rw [f5 3 0 (by decide)]; exact hJ.2.2.1) (fun a h1 h2 => f5 3 a (by omega))
  have hm := M_part (w := wM) (cc := c) (lm := 0) (rm := 0) (bm := pos) (em := pos + 1) hJ.2.2.2.2.1.1 (by omega)
  have nbS : begF at_ st lf (ex1 (sde d) (sdM d) (pos + 1)) H = begF at_ st lf (sde d) H := by
    unfold begF nbF
    by_cases z : H = 0
    · rw [if_pos z, if_pos z]
    · rw [if_neg z, if_neg z]
      by_cases z2 : st (H - 1) = 0
      · rw [if_pos z2, if_pos z2]
      · rw [if_neg z2, if_neg z2, ex1_lt ((i6 (H - 1) (by omega)).2.2.1 z2).1]
  have g := goes_end (k17 := k17) hpos hJ' hI' hst (Nat.le_add_left 1 _) (by
    show ex1 (sde d) (sdM d) (pos + 1) (sdM d + 1 - 1) = pos + 1
    rw [Nat.add_sub_cancel, ex1_s]) (by
    show ex1 (sdb d) (sdM d) pos (sdM d + 1 - 1) = begF at_ st lf (ex1 (sde d) (sdM d) (pos + 1)) H
    rw [Nat.add_sub_cancel, ex1_s, nbS]
    exact hbeg) (fun z => by
    show ph' (sdM d + 1 - 1) = P' - 1
    rw [Nat.add_sub_cancel]
    exact hroot (fun k hk => by have := hz z; omega) (by rw [hbeg]; unfold begF; rw [if_pos z])) f4 (ndW_K (w := wM) (m := sdM d) (cc := c) (lm := 0) (rm := 0) (bm := pos) (em := pos + 1))
  have eX : mX1_takes_27 (nI c) (nI pos) 5 wX = cl (mX1_end (nI (sdf (addD d c 0 0 pos (pos + 1) P' ph' pl' dp') (sdM (addD d c 0 0 pos (pos + 1) P' ph' pl' dp') - 1))) 5 w2) fun _ w => some (nI 1, w) := by
    unfold mX1_takes_27
    rw [h35, if_pos (show nI 0 = 0 from rfl), X_one_leaf _ _ hc]
    unfold mX1_takesOne_19
    have f1' : mX2_part 5 (nI c) (-1) (-1) (nI pos) wX = some (nI (ph' (sdM d)), w2) := f1
    rw [f1', cl_mk]
    show _ = cl (mX1_end (nI (ph' (sdM d + 1 - 1))) 5 w2) fun _ w => some (nI 1, w)
    rw [Nat.add_sub_cancel]
    cases mX1_end (nI (ph' (sdM d))) 5 w2 with
    | none => rfl
    | some r =>
      obtain ⟨u, w3⟩ := r
      rw [cl_mk, cl_mk, cl_mk]
      exact zr_1 w3
  have eM : mX6_reads_90 k17 (nI H) (nI 0) (nI 1) (nI pos) (nI c) s0 s1 wM = mX6_reads_296 k17 (nI sg2) (nI pos) FU (nI H) (nI (sdM (addD d c 0 0 pos (pos + 1) P' ph' pl' dp') - 1)) (ndW wM (sdM d) c 0 0 pos (pos + 1)) := by
    rw [M_one_leaf _ hs hc]
    unfold mX6_reads_175
    have e3 : nI pos + 1 = nI (pos + 1) := nI_add pos 1
    have hm' : mX6_part (nI c) 0 0 (nI pos) (nI (pos + 1)) wM = some (nI (sdM d), ndW wM (sdM d) c 0 0 pos (pos + 1)) := hm
    rw [e3, hm', cl_mk]
    unfold mX6_reads_289
    have n9 : nI (sdM d) ≠ -9 := fun z => by
      have := nI_pos (show sdM d < 2 ^ 31 by omega)
      rw [z] at this
      exact this (by decide)
    rw [if_neg n9]
    show _ = mX6_reads_296 k17 (nI sg2) (nI pos) FU (nI H) (nI (sdM d + 1 - 1)) _
    rw [Nat.add_sub_cancel]
  rw [eX, eM]
  exact g
/-- ! [ { ( -/
theorem step_push {sg2 : Nat} {s0 s1 : Int32} (hpos : pos < 1000) (hJ : JM wX wM d H sg2 op at_ st lf) (hI : SI d H sg pos op at_ st lf False) (hD : (∀ i, i < H → st i = 0 ∨ st i = 2) ∧ pos = begF at_ st lf (sde d) H ∧ (H = 0 → sdM d = 0)) (h35 : wX.1 3 0 5 = nI 0) (hs : s1 + s0 = nI sg2) (hsg : sg2 = sg + (if c = 40 then 0 else 1)) (h40 : sg2 ≤ 40) (hy : sdy d pos = c) (hc : isPre c ∨ c = 40) :
    GoOn (mX1_takes_27 (nI c) (nI pos) 5 wX) (mX6_reads_90 k17 (nI H) (nI 0) (nI 1) (nI pos) (nI c) s0 s1 wM) k17 wX wM (sdy d) (sdZ d) sg2 pos := by
  obtain ⟨hM40, h20, hP40, hsh, hcls⟩ := hI.facts
  obtain ⟨i1, i2, i3, i4, i5, i6, i7, i8, i9, i10, i11, i12, i13⟩ := hI
  obtain ⟨hst, hbeg, hz⟩ := hD
  obtain ⟨j1, j2, j3, j4, j5, j6⟩ := hJ
  have hc256 : c < 256 := by unfold isPre at hc; omega
  have hnl : ¬ isLeaf c := by unfold isPre at hc; unfold isLeaf; omega
  have hpp : preB c = true ∨ c = 40 := by
    rcases hc with g | g
    · exact Or.inl (decide_eq_true g)
    · exact Or.inr g
  have e3 : nI pos + 1 = nI (pos + 1) := nI_add pos 1
  by_cases h : H = 20
  · refine Or.inl ⟨wX, wM, ?_, ?_, KX.rf _, KM.rf _, rfl⟩
    · unfold mX1_takes_27
      rw [h35, if_pos (show nI 0 = 0 from rfl), X_one_other _ _ hc256 hnl, if_pos hpp]
      unfold mX1_takesOne_47
      rw [j3, h, if_neg (show ¬ (nI 20 < 20) by decide), cl_mk]
      exact zr_0 wX
    · rw [M_one_other _ hs hc256 hnl, if_pos hpp]
      unfold mX6_reads_116
      rw [h, if_neg (show ¬ (nI 20 ≠ 20) from fun z => z rfl)]
      rfl
  · have hh : H < 20 := by omega
    have hlt : nI H < 20 := nI_lt (b := 20) hh (by decide)
    have nb : ∀ i, i < H → nbF (ex1 at_ H pos) (ex1 st H 0) lf (sde d) i = nbF at_ st lf (sde d) i := fun i hi => by
      unfold nbF
      rw [ex1_lt hi, ex1_lt hi]
    have cnt : ∀ n, n ≤ H → cntO (ex1 op H c) n = cntO op n := by
      intro n
      induction n with
      | zero => intro _; rfl
      | succ n ih =>
        intro hn
        show cntO (ex1 op H c) n + (if ex1 op H c n = 40 then 0 else 1) = cntO op n + (if op n = 40 then 0 else 1)
        rw [ih (by omega), ex1_lt (show n < H by omega)]
    refine Or.inr ⟨d, H + 1, 0, ex1 op H c, ex1 at_ H pos, ex1 st H 0, lf, am_set (am_set (am_set (am_set wX 3 1 H (nI c)) 3 2 H (nI pos)) 3 3 H (-1)) 3 0 4 (nI (H + 1)), am_set (am_set (am_set wM 0 23 H (nI c)) 0 24 H (nI pos)) 0 26 H (nI 0), ?_, ?_, K3 (K3 (K3 (K3 (KX.rf _)))), (((KM.rf _).set (Or.inl (by decide))).set (Or.inl (by decide))).set (Or.inl (by decide)), ⟨⟨?_, ?_, am_get_self _ _ _ _ _, fun i hi => ?_, ⟨?_, fun k hk => ?_⟩, fun i hi => ?_⟩, ⟨i1, i2, fun k hk => Nat.le_succ_of_le (i3 k hk), fun i hi => ?_, fun i hi => ?_, fun i hi => ?_, fun _ => ?_, fun i hi => ?_, ?_, h40, by omega, fun _ k hk => ?_, fun k hk => ?_⟩, Or.inl ⟨rfl, fun i hi => ?_, ?_, fun z => by omega⟩, ?_⟩, rfl, rfl⟩
    · unfold mX1_takes_27
      rw [h35, if_pos (show nI 0 = 0 from rfl), X_one_other _ _ hc256 hnl, if_pos hpp]
      unfold mX1_takesOne_47
      rw [j3, if_pos hlt, put3 (by decide) (by decide) hh, cl_mk, rn3 1 0 rfl, j3, put3 (by decide) (by decide) hh, cl_mk, rn3 2 0 rfl, rn3 1 0 rfl, j3, put3 (by decide) (by decide) hh, cl_mk, rn3 3 0 rfl, rn3 2 0 rfl, rn3 1 0 rfl, j3, pu_mk, cl_mk, show nI H + 1 = nI (H + 1) from nI_add H 1]
      exact zr_1 _
    · rw [M_one_other _ hs hc256 hnl, if_pos hpp]
      unfold mX6_reads_116
      rw [if_pos (show nI H ≠ 20 from ne_nI (b := 20) (by omega) (by decide) h), wr_in hh (by decide), wr_in hh (by decide), wr_in hh (by decide), nm_mk]
      unfold mX6_reads_289
      rw [if_pos rfl]
      unfold mX6_reads_424
      rw [nm_mk, e3, show nI H + 1 = nI (H + 1) from nI_add H 1]
      rfl
    · unfold DraftX
      rw [am_row_ne (by decide), am_row_ne (by decide), am_row_ne (by decide), am_row_ne (by decide)]
      exact j1
    · rw [am_row_ne (by decide), am_row_ne (by decide), am_row_ne (by decide), am_row_ne (by decide)]; exact j2
    · rw [rn3 0 1 rfl, rn3 0 2 rfl, rn3 0 3 rfl, rn3 0 4 rfl, rn3 3 1 rfl, rn3 2 1 rfl, rn3 3 2 rfl, rn3 3 4 rfl, rn3 2 4 rfl, rn3 1 4 rfl]
      by_cases q : i = H
      · subst q
        rw [ex1_s, ex1_s, ex1_s, am_get_self, am_get_self, am_get_self]
        exact ⟨rfl, rfl, rfl, fun z => by omega⟩
      · obtain ⟨y1, y2, y3, y4⟩ := j4 i (by omega)
        rw [ex1_o q, ex1_o q, ex1_o q, am_get_other q, am_get_other q, am_get_other q, rn3 1 2 rfl, rn3 2 3 rfl, rn3 1 3 rfl]
        exact ⟨y1, y2, y3, y4⟩
    · rw [rn 26 0 rfl, rn 24 0 rfl, rn 23 0 rfl]; exact j5.1
    · rw [rn 26 18 rfl, rn 24 18 rfl, rn 23 18 rfl, rn 26 19 rfl, rn 24 19 rfl, rn 23 19 rfl, rn 26 20 rfl, rn 24 20 rfl, rn 23 20 rfl, rn 26 21 rfl, rn 24 21 rfl, rn 23 21 rfl, rn 26 22 rfl, rn 24 22 rfl, rn 23 22 rfl]
      exact j5.2 k hk
    · rw [rn 26 23 rfl, rn 24 23 rfl, rn 26 24 rfl, rn 26 25 rfl, rn 24 25 rfl, rn 23 25 rfl]
      by_cases q : i = H
      · subst q
        rw [ex1_s, ex1_s, ex1_s, am_get_self, am_get_self, am_get_self]
        exact ⟨rfl, rfl, rfl, fun z => absurd rfl z⟩
      · obtain ⟨y1, y2, y3, y4⟩ := j6 i (by omega)
        rw [ex1_o q, ex1_o q, ex1_o q, am_get_other q, am_get_other q, am_get_other q, rn 23 24 rfl, rn 24 26 rfl, rn 23 26 rfl]
        exact ⟨y1, y2, y3, y4⟩
    · by_cases q : i = H
      · subst q
        rw [ex1_s, ex1_s]
        rcases hc with g | g
        · exact Or.inl ⟨g, rfl⟩
        · exact Or.inr (Or.inl ⟨g, Or.inl rfl⟩)
      · rw [ex1_o q, ex1_o q]; exact i4 i (by omega)
    · rw [ex1_o (show i ≠ H by omega)]; exact hst i (by omega)
    · by_cases q : i = H
      · subst q
        rw [ex1_s, ex1_s, ex1_s]
        refine ⟨fun _ => hy, fun z => ?_, fun z => absurd rfl z, fun z => by omega⟩
        rcases hc with g | g
        · exact absurd g z
        · rw [hy]; exact g
      · rw [ex1_o q, ex1_o q, ex1_o q]; exact i6 i (by omega)
    · by_cases q : H = 0
      · rw [q, ex1_s, hbeg]
        unfold begF
        rw [if_pos q]
      · rw [ex1_o (show 0 ≠ H by omega)]; exact i7 (by omega)
    · rw [nb i (by omega)]
      by_cases q : i + 1 = H
      · rw [q, ex1_s, hbeg]
        unfold begF
        rw [if_neg (by omega), show H - 1 = i by omega]
      · rw [ex1_o q]; exact i8 i (by omega)
    · show sg2 = sdM d + (cntO (ex1 op H c) H + (if ex1 op H c H = 40 then 0 else 1))
      rw [cnt H (Nat.le_refl H), ex1_s]
      omega
    · by_cases q : H = 0
      · have := hz q; omega
      · exact i12 (by omega) k hk
    · obtain ⟨a, a1, a2, a3⟩ := i13 k hk
      refine ⟨a, a1, ?_, a3⟩
      rcases a2 with ⟨i, z1, z2, z3⟩ | ⟨z, -⟩
      · exact Or.inl ⟨i, by omega, by rw [ex1_lt z1]; exact z2, z3⟩
      · exact z.elim
    · by_cases q : i = H
      · rw [q, ex1_s]; exact Or.inl rfl
      · rw [ex1_o q]; exact hst i (by omega)
    · unfold begF nbF
      rw [if_neg (by omega), Nat.add_sub_cancel, ex1_s, if_pos rfl, ex1_s]
    · rw [am_get_other (by decide), rn3 3 0 rfl, rn3 2 0 rfl, rn3 1 0 rfl]; exact h35
end S0
