/-! one byte: between, and at the end of two -/
section S1
variable {wX wM : AW} {d : SD} {H sg pos c : Nat} {op at_ st lf : Nat → Nat} {k17 : Int32 → Int32 → Int32 → Int32 → Int32 → AW → Option (Int32 × AW)}
theorem step_join {sg2 : Nat} {s0 s1 : Int32} (hpos : pos < 1000) (hJ : JM wX wM d H sg2 op at_ st lf) (hI : SI d H sg pos op at_ st lf False) (hH : 0 < H) (hst1 : st (H - 1) = 1) (hep : sde d (lf (H - 1)) = pos) (h35 : wX.1 3 0 5 = nI 1) (hs : s1 + s0 = nI sg2) (hsg : sg2 = sg + (if c = 40 ∨ c = 41 then 0 else 1)) (h40 : sg2 ≤ 40) (hy : sdy d pos = c) (hc : c < 256) :
    GoOn (mX1_takes_27 (nI c) (nI pos) 5 wX) (mX6_reads_90 k17 (nI H) (nI 0) (nI 0) (nI pos) (nI c) s0 s1 wM) k17 wX wM (sdy d) (sdZ d) sg2 pos := by
  obtain ⟨hM40, h20, hP40, hsh, hcls⟩ := hI.facts
  obtain ⟨i1, i2, i3, i4, i5, i6, i7, i8, i9, i10, i11, i12, i13⟩ := hI
  obtain ⟨j1, j2, j3, j4, j5, j6⟩ := hJ
  obtain ⟨h, rfl⟩ : ∃ h, H = h + 1 := ⟨H - 1, by omega⟩
  rw [Nat.add_sub_cancel] at hst1 hep
  have hh : h < 20 := by omega
  have e3 : nI pos + 1 = nI (pos + 1) := nI_add pos 1
  have es : nI (h + 1) - 1 = nI h := pk_sub (a := h + 1) (b := 1) (by omega)
  obtain ⟨m1, m2, m3, m4⟩ := j6 h (by omega)
  have mrd : ∀ (a : Nat) (W : AW) (f : Int32 → Option (Int32 × AW)), rd 20 (W.1 0 a) (nI h) f = f (W.1 0 a h) := fun a W f => rd_in hh (by decide) _ f
  have eX0 : mX1_takes_27 (nI c) (nI pos) 5 wX = cl (mX1_takesBetween (nI c) wX) fun x_4 w_3 => zr x_4 w_3 := by
    unfold mX1_takes_27
    rw [h35, if_neg (show ¬ (nI 1 = 0) by decide), if_pos (show nI 1 = 1 from rfl)]
  have eM0 : mX6_reads_90 k17 (nI (h + 1)) (nI 0) (nI 0) (nI pos) (nI c) s0 s1 wM = cl (mX6_isJoin (nI c) wM) fun x_10 w_9 => if x_10 ≠ 0 then wr 20 w_9 0 23 (nI (h + 1) - 1) (nI c) fun w_11 => wr 20 w_11 0 26 (nI (h + 1) - 1) 2 fun w_12 => mX6_reads_289 k17 (nI sg2) (nI (h + 1)) (nI 0) 1 (nI pos) (-9) w_12 else some (0, w_9) := by
    unfold mX6_reads_90
    rw [hs, nm_mk, if_pos (show nI 0 = 0 from rfl), es, mrd, m3, hst1, if_neg (show ¬ (nI 1 ≠ 1) from fun z => z rfl)]
  by_cases hj : jnB c = true
  rotate_left
  · have hj0 : jnB c = false := by cases z : jnB c; rfl; exact absurd z hj
    refine Or.inl ⟨wX, wM, ?_, ?_, KX.rf _, KM.rf _, rfl⟩
    · rw [eX0]
      unfold mX1_takesBetween
      rw [X_isJn _ (by omega), cl_mk, hj0, if_neg (show ¬ (nI (bN false) ≠ 0) from fun z => z rfl), cl_mk]
      exact zr_0 wX
    · rw [eM0, M_isJn _ (by omega), cl_mk, hj0, if_neg (show ¬ (nI (bN false) ≠ 0) from fun z => z rfl)]
      rfl
  · have hcj : isJn c := of_decide_eq_true (p := c = 38 ∨ c = 124 ∨ c = 62) hj
    have hc40 : ¬ (c = 40 ∨ c = 41) := by unfold isJn at hcj; omega
    rw [if_neg hc40] at hsg
    have hop : op h = 40 := by
      rcases i4 h (by omega) with ⟨-, g⟩ | ⟨g, -⟩ | ⟨-, g⟩
      · omega
      · exact g
      · omega
    obtain ⟨t1, t2, t3, t4⟩ := i6 h (by omega)
    have cnt : ∀ n, n ≤ h → cntO (ex1 op h c) n = cntO op n := by
      intro n
      induction n with
      | zero => intro _; rfl
      | succ n ih =>
        intro hn
        show cntO (ex1 op h c) n + (if ex1 op h c n = 40 then 0 else 1) = cntO op n + (if op n = 40 then 0 else 1)
        rw [ih (by omega), ex1_lt (show n < h by omega)]
    have ecnt : sg = sdM d + cntO op h := by
      have : cntO op (h + 1) = cntO op h := by
        show cntO op h + (if op h = 40 then 0 else 1) = _
        rw [if_pos hop, Nat.add_zero]
      omega
    have nb : ∀ i, i < h → nbF at_ (ex1 st h 2) lf (sde d) i = nbF at_ st lf (sde d) i := fun i hi => by
      unfold nbF
      rw [ex1_lt hi]
    refine Or.inr ⟨d, h + 1, 0, ex1 op h c, at_, ex1 st h 2, lf, am_set (am_set wX 3 1 h (nI c)) 3 0 5 (nI 0), am_set (am_set wM 0 23 h (nI c)) 0 26 h (nI 2), ?_, ?_, K3 (K3 (KX.rf _)), ((KM.rf _).set (Or.inl (by decide))).set (Or.inl (by decide)), ⟨⟨?_, ?_, ?_, fun i hi => ?_, ⟨?_, fun k hk => ?_⟩, fun i hi => ?_⟩, ⟨i1, i2, fun k hk => Nat.le_succ_of_le (i3 k hk), fun i hi => ?_, fun i hi => ?_, fun i hi => ?_, i7, fun i hi => ?_, ?_, h40, i11, i12, fun k hk => ?_⟩, Or.inl ⟨rfl, fun i hi => ?_, ?_, fun z => by omega⟩, am_get_self _ _ _ _ _⟩, rfl, rfl⟩
    · rw [eX0]
      unfold mX1_takesBetween
      rw [X_isJn _ (by omega), cl_mk, hj, if_pos (show nI (bN true) ≠ 0 by decide), j3, es, put3 (by decide) (by decide) hh, cl_mk, pu_mk, cl_mk]
      exact zr_1 _
    · rw [eM0, M_isJn _ (by omega), cl_mk, hj, if_pos (show nI (bN true) ≠ 0 by decide), es, wr_in hh (by decide), wr_in hh (by decide)]
      unfold mX6_reads_289
      rw [if_pos rfl]
      unfold mX6_reads_424
      rw [nm_mk, e3]
      rfl
    · unfold DraftX
      rw [am_row_ne (by decide), am_row_ne (by decide)]
      exact j1
    · rw [am_row_ne (by decide), am_row_ne (by decide)]; exact j2
    · rw [am_get_other (by decide), rn3 1 0 rfl]; exact j3
    · obtain ⟨y1, y2, y3, y4⟩ := j4 i (by omega)
      rw [rn3 0 1 rfl, rn3 0 2 rfl, rn3 0 3 rfl, rn3 0 4 rfl, rn3 1 2 rfl, rn3 1 3 rfl, rn3 1 4 rfl]
      by_cases q : i = h
      · subst q
        rw [am_get_self, ex1_s, ex1_s]
        refine ⟨rfl, y2, ?_, fun z => by omega⟩
        rw [y3, if_neg (by omega), if_neg (by decide)]
      · rw [am_get_other q, ex1_o q, ex1_o q]
        exact ⟨y1, y2, y3, y4⟩
    · rw [rn 26 0 rfl, rn 23 0 rfl]; exact j5.1
    · rw [rn 26 18 rfl, rn 23 18 rfl, rn 26 19 rfl, rn 23 19 rfl, rn 26 20 rfl, rn 23 20 rfl, rn 26 21 rfl, rn 23 21 rfl, rn 26 22 rfl, rn 23 22 rfl]
      exact j5.2 k hk
    · obtain ⟨y1, y2, y3, y4⟩ := j6 i (by omega)
      rw [rn 26 23 rfl, rn 26 24 rfl, rn 23 24 rfl, rn 26 25 rfl, rn 23 25 rfl]
      by_cases q : i = h
      · subst q
        rw [am_get_self, am_get_self, ex1_s, ex1_s]
        exact ⟨rfl, y2, rfl, fun _ => y4 (by omega)⟩
      · rw [am_get_other q, am_get_other q, rn 23 26 rfl, ex1_o q, ex1_o q]
        exact ⟨y1, y2, y3, y4⟩
    · by_cases q : i = h
      · subst q; rw [ex1_s, ex1_s]; exact Or.inr (Or.inr ⟨hcj, Or.inl rfl⟩)
      · rw [ex1_o q, ex1_o q]; exact i4 i hi
    · rw [ex1_o (show i ≠ h by omega)]; exact i5 i hi
    · obtain ⟨y1, y2, y3, y4⟩ := i6 i hi
      by_cases q : i = h
      · subst q
        rw [ex1_s, ex1_s]
        refine ⟨fun z => ?_, fun _ => y2 (by rw [hop]; unfold isPre; omega), fun _ => y3 (by omega), fun _ => by rw [hep]; exact hy⟩
        unfold isPre at z
        unfold isJn at hcj
        omega
      · rw [ex1_o q, ex1_o q]
        exact ⟨y1, y2, y3, y4⟩
    · rw [nb i (by omega)]; exact i8 i hi
    · show sg2 = sdM d + (cntO (ex1 op h c) h + (if ex1 op h c h = 40 then 0 else 1))
      rw [cnt h (Nat.le_refl h), ex1_s, if_neg (by omega)]
      omega
    · obtain ⟨a, a1, a2, a3⟩ := i13 k hk
      refine ⟨a, a1, ?_, a3⟩
      rcases a2 with ⟨i, z1, z2, z3⟩ | ⟨z, -⟩
      · refine Or.inl ⟨i, z1, ?_, z3⟩
        by_cases q : i = h
        · rw [q, ex1_s]; decide
        · rw [ex1_o q]; exact z2
      · exact z.elim
    · by_cases q : i = h
      · rw [q, ex1_s]; exact Or.inr rfl
      · rw [ex1_o q]; exact i5 i (by omega)
    · unfold begF nbF
      rw [if_neg (by omega), Nat.add_sub_cancel, ex1_s, if_neg (by decide), hep]
theorem step_close {sg2 : Nat} {s0 s1 : Int32} (hpos : pos < 1000) (hJ : JM wX wM d H sg2 op at_ st lf) (hI : SI d H sg pos op at_ st lf True) (hH : 0 < H) (hM1 : 1 ≤ sdM d) (hst3 : st (H - 1) = 3) (hbl : sdb d (sdM d - 1) = sde d (lf (H - 1)) + 1) (hep : sde d (sdM d - 1) = pos) (h35 : wX.1 3 0 5 = nI 2) (hs : s1 + s0 = nI sg2) (hsg : sg2 = sg + (if c = 40 ∨ c = 41 then 0 else 1)) (h40 : sg2 ≤ 40) (hy : sdy d pos = c) (hc : c < 256) :
    GoOn (mX1_takes_27 (nI c) (nI pos) 5 wX) (mX6_reads_90 k17 (nI H) (nI 0) (nI 0) (nI pos) (nI c) s0 s1 wM) k17 wX wM (sdy d) (sdZ d) sg2 pos := by
  obtain ⟨hM40, h20, hP40, hsh, hcls⟩ := hI.facts
  have hI0 := hI
  obtain ⟨i1, i2, i3, i4, i5, i6, i7, i8, i9, i10, i11, i12, i13⟩ := hI
  have hJ0 := hJ
  obtain ⟨j1, j2, j3, j4, j5, j6⟩ := hJ
  obtain ⟨h, rfl⟩ : ∃ h, H = h + 1 := ⟨H - 1, by omega⟩
  rw [Nat.add_sub_cancel] at hst3 hbl
  have hh : h < 20 := by omega
  have e3 : nI pos + 1 = nI (pos + 1) := nI_add pos 1
  have es : nI (h + 1) - 1 = nI h := pk_sub (a := h + 1) (b := 1) (by omega)
  obtain ⟨x1, x2, x3, x4⟩ := j4 h (by omega)
  obtain ⟨m1, m2, m3, m4⟩ := j6 h (by omega)
  have mrd : ∀ (a : Nat) (W : AW) (f : Int32 → Option (Int32 × AW)), rd 20 (W.1 0 a) (nI h) f = f (W.1 0 a h) := fun a W f => rd_in hh (by decide) _ f
  have eX0 : mX1_takes_27 (nI c) (nI pos) 5 wX = cl (mX1_takesClosing (nI c) 5 wX) fun x_4 w_3 => zr x_4 w_3 := by
    unfold mX1_takes_27
    rw [h35, if_neg (show ¬ (nI 2 = 0) by decide), if_neg (show ¬ (nI 2 = 1) by decide), if_pos (show nI 2 = 2 from rfl)]
  have eM0 : mX6_reads_90 k17 (nI (h + 1)) (nI 0) (nI 0) (nI pos) (nI c) s0 s1 wM = if nI c = 41 then nm (nI (h + 1) + (-1)) fun v2_3 => rd 20 (wM.1 0 23) v2_3 fun x_4 => rd 20 (wM.1 0 25) v2_3 fun x_5 => rd 20 (wM.1 0 24) v2_3 fun x_6 => cl (mX6_part x_4 x_5 ((wM.1 0 0 15) - 1) x_6 (nI pos + 1) wM) fun x_8 w_7 => mX6_reads_289 k17 (nI sg2) v2_3 (nI 0) (nI 0) (nI pos) x_8 w_7 else some (0, wM) := by
    unfold mX6_reads_90
    rw [hs, nm_mk, if_pos (show nI 0 = 0 from rfl), es, mrd, m3, hst3, if_pos (show nI 3 ≠ 1 by decide)]
  by_cases hc41 : c = 41
  rotate_left
  · refine Or.inl ⟨wX, wM, ?_, ?_, KX.rf _, KM.rf _, rfl⟩
    · rw [eX0]
      unfold mX1_takesClosing
      rw [if_neg (show ¬ nI c = 41 from ne_nI (b := 41) (by omega) (by decide) hc41), cl_mk]
      exact zr_0 wX
    · rw [eM0, if_neg (show ¬ nI c = 41 from ne_nI (b := 41) (by omega) (by decide) hc41)]
      rfl
  · subst hc41
    rw [if_pos (Or.inr rfl), Nat.add_zero] at hsg
    obtain ⟨t1, t2, t3, t4⟩ := i6 h (by omega)
    obtain ⟨t5, t6⟩ := t3 (by omega)
    have hn1 : sdM d - 1 < sdM d := by omega
    have hjn : isJn (op h) := by
      rcases i4 h (by omega) with ⟨-, g⟩ | ⟨-, g⟩ | ⟨g, -⟩
      · omega
      · omega
      · exact g
    have hop : op h < 128 := kinds_lt (Or.inr (Or.inr hjn))
    have e40 : cntO op (h + 1) = cntO op h + 1 := by
      show cntO op h + (if op h = 40 then 0 else 1) = _
      rw [if_neg (by unfold isJn at hjn; omega)]
    have hn : NodeIs (sdM d) (op h) (lf h) (sdM d - 1) (at_ h) (pos + 1) (sdb d) (sde d) (sdy d) := Or.inr (Or.inr ⟨hjn, t5, hn1, t2 (by unfold isPre; unfold isJn at hjn; omega), t6, t4 (by omega), hbl, by rw [hep], by rw [hep]; exact hy⟩)
    have hD1 : DraftX (am_set wX 3 0 4 (nI h)) (sdM d) (sdP d) (sdc d) (sdl d) (sdr d) (sdf d) (sdp d) (sdd d) := by
      unfold DraftX
      rw [am_row_ne (by decide)]
      exact j1
    obtain ⟨P', ph', pl', dp', w2, f1, f2, f3, f4, f5, f6⟩ := X_part (cc := op h) (lm := lf h) (rm := sdM d - 1) (pb := at_ h) (f := nI (sdf d (lf h))) (s := nI (sdf d (sdM d - 1))) hD1 hcls hsh (by omega) (Or.inr (Or.inr hjn)) (fun _ => t5) (fun _ => hn1) (dp_small hsh i2 (by omega)) ⟨by rw [kd_jn hjn]; rfl, by rw [kd_jn hjn]; rfl⟩
    have hPA := part_add i1 i2 hn (fun k hk => Nat.le_succ_of_le (i3 k hk)) f3
    have hdp : dp' (ph' (sdM d)) = max (sdd d (sdf d (lf h))) (sdd d (sdf d (sdM d - 1))) := by
      have := (hPA.1.2.2.2.2.2.2 (sdM d) (Nat.lt_succ_self _)).2.2 (by rw [ex1_s]; exact hjn)
      rw [ex1_s, ex1_s, f3.2.1 _ t5, f3.2.1 _ hn1, (f3.2.2.1 _ (hcls.1 _ t5)).2, (f3.2.2.1 _ (hcls.1 _ hn1)).2] at this
      exact this
    have hbeg : at_ h = begF at_ st lf (sde d) h := by
      unfold begF
      by_cases z : h = 0
      · rw [if_pos z]; subst z; exact i7 (by omega)
      · rw [if_neg z]
        have := i8 (h - 1) (by omega)
        rw [show h - 1 + 1 = h by omega] at this
        exact this
    obtain ⟨hI', hroot⟩ := SI_add (H' := h) (sg' := sg2) (em := pos + 1) hI0 (Nat.le_succ h) (by omega) hn f3 (by omega) h40 (fun hz => by
      rw [hbeg]
      unfold begF
      rw [if_neg (by omega)]
      exact nbF_pos _ _ _ _ _) (fun a ha z => by
      rw [hdp]
      rcases z with ⟨i, z1, z2, z3, z4⟩ | ⟨-, z⟩
      · have : i = h := by omega
        subst this
        rw [z4]
        omega
      · have : a = sdM d - 1 := by omega
        rw [this]
        omega)
    have hst' : ∀ i, i < h → st i = 0 ∨ st i = 2 := fun i hi => i5 i (by omega)
    have hJ' := JM_add (H' := h) (cc := op h) (lm := lf h) (rm := sdM d - 1) (bm := at_ h) (em := pos + 1) hJ0 (Nat.le_succ h) hst' (fun i hi z => ((i6 i hi).2.2.1 z).1) f3.2.1 f2 (by rw [f6, am_row_ne (by decide)]; exact j2) (by rw [f5 3 0 (by decide), am_get_self]) (fun a h1 h2 => by rw [f5 3 a (by omega), am_get_row (by omega)])
    have hm := M_part (w := wM) (cc := op h) (lm := lf h) (rm := sdM d - 1) (bm := at_ h) (em := pos + 1) j5.1 (by omega)
    have nbS : begF at_ st lf (ex1 (sde d) (sdM d) (pos + 1)) h = begF at_ st lf (sde d) h := by
      unfold begF nbF
      by_cases z : h = 0
      · rw [if_pos z, if_pos z]
      · rw [if_neg z, if_neg z]
        by_cases z2 : st (h - 1) = 0
        · rw [if_pos z2, if_pos z2]
        · rw [if_neg z2, if_neg z2, ex1_lt ((i6 (h - 1) (by omega)).2.2.1 z2).1]
    have g := goes_end (k17 := k17) hpos hJ' hI' hst' (Nat.le_add_left 1 _) (by
      show ex1 (sde d) (sdM d) (pos + 1) (sdM d + 1 - 1) = pos + 1
      rw [Nat.add_sub_cancel, ex1_s]) (by
      show ex1 (sdb d) (sdM d) (at_ h) (sdM d + 1 - 1) = begF at_ st lf (ex1 (sde d) (sdM d) (pos + 1)) h
      rw [Nat.add_sub_cancel, ex1_s, nbS]
      exact hbeg) (fun z => by
      show ph' (sdM d + 1 - 1) = P' - 1
      rw [Nat.add_sub_cancel]
      exact hroot (i12 (by omega)) (by rw [hbeg]; unfold begF; rw [if_pos z])) ((K3 (KX.rf wX)).tr f4) (ndW_K (w := wM) (m := sdM d) (cc := op h) (lm := lf h) (rm := sdM d - 1) (bm := at_ h) (em := pos + 1))
    have eX : mX1_takes_27 (nI 41) (nI pos) 5 wX = cl (mX1_end (nI (sdf (addD d (op h) (lf h) (sdM d - 1) (at_ h) (pos + 1) P' ph' pl' dp') (sdM (addD d (op h) (lf h) (sdM d - 1) (at_ h) (pos + 1) P' ph' pl' dp') - 1))) 5 w2) fun _ w => some (nI 1, w) := by
      rw [eX0]
      unfold mX1_takesClosing
      rw [if_pos (show nI 41 = 41 from rfl), j3, es, pu_mk, am_get_self, at3 (by decide) (by decide) hh, cl_mk, rn3 0 1 rfl, x1, am_get_self, at3 (by decide) (by decide) hh, cl_mk, rn3 0 3 rfl, x3, if_neg (show ¬ st h = 0 by omega), am_get_self, at3 (by decide) (by decide) hh, cl_mk, rn3 0 4 rfl, x4 hst3, am_get_self, at3 (by decide) (by decide) hh, cl_mk, rn3 0 2 rfl, x2, f1, cl_mk]
      show _ = cl (mX1_end (nI (ph' (sdM d + 1 - 1))) 5 w2) fun _ w => some (nI 1, w)
      rw [Nat.add_sub_cancel]
      cases mX1_end (nI (ph' (sdM d))) 5 w2 with
      | none => rfl
      | some r =>
        obtain ⟨u, w3⟩ := r
        rw [cl_mk, cl_mk, cl_mk]
        exact zr_1 w3
    have eM : mX6_reads_90 k17 (nI (h + 1)) (nI 0) (nI 0) (nI pos) (nI 41) s0 s1 wM = mX6_reads_296 k17 (nI sg2) (nI pos) FU (nI h) (nI (sdM (addD d (op h) (lf h) (sdM d - 1) (at_ h) (pos + 1) P' ph' pl' dp') - 1)) (ndW wM (sdM d) (op h) (lf h) (sdM d - 1) (at_ h) (pos + 1)) := by
      rw [eM0, if_pos (show nI 41 = 41 from rfl), show nI (h + 1) + (-1) = nI h from pk_m1 h, nm_mk, mrd, m1, mrd, m4 (by omega), mrd, m2, j5.1, show nI (sdM d) - 1 = nI (sdM d - 1) from pk_sub (a := sdM d) (b := 1) hM1, e3, hm, cl_mk]
      unfold mX6_reads_289
      have n9 : nI (sdM d) ≠ -9 := fun z => by
        have := nI_pos (show sdM d < 2 ^ 31 by omega)
        rw [z] at this
        exact this (by decide)
      rw [if_neg n9]
      show _ = mX6_reads_296 k17 (nI sg2) (nI pos) FU (nI h) (nI (sdM d + 1 - 1)) _
      rw [Nat.add_sub_cancel]
    rw [eX, eM]
    exact g
end S1
