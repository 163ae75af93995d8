/-! SeenWorldsModel.isAlike(II)Z -/
noncomputable def mX6_isAlike (v1 : Int32) (v2 : Int32) (w : AW) : Option (Int32 × AW) :=
  rd 8 (w.1 0 48) v1 fun x_1 =>
  rd 8 (w.1 0 48) v2 fun x_2 =>
  if x_1 ≠ x_2 then
    some (0, w)
  else
    cl (mX6_heapsOf v1 w) fun x_4 w_3 =>
    cl (mX6_heapsOf v2 w_3) fun x_6 w_5 =>
    if x_4 ≠ x_6 then
      some (0, w_5)
    else
      some (1, w_5)
set_option maxRecDepth 100000 in
set_option maxHeartbeats 4000000 in
theorem ok_mX6_isAlike {zv : Int32} {zw : AW} {v1 : Int32} {v2 : Int32} {w : AW} (hf : mX6_isAlike v1 v2 w = some (zv, zw)) : RR true KX6_isAlike (some (vI zv), zw) 0 [some (vR 0 0), some (vI v1), some (vI v2)] [] w := by
  refine r_aload_n dX6_isAlike_0 rfl rfl ?_
  refine g_getA dX6_isAlike_1 fl_RX6_123 fk_6_47 rfl (cl_true_0) ?_
  refine r_iload_n dX6_isAlike_4 rfl rfl ?_
  refine g_iald dX6_isAlike_5 aK_true_0_48 aL_true_0_48 hf (fun x_1 hf => ?_)
  refine r_aload_n dX6_isAlike_6 rfl rfl ?_
  refine g_getA dX6_isAlike_7 fl_RX6_123 fk_6_47 rfl (cl_true_0) ?_
  refine r_iload_n dX6_isAlike_10 rfl rfl ?_
  refine g_iald dX6_isAlike_11 aK_true_0_48 aL_true_0_48 hf (fun x_2 hf => ?_)
  refine g_icmp_ne (tgt := 32) dX6_isAlike_12 rfl hf (fun _ hf => ?_) (fun _ hf => ?_)
  · refine r_iconst dX6_isAlike_32 ic_0 ?_
    exact r_zret dX6_isAlike_33 rfl nar_0 (ret_I hf)
  · refine r_aload_n dX6_isAlike_15 rfl rfl ?_
    refine r_iload_n dX6_isAlike_16 rfl rfl ?_
    obtain ⟨x_4, w_3, hc, hf⟩ := cl_some hf
    refine g_cV (st := []) KX6_heapsOf [vI v1] dX6_isAlike_17 e_RX6_287 (cl_true_0) (rfl : vwCl[6]? = _) rfl mok_X6_heapsOf mw_X6_heapsOf ⟨Nat.le_of_ble_eq_true rfl, Nat.le_of_ble_eq_true rfl⟩ (met_X6_heapsOf hc) rfl (Nat.le_of_ble_eq_true rfl) ?_
    clear hc
    refine r_aload_n dX6_isAlike_20 rfl rfl ?_
    refine r_iload_n dX6_isAlike_21 rfl rfl ?_
    obtain ⟨x_6, w_5, hc, hf⟩ := cl_some hf
    refine g_cV (st := [vI x_4]) KX6_heapsOf [vI v2] dX6_isAlike_22 e_RX6_287 (cl_true_0) (rfl : vwCl[6]? = _) rfl mok_X6_heapsOf mw_X6_heapsOf ⟨Nat.le_of_ble_eq_true rfl, Nat.le_of_ble_eq_true rfl⟩ (met_X6_heapsOf hc) rfl (Nat.le_of_ble_eq_true rfl) ?_
    clear hc
    refine g_icmp_ne (tgt := 32) dX6_isAlike_25 rfl hf (fun _ hf => ?_) (fun _ hf => ?_)
    · refine r_iconst dX6_isAlike_32 ic_0 ?_
      exact r_zret dX6_isAlike_33 rfl nar_0 (ret_I hf)
    · refine r_iconst dX6_isAlike_28 ic_1 ?_
      refine r_goto (tgt := 33) dX6_isAlike_29 rfl ?_
      exact r_zret dX6_isAlike_33 rfl nar_1 (ret_I hf)
theorem met_X6_isAlike {zv : Int32} {zw : AW} {v1 : Int32} {v2 : Int32} {w : AW} (hf : mX6_isAlike v1 v2 w = some (zv, zw)) : am_Met true KX6_isAlike [vR 0 0, vI v1, vI v2] w (some (vI zv), zw) := am_met mok_X6_isAlike.1 (Nat.le_of_ble_eq_true rfl) (ok_mX6_isAlike  hf)

/-! SeenWorldsModel.splits(I)I -/
noncomputable def mX6_splits_24 (k7 : Int32 → AW → Option (Int32 × AW)) (v2 : Int32) : Nat → Int32 → AW → Option (Int32 × AW)
  | 0, _, _ => none
  | n + 1, v3, w =>
    if 4 ≤ v3 then
      nm (v2 + 1) fun v2_1 =>
      k7 v2_1 w
    else
      rd 8 (w.1 0 48) v2 fun x_2 =>
      rd 4 (w.1 0 5) v3 fun x_3 =>
      wr 8 w 0 48 v2 (x_2 + (((x_3 >>> (v2 &&& 31)) &&& 1) <<< (v3 &&& 31))) fun w_4 =>
      nm (v3 + 1) fun v3_5 =>
      mX6_splits_24 k7 v2 n v3_5 w_4
noncomputable def mX6_splits_124 (k64 : Int32 → AW → Option (Int32 × AW)) (v2 : Int32) (s0 : Int32) (s1 : Int32) (w : AW) : Option (Int32 × AW) :=
  wr 64 w 0 50 s1 s0 fun w_1 =>
  nm (v2 + 1) fun v2_2 =>
  k64 v2_2 w_1
noncomputable def mX6_splits_122 (k64 : Int32 → AW → Option (Int32 × AW)) (v2 : Int32) (s0 : Int32) (w : AW) : Option (Int32 × AW) :=
  mX6_splits_124 k64 v2 (-9) s0 w
noncomputable def mX6_splits_220 (k135 : Int32 → Int32 → AW → Option (Int32 × AW)) (k146 : Int32 → Int32 → AW → Option (Int32 × AW)) (v3 : Int32) (v4 : Int32) (s0 : Int32) (s1 : Int32) (w : AW) : Option (Int32 × AW) :=
  nm (s1 + s0) fun v2_1 =>
  nm (v4 + 1) fun v4_2 =>
  k146 v2_1 v4_2 w
noncomputable def mX6_splits_206 (k135 : Int32 → Int32 → AW → Option (Int32 × AW)) (k146 : Int32 → Int32 → AW → Option (Int32 × AW)) (v2 : Int32) (v3 : Int32) (v4 : Int32) (v5 : Int32) (s0 : Int32) (s1 : Int32) (w : AW) : Option (Int32 × AW) :=
  wr 8 w 0 49 s1 s0 fun w_1 =>
  if v4 ≤ v5 then
    mX6_splits_220 k135 k146 v3 v4 1 v2 w_1
  else
    mX6_splits_220 k135 k146 v3 v4 0 v2 w_1
noncomputable def mX6_splits_182 (k135 : Int32 → Int32 → AW → Option (Int32 × AW)) (k146 : Int32 → Int32 → AW → Option (Int32 × AW)) (v2 : Int32) (v3 : Int32) (v4 : Int32) (v5 : Int32) (w : AW) : Option (Int32 × AW) :=
  if v4 ≤ v5 then
    mX6_splits_206 k135 k146 v2 v3 v4 v5 v2 v4 w
  else
    rd 8 (w.1 0 49) v5 fun x_1 =>
    mX6_splits_206 k135 k146 v2 v3 v4 v5 x_1 v4 w
noncomputable def mX6_splits_158 (k135 : Int32 → Int32 → AW → Option (Int32 × AW)) (k146 : Int32 → Int32 → AW → Option (Int32 × AW)) (v2 : Int32) (v3 : Int32) (v4 : Int32) : Nat → Int32 → AW → Option (Int32 × AW)
  | 0, _, _ => none
  | n + 1, v5, w =>
    if v4 ≤ v5 then
      mX6_splits_182 k135 k146 v2 v3 v4 v5 w
    else
      cl (mX6_isAlike v5 v4 w) fun x_2 w_1 =>
      if x_2 ≠ 0 then
        mX6_splits_182 k135 k146 v2 v3 v4 v5 w_1
      else
        nm (v5 + 1) fun v5_3 =>
        mX6_splits_158 k135 k146 v2 v3 v4 n v5_3 w_1
noncomputable def mX6_splits_358 (k135 : Int32 → Int32 → AW → Option (Int32 × AW)) (k263 : Int32 → AW → Option (Int32 × AW)) (v2 : Int32) (v3 : Int32) (v4 : Int32) (s0 : Int32) (s1 : Int32) (w : AW) : Option (Int32 × AW) :=
  wr 64 w 0 50 s1 s0 fun w_1 =>
  nm (v4 + 1) fun v4_2 =>
  k263 v4_2 w_1
noncomputable def mX6_splits_334 (k135 : Int32 → Int32 → AW → Option (Int32 × AW)) (k263 : Int32 → AW → Option (Int32 × AW)) (v2 : Int32) (v3 : Int32) (v4 : Int32) (s0 : Int32) (w : AW) : Option (Int32 × AW) :=
  if s0 = 0 then
    rd 64 (w.1 0 50) v4 fun x_1 =>
    mX6_splits_358 k135 k263 v2 v3 v4 x_1 v4 w
  else
    mX6_splits_358 k135 k263 v2 v3 v4 v3 v4 w
noncomputable def mX6_splits_333 (k135 : Int32 → Int32 → AW → Option (Int32 × AW)) (k263 : Int32 → AW → Option (Int32 × AW)) (v2 : Int32) (v3 : Int32) (v4 : Int32) (w : AW) : Option (Int32 × AW) :=
  mX6_splits_334 k135 k263 v2 v3 v4 0 w
noncomputable def mX6_splits_263 (k135 : Int32 → Int32 → AW → Option (Int32 × AW)) (v2 : Int32) (v3 : Int32) : Nat → Int32 → AW → Option (Int32 × AW)
  | 0, _, _ => none
  | n + 1, v4, w =>
    if 64 ≤ v4 then
      nm (v3 + 1) fun v3_1 =>
      k135 v2 v3_1 w
    else
      if (w.1 0 0 2) ≤ (v4 / 8) then
        mX6_splits_333 k135 (mX6_splits_263 k135 v2 v3 n) v2 v3 v4 w
      else
        if (w.1 0 0 2) ≤ (v4 - v4 / 8 * 8) then
          mX6_splits_333 k135 (mX6_splits_263 k135 v2 v3 n) v2 v3 v4 w
        else
          rd 64 (w.1 0 50) v4 fun x_2 =>
          if x_2 ≠ (-9) then
            mX6_splits_333 k135 (mX6_splits_263 k135 v2 v3 n) v2 v3 v4 w
          else
            rd 8 (w.1 0 48) (v4 / 8) fun x_3 =>
            rd 8 (w.1 0 48) (v4 - v4 / 8 * 8) fun x_4 =>
            if x_3 = x_4 then
              mX6_splits_333 k135 (mX6_splits_263 k135 v2 v3 n) v2 v3 v4 w
            else
              mX6_splits_334 k135 (mX6_splits_263 k135 v2 v3 n) v2 v3 v4 1 w
noncomputable def mX6_splits_231 (k135 : Int32 → Int32 → AW → Option (Int32 × AW)) (v2 : Int32) (v3 : Int32) : Nat → Int32 → AW → Option (Int32 × AW)
  | 0, _, _ => none
  | n + 1, v4, w =>
    if (w.1 0 0 2) ≤ v4 then
      mX6_splits_263 k135 v2 v3 FU 0 w
    else
      rd 8 (w.1 0 49) v4 fun x_1 =>
      wr 8 w 0 48 v4 x_1 fun w_2 =>
      nm (v4 + 1) fun v4_3 =>
      mX6_splits_231 k135 v2 v3 n v4_3 w_2
noncomputable def mX6_splits_146 (k135 : Int32 → Int32 → AW → Option (Int32 × AW)) (v3 : Int32) : Nat → Int32 → Int32 → AW → Option (Int32 × AW)
  | 0, _, _, _ => none
  | n + 1, v2, v4, w =>
    if (w.1 0 0 2) ≤ v4 then
      mX6_splits_231 k135 v2 v3 FU 0 w
    else
      mX6_splits_158 k135 (mX6_splits_146 k135 v3 n) v2 v3 v4 FU 0 w
noncomputable def mX6_splits_135 : Nat → Int32 → Int32 → AW → Option (Int32 × AW)
  | 0, _, _, _ => none
  | n + 1, v2, v3, w =>
    if 9 < v3 then
      some (v2, w)
    else
      mX6_splits_146 (mX6_splits_135 n) v3 FU 0 0 w
noncomputable def mX6_splits_64 : Nat → Int32 → AW → Option (Int32 × AW)
  | 0, _, _ => none
  | n + 1, v2, w =>
    if 64 ≤ v2 then
      mX6_splits_135 FU 0 1 w
    else
      if (w.1 0 0 2) ≤ (v2 / 8) then
        mX6_splits_122 (mX6_splits_64 n) v2 v2 w
      else
        if (w.1 0 0 2) ≤ (v2 - v2 / 8 * 8) then
          mX6_splits_122 (mX6_splits_64 n) v2 v2 w
        else
          rd 8 (w.1 0 48) (v2 / 8) fun x_1 =>
          rd 8 (w.1 0 48) (v2 - v2 / 8 * 8) fun x_2 =>
          if x_1 = x_2 then
            mX6_splits_122 (mX6_splits_64 n) v2 v2 w
          else
            mX6_splits_124 (mX6_splits_64 n) v2 0 v2 w
noncomputable def mX6_splits_7 : Nat → Int32 → AW → Option (Int32 × AW)
  | 0, _, _ => none
  | n + 1, v2, w =>
    if (w.1 0 0 2) ≤ v2 then
      mX6_splits_64 FU 0 w
    else
      wr 8 w 0 48 v2 0 fun w_1 =>
      mX6_splits_24 (mX6_splits_7 n) v2 FU 0 w_1
noncomputable def mX6_splits (v1 : Int32) (w : AW) : Option (Int32 × AW) :=
  cl (mX6_looks v1 w) fun x_2 w_1 =>
  mX6_splits_7 FU 0 w_1
set_option maxRecDepth 100000 in
set_option maxHeartbeats 4000000 in
theorem ok_mX6_splits_24 {zv : Int32} {zw : AW} {k7 : Int32 → AW → Option (Int32 × AW)} {v2 : Int32} (hk7 : ∀ (v2 : Int32)  w, k7 v2 w = some (zv, zw) → RR true KX6_splits (some (vI zv), zw) 7 [some (vR 0 0), none, some (vI v2), none, none, none] [] w) : ∀ (n : Nat) (v3 : Int32) (w : AW), mX6_splits_24 k7 v2 n v3 w = some (zv, zw) → RR true KX6_splits (some (vI zv), zw) 24 [some (vR 0 0), none, some (vI v2), some (vI v3), none, none] [] w := by
  intro n
  induction n with
  | zero => intro v3 w hf; cases hf
  | succ n ih =>
    intro v3 w hf
    refine r_iload_n dX6_splits_24 rfl rfl ?_
    refine r_iconst dX6_splits_25 ic_4 ?_
    refine g_icmp_ge (tgt := 56) dX6_splits_26 rfl hf (fun _ hf => ?_) (fun _ hf => ?_)
    · refine g_iinc (fun v2_1 => [some (vR 0 0), none, some (vI v2_1), some (vI v3), none, none]) dX6_splits_56 ic_1 rfl rfl (fun _ => rfl) (Nat.le_of_ble_eq_true rfl) hf (fun v2_1 hf => ?_)
      refine r_goto (tgt := 7) dX6_splits_59 rfl ?_
      refine r_mask (bs := [true, false, true, false, false, false]) ?_
      exact hk7 _ _ hf
    · refine r_aload_n dX6_splits_29 rfl rfl ?_
      refine g_getA dX6_splits_30 fl_RX6_123 fk_6_47 rfl (cl_true_0) ?_
      refine r_iload_n dX6_splits_33 rfl rfl ?_
      refine r_dup2 dX6_splits_34 rfl rfl ?_
      refine g_iald dX6_splits_35 aK_true_0_48 aL_true_0_48 hf (fun x_2 hf => ?_)
      refine r_aload_n dX6_splits_36 rfl rfl ?_
      refine g_getA dX6_splits_37 fl_RX6_17 fk_6_4 rfl (cl_true_0) ?_
      refine r_iload_n dX6_splits_40 rfl rfl ?_
      refine g_iald dX6_splits_41 aK_true_0_5 aL_true_0_5 hf (fun x_3 hf => ?_)
      refine r_iload_n dX6_splits_42 rfl rfl ?_
      refine r_ishr dX6_splits_43 ?_
      refine r_iconst dX6_splits_44 ic_1 ?_
      refine r_iand dX6_splits_45 ?_
      refine r_iload_n dX6_splits_46 rfl rfl ?_
      refine r_ishl dX6_splits_47 ?_
      refine r_iadd dX6_splits_48 ?_
      refine g_iast dX6_splits_49 aK_true_0_48 aL_true_0_48 hf (fun w_4 hf => ?_)
      refine g_iinc (fun v3_5 => [some (vR 0 0), none, some (vI v2), some (vI v3_5), none, none]) dX6_splits_50 ic_1 rfl rfl (fun _ => rfl) (Nat.le_of_ble_eq_true rfl) hf (fun v3_5 hf => ?_)
      refine r_goto (tgt := 24) dX6_splits_53 rfl ?_
      exact ih _ _ hf
set_option maxRecDepth 100000 in
set_option maxHeartbeats 4000000 in
theorem ok_mX6_splits_124 {zv : Int32} {zw : AW} {k64 : Int32 → AW → Option (Int32 × AW)} {v2 : Int32} {s0 : Int32} {s1 : Int32} (hk64 : ∀ (v2 : Int32)  w, k64 v2 w = some (zv, zw) → RR true KX6_splits (some (vI zv), zw) 64 [some (vR 0 0), none, some (vI v2), none, none, none] [] w) {w : AW} (hf : mX6_splits_124 k64 v2 s0 s1 w = some (zv, zw)) : RR true KX6_splits (some (vI zv), zw) 124 [some (vR 0 0), none, some (vI v2), none, none, none] [vI s0, vI s1, vR 0 50] w := by
  refine g_iast dX6_splits_124 aK_true_0_50 aL_true_0_50 hf (fun w_1 hf => ?_)
  refine g_iinc (fun v2_2 => [some (vR 0 0), none, some (vI v2_2), none, none, none]) dX6_splits_125 ic_1 rfl rfl (fun _ => rfl) (Nat.le_of_ble_eq_true rfl) hf (fun v2_2 hf => ?_)
  refine r_goto (tgt := 64) dX6_splits_128 rfl ?_
  exact hk64 _ _ hf
set_option maxRecDepth 100000 in
set_option maxHeartbeats 4000000 in
theorem ok_mX6_splits_122 {zv : Int32} {zw : AW} {k64 : Int32 → AW → Option (Int32 × AW)} {v2 : Int32} {s0 : Int32} (hk64 : ∀ (v2 : Int32)  w, k64 v2 w = some (zv, zw) → RR true KX6_splits (some (vI zv), zw) 64 [some (vR 0 0), none, some (vI v2), none, none, none] [] w) {w : AW} (hf : mX6_splits_122 k64 v2 s0 w = some (zv, zw)) : RR true KX6_splits (some (vI zv), zw) 122 [some (vR 0 0), none, some (vI v2), none, none, none] [vI s0, vR 0 50] w := by
  refine r_bipush dX6_splits_122 (bp_m9) ?_
  exact ok_mX6_splits_124 hk64 hf
set_option maxRecDepth 100000 in
set_option maxHeartbeats 4000000 in
theorem ok_mX6_splits_220 {zv : Int32} {zw : AW} {k135 : Int32 → Int32 → AW → Option (Int32 × AW)} {k146 : Int32 → Int32 → AW → Option (Int32 × AW)} {v3 : Int32} {v4 : Int32} {s0 : Int32} {s1 : Int32} (hk135 : ∀ (v2 : Int32) (v3 : Int32)  w, k135 v2 v3 w = some (zv, zw) → RR true KX6_splits (some (vI zv), zw) 135 [some (vR 0 0), none, some (vI v2), some (vI v3), none, none] [] w) (hk146 : ∀ (v2 : Int32) (v4 : Int32)  w, k146 v2 v4 w = some (zv, zw) → RR true KX6_splits (some (vI zv), zw) 146 [some (vR 0 0), none, some (vI v2), some (vI v3), some (vI v4), none] [] w) {w : AW} (hf : mX6_splits_220 k135 k146 v3 v4 s0 s1 w = some (zv, zw)) : RR true KX6_splits (some (vI zv), zw) 220 [some (vR 0 0), none, none, some (vI v3), some (vI v4), none] [vI s0, vI s1] w := by
  refine r_iadd dX6_splits_220 ?_
  refine g_istore_n (fun v2_1 => [some (vR 0 0), none, some (vI v2_1), some (vI v3), some (vI v4), none]) dX6_splits_221 rfl rfl (fun _ => rfl) (Nat.le_of_ble_eq_true rfl) hf (fun v2_1 hf => ?_)
  refine g_iinc (fun v4_2 => [some (vR 0 0), none, some (vI v2_1), some (vI v3), some (vI v4_2), none]) dX6_splits_222 ic_1 rfl rfl (fun _ => rfl) (Nat.le_of_ble_eq_true rfl) hf (fun v4_2 hf => ?_)
  refine r_goto (tgt := 146) dX6_splits_225 rfl ?_
  exact hk146 _ _ _ hf
set_option maxRecDepth 100000 in
set_option maxHeartbeats 4000000 in
theorem ok_mX6_splits_206 {zv : Int32} {zw : AW} {k135 : Int32 → Int32 → AW → Option (Int32 × AW)} {k146 : Int32 → Int32 → AW → Option (Int32 × AW)} {v2 : Int32} {v3 : Int32} {v4 : Int32} {v5 : Int32} {s0 : Int32} {s1 : Int32} (hk135 : ∀ (v2 : Int32) (v3 : Int32)  w, k135 v2 v3 w = some (zv, zw) → RR true KX6_splits (some (vI zv), zw) 135 [some (vR 0 0), none, some (vI v2), some (vI v3), none, none] [] w) (hk146 : ∀ (v2 : Int32) (v4 : Int32)  w, k146 v2 v4 w = some (zv, zw) → RR true KX6_splits (some (vI zv), zw) 146 [some (vR 0 0), none, some (vI v2), some (vI v3), some (vI v4), none] [] w) {w : AW} (hf : mX6_splits_206 k135 k146 v2 v3 v4 v5 s0 s1 w = some (zv, zw)) : RR true KX6_splits (some (vI zv), zw) 206 [some (vR 0 0), none, some (vI v2), some (vI v3), some (vI v4), some (vI v5)] [vI s0, vI s1, vR 0 49] w := by
  refine g_iast dX6_splits_206 aK_true_0_49 aL_true_0_49 hf (fun w_1 hf => ?_)
  refine r_iload_n dX6_splits_207 rfl rfl ?_
  refine r_iload dX6_splits_208 rfl ?_
  refine r_iload dX6_splits_210 rfl ?_
  refine g_icmp_ge (tgt := 219) dX6_splits_212 rfl hf (fun _ hf => ?_) (fun _ hf => ?_)
  · refine r_iconst dX6_splits_219 ic_1 ?_
    refine r_mask (bs := [true, false, false, true, true, false]) ?_
    exact ok_mX6_splits_220 hk135 hk146 hf
  · refine r_iconst dX6_splits_215 ic_0 ?_
    refine r_goto (tgt := 220) dX6_splits_216 rfl ?_
    refine r_mask (bs := [true, false, false, true, true, false]) ?_
    exact ok_mX6_splits_220 hk135 hk146 hf
set_option maxRecDepth 100000 in
set_option maxHeartbeats 4000000 in
theorem ok_mX6_splits_182 {zv : Int32} {zw : AW} {k135 : Int32 → Int32 → AW → Option (Int32 × AW)} {k146 : Int32 → Int32 → AW → Option (Int32 × AW)} {v2 : Int32} {v3 : Int32} {v4 : Int32} {v5 : Int32} (hk135 : ∀ (v2 : Int32) (v3 : Int32)  w, k135 v2 v3 w = some (zv, zw) → RR true KX6_splits (some (vI zv), zw) 135 [some (vR 0 0), none, some (vI v2), some (vI v3), none, none] [] w) (hk146 : ∀ (v2 : Int32) (v4 : Int32)  w, k146 v2 v4 w = some (zv, zw) → RR true KX6_splits (some (vI zv), zw) 146 [some (vR 0 0), none, some (vI v2), some (vI v3), some (vI v4), none] [] w) {w : AW} (hf : mX6_splits_182 k135 k146 v2 v3 v4 v5 w = some (zv, zw)) : RR true KX6_splits (some (vI zv), zw) 182 [some (vR 0 0), none, some (vI v2), some (vI v3), some (vI v4), some (vI v5)] [] w := by
  refine r_aload_n dX6_splits_182 rfl rfl ?_
  refine g_getA dX6_splits_183 fl_RX6_126 fk_6_48 rfl (cl_true_0) ?_
  refine r_iload dX6_splits_186 rfl ?_
  refine r_iload dX6_splits_188 rfl ?_
  refine r_iload dX6_splits_190 rfl ?_
  refine g_icmp_ge (tgt := 205) dX6_splits_192 rfl hf (fun _ hf => ?_) (fun _ hf => ?_)
  · refine r_iload_n dX6_splits_205 rfl rfl ?_
    exact ok_mX6_splits_206 hk135 hk146 hf
  · refine r_aload_n dX6_splits_195 rfl rfl ?_
    refine g_getA dX6_splits_196 fl_RX6_126 fk_6_48 rfl (cl_true_0) ?_
    refine r_iload dX6_splits_199 rfl ?_
    refine g_iald dX6_splits_201 aK_true_0_49 aL_true_0_49 hf (fun x_1 hf => ?_)
    refine r_goto (tgt := 206) dX6_splits_202 rfl ?_
    exact ok_mX6_splits_206 hk135 hk146 hf
set_option maxRecDepth 100000 in
set_option maxHeartbeats 4000000 in
theorem ok_mX6_splits_158 {zv : Int32} {zw : AW} {k135 : Int32 → Int32 → AW → Option (Int32 × AW)} {k146 : Int32 → Int32 → AW → Option (Int32 × AW)} {v2 : Int32} {v3 : Int32} {v4 : Int32} (hk135 : ∀ (v2 : Int32) (v3 : Int32)  w, k135 v2 v3 w = some (zv, zw) → RR true KX6_splits (some (vI zv), zw) 135 [some (vR 0 0), none, some (vI v2), some (vI v3), none, none] [] w) (hk146 : ∀ (v2 : Int32) (v4 : Int32)  w, k146 v2 v4 w = some (zv, zw) → RR true KX6_splits (some (vI zv), zw) 146 [some (vR 0 0), none, some (vI v2), some (vI v3), some (vI v4), none] [] w) : ∀ (n : Nat) (v5 : Int32) (w : AW), mX6_splits_158 k135 k146 v2 v3 v4 n v5 w = some (zv, zw) → RR true KX6_splits (some (vI zv), zw) 158 [some (vR 0 0), none, some (vI v2), some (vI v3), some (vI v4), some (vI v5)] [] w := by
  intro n
  induction n with
  | zero => intro v5 w hf; cases hf
  | succ n ih =>
    intro v5 w hf
    refine r_iload dX6_splits_158 rfl ?_
    refine r_iload dX6_splits_160 rfl ?_
    refine g_icmp_ge (tgt := 182) dX6_splits_162 rfl hf (fun _ hf => ?_) (fun _ hf => ?_)
    · exact ok_mX6_splits_182 hk135 hk146 hf
    · refine r_aload_n dX6_splits_165 rfl rfl ?_
      refine r_iload dX6_splits_166 rfl ?_
      refine r_iload dX6_splits_168 rfl ?_
      obtain ⟨x_2, w_1, hc, hf⟩ := cl_some hf
      refine g_cV (st := []) KX6_isAlike [vI v5, vI v4] dX6_splits_170 e_RX6_284 (cl_true_0) (rfl : vwCl[6]? = _) rfl mok_X6_isAlike mw_X6_isAlike ⟨Nat.le_of_ble_eq_true rfl, Nat.le_of_ble_eq_true rfl⟩ (met_X6_isAlike hc) rfl (Nat.le_of_ble_eq_true rfl) ?_
      clear hc
      refine g_if_ne (tgt := 182) dX6_splits_173 rfl hf (fun _ hf => ?_) (fun _ hf => ?_)
      · exact ok_mX6_splits_182 hk135 hk146 hf
      · refine g_iinc (fun v5_3 => [some (vR 0 0), none, some (vI v2), some (vI v3), some (vI v4), some (vI v5_3)]) dX6_splits_176 ic_1 rfl rfl (fun _ => rfl) (Nat.le_of_ble_eq_true rfl) hf (fun v5_3 hf => ?_)
        refine r_goto (tgt := 158) dX6_splits_179 rfl ?_
        exact ih _ _ hf
set_option maxRecDepth 100000 in
set_option maxHeartbeats 4000000 in
theorem ok_mX6_splits_358 {zv : Int32} {zw : AW} {k135 : Int32 → Int32 → AW → Option (Int32 × AW)} {k263 : Int32 → AW → Option (Int32 × AW)} {v2 : Int32} {v3 : Int32} {v4 : Int32} {s0 : Int32} {s1 : Int32} (hk135 : ∀ (v2 : Int32) (v3 : Int32)  w, k135 v2 v3 w = some (zv, zw) → RR true KX6_splits (some (vI zv), zw) 135 [some (vR 0 0), none, some (vI v2), some (vI v3), none, none] [] w) (hk263 : ∀ (v4 : Int32)  w, k263 v4 w = some (zv, zw) → RR true KX6_splits (some (vI zv), zw) 263 [some (vR 0 0), none, some (vI v2), some (vI v3), some (vI v4), none] [] w) {w : AW} (hf : mX6_splits_358 k135 k263 v2 v3 v4 s0 s1 w = some (zv, zw)) : RR true KX6_splits (some (vI zv), zw) 358 [some (vR 0 0), none, some (vI v2), some (vI v3), some (vI v4), none] [vI s0, vI s1, vR 0 50] w := by
  refine g_iast dX6_splits_358 aK_true_0_50 aL_true_0_50 hf (fun w_1 hf => ?_)
  refine g_iinc (fun v4_2 => [some (vR 0 0), none, some (vI v2), some (vI v3), some (vI v4_2), none]) dX6_splits_359 ic_1 rfl rfl (fun _ => rfl) (Nat.le_of_ble_eq_true rfl) hf (fun v4_2 hf => ?_)
  refine r_goto (tgt := 263) dX6_splits_362 rfl ?_
  exact hk263 _ _ hf
set_option maxRecDepth 100000 in
set_option maxHeartbeats 4000000 in
theorem ok_mX6_splits_334 {zv : Int32} {zw : AW} {k135 : Int32 → Int32 → AW → Option (Int32 × AW)} {k263 : Int32 → AW → Option (Int32 × AW)} {v2 : Int32} {v3 : Int32} {v4 : Int32} {s0 : Int32} (hk135 : ∀ (v2 : Int32) (v3 : Int32)  w, k135 v2 v3 w = some (zv, zw) → RR true KX6_splits (some (vI zv), zw) 135 [some (vR 0 0), none, some (vI v2), some (vI v3), none, none] [] w) (hk263 : ∀ (v4 : Int32)  w, k263 v4 w = some (zv, zw) → RR true KX6_splits (some (vI zv), zw) 263 [some (vR 0 0), none, some (vI v2), some (vI v3), some (vI v4), none] [] w) {w : AW} (hf : mX6_splits_334 k135 k263 v2 v3 v4 s0 w = some (zv, zw)) : RR true KX6_splits (some (vI zv), zw) 334 [some (vR 0 0), none, some (vI v2), some (vI v3), some (vI v4), none] [vI s0] w := by
  refine r_istore (ls2 := [some (vR 0 0), none, some (vI v2), some (vI v3), some (vI v4), some (vI s0)]) dX6_splits_334 rfl rfl (Nat.le_of_ble_eq_true rfl) ?_
  refine r_aload_n dX6_splits_336 rfl rfl ?_
  refine g_getA dX6_splits_337 fl_RX6_129 fk_6_49 rfl (cl_true_0) ?_
  refine r_iload dX6_splits_340 rfl ?_
  refine r_iload dX6_splits_342 rfl ?_
  refine g_if_eq (tgt := 351) dX6_splits_344 rfl hf (fun _ hf => ?_) (fun _ hf => ?_)
  · refine r_aload_n dX6_splits_351 rfl rfl ?_
    refine g_getA dX6_splits_352 fl_RX6_129 fk_6_49 rfl (cl_true_0) ?_
    refine r_iload dX6_splits_355 rfl ?_
    refine g_iald dX6_splits_357 aK_true_0_50 aL_true_0_50 hf (fun x_1 hf => ?_)
    refine r_mask (bs := [true, false, true, true, true, false]) ?_
    exact ok_mX6_splits_358 hk135 hk263 hf
  · refine r_iload_n dX6_splits_347 rfl rfl ?_
    refine r_goto (tgt := 358) dX6_splits_348 rfl ?_
    refine r_mask (bs := [true, false, true, true, true, false]) ?_
    exact ok_mX6_splits_358 hk135 hk263 hf
set_option maxRecDepth 100000 in
set_option maxHeartbeats 4000000 in
theorem ok_mX6_splits_333 {zv : Int32} {zw : AW} {k135 : Int32 → Int32 → AW → Option (Int32 × AW)} {k263 : Int32 → AW → Option (Int32 × AW)} {v2 : Int32} {v3 : Int32} {v4 : Int32} (hk135 : ∀ (v2 : Int32) (v3 : Int32)  w, k135 v2 v3 w = some (zv, zw) → RR true KX6_splits (some (vI zv), zw) 135 [some (vR 0 0), none, some (vI v2), some (vI v3), none, none] [] w) (hk263 : ∀ (v4 : Int32)  w, k263 v4 w = some (zv, zw) → RR true KX6_splits (some (vI zv), zw) 263 [some (vR 0 0), none, some (vI v2), some (vI v3), some (vI v4), none] [] w) {w : AW} (hf : mX6_splits_333 k135 k263 v2 v3 v4 w = some (zv, zw)) : RR true KX6_splits (some (vI zv), zw) 333 [some (vR 0 0), none, some (vI v2), some (vI v3), some (vI v4), none] [] w := by
  refine r_iconst dX6_splits_333 ic_0 ?_
  exact ok_mX6_splits_334 hk135 hk263 hf
set_option maxRecDepth 100000 in
set_option maxHeartbeats 4000000 in
theorem ok_mX6_splits_263 {zv : Int32} {zw : AW} {k135 : Int32 → Int32 → AW → Option (Int32 × AW)} {v2 : Int32} {v3 : Int32} (hk135 : ∀ (v2 : Int32) (v3 : Int32)  w, k135 v2 v3 w = some (zv, zw) → RR true KX6_splits (some (vI zv), zw) 135 [some (vR 0 0), none, some (vI v2), some (vI v3), none, none] [] w) : ∀ (n : Nat) (v4 : Int32) (w : AW), mX6_splits_263 k135 v2 v3 n v4 w = some (zv, zw) → RR true KX6_splits (some (vI zv), zw) 263 [some (vR 0 0), none, some (vI v2), some (vI v3), some (vI v4), none] [] w := by
  intro n
  induction n with
  | zero => intro v4 w hf; cases hf
  | succ n ih =>
    intro v4 w hf
    refine r_iload dX6_splits_263 rfl ?_
    refine r_bipush dX6_splits_265 (bp_64) ?_
    refine g_icmp_ge (tgt := 365) dX6_splits_267 rfl hf (fun _ hf => ?_) (fun _ hf => ?_)
    · refine g_iinc (fun v3_1 => [some (vR 0 0), none, some (vI v2), some (vI v3_1), some (vI v4), none]) dX6_splits_365 ic_1 rfl rfl (fun _ => rfl) (Nat.le_of_ble_eq_true rfl) hf (fun v3_1 hf => ?_)
      refine r_goto (tgt := 135) dX6_splits_368 rfl ?_
      refine r_mask (bs := [true, false, true, true, false, false]) ?_
      exact hk135 _ _ _ hf
    · refine r_iload dX6_splits_270 rfl ?_
      refine r_bipush dX6_splits_272 (bp_8) ?_
      refine r_idiv dX6_splits_274 (by decide) ?_
      refine r_aload_n dX6_splits_275 rfl rfl ?_
      refine g_getI dX6_splits_276 fl_RX6_7 fk_6_2 (cl_true_0) ?_
      refine g_icmp_ge (tgt := 333) dX6_splits_279 rfl hf (fun _ hf => ?_) (fun _ hf => ?_)
      · exact ok_mX6_splits_333 hk135 (fun v4 w hf => ih v4 w hf) hf
      · refine r_iload dX6_splits_282 rfl ?_
        refine r_bipush dX6_splits_284 (bp_8) ?_
        refine r_irem dX6_splits_286 (by decide) ?_
        refine r_aload_n dX6_splits_287 rfl rfl ?_
        refine g_getI dX6_splits_288 fl_RX6_7 fk_6_2 (cl_true_0) ?_
        refine g_icmp_ge (tgt := 333) dX6_splits_291 rfl hf (fun _ hf => ?_) (fun _ hf => ?_)
        · exact ok_mX6_splits_333 hk135 (fun v4 w hf => ih v4 w hf) hf
        · refine r_aload_n dX6_splits_294 rfl rfl ?_
          refine g_getA dX6_splits_295 fl_RX6_129 fk_6_49 rfl (cl_true_0) ?_
          refine r_iload dX6_splits_298 rfl ?_
          refine g_iald dX6_splits_300 aK_true_0_50 aL_true_0_50 hf (fun x_2 hf => ?_)
          refine r_bipush dX6_splits_301 (bp_m9) ?_
          refine g_icmp_ne (tgt := 333) dX6_splits_303 rfl hf (fun _ hf => ?_) (fun _ hf => ?_)
          · exact ok_mX6_splits_333 hk135 (fun v4 w hf => ih v4 w hf) hf
          · refine r_aload_n dX6_splits_306 rfl rfl ?_
            refine g_getA dX6_splits_307 fl_RX6_123 fk_6_47 rfl (cl_true_0) ?_
            refine r_iload dX6_splits_310 rfl ?_
            refine r_bipush dX6_splits_312 (bp_8) ?_
            refine r_idiv dX6_splits_314 (by decide) ?_
            refine g_iald dX6_splits_315 aK_true_0_48 aL_true_0_48 hf (fun x_3 hf => ?_)
            refine r_aload_n dX6_splits_316 rfl rfl ?_
            refine g_getA dX6_splits_317 fl_RX6_123 fk_6_47 rfl (cl_true_0) ?_
            refine r_iload dX6_splits_320 rfl ?_
            refine r_bipush dX6_splits_322 (bp_8) ?_
            refine r_irem dX6_splits_324 (by decide) ?_
            refine g_iald dX6_splits_325 aK_true_0_48 aL_true_0_48 hf (fun x_4 hf => ?_)
            refine g_icmp_eq (tgt := 333) dX6_splits_326 rfl hf (fun _ hf => ?_) (fun _ hf => ?_)
            · exact ok_mX6_splits_333 hk135 (fun v4 w hf => ih v4 w hf) hf
            · refine r_iconst dX6_splits_329 ic_1 ?_
              refine r_goto (tgt := 334) dX6_splits_330 rfl ?_
              exact ok_mX6_splits_334 hk135 (fun v4 w hf => ih v4 w hf) hf
set_option maxRecDepth 100000 in
set_option maxHeartbeats 4000000 in
theorem ok_mX6_splits_231 {zv : Int32} {zw : AW} {k135 : Int32 → Int32 → AW → Option (Int32 × AW)} {v2 : Int32} {v3 : Int32} (hk135 : ∀ (v2 : Int32) (v3 : Int32)  w, k135 v2 v3 w = some (zv, zw) → RR true KX6_splits (some (vI zv), zw) 135 [some (vR 0 0), none, some (vI v2), some (vI v3), none, none] [] w) : ∀ (n : Nat) (v4 : Int32) (w : AW), mX6_splits_231 k135 v2 v3 n v4 w = some (zv, zw) → RR true KX6_splits (some (vI zv), zw) 231 [some (vR 0 0), none, some (vI v2), some (vI v3), some (vI v4), none] [] w := by
  intro n
  induction n with
  | zero => intro v4 w hf; cases hf
  | succ n ih =>
    intro v4 w hf
    refine r_iload dX6_splits_231 rfl ?_
    refine r_aload_n dX6_splits_233 rfl rfl ?_
    refine g_getI dX6_splits_234 fl_RX6_7 fk_6_2 (cl_true_0) ?_
    refine g_icmp_ge (tgt := 260) dX6_splits_237 rfl hf (fun _ hf => ?_) (fun _ hf => ?_)
    · refine r_iconst dX6_splits_260 ic_0 ?_
      refine r_istore (ls2 := [some (vR 0 0), none, some (vI v2), some (vI v3), some (vI 0), none]) dX6_splits_261 rfl rfl (Nat.le_of_ble_eq_true rfl) ?_
      exact ok_mX6_splits_263 hk135 FU _ _ hf
    · refine r_aload_n dX6_splits_240 rfl rfl ?_
      refine g_getA dX6_splits_241 fl_RX6_123 fk_6_47 rfl (cl_true_0) ?_
      refine r_iload dX6_splits_244 rfl ?_
      refine r_aload_n dX6_splits_246 rfl rfl ?_
      refine g_getA dX6_splits_247 fl_RX6_126 fk_6_48 rfl (cl_true_0) ?_
      refine r_iload dX6_splits_250 rfl ?_
      refine g_iald dX6_splits_252 aK_true_0_49 aL_true_0_49 hf (fun x_1 hf => ?_)
      refine g_iast dX6_splits_253 aK_true_0_48 aL_true_0_48 hf (fun w_2 hf => ?_)
      refine g_iinc (fun v4_3 => [some (vR 0 0), none, some (vI v2), some (vI v3), some (vI v4_3), none]) dX6_splits_254 ic_1 rfl rfl (fun _ => rfl) (Nat.le_of_ble_eq_true rfl) hf (fun v4_3 hf => ?_)
      refine r_goto (tgt := 231) dX6_splits_257 rfl ?_
      exact ih _ _ hf
set_option maxRecDepth 100000 in
set_option maxHeartbeats 4000000 in
theorem ok_mX6_splits_146 {zv : Int32} {zw : AW} {k135 : Int32 → Int32 → AW → Option (Int32 × AW)} {v3 : Int32} (hk135 : ∀ (v2 : Int32) (v3 : Int32)  w, k135 v2 v3 w = some (zv, zw) → RR true KX6_splits (some (vI zv), zw) 135 [some (vR 0 0), none, some (vI v2), some (vI v3), none, none] [] w) : ∀ (n : Nat) (v2 : Int32) (v4 : Int32) (w : AW), mX6_splits_146 k135 v3 n v2 v4 w = some (zv, zw) → RR true KX6_splits (some (vI zv), zw) 146 [some (vR 0 0), none, some (vI v2), some (vI v3), some (vI v4), none] [] w := by
  intro n
  induction n with
  | zero => intro v2 v4 w hf; cases hf
  | succ n ih =>
    intro v2 v4 w hf
    refine r_iload dX6_splits_146 rfl ?_
    refine r_aload_n dX6_splits_148 rfl rfl ?_
    refine g_getI dX6_splits_149 fl_RX6_7 fk_6_2 (cl_true_0) ?_
    refine g_icmp_ge (tgt := 228) dX6_splits_152 rfl hf (fun _ hf => ?_) (fun _ hf => ?_)
    · refine r_iconst dX6_splits_228 ic_0 ?_
      refine r_istore (ls2 := [some (vR 0 0), none, some (vI v2), some (vI v3), some (vI 0), none]) dX6_splits_229 rfl rfl (Nat.le_of_ble_eq_true rfl) ?_
      exact ok_mX6_splits_231 hk135 FU _ _ hf
    · refine r_iconst dX6_splits_155 ic_0 ?_
      refine r_istore (ls2 := [some (vR 0 0), none, some (vI v2), some (vI v3), some (vI v4), some (vI 0)]) dX6_splits_156 rfl rfl (Nat.le_of_ble_eq_true rfl) ?_
      exact ok_mX6_splits_158 hk135 (fun v2 v4 w hf => ih v2 v4 w hf) FU _ _ hf
set_option maxRecDepth 100000 in
set_option maxHeartbeats 4000000 in
theorem ok_mX6_splits_135 {zv : Int32} {zw : AW} : ∀ (n : Nat) (v2 : Int32) (v3 : Int32) (w : AW), mX6_splits_135 n v2 v3 w = some (zv, zw) → RR true KX6_splits (some (vI zv), zw) 135 [some (vR 0 0), none, some (vI v2), some (vI v3), none, none] [] w := by
  intro n
  induction n with
  | zero => intro v2 v3 w hf; cases hf
  | succ n ih =>
    intro v2 v3 w hf
    refine r_iload_n dX6_splits_135 rfl rfl ?_
    refine r_bipush dX6_splits_136 (bp_9) ?_
    refine g_icmp_gt (tgt := 371) dX6_splits_138 rfl hf (fun _ hf => ?_) (fun _ hf => ?_)
    · refine r_iload_n dX6_splits_371 rfl rfl ?_
      exact r_iret dX6_splits_372 rfl (ret_I hf)
    · refine r_iconst dX6_splits_141 ic_0 ?_
      refine r_istore_n (ls2 := [some (vR 0 0), none, some (vI 0), some (vI v3), none, none]) dX6_splits_142 rfl rfl rfl (Nat.le_of_ble_eq_true rfl) ?_
      refine r_iconst dX6_splits_143 ic_0 ?_
      refine r_istore (ls2 := [some (vR 0 0), none, some (vI 0), some (vI v3), some (vI 0), none]) dX6_splits_144 rfl rfl (Nat.le_of_ble_eq_true rfl) ?_
      exact ok_mX6_splits_146 (fun v2 v3 w hf => ih v2 v3 w hf) FU _ _ _ hf
set_option maxRecDepth 100000 in
set_option maxHeartbeats 4000000 in
theorem ok_mX6_splits_64 {zv : Int32} {zw : AW} : ∀ (n : Nat) (v2 : Int32) (w : AW), mX6_splits_64 n v2 w = some (zv, zw) → RR true KX6_splits (some (vI zv), zw) 64 [some (vR 0 0), none, some (vI v2), none, none, none] [] w := by
  intro n
  induction n with
  | zero => intro v2 w hf; cases hf
  | succ n ih =>
    intro v2 w hf
    refine r_iload_n dX6_splits_64 rfl rfl ?_
    refine r_bipush dX6_splits_65 (bp_64) ?_
    refine g_icmp_ge (tgt := 131) dX6_splits_67 rfl hf (fun _ hf => ?_) (fun _ hf => ?_)
    · refine r_iconst dX6_splits_131 ic_0 ?_
      refine r_istore_n (ls2 := [some (vR 0 0), none, some (vI 0), none, none, none]) dX6_splits_132 rfl rfl rfl (Nat.le_of_ble_eq_true rfl) ?_
      refine r_iconst dX6_splits_133 ic_1 ?_
      refine r_istore_n (ls2 := [some (vR 0 0), none, some (vI 0), some (vI 1), none, none]) dX6_splits_134 rfl rfl rfl (Nat.le_of_ble_eq_true rfl) ?_
      exact ok_mX6_splits_135 FU _ _ _ hf
    · refine r_aload_n dX6_splits_70 rfl rfl ?_
      refine g_getA dX6_splits_71 fl_RX6_129 fk_6_49 rfl (cl_true_0) ?_
      refine r_iload_n dX6_splits_74 rfl rfl ?_
      refine r_iload_n dX6_splits_75 rfl rfl ?_
      refine r_bipush dX6_splits_76 (bp_8) ?_
      refine r_idiv dX6_splits_78 (by decide) ?_
      refine r_aload_n dX6_splits_79 rfl rfl ?_
      refine g_getI dX6_splits_80 fl_RX6_7 fk_6_2 (cl_true_0) ?_
      refine g_icmp_ge (tgt := 122) dX6_splits_83 rfl hf (fun _ hf => ?_) (fun _ hf => ?_)
      · exact ok_mX6_splits_122 (fun v2 w hf => ih v2 w hf) hf
      · refine r_iload_n dX6_splits_86 rfl rfl ?_
        refine r_bipush dX6_splits_87 (bp_8) ?_
        refine r_irem dX6_splits_89 (by decide) ?_
        refine r_aload_n dX6_splits_90 rfl rfl ?_
        refine g_getI dX6_splits_91 fl_RX6_7 fk_6_2 (cl_true_0) ?_
        refine g_icmp_ge (tgt := 122) dX6_splits_94 rfl hf (fun _ hf => ?_) (fun _ hf => ?_)
        · exact ok_mX6_splits_122 (fun v2 w hf => ih v2 w hf) hf
        · refine r_aload_n dX6_splits_97 rfl rfl ?_
          refine g_getA dX6_splits_98 fl_RX6_123 fk_6_47 rfl (cl_true_0) ?_
          refine r_iload_n dX6_splits_101 rfl rfl ?_
          refine r_bipush dX6_splits_102 (bp_8) ?_
          refine r_idiv dX6_splits_104 (by decide) ?_
          refine g_iald dX6_splits_105 aK_true_0_48 aL_true_0_48 hf (fun x_1 hf => ?_)
          refine r_aload_n dX6_splits_106 rfl rfl ?_
          refine g_getA dX6_splits_107 fl_RX6_123 fk_6_47 rfl (cl_true_0) ?_
          refine r_iload_n dX6_splits_110 rfl rfl ?_
          refine r_bipush dX6_splits_111 (bp_8) ?_
          refine r_irem dX6_splits_113 (by decide) ?_
          refine g_iald dX6_splits_114 aK_true_0_48 aL_true_0_48 hf (fun x_2 hf => ?_)
          refine g_icmp_eq (tgt := 122) dX6_splits_115 rfl hf (fun _ hf => ?_) (fun _ hf => ?_)
          · exact ok_mX6_splits_122 (fun v2 w hf => ih v2 w hf) hf
          · refine r_iconst dX6_splits_118 ic_0 ?_
            refine r_goto (tgt := 124) dX6_splits_119 rfl ?_
            exact ok_mX6_splits_124 (fun v2 w hf => ih v2 w hf) hf
set_option maxRecDepth 100000 in
set_option maxHeartbeats 4000000 in
theorem ok_mX6_splits_7 {zv : Int32} {zw : AW} : ∀ (n : Nat) (v2 : Int32) (w : AW), mX6_splits_7 n v2 w = some (zv, zw) → RR true KX6_splits (some (vI zv), zw) 7 [some (vR 0 0), none, some (vI v2), none, none, none] [] w := by
  intro n
  induction n with
  | zero => intro v2 w hf; cases hf
  | succ n ih =>
    intro v2 w hf
    refine r_iload_n dX6_splits_7 rfl rfl ?_
    refine r_aload_n dX6_splits_8 rfl rfl ?_
    refine g_getI dX6_splits_9 fl_RX6_7 fk_6_2 (cl_true_0) ?_
    refine g_icmp_ge (tgt := 62) dX6_splits_12 rfl hf (fun _ hf => ?_) (fun _ hf => ?_)
    · refine r_iconst dX6_splits_62 ic_0 ?_
      refine r_istore_n (ls2 := [some (vR 0 0), none, some (vI 0), none, none, none]) dX6_splits_63 rfl rfl rfl (Nat.le_of_ble_eq_true rfl) ?_
      exact ok_mX6_splits_64 FU _ _ hf
    · refine r_aload_n dX6_splits_15 rfl rfl ?_
      refine g_getA dX6_splits_16 fl_RX6_123 fk_6_47 rfl (cl_true_0) ?_
      refine r_iload_n dX6_splits_19 rfl rfl ?_
      refine r_iconst dX6_splits_20 ic_0 ?_
      refine g_iast dX6_splits_21 aK_true_0_48 aL_true_0_48 hf (fun w_1 hf => ?_)
      refine r_iconst dX6_splits_22 ic_0 ?_
      refine r_istore_n (ls2 := [some (vR 0 0), none, some (vI v2), some (vI 0), none, none]) dX6_splits_23 rfl rfl rfl (Nat.le_of_ble_eq_true rfl) ?_
      exact ok_mX6_splits_24 (fun v2 w hf => ih v2 w hf) FU _ _ hf
set_option maxRecDepth 100000 in
set_option maxHeartbeats 4000000 in
theorem ok_mX6_splits {zv : Int32} {zw : AW} {v1 : Int32} {w : AW} (hf : mX6_splits v1 w = some (zv, zw)) : RR true KX6_splits (some (vI zv), zw) 0 [some (vR 0 0), some (vI v1), none, none, none, none] [] w := by
  refine r_aload_n dX6_splits_0 rfl rfl ?_
  refine r_iload_n dX6_splits_1 rfl rfl ?_
  obtain ⟨x_2, w_1, hc, hf⟩ := cl_some hf
  refine g_cVv (st := []) KX6_looks [vI v1] dX6_splits_2 e_RX6_234 (cl_true_0) (rfl : vwCl[6]? = _) rfl mok_X6_looks mw_X6_looks ⟨Nat.le_of_ble_eq_true rfl, Nat.le_of_ble_eq_true rfl⟩ (met_X6_looks hc) rfl (Nat.le_of_ble_eq_true rfl) ?_
  clear hc
  refine r_iconst dX6_splits_5 ic_0 ?_
  refine r_istore_n (ls2 := [some (vR 0 0), some (vI v1), some (vI 0), none, none, none]) dX6_splits_6 rfl rfl rfl (Nat.le_of_ble_eq_true rfl) ?_
  refine r_mask (bs := [true, false, true, false, false, false]) ?_
  exact ok_mX6_splits_7 FU _ _ hf
theorem met_X6_splits {zv : Int32} {zw : AW} {v1 : Int32} {w : AW} (hf : mX6_splits v1 w = some (zv, zw)) : am_Met true KX6_splits [vR 0 0, vI v1] w (some (vI zv), zw) := am_met mok_X6_splits.1 (Nat.le_of_ble_eq_true rfl) (ok_mX6_splits  hf)

/-! SeenWorldsModel.heaps(I)I -/
noncomputable def mX6_heaps (v1 : Int32) (w : AW) : Option (Int32 × AW) :=
  pu w 0 0 0 fun w_1 =>
  cl (mX6_isSort v1 w_1) fun x_3 w_2 =>
  if x_3 = 0 then
    some ((-1), w_2)
  else
    cl (mX6_splits v1 w_2) fun x_5 w_4 =>
    some (x_5, w_4)
set_option maxRecDepth 100000 in
set_option maxHeartbeats 4000000 in
theorem ok_mX6_heaps {zv : Int32} {zw : AW} {v1 : Int32} {w : AW} (hf : mX6_heaps v1 w = some (zv, zw)) : RR true KX6_heaps (some (vI zv), zw) 0 [some (vR 0 0), some (vI v1)] [] w := by
  refine r_aload_n dX6_heaps_0 rfl rfl ?_
  refine r_iconst dX6_heaps_1 ic_0 ?_
  refine g_putI dX6_heaps_2 fl_RX6_132 fk_6_0 (cl_true_0) hf (fun w_1 hf => ?_)
  refine r_iload_n dX6_heaps_5 rfl rfl ?_
  obtain ⟨x_3, w_2, hc, hf⟩ := cl_some hf
  refine g_cS (st := []) KX6_isSort [vI v1] dX6_heaps_6 e_RX6_151 mok_X6_isSort mw_X6_isSort ⟨Nat.le_of_ble_eq_true rfl, Nat.le_of_ble_eq_true rfl⟩ (met_X6_isSort hc) rfl (Nat.le_of_ble_eq_true rfl) ?_
  clear hc
  refine g_if_eq (tgt := 20) dX6_heaps_9 rfl hf (fun _ hf => ?_) (fun _ hf => ?_)
  · refine r_iconst dX6_heaps_20 ic_m1 ?_
    exact r_iret dX6_heaps_21 rfl (ret_I hf)
  · refine r_aload_n dX6_heaps_12 rfl rfl ?_
    refine r_iload_n dX6_heaps_13 rfl rfl ?_
    obtain ⟨x_5, w_4, hc, hf⟩ := cl_some hf
    refine g_cV (st := []) KX6_splits [vI v1] dX6_heaps_14 e_RX6_290 (cl_true_0) (rfl : vwCl[6]? = _) rfl mok_X6_splits mw_X6_splits ⟨Nat.le_of_ble_eq_true rfl, Nat.le_of_ble_eq_true rfl⟩ (met_X6_splits hc) rfl (Nat.le_of_ble_eq_true rfl) ?_
    clear hc
    refine r_goto (tgt := 21) dX6_heaps_17 rfl ?_
    exact r_iret dX6_heaps_21 rfl (ret_I hf)
theorem met_X6_heaps {zv : Int32} {zw : AW} {v1 : Int32} {w : AW} (hf : mX6_heaps v1 w = some (zv, zw)) : am_Met true KX6_heaps [vR 0 0, vI v1] w (some (vI zv), zw) := am_met mok_X6_heaps.1 (Nat.le_of_ble_eq_true rfl) (ok_mX6_heaps  hf)

/-! SeenWorldsModel.alike(III)I -/
noncomputable def mX6_alike (v1 : Int32) (v2 : Int32) (v3 : Int32) (w : AW) : Option (Int32 × AW) :=
  pu w 0 0 0 fun w_1 =>
  cl (mX6_isWorld v1 w_1) fun x_3 w_2 =>
  if x_3 = 0 then
    some ((-1), w_2)
  else
    cl (mX6_isWorld v2 w_2) fun x_5 w_4 =>
    if x_5 = 0 then
      some ((-1), w_4)
    else
      cl (mX6_isSort v3 w_4) fun x_7 w_6 =>
      if x_7 ≠ 0 then
        cl (mX6_splits v3 w_6) fun x_9 w_8 =>
        rd 64 (w_8.1 0 50) ((8 * v1) + v2) fun x_10 =>
        if x_10 ≠ (-9) then
          some (0, w_8)
        else
          some (1, w_8)
      else
        some ((-1), w_6)
set_option maxRecDepth 100000 in
set_option maxHeartbeats 4000000 in
theorem ok_mX6_alike {zv : Int32} {zw : AW} {v1 : Int32} {v2 : Int32} {v3 : Int32} {w : AW} (hf : mX6_alike v1 v2 v3 w = some (zv, zw)) : RR true KX6_alike (some (vI zv), zw) 0 [some (vR 0 0), some (vI v1), some (vI v2), some (vI v3)] [] w := by
  refine r_aload_n dX6_alike_0 rfl rfl ?_
  refine r_iconst dX6_alike_1 ic_0 ?_
  refine g_putI dX6_alike_2 fl_RX6_132 fk_6_0 (cl_true_0) hf (fun w_1 hf => ?_)
  refine r_aload_n dX6_alike_5 rfl rfl ?_
  refine r_iload_n dX6_alike_6 rfl rfl ?_
  obtain ⟨x_3, w_2, hc, hf⟩ := cl_some hf
  refine g_cV (st := []) KX6_isWorld [vI v1] dX6_alike_7 e_RX6_139 (cl_true_0) (rfl : vwCl[6]? = _) rfl mok_X6_isWorld mw_X6_isWorld ⟨Nat.le_of_ble_eq_true rfl, Nat.le_of_ble_eq_true rfl⟩ (met_X6_isWorld hc) rfl (Nat.le_of_ble_eq_true rfl) ?_
  clear hc
  refine g_if_eq (tgt := 28) dX6_alike_10 rfl hf (fun _ hf => ?_) (fun _ hf => ?_)
  · refine r_iconst dX6_alike_28 ic_m1 ?_
    exact r_iret dX6_alike_29 rfl (ret_I hf)
  · refine r_aload_n dX6_alike_13 rfl rfl ?_
    refine r_iload_n dX6_alike_14 rfl rfl ?_
    obtain ⟨x_5, w_4, hc, hf⟩ := cl_some hf
    refine g_cV (st := []) KX6_isWorld [vI v2] dX6_alike_15 e_RX6_139 (cl_true_0) (rfl : vwCl[6]? = _) rfl mok_X6_isWorld mw_X6_isWorld ⟨Nat.le_of_ble_eq_true rfl, Nat.le_of_ble_eq_true rfl⟩ (met_X6_isWorld hc) rfl (Nat.le_of_ble_eq_true rfl) ?_
    clear hc
    refine g_if_eq (tgt := 28) dX6_alike_18 rfl hf (fun _ hf => ?_) (fun _ hf => ?_)
    · refine r_iconst dX6_alike_28 ic_m1 ?_
      exact r_iret dX6_alike_29 rfl (ret_I hf)
    · refine r_iload_n dX6_alike_21 rfl rfl ?_
      obtain ⟨x_7, w_6, hc, hf⟩ := cl_some hf
      refine g_cS (st := []) KX6_isSort [vI v3] dX6_alike_22 e_RX6_151 mok_X6_isSort mw_X6_isSort ⟨Nat.le_of_ble_eq_true rfl, Nat.le_of_ble_eq_true rfl⟩ (met_X6_isSort hc) rfl (Nat.le_of_ble_eq_true rfl) ?_
      clear hc
      refine g_if_ne (tgt := 30) dX6_alike_25 rfl hf (fun _ hf => ?_) (fun _ hf => ?_)
      · refine r_aload_n dX6_alike_30 rfl rfl ?_
        refine r_iload_n dX6_alike_31 rfl rfl ?_
        obtain ⟨x_9, w_8, hc, hf⟩ := cl_some hf
        refine g_cV (st := []) KX6_splits [vI v3] dX6_alike_32 e_RX6_290 (cl_true_0) (rfl : vwCl[6]? = _) rfl mok_X6_splits mw_X6_splits ⟨Nat.le_of_ble_eq_true rfl, Nat.le_of_ble_eq_true rfl⟩ (met_X6_splits hc) rfl (Nat.le_of_ble_eq_true rfl) ?_
        clear hc
        refine r_pop dX6_alike_35 rfl ?_
        refine r_aload_n dX6_alike_36 rfl rfl ?_
        refine g_getA dX6_alike_37 fl_RX6_129 fk_6_49 rfl (cl_true_0) ?_
        refine r_bipush dX6_alike_40 (bp_8) ?_
        refine r_iload_n dX6_alike_42 rfl rfl ?_
        refine r_imul dX6_alike_43 ?_
        refine r_iload_n dX6_alike_44 rfl rfl ?_
        refine r_iadd dX6_alike_45 ?_
        refine g_iald dX6_alike_46 aK_true_0_50 aL_true_0_50 hf (fun x_10 hf => ?_)
        refine r_bipush dX6_alike_47 (bp_m9) ?_
        refine g_icmp_ne (tgt := 56) dX6_alike_49 rfl hf (fun _ hf => ?_) (fun _ hf => ?_)
        · refine r_iconst dX6_alike_56 ic_0 ?_
          exact r_iret dX6_alike_57 rfl (ret_I hf)
        · refine r_iconst dX6_alike_52 ic_1 ?_
          refine r_goto (tgt := 57) dX6_alike_53 rfl ?_
          exact r_iret dX6_alike_57 rfl (ret_I hf)
      · refine r_iconst dX6_alike_28 ic_m1 ?_
        exact r_iret dX6_alike_29 rfl (ret_I hf)
theorem met_X6_alike {zv : Int32} {zw : AW} {v1 : Int32} {v2 : Int32} {v3 : Int32} {w : AW} (hf : mX6_alike v1 v2 v3 w = some (zv, zw)) : am_Met true KX6_alike [vR 0 0, vI v1, vI v2, vI v3] w (some (vI zv), zw) := am_met mok_X6_alike.1 (Nat.le_of_ble_eq_true rfl) (ok_mX6_alike  hf)

/-! SeenWorldsModel.apart(III)I -/
noncomputable def mX6_apart (v1 : Int32) (v2 : Int32) (v3 : Int32) (w : AW) : Option (Int32 × AW) :=
  pu w 0 0 0 fun w_1 =>
  cl (mX6_isWorld v1 w_1) fun x_3 w_2 =>
  if x_3 = 0 then
    some ((-1), w_2)
  else
    cl (mX6_isWorld v2 w_2) fun x_5 w_4 =>
    if x_5 = 0 then
      some ((-1), w_4)
    else
      cl (mX6_isSort v3 w_4) fun x_7 w_6 =>
      if x_7 ≠ 0 then
        cl (mX6_splits v3 w_6) fun x_9 w_8 =>
        rd 64 (w_8.1 0 50) ((8 * v1) + v2) fun x_10 =>
        some (x_10, w_8)
      else
        some ((-1), w_6)
set_option maxRecDepth 100000 in
set_option maxHeartbeats 4000000 in
theorem ok_mX6_apart {zv : Int32} {zw : AW} {v1 : Int32} {v2 : Int32} {v3 : Int32} {w : AW} (hf : mX6_apart v1 v2 v3 w = some (zv, zw)) : RR true KX6_apart (some (vI zv), zw) 0 [some (vR 0 0), some (vI v1), some (vI v2), some (vI v3)] [] w := by
  refine r_aload_n dX6_apart_0 rfl rfl ?_
  refine r_iconst dX6_apart_1 ic_0 ?_
  refine g_putI dX6_apart_2 fl_RX6_132 fk_6_0 (cl_true_0) hf (fun w_1 hf => ?_)
  refine r_aload_n dX6_apart_5 rfl rfl ?_
  refine r_iload_n dX6_apart_6 rfl rfl ?_
  obtain ⟨x_3, w_2, hc, hf⟩ := cl_some hf
  refine g_cV (st := []) KX6_isWorld [vI v1] dX6_apart_7 e_RX6_139 (cl_true_0) (rfl : vwCl[6]? = _) rfl mok_X6_isWorld mw_X6_isWorld ⟨Nat.le_of_ble_eq_true rfl, Nat.le_of_ble_eq_true rfl⟩ (met_X6_isWorld hc) rfl (Nat.le_of_ble_eq_true rfl) ?_
  clear hc
  refine g_if_eq (tgt := 28) dX6_apart_10 rfl hf (fun _ hf => ?_) (fun _ hf => ?_)
  · refine r_iconst dX6_apart_28 ic_m1 ?_
    exact r_iret dX6_apart_29 rfl (ret_I hf)
  · refine r_aload_n dX6_apart_13 rfl rfl ?_
    refine r_iload_n dX6_apart_14 rfl rfl ?_
    obtain ⟨x_5, w_4, hc, hf⟩ := cl_some hf
    refine g_cV (st := []) KX6_isWorld [vI v2] dX6_apart_15 e_RX6_139 (cl_true_0) (rfl : vwCl[6]? = _) rfl mok_X6_isWorld mw_X6_isWorld ⟨Nat.le_of_ble_eq_true rfl, Nat.le_of_ble_eq_true rfl⟩ (met_X6_isWorld hc) rfl (Nat.le_of_ble_eq_true rfl) ?_
    clear hc
    refine g_if_eq (tgt := 28) dX6_apart_18 rfl hf (fun _ hf => ?_) (fun _ hf => ?_)
    · refine r_iconst dX6_apart_28 ic_m1 ?_
      exact r_iret dX6_apart_29 rfl (ret_I hf)
    · refine r_iload_n dX6_apart_21 rfl rfl ?_
      obtain ⟨x_7, w_6, hc, hf⟩ := cl_some hf
      refine g_cS (st := []) KX6_isSort [vI v3] dX6_apart_22 e_RX6_151 mok_X6_isSort mw_X6_isSort ⟨Nat.le_of_ble_eq_true rfl, Nat.le_of_ble_eq_true rfl⟩ (met_X6_isSort hc) rfl (Nat.le_of_ble_eq_true rfl) ?_
      clear hc
      refine g_if_ne (tgt := 30) dX6_apart_25 rfl hf (fun _ hf => ?_) (fun _ hf => ?_)
      · refine r_aload_n dX6_apart_30 rfl rfl ?_
        refine r_iload_n dX6_apart_31 rfl rfl ?_
        obtain ⟨x_9, w_8, hc, hf⟩ := cl_some hf
        refine g_cV (st := []) KX6_splits [vI v3] dX6_apart_32 e_RX6_290 (cl_true_0) (rfl : vwCl[6]? = _) rfl mok_X6_splits mw_X6_splits ⟨Nat.le_of_ble_eq_true rfl, Nat.le_of_ble_eq_true rfl⟩ (met_X6_splits hc) rfl (Nat.le_of_ble_eq_true rfl) ?_
        clear hc
        refine r_pop dX6_apart_35 rfl ?_
        refine r_aload_n dX6_apart_36 rfl rfl ?_
        refine g_getA dX6_apart_37 fl_RX6_129 fk_6_49 rfl (cl_true_0) ?_
        refine r_bipush dX6_apart_40 (bp_8) ?_
        refine r_iload_n dX6_apart_42 rfl rfl ?_
        refine r_imul dX6_apart_43 ?_
        refine r_iload_n dX6_apart_44 rfl rfl ?_
        refine r_iadd dX6_apart_45 ?_
        refine g_iald dX6_apart_46 aK_true_0_50 aL_true_0_50 hf (fun x_10 hf => ?_)
        exact r_iret dX6_apart_47 rfl (ret_I hf)
      · refine r_iconst dX6_apart_28 ic_m1 ?_
        exact r_iret dX6_apart_29 rfl (ret_I hf)
theorem met_X6_apart {zv : Int32} {zw : AW} {v1 : Int32} {v2 : Int32} {v3 : Int32} {w : AW} (hf : mX6_apart v1 v2 v3 w = some (zv, zw)) : am_Met true KX6_apart [vR 0 0, vI v1, vI v2, vI v3] w (some (vI zv), zw) := am_met mok_X6_apart.1 (Nat.le_of_ble_eq_true rfl) (ok_mX6_apart  hf)

/-! SeenWorldsModel.isGrowing()Z -/
noncomputable def mX6_isGrowing_55 (k4 : Int32 → Int32 → AW → Option (Int32 × AW)) (k14 : Int32 → Int32 → AW → Option (Int32 × AW)) (v2 : Int32) (v3 : Int32) (s0 : Int32) (s1 : Int32) (w : AW) : Option (Int32 × AW) :=
  nm (s1 &&& s0) fun v1_1 =>
  nm (v3 + 1) fun v3_2 =>
  k14 v1_1 v3_2 w
noncomputable def mX6_isGrowing_50 (k4 : Int32 → Int32 → AW → Option (Int32 × AW)) (k14 : Int32 → Int32 → AW → Option (Int32 × AW)) (v2 : Int32) (v3 : Int32) (s0 : Int32) (w : AW) : Option (Int32 × AW) :=
  mX6_isGrowing_55 k4 k14 v2 v3 1 s0 w
noncomputable def mX6_isGrowing_14 (k4 : Int32 → Int32 → AW → Option (Int32 × AW)) (v2 : Int32) : Nat → Int32 → Int32 → AW → Option (Int32 × AW)
  | 0, _, _, _ => none
  | n + 1, v1, v3, w =>
    if 4 ≤ v3 then
      nm (v2 + 1) fun v2_1 =>
      k4 v1 v2_1 w
    else
      rd 4 (w.1 0 5) v3 fun x_2 =>
      if ((x_2 >>> (v2 &&& 31)) &&& 1) = 0 then
        mX6_isGrowing_50 k4 (mX6_isGrowing_14 k4 v2 n) v2 v3 v1 w
      else
        cl (mX6_farOf v2 w) fun x_4 w_3 =>
        rd 4 (w_3.1 0 5) v3 fun x_5 =>
        if (x_4 &&& (x_5 ^^^ (-1))) ≠ 0 then
          mX6_isGrowing_55 k4 (mX6_isGrowing_14 k4 v2 n) v2 v3 0 v1 w_3
        else
          mX6_isGrowing_50 k4 (mX6_isGrowing_14 k4 v2 n) v2 v3 v1 w_3
noncomputable def mX6_isGrowing_4 : Nat → Int32 → Int32 → AW → Option (Int32 × AW)
  | 0, _, _, _ => none
  | n + 1, v1, v2, w =>
    if (w.1 0 0 2) ≤ v2 then
      zr v1 w
    else
      mX6_isGrowing_14 (mX6_isGrowing_4 n) v2 FU v1 0 w
noncomputable def mX6_isGrowing (w : AW) : Option (Int32 × AW) :=
  mX6_isGrowing_4 FU 1 0 w
set_option maxRecDepth 100000 in
set_option maxHeartbeats 4000000 in
theorem ok_mX6_isGrowing_55 {zv : Int32} {zw : AW} {k4 : Int32 → Int32 → AW → Option (Int32 × AW)} {k14 : Int32 → Int32 → AW → Option (Int32 × AW)} {v2 : Int32} {v3 : Int32} {s0 : Int32} {s1 : Int32} (hk4 : ∀ (v1 : Int32) (v2 : Int32)  w, k4 v1 v2 w = some (zv, zw) → RR true KX6_isGrowing (some (vI zv), zw) 4 [some (vR 0 0), some (vI v1), some (vI v2), none] [] w) (hk14 : ∀ (v1 : Int32) (v3 : Int32)  w, k14 v1 v3 w = some (zv, zw) → RR true KX6_isGrowing (some (vI zv), zw) 14 [some (vR 0 0), some (vI v1), some (vI v2), some (vI v3)] [] w) {w : AW} (hf : mX6_isGrowing_55 k4 k14 v2 v3 s0 s1 w = some (zv, zw)) : RR true KX6_isGrowing (some (vI zv), zw) 55 [some (vR 0 0), none, some (vI v2), some (vI v3)] [vI s0, vI s1] w := by
  refine r_iand dX6_isGrowing_55 ?_
  refine g_istore_n (fun v1_1 => [some (vR 0 0), some (vI v1_1), some (vI v2), some (vI v3)]) dX6_isGrowing_56 rfl rfl (fun _ => rfl) (Nat.le_of_ble_eq_true rfl) hf (fun v1_1 hf => ?_)
  refine g_iinc (fun v3_2 => [some (vR 0 0), some (vI v1_1), some (vI v2), some (vI v3_2)]) dX6_isGrowing_57 ic_1 rfl rfl (fun _ => rfl) (Nat.le_of_ble_eq_true rfl) hf (fun v3_2 hf => ?_)
  refine r_goto (tgt := 14) dX6_isGrowing_60 rfl ?_
  exact hk14 _ _ _ hf
set_option maxRecDepth 100000 in
set_option maxHeartbeats 4000000 in
theorem ok_mX6_isGrowing_50 {zv : Int32} {zw : AW} {k4 : Int32 → Int32 → AW → Option (Int32 × AW)} {k14 : Int32 → Int32 → AW → Option (Int32 × AW)} {v2 : Int32} {v3 : Int32} {s0 : Int32} (hk4 : ∀ (v1 : Int32) (v2 : Int32)  w, k4 v1 v2 w = some (zv, zw) → RR true KX6_isGrowing (some (vI zv), zw) 4 [some (vR 0 0), some (vI v1), some (vI v2), none] [] w) (hk14 : ∀ (v1 : Int32) (v3 : Int32)  w, k14 v1 v3 w = some (zv, zw) → RR true KX6_isGrowing (some (vI zv), zw) 14 [some (vR 0 0), some (vI v1), some (vI v2), some (vI v3)] [] w) {w : AW} (hf : mX6_isGrowing_50 k4 k14 v2 v3 s0 w = some (zv, zw)) : RR true KX6_isGrowing (some (vI zv), zw) 50 [some (vR 0 0), none, some (vI v2), some (vI v3)] [vI s0] w := by
  refine r_iconst dX6_isGrowing_50 ic_1 ?_
  refine r_goto (tgt := 55) dX6_isGrowing_51 rfl ?_
  exact ok_mX6_isGrowing_55 hk4 hk14 hf
set_option maxRecDepth 100000 in
set_option maxHeartbeats 4000000 in
theorem ok_mX6_isGrowing_14 {zv : Int32} {zw : AW} {k4 : Int32 → Int32 → AW → Option (Int32 × AW)} {v2 : Int32} (hk4 : ∀ (v1 : Int32) (v2 : Int32)  w, k4 v1 v2 w = some (zv, zw) → RR true KX6_isGrowing (some (vI zv), zw) 4 [some (vR 0 0), some (vI v1), some (vI v2), none] [] w) : ∀ (n : Nat) (v1 : Int32) (v3 : Int32) (w : AW), mX6_isGrowing_14 k4 v2 n v1 v3 w = some (zv, zw) → RR true KX6_isGrowing (some (vI zv), zw) 14 [some (vR 0 0), some (vI v1), some (vI v2), some (vI v3)] [] w := by
  intro n
  induction n with
  | zero => intro v1 v3 w hf; cases hf
  | succ n ih =>
    intro v1 v3 w hf
    refine r_iload_n dX6_isGrowing_14 rfl rfl ?_
    refine r_iconst dX6_isGrowing_15 ic_4 ?_
    refine g_icmp_ge (tgt := 63) dX6_isGrowing_16 rfl hf (fun _ hf => ?_) (fun _ hf => ?_)
    · refine g_iinc (fun v2_1 => [some (vR 0 0), some (vI v1), some (vI v2_1), some (vI v3)]) dX6_isGrowing_63 ic_1 rfl rfl (fun _ => rfl) (Nat.le_of_ble_eq_true rfl) hf (fun v2_1 hf => ?_)
      refine r_goto (tgt := 4) dX6_isGrowing_66 rfl ?_
      refine r_mask (bs := [true, true, true, false]) ?_
      exact hk4 _ _ _ hf
    · refine r_iload_n dX6_isGrowing_19 rfl rfl ?_
      refine r_aload_n dX6_isGrowing_20 rfl rfl ?_
      refine g_getA dX6_isGrowing_21 fl_RX6_17 fk_6_4 rfl (cl_true_0) ?_
      refine r_iload_n dX6_isGrowing_24 rfl rfl ?_
      refine g_iald dX6_isGrowing_25 aK_true_0_5 aL_true_0_5 hf (fun x_2 hf => ?_)
      refine r_iload_n dX6_isGrowing_26 rfl rfl ?_
      refine r_ishr dX6_isGrowing_27 ?_
      refine r_iconst dX6_isGrowing_28 ic_1 ?_
      refine r_iand dX6_isGrowing_29 ?_
      refine g_if_eq (tgt := 50) dX6_isGrowing_30 rfl hf (fun _ hf => ?_) (fun _ hf => ?_)
      · refine r_mask (bs := [true, false, true, true]) ?_
        exact ok_mX6_isGrowing_50 hk4 (fun v1 v3 w hf => ih v1 v3 w hf) hf
      · refine r_aload_n dX6_isGrowing_33 rfl rfl ?_
        refine r_iload_n dX6_isGrowing_34 rfl rfl ?_
        obtain ⟨x_4, w_3, hc, hf⟩ := cl_some hf
        refine g_cV (st := [vI v1]) KX6_farOf [vI v2] dX6_isGrowing_35 e_RX6_147 (cl_true_0) (rfl : vwCl[6]? = _) rfl mok_X6_farOf mw_X6_farOf ⟨Nat.le_of_ble_eq_true rfl, Nat.le_of_ble_eq_true rfl⟩ (met_X6_farOf hc) rfl (Nat.le_of_ble_eq_true rfl) ?_
        clear hc
        refine r_aload_n dX6_isGrowing_38 rfl rfl ?_
        refine g_getA dX6_isGrowing_39 fl_RX6_17 fk_6_4 rfl (cl_true_0) ?_
        refine r_iload_n dX6_isGrowing_42 rfl rfl ?_
        refine g_iald dX6_isGrowing_43 aK_true_0_5 aL_true_0_5 hf (fun x_5 hf => ?_)
        refine r_iconst dX6_isGrowing_44 ic_m1 ?_
        refine r_ixor dX6_isGrowing_45 ?_
        refine r_iand dX6_isGrowing_46 ?_
        refine g_if_ne (tgt := 54) dX6_isGrowing_47 rfl hf (fun _ hf => ?_) (fun _ hf => ?_)
        · refine r_iconst dX6_isGrowing_54 ic_0 ?_
          refine r_mask (bs := [true, false, true, true]) ?_
          exact ok_mX6_isGrowing_55 hk4 (fun v1 v3 w hf => ih v1 v3 w hf) hf
        · refine r_mask (bs := [true, false, true, true]) ?_
          exact ok_mX6_isGrowing_50 hk4 (fun v1 v3 w hf => ih v1 v3 w hf) hf
set_option maxRecDepth 100000 in
set_option maxHeartbeats 4000000 in
theorem ok_mX6_isGrowing_4 {zv : Int32} {zw : AW} : ∀ (n : Nat) (v1 : Int32) (v2 : Int32) (w : AW), mX6_isGrowing_4 n v1 v2 w = some (zv, zw) → RR true KX6_isGrowing (some (vI zv), zw) 4 [some (vR 0 0), some (vI v1), some (vI v2), none] [] w := by
  intro n
  induction n with
  | zero => intro v1 v2 w hf; cases hf
  | succ n ih =>
    intro v1 v2 w hf
    refine r_iload_n dX6_isGrowing_4 rfl rfl ?_
    refine r_aload_n dX6_isGrowing_5 rfl rfl ?_
    refine g_getI dX6_isGrowing_6 fl_RX6_7 fk_6_2 (cl_true_0) ?_
    refine g_icmp_ge (tgt := 69) dX6_isGrowing_9 rfl hf (fun _ hf => ?_) (fun _ hf => ?_)
    · refine r_iload_n dX6_isGrowing_69 rfl rfl ?_
      exact g_zret dX6_isGrowing_70 rfl hf
    · refine r_iconst dX6_isGrowing_12 ic_0 ?_
      refine r_istore_n (ls2 := [some (vR 0 0), some (vI v1), some (vI v2), some (vI 0)]) dX6_isGrowing_13 rfl rfl rfl (Nat.le_of_ble_eq_true rfl) ?_
      exact ok_mX6_isGrowing_14 (fun v1 v2 w hf => ih v1 v2 w hf) FU _ _ _ hf
set_option maxRecDepth 100000 in
set_option maxHeartbeats 4000000 in
theorem ok_mX6_isGrowing {zv : Int32} {zw : AW} {w : AW} (hf : mX6_isGrowing w = some (zv, zw)) : RR true KX6_isGrowing (some (vI zv), zw) 0 [some (vR 0 0), none, none, none] [] w := by
  refine r_iconst dX6_isGrowing_0 ic_1 ?_
  refine r_istore_n (ls2 := [some (vR 0 0), some (vI 1), none, none]) dX6_isGrowing_1 rfl rfl rfl (Nat.le_of_ble_eq_true rfl) ?_
  refine r_iconst dX6_isGrowing_2 ic_0 ?_
  refine r_istore_n (ls2 := [some (vR 0 0), some (vI 1), some (vI 0), none]) dX6_isGrowing_3 rfl rfl rfl (Nat.le_of_ble_eq_true rfl) ?_
  exact ok_mX6_isGrowing_4 FU _ _ _ hf
theorem met_X6_isGrowing {zv : Int32} {zw : AW} {w : AW} (hf : mX6_isGrowing w = some (zv, zw)) : am_Met true KX6_isGrowing [vR 0 0] w (some (vI zv), zw) := am_met mok_X6_isGrowing.1 (Nat.le_of_ble_eq_true rfl) (ok_mX6_isGrowing  hf)

/-! SeenWorldsModel.growing()I -/
noncomputable def mX6_growing (w : AW) : Option (Int32 × AW) :=
  pu w 0 0 0 fun w_1 =>
  cl (mX6_isGrowing w_1) fun x_3 w_2 =>
  if x_3 = 0 then
    some (0, w_2)
  else
    some (1, w_2)
set_option maxRecDepth 100000 in
set_option maxHeartbeats 4000000 in
theorem ok_mX6_growing {zv : Int32} {zw : AW} {w : AW} (hf : mX6_growing w = some (zv, zw)) : RR true KX6_growing (some (vI zv), zw) 0 [some (vR 0 0)] [] w := by
  refine r_aload_n dX6_growing_0 rfl rfl ?_
  refine r_iconst dX6_growing_1 ic_0 ?_
  refine g_putI dX6_growing_2 fl_RX6_132 fk_6_0 (cl_true_0) hf (fun w_1 hf => ?_)
  refine r_aload_n dX6_growing_5 rfl rfl ?_
  obtain ⟨x_3, w_2, hc, hf⟩ := cl_some hf
  refine g_cV (st := []) KX6_isGrowing [] dX6_growing_6 e_RX6_293 (cl_true_0) (rfl : vwCl[6]? = _) rfl mok_X6_isGrowing mw_X6_isGrowing ⟨Nat.le_of_ble_eq_true rfl, Nat.le_of_ble_eq_true rfl⟩ (met_X6_isGrowing hc) rfl (Nat.le_of_ble_eq_true rfl) ?_
  clear hc
  refine g_if_eq (tgt := 16) dX6_growing_9 rfl hf (fun _ hf => ?_) (fun _ hf => ?_)
  · refine r_iconst dX6_growing_16 ic_0 ?_
    exact r_iret dX6_growing_17 rfl (ret_I hf)
  · refine r_iconst dX6_growing_12 ic_1 ?_
    refine r_goto (tgt := 17) dX6_growing_13 rfl ?_
    exact r_iret dX6_growing_17 rfl (ret_I hf)
theorem met_X6_growing {zv : Int32} {zw : AW} {w : AW} (hf : mX6_growing w = some (zv, zw)) : am_Met true KX6_growing [vR 0 0] w (some (vI zv), zw) := am_met mok_X6_growing.1 (Nat.le_of_ble_eq_true rfl) (ok_mX6_growing  hf)

/-! SeenWorldsModel.grows(I)I -/
noncomputable def mX6_grows_234 (k45 : Int32 → Int32 → AW → Option (Int32 × AW)) (v3 : Int32) (s0 : Int32) (w : AW) : Option (Int32 × AW) :=
  wr 90 w 0 38 v3 s0 fun w_1 =>
  nm (v3 + 1) fun v3_2 =>
  k45 s0 v3_2 w_1
noncomputable def mX6_grows_117 (k45 : Int32 → Int32 → AW → Option (Int32 × AW)) (v3 : Int32) (v4 : Int32) (v5 : Int32) (s0 : Int32) (w : AW) : Option (Int32 × AW) :=
  cl (mX6_isAtom v4 w) fun x_2 w_1 =>
  if x_2 = 0 then
    if v4 ≠ 84 then
      if v4 ≠ 70 then
        if v4 ≠ 33 then
          if v4 ≠ 38 then
            if v4 ≠ 124 then
              cl (mX6_all w_1) fun x_4 w_3 =>
              cl (mX6_allIn ((x_4 &&& (v5 ^^^ (-1))) ||| s0) w_3) fun x_6 w_5 =>
              mX6_grows_234 k45 v3 x_6 w_5
            else
              mX6_grows_234 k45 v3 (v5 ||| s0) w_1
          else
            mX6_grows_234 k45 v3 (v5 &&& s0) w_1
        else
          cl (mX6_all w_1) fun x_8 w_7 =>
          cl (mX6_allIn (x_8 &&& (v5 ^^^ (-1))) w_7) fun x_10 w_9 =>
          mX6_grows_234 k45 v3 x_10 w_9
      else
        mX6_grows_234 k45 v3 0 w_1
    else
      cl (mX6_all w_1) fun x_12 w_11 =>
      mX6_grows_234 k45 v3 x_12 w_11
  else
    rd 4 (w_1.1 0 5) (v4 - 112) fun x_13 =>
    mX6_grows_234 k45 v3 x_13 w_1
noncomputable def mX6_grows_92 (k45 : Int32 → Int32 → AW → Option (Int32 × AW)) (v3 : Int32) (v4 : Int32) (s0 : Int32) (w : AW) : Option (Int32 × AW) :=
  cl (mX6_isJoin v4 w) fun x_2 w_1 =>
  if x_2 = 0 then
    mX6_grows_117 k45 v3 v4 s0 0 w_1
  else
    rd 90 (w_1.1 0 32) v3 fun x_3 =>
    rd 90 (w_1.1 0 38) x_3 fun x_4 =>
    mX6_grows_117 k45 v3 v4 s0 x_4 w_1
noncomputable def mX6_grows_77 (k45 : Int32 → Int32 → AW → Option (Int32 × AW)) (v3 : Int32) (v4 : Int32) (w : AW) : Option (Int32 × AW) :=
  rd 90 (w.1 0 31) v3 fun x_1 =>
  rd 90 (w.1 0 38) x_1 fun x_2 =>
  mX6_grows_92 k45 v3 v4 x_2 w
noncomputable def mX6_grows_45 : Nat → Int32 → Int32 → AW → Option (Int32 × AW)
  | 0, _, _, _ => none
  | n + 1, v2, v3, w =>
    if (w.1 0 0 26) ≤ v3 then
      some (v2, w)
    else
      rd 90 (w.1 0 30) v3 fun x_1 =>
      cl (mX6_isPrefix x_1 w) fun x_3 w_2 =>
      if x_3 ≠ 0 then
        mX6_grows_77 (mX6_grows_45 n) v3 x_1 w_2
      else
        cl (mX6_isJoin x_1 w_2) fun x_5 w_4 =>
        if x_5 = 0 then
          mX6_grows_92 (mX6_grows_45 n) v3 x_1 0 w_4
        else
          mX6_grows_77 (mX6_grows_45 n) v3 x_1 w_4
noncomputable def mX6_grows (v1 : Int32) (w : AW) : Option (Int32 × AW) :=
  pu w 0 0 0 fun w_1 =>
  cl (mX6_isSentence v1 w_1) fun x_3 w_2 =>
  if x_3 ≠ 0 then
    cl (mX6_works v1 w_2) fun x_5 w_4 =>
    cl (mX6_isPlain w_4) fun x_7 w_6 =>
    if x_7 = 0 then
      some ((-2), w_6)
    else
      cl (mX6_isGrowing w_6) fun x_9 w_8 =>
      if x_9 ≠ 0 then
        cl (mX6_looks 2 w_8) fun x_11 w_10 =>
        mX6_grows_45 FU 0 0 w_10
      else
        some ((-2), w_8)
  else
    some ((-1), w_2)
set_option maxRecDepth 100000 in
set_option maxHeartbeats 4000000 in
theorem ok_mX6_grows_234 {zv : Int32} {zw : AW} {k45 : Int32 → Int32 → AW → Option (Int32 × AW)} {v3 : Int32} {s0 : Int32} (hk45 : ∀ (v2 : Int32) (v3 : Int32)  w, k45 v2 v3 w = some (zv, zw) → RR true KX6_grows (some (vI zv), zw) 45 [some (vR 0 0), none, some (vI v2), some (vI v3), none, none, none] [] w) {w : AW} (hf : mX6_grows_234 k45 v3 s0 w = some (zv, zw)) : RR true KX6_grows (some (vI zv), zw) 234 [some (vR 0 0), none, none, some (vI v3), none, none, none] [vI s0] w := by
  refine r_istore_n (ls2 := [some (vR 0 0), none, some (vI s0), some (vI v3), none, none, none]) dX6_grows_234 rfl rfl rfl (Nat.le_of_ble_eq_true rfl) ?_
  refine r_aload_n dX6_grows_235 rfl rfl ?_
  refine g_getA dX6_grows_236 fl_RX6_98 fk_6_37 rfl (cl_true_0) ?_
  refine r_iload_n dX6_grows_239 rfl rfl ?_
  refine r_iload_n dX6_grows_240 rfl rfl ?_
  refine g_iast dX6_grows_241 aK_true_0_38 aL_true_0_38 hf (fun w_1 hf => ?_)
  refine g_iinc (fun v3_2 => [some (vR 0 0), none, some (vI s0), some (vI v3_2), none, none, none]) dX6_grows_242 ic_1 rfl rfl (fun _ => rfl) (Nat.le_of_ble_eq_true rfl) hf (fun v3_2 hf => ?_)
  refine r_goto (tgt := 45) dX6_grows_245 rfl ?_
  exact hk45 _ _ _ hf
set_option maxRecDepth 100000 in
set_option maxHeartbeats 4000000 in
theorem ok_mX6_grows_117 {zv : Int32} {zw : AW} {k45 : Int32 → Int32 → AW → Option (Int32 × AW)} {v3 : Int32} {v4 : Int32} {v5 : Int32} {s0 : Int32} (hk45 : ∀ (v2 : Int32) (v3 : Int32)  w, k45 v2 v3 w = some (zv, zw) → RR true KX6_grows (some (vI zv), zw) 45 [some (vR 0 0), none, some (vI v2), some (vI v3), none, none, none] [] w) {w : AW} (hf : mX6_grows_117 k45 v3 v4 v5 s0 w = some (zv, zw)) : RR true KX6_grows (some (vI zv), zw) 117 [some (vR 0 0), none, none, some (vI v3), some (vI v4), some (vI v5), none] [vI s0] w := by
  refine r_istore (ls2 := [some (vR 0 0), none, none, some (vI v3), some (vI v4), some (vI v5), some (vI s0)]) dX6_grows_117 rfl rfl (Nat.le_of_ble_eq_true rfl) ?_
  refine r_iload dX6_grows_119 rfl ?_
  obtain ⟨x_2, w_1, hc, hf⟩ := cl_some hf
  refine g_cS (st := []) KX6_isAtom [vI v4] dX6_grows_121 e_RX6_185 mok_X6_isAtom mw_X6_isAtom ⟨Nat.le_of_ble_eq_true rfl, Nat.le_of_ble_eq_true rfl⟩ (met_X6_isAtom hc) rfl (Nat.le_of_ble_eq_true rfl) ?_
  clear hc
  refine g_if_eq (tgt := 140) dX6_grows_124 rfl hf (fun _ hf => ?_) (fun _ hf => ?_)
  · refine r_iload dX6_grows_140 rfl ?_
    refine r_bipush dX6_grows_142 (bp_84) ?_
    refine g_icmp_ne (tgt := 154) dX6_grows_144 rfl hf (fun _ hf => ?_) (fun _ hf => ?_)
    · refine r_iload dX6_grows_154 rfl ?_
      refine r_bipush dX6_grows_156 (bp_70) ?_
      refine g_icmp_ne (tgt := 165) dX6_grows_158 rfl hf (fun _ hf => ?_) (fun _ hf => ?_)
      · refine r_iload dX6_grows_165 rfl ?_
        refine r_bipush dX6_grows_167 (bp_33) ?_
        refine g_icmp_ne (tgt := 188) dX6_grows_169 rfl hf (fun _ hf => ?_) (fun _ hf => ?_)
        · refine r_iload dX6_grows_188 rfl ?_
          refine r_bipush dX6_grows_190 (bp_38) ?_
          refine g_icmp_ne (tgt := 203) dX6_grows_192 rfl hf (fun _ hf => ?_) (fun _ hf => ?_)
          · refine r_iload dX6_grows_203 rfl ?_
            refine r_bipush dX6_grows_205 (bp_124) ?_
            refine g_icmp_ne (tgt := 218) dX6_grows_207 rfl hf (fun _ hf => ?_) (fun _ hf => ?_)
            · refine r_aload_n dX6_grows_218 rfl rfl ?_
              refine r_aload_n dX6_grows_219 rfl rfl ?_
              obtain ⟨x_4, w_3, hc, hf⟩ := cl_some hf
              refine g_cV (st := [vR 0 0]) KX6_all [] dX6_grows_220 e_RX6_143 (cl_true_0) (rfl : vwCl[6]? = _) rfl mok_X6_all mw_X6_all ⟨Nat.le_of_ble_eq_true rfl, Nat.le_of_ble_eq_true rfl⟩ (met_X6_all hc) rfl (Nat.le_of_ble_eq_true rfl) ?_
              clear hc
              refine r_iload dX6_grows_223 rfl ?_
              refine r_iconst dX6_grows_225 ic_m1 ?_
              refine r_ixor dX6_grows_226 ?_
              refine r_iand dX6_grows_227 ?_
              refine r_iload dX6_grows_228 rfl ?_
              refine r_ior dX6_grows_230 ?_
              obtain ⟨x_6, w_5, hc, hf⟩ := cl_some hf
              refine g_cV (st := []) KX6_allIn [vI ((x_4 &&& (v5 ^^^ (-1))) ||| s0)] dX6_grows_231 e_RX6_231 (cl_true_0) (rfl : vwCl[6]? = _) rfl mok_X6_allIn mw_X6_allIn ⟨Nat.le_of_ble_eq_true rfl, Nat.le_of_ble_eq_true rfl⟩ (met_X6_allIn hc) rfl (Nat.le_of_ble_eq_true rfl) ?_
              clear hc
              refine r_mask (bs := [true, false, false, true, false, false, false]) ?_
              exact ok_mX6_grows_234 hk45 hf
            · refine r_iload dX6_grows_210 rfl ?_
              refine r_iload dX6_grows_212 rfl ?_
              refine r_ior dX6_grows_214 ?_
              refine r_goto (tgt := 234) dX6_grows_215 rfl ?_
              refine r_mask (bs := [true, false, false, true, false, false, false]) ?_
              exact ok_mX6_grows_234 hk45 hf
          · refine r_iload dX6_grows_195 rfl ?_
            refine r_iload dX6_grows_197 rfl ?_
            refine r_iand dX6_grows_199 ?_
            refine r_goto (tgt := 234) dX6_grows_200 rfl ?_
            refine r_mask (bs := [true, false, false, true, false, false, false]) ?_
            exact ok_mX6_grows_234 hk45 hf
        · refine r_aload_n dX6_grows_172 rfl rfl ?_
          refine r_aload_n dX6_grows_173 rfl rfl ?_
          obtain ⟨x_8, w_7, hc, hf⟩ := cl_some hf
          refine g_cV (st := [vR 0 0]) KX6_all [] dX6_grows_174 e_RX6_143 (cl_true_0) (rfl : vwCl[6]? = _) rfl mok_X6_all mw_X6_all ⟨Nat.le_of_ble_eq_true rfl, Nat.le_of_ble_eq_true rfl⟩ (met_X6_all hc) rfl (Nat.le_of_ble_eq_true rfl) ?_
          clear hc
          refine r_iload dX6_grows_177 rfl ?_
          refine r_iconst dX6_grows_179 ic_m1 ?_
          refine r_ixor dX6_grows_180 ?_
          refine r_iand dX6_grows_181 ?_
          obtain ⟨x_10, w_9, hc, hf⟩ := cl_some hf
          refine g_cV (st := []) KX6_allIn [vI (x_8 &&& (v5 ^^^ (-1)))] dX6_grows_182 e_RX6_231 (cl_true_0) (rfl : vwCl[6]? = _) rfl mok_X6_allIn mw_X6_allIn ⟨Nat.le_of_ble_eq_true rfl, Nat.le_of_ble_eq_true rfl⟩ (met_X6_allIn hc) rfl (Nat.le_of_ble_eq_true rfl) ?_
          clear hc
          refine r_goto (tgt := 234) dX6_grows_185 rfl ?_
          refine r_mask (bs := [true, false, false, true, false, false, false]) ?_
          exact ok_mX6_grows_234 hk45 hf
      · refine r_iconst dX6_grows_161 ic_0 ?_
        refine r_goto (tgt := 234) dX6_grows_162 rfl ?_
        refine r_mask (bs := [true, false, false, true, false, false, false]) ?_
        exact ok_mX6_grows_234 hk45 hf
    · refine r_aload_n dX6_grows_147 rfl rfl ?_
      obtain ⟨x_12, w_11, hc, hf⟩ := cl_some hf
      refine g_cV (st := []) KX6_all [] dX6_grows_148 e_RX6_143 (cl_true_0) (rfl : vwCl[6]? = _) rfl mok_X6_all mw_X6_all ⟨Nat.le_of_ble_eq_true rfl, Nat.le_of_ble_eq_true rfl⟩ (met_X6_all hc) rfl (Nat.le_of_ble_eq_true rfl) ?_
      clear hc
      refine r_goto (tgt := 234) dX6_grows_151 rfl ?_
      refine r_mask (bs := [true, false, false, true, false, false, false]) ?_
      exact ok_mX6_grows_234 hk45 hf
  · refine r_aload_n dX6_grows_127 rfl rfl ?_
    refine g_getA dX6_grows_128 fl_RX6_17 fk_6_4 rfl (cl_true_0) ?_
    refine r_iload dX6_grows_131 rfl ?_
    refine r_bipush dX6_grows_133 (bp_112) ?_
    refine r_isub dX6_grows_135 ?_
    refine g_iald dX6_grows_136 aK_true_0_5 aL_true_0_5 hf (fun x_13 hf => ?_)
    refine r_goto (tgt := 234) dX6_grows_137 rfl ?_
    refine r_mask (bs := [true, false, false, true, false, false, false]) ?_
    exact ok_mX6_grows_234 hk45 hf
set_option maxRecDepth 100000 in
set_option maxHeartbeats 4000000 in
theorem ok_mX6_grows_92 {zv : Int32} {zw : AW} {k45 : Int32 → Int32 → AW → Option (Int32 × AW)} {v3 : Int32} {v4 : Int32} {s0 : Int32} (hk45 : ∀ (v2 : Int32) (v3 : Int32)  w, k45 v2 v3 w = some (zv, zw) → RR true KX6_grows (some (vI zv), zw) 45 [some (vR 0 0), none, some (vI v2), some (vI v3), none, none, none] [] w) {w : AW} (hf : mX6_grows_92 k45 v3 v4 s0 w = some (zv, zw)) : RR true KX6_grows (some (vI zv), zw) 92 [some (vR 0 0), none, none, some (vI v3), some (vI v4), none, none] [vI s0] w := by
  refine r_istore (ls2 := [some (vR 0 0), none, none, some (vI v3), some (vI v4), some (vI s0), none]) dX6_grows_92 rfl rfl (Nat.le_of_ble_eq_true rfl) ?_
  refine r_iload dX6_grows_94 rfl ?_
  obtain ⟨x_2, w_1, hc, hf⟩ := cl_some hf
  refine g_cS (st := []) KX6_isJoin [vI v4] dX6_grows_96 e_RX6_192 mok_X6_isJoin mw_X6_isJoin ⟨Nat.le_of_ble_eq_true rfl, Nat.le_of_ble_eq_true rfl⟩ (met_X6_isJoin hc) rfl (Nat.le_of_ble_eq_true rfl) ?_
  clear hc
  refine g_if_eq (tgt := 116) dX6_grows_99 rfl hf (fun _ hf => ?_) (fun _ hf => ?_)
  · refine r_iconst dX6_grows_116 ic_0 ?_
    exact ok_mX6_grows_117 hk45 hf
  · refine r_aload_n dX6_grows_102 rfl rfl ?_
    refine g_getA dX6_grows_103 fl_RX6_98 fk_6_37 rfl (cl_true_0) ?_
    refine r_aload_n dX6_grows_106 rfl rfl ?_
    refine g_getA dX6_grows_107 fl_RX6_83 fk_6_31 rfl (cl_true_0) ?_
    refine r_iload_n dX6_grows_110 rfl rfl ?_
    refine g_iald dX6_grows_111 aK_true_0_32 aL_true_0_32 hf (fun x_3 hf => ?_)
    refine g_iald dX6_grows_112 aK_true_0_38 aL_true_0_38 hf (fun x_4 hf => ?_)
    refine r_goto (tgt := 117) dX6_grows_113 rfl ?_
    exact ok_mX6_grows_117 hk45 hf
set_option maxRecDepth 100000 in
set_option maxHeartbeats 4000000 in
theorem ok_mX6_grows_77 {zv : Int32} {zw : AW} {k45 : Int32 → Int32 → AW → Option (Int32 × AW)} {v3 : Int32} {v4 : Int32} (hk45 : ∀ (v2 : Int32) (v3 : Int32)  w, k45 v2 v3 w = some (zv, zw) → RR true KX6_grows (some (vI zv), zw) 45 [some (vR 0 0), none, some (vI v2), some (vI v3), none, none, none] [] w) {w : AW} (hf : mX6_grows_77 k45 v3 v4 w = some (zv, zw)) : RR true KX6_grows (some (vI zv), zw) 77 [some (vR 0 0), none, none, some (vI v3), some (vI v4), none, none] [] w := by
  refine r_aload_n dX6_grows_77 rfl rfl ?_
  refine g_getA dX6_grows_78 fl_RX6_98 fk_6_37 rfl (cl_true_0) ?_
  refine r_aload_n dX6_grows_81 rfl rfl ?_
  refine g_getA dX6_grows_82 fl_RX6_80 fk_6_30 rfl (cl_true_0) ?_
  refine r_iload_n dX6_grows_85 rfl rfl ?_
  refine g_iald dX6_grows_86 aK_true_0_31 aL_true_0_31 hf (fun x_1 hf => ?_)
  refine g_iald dX6_grows_87 aK_true_0_38 aL_true_0_38 hf (fun x_2 hf => ?_)
  refine r_goto (tgt := 92) dX6_grows_88 rfl ?_
  exact ok_mX6_grows_92 hk45 hf
set_option maxRecDepth 100000 in
set_option maxHeartbeats 4000000 in
theorem ok_mX6_grows_45 {zv : Int32} {zw : AW} : ∀ (n : Nat) (v2 : Int32) (v3 : Int32) (w : AW), mX6_grows_45 n v2 v3 w = some (zv, zw) → RR true KX6_grows (some (vI zv), zw) 45 [some (vR 0 0), none, some (vI v2), some (vI v3), none, none, none] [] w := by
  intro n
  induction n with
  | zero => intro v2 v3 w hf; cases hf
  | succ n ih =>
    intro v2 v3 w hf
    refine r_iload_n dX6_grows_45 rfl rfl ?_
    refine r_aload_n dX6_grows_46 rfl rfl ?_
    refine g_getI dX6_grows_47 fl_RX6_202 fk_6_26 (cl_true_0) ?_
    refine g_icmp_ge (tgt := 248) dX6_grows_50 rfl hf (fun _ hf => ?_) (fun _ hf => ?_)
    · refine r_iload_n dX6_grows_248 rfl rfl ?_
      exact r_iret dX6_grows_249 rfl (ret_I hf)
    · refine r_aload_n dX6_grows_53 rfl rfl ?_
      refine g_getA dX6_grows_54 fl_RX6_77 fk_6_29 rfl (cl_true_0) ?_
      refine r_iload_n dX6_grows_57 rfl rfl ?_
      refine g_iald dX6_grows_58 aK_true_0_30 aL_true_0_30 hf (fun x_1 hf => ?_)
      refine r_istore (ls2 := [some (vR 0 0), none, some (vI v2), some (vI v3), some (vI x_1), none, none]) dX6_grows_59 rfl rfl (Nat.le_of_ble_eq_true rfl) ?_
      refine r_iload dX6_grows_61 rfl ?_
      obtain ⟨x_3, w_2, hc, hf⟩ := cl_some hf
      refine g_cS (st := []) KX6_isPrefix [vI x_1] dX6_grows_63 e_RX6_182 mok_X6_isPrefix mw_X6_isPrefix ⟨Nat.le_of_ble_eq_true rfl, Nat.le_of_ble_eq_true rfl⟩ (met_X6_isPrefix hc) rfl (Nat.le_of_ble_eq_true rfl) ?_
      clear hc
      refine g_if_ne (tgt := 77) dX6_grows_66 rfl hf (fun _ hf => ?_) (fun _ hf => ?_)
      · refine r_mask (bs := [true, false, false, true, true, false, false]) ?_
        exact ok_mX6_grows_77 (fun v2 v3 w hf => ih v2 v3 w hf) hf
      · refine r_iload dX6_grows_69 rfl ?_
        obtain ⟨x_5, w_4, hc, hf⟩ := cl_some hf
        refine g_cS (st := []) KX6_isJoin [vI x_1] dX6_grows_71 e_RX6_192 mok_X6_isJoin mw_X6_isJoin ⟨Nat.le_of_ble_eq_true rfl, Nat.le_of_ble_eq_true rfl⟩ (met_X6_isJoin hc) rfl (Nat.le_of_ble_eq_true rfl) ?_
        clear hc
        refine g_if_eq (tgt := 91) dX6_grows_74 rfl hf (fun _ hf => ?_) (fun _ hf => ?_)
        · refine r_iconst dX6_grows_91 ic_0 ?_
          refine r_mask (bs := [true, false, false, true, true, false, false]) ?_
          exact ok_mX6_grows_92 (fun v2 v3 w hf => ih v2 v3 w hf) hf
        · refine r_mask (bs := [true, false, false, true, true, false, false]) ?_
          exact ok_mX6_grows_77 (fun v2 v3 w hf => ih v2 v3 w hf) hf
set_option maxRecDepth 100000 in
set_option maxHeartbeats 4000000 in
theorem ok_mX6_grows {zv : Int32} {zw : AW} {v1 : Int32} {w : AW} (hf : mX6_grows v1 w = some (zv, zw)) : RR true KX6_grows (some (vI zv), zw) 0 [some (vR 0 0), some (vI v1), none, none, none, none, none] [] w := by
  refine r_aload_n dX6_grows_0 rfl rfl ?_
  refine r_iconst dX6_grows_1 ic_0 ?_
  refine g_putI dX6_grows_2 fl_RX6_132 fk_6_0 (cl_true_0) hf (fun w_1 hf => ?_)
  refine r_iload_n dX6_grows_5 rfl rfl ?_
  obtain ⟨x_3, w_2, hc, hf⟩ := cl_some hf
  refine g_cS (st := []) KX6_isSentence [vI v1] dX6_grows_6 e_RX6_195 mok_X6_isSentence mw_X6_isSentence ⟨Nat.le_of_ble_eq_true rfl, Nat.le_of_ble_eq_true rfl⟩ (met_X6_isSentence hc) rfl (Nat.le_of_ble_eq_true rfl) ?_
  clear hc
  refine g_if_ne (tgt := 14) dX6_grows_9 rfl hf (fun _ hf => ?_) (fun _ hf => ?_)
  · refine r_aload_n dX6_grows_14 rfl rfl ?_
    refine r_iload_n dX6_grows_15 rfl rfl ?_
    obtain ⟨x_5, w_4, hc, hf⟩ := cl_some hf
    refine g_cVv (st := []) KX6_works [vI v1] dX6_grows_16 e_RX6_215 (cl_true_0) (rfl : vwCl[6]? = _) rfl mok_X6_works mw_X6_works ⟨Nat.le_of_ble_eq_true rfl, Nat.le_of_ble_eq_true rfl⟩ (met_X6_works hc) rfl (Nat.le_of_ble_eq_true rfl) ?_
    clear hc
    refine r_aload_n dX6_grows_19 rfl rfl ?_
    obtain ⟨x_7, w_6, hc, hf⟩ := cl_some hf
    refine g_cV (st := []) KX6_isPlain [] dX6_grows_20 e_RX6_221 (cl_true_0) (rfl : vwCl[6]? = _) rfl mok_X6_isPlain mw_X6_isPlain ⟨Nat.le_of_ble_eq_true rfl, Nat.le_of_ble_eq_true rfl⟩ (met_X6_isPlain hc) rfl (Nat.le_of_ble_eq_true rfl) ?_
    clear hc
    refine g_if_eq (tgt := 33) dX6_grows_23 rfl hf (fun _ hf => ?_) (fun _ hf => ?_)
    · refine r_bipush dX6_grows_33 (bp_m2) ?_
      exact r_iret dX6_grows_35 rfl (ret_I hf)
    · refine r_aload_n dX6_grows_26 rfl rfl ?_
      obtain ⟨x_9, w_8, hc, hf⟩ := cl_some hf
      refine g_cV (st := []) KX6_isGrowing [] dX6_grows_27 e_RX6_293 (cl_true_0) (rfl : vwCl[6]? = _) rfl mok_X6_isGrowing mw_X6_isGrowing ⟨Nat.le_of_ble_eq_true rfl, Nat.le_of_ble_eq_true rfl⟩ (met_X6_isGrowing hc) rfl (Nat.le_of_ble_eq_true rfl) ?_
      clear hc
      refine g_if_ne (tgt := 36) dX6_grows_30 rfl hf (fun _ hf => ?_) (fun _ hf => ?_)
      · refine r_aload_n dX6_grows_36 rfl rfl ?_
        refine r_iconst dX6_grows_37 ic_2 ?_
        obtain ⟨x_11, w_10, hc, hf⟩ := cl_some hf
        refine g_cVv (st := []) KX6_looks [vI 2] dX6_grows_38 e_RX6_234 (cl_true_0) (rfl : vwCl[6]? = _) rfl mok_X6_looks mw_X6_looks ⟨Nat.le_of_ble_eq_true rfl, Nat.le_of_ble_eq_true rfl⟩ (met_X6_looks hc) rfl (Nat.le_of_ble_eq_true rfl) ?_
        clear hc
        refine r_iconst dX6_grows_41 ic_0 ?_
        refine r_istore_n (ls2 := [some (vR 0 0), some (vI v1), some (vI 0), none, none, none, none]) dX6_grows_42 rfl rfl rfl (Nat.le_of_ble_eq_true rfl) ?_
        refine r_iconst dX6_grows_43 ic_0 ?_
        refine r_istore_n (ls2 := [some (vR 0 0), some (vI v1), some (vI 0), some (vI 0), none, none, none]) dX6_grows_44 rfl rfl rfl (Nat.le_of_ble_eq_true rfl) ?_
        refine r_mask (bs := [true, false, true, true, false, false, false]) ?_
        exact ok_mX6_grows_45 FU _ _ _ hf
      · refine r_bipush dX6_grows_33 (bp_m2) ?_
        exact r_iret dX6_grows_35 rfl (ret_I hf)
  · refine r_iconst dX6_grows_12 ic_m1 ?_
    exact r_iret dX6_grows_13 rfl (ret_I hf)
theorem met_X6_grows {zv : Int32} {zw : AW} {v1 : Int32} {w : AW} (hf : mX6_grows v1 w = some (zv, zw)) : am_Met true KX6_grows [vR 0 0, vI v1] w (some (vI zv), zw) := am_met mok_X6_grows.1 (Nat.le_of_ble_eq_true rfl) (ok_mX6_grows  hf)

/-! SeenWorldsModel.isFit(I)Z -/
noncomputable def mX6_isFit_135 (k9 : Int32 → Int32 → AW → Option (Int32 × AW)) (v1 : Int32) (v3 : Int32) (s0 : Int32) (s1 : Int32) (w : AW) : Option (Int32 × AW) :=
  nm (s1 &&& s0) fun v2_1 =>
  nm (v3 + 1) fun v3_2 =>
  k9 v2_1 v3_2 w
noncomputable def mX6_isFit_130 (k9 : Int32 → Int32 → AW → Option (Int32 × AW)) (v1 : Int32) (v3 : Int32) (s0 : Int32) (w : AW) : Option (Int32 × AW) :=
  mX6_isFit_135 k9 v1 v3 1 s0 w
noncomputable def mX6_isFit_79 (k9 : Int32 → Int32 → AW → Option (Int32 × AW)) (v1 : Int32) (v3 : Int32) (v4 : Int32) (v5 : Int32) (s0 : Int32) (s1 : Int32) (w : AW) : Option (Int32 × AW) :=
  nm (s1 &&& s0) fun v2_1 =>
  if v5 = 0 then
    mX6_isFit_130 k9 v1 v3 v2_1 w
  else
    rd 90 (w.1 0 30) v4 fun x_2 =>
    if x_2 ≠ 62 then
      mX6_isFit_130 k9 v1 v3 v2_1 w
    else
      rd 90 (w.1 0 31) v4 fun x_3 =>
      rd 90 (w.1 0 38) x_3 fun x_4 =>
      if x_4 = 0 then
        mX6_isFit_130 k9 v1 v3 v2_1 w
      else
        rd 90 (w.1 0 32) v4 fun x_5 =>
        rd 90 (w.1 0 38) x_5 fun x_6 =>
        if x_6 ≠ 1 then
          mX6_isFit_135 k9 v1 v3 0 v2_1 w
        else
          mX6_isFit_130 k9 v1 v3 v2_1 w
noncomputable def mX6_isFit_74 (k9 : Int32 → Int32 → AW → Option (Int32 × AW)) (v1 : Int32) (v3 : Int32) (v4 : Int32) (v5 : Int32) (s0 : Int32) (w : AW) : Option (Int32 × AW) :=
  mX6_isFit_79 k9 v1 v3 v4 v5 1 s0 w
noncomputable def mX6_isFit_39 (k9 : Int32 → Int32 → AW → Option (Int32 × AW)) (v1 : Int32) (v2 : Int32) (v3 : Int32) (v4 : Int32) (s0 : Int32) (w : AW) : Option (Int32 × AW) :=
  if s0 = 0 then
    mX6_isFit_74 k9 v1 v3 v4 s0 v2 w
  else
    rd 90 (w.1 0 30) v4 fun x_1 =>
    if x_1 ≠ 33 then
      mX6_isFit_74 k9 v1 v3 v4 s0 v2 w
    else
      rd 90 (w.1 0 31) v4 fun x_2 =>
      rd 90 (w.1 0 38) x_2 fun x_3 =>
      if x_3 ≠ 0 then
        mX6_isFit_79 k9 v1 v3 v4 s0 0 v2 w
      else
        mX6_isFit_74 k9 v1 v3 v4 s0 v2 w
noncomputable def mX6_isFit_9 (v1 : Int32) : Nat → Int32 → Int32 → AW → Option (Int32 × AW)
  | 0, _, _, _ => none
  | n + 1, v2, v3, w =>
    if (w.1 0 0 35) ≤ v3 then
      zr v2 w
    else
      rd 10 (w.1 0 37) v3 fun x_1 =>
      if ((v1 >>> (v3 &&& 31)) &&& 1) ≠ 1 then
        mX6_isFit_39 (mX6_isFit_9 v1 n) v1 v2 v3 x_1 0 w
      else
        mX6_isFit_39 (mX6_isFit_9 v1 n) v1 v2 v3 x_1 1 w
noncomputable def mX6_isFit (v1 : Int32) (w : AW) : Option (Int32 × AW) :=
  cl (mX6_judges v1 w) fun x_2 w_1 =>
  mX6_isFit_9 v1 FU 1 0 w_1
set_option maxRecDepth 100000 in
set_option maxHeartbeats 4000000 in
theorem ok_mX6_isFit_135 {zv : Int32} {zw : AW} {k9 : Int32 → Int32 → AW → Option (Int32 × AW)} {v1 : Int32} {v3 : Int32} {s0 : Int32} {s1 : Int32} (hk9 : ∀ (v2 : Int32) (v3 : Int32)  w, k9 v2 v3 w = some (zv, zw) → RR true KX6_isFit (some (vI zv), zw) 9 [some (vR 0 0), some (vI v1), some (vI v2), some (vI v3), none, none] [] w) {w : AW} (hf : mX6_isFit_135 k9 v1 v3 s0 s1 w = some (zv, zw)) : RR true KX6_isFit (some (vI zv), zw) 135 [some (vR 0 0), some (vI v1), none, some (vI v3), none, none] [vI s0, vI s1] w := by
  refine r_iand dX6_isFit_135 ?_
  refine g_istore_n (fun v2_1 => [some (vR 0 0), some (vI v1), some (vI v2_1), some (vI v3), none, none]) dX6_isFit_136 rfl rfl (fun _ => rfl) (Nat.le_of_ble_eq_true rfl) hf (fun v2_1 hf => ?_)
  refine g_iinc (fun v3_2 => [some (vR 0 0), some (vI v1), some (vI v2_1), some (vI v3_2), none, none]) dX6_isFit_137 ic_1 rfl rfl (fun _ => rfl) (Nat.le_of_ble_eq_true rfl) hf (fun v3_2 hf => ?_)
  refine r_goto (tgt := 9) dX6_isFit_140 rfl ?_
  exact hk9 _ _ _ hf
set_option maxRecDepth 100000 in
set_option maxHeartbeats 4000000 in
theorem ok_mX6_isFit_130 {zv : Int32} {zw : AW} {k9 : Int32 → Int32 → AW → Option (Int32 × AW)} {v1 : Int32} {v3 : Int32} {s0 : Int32} (hk9 : ∀ (v2 : Int32) (v3 : Int32)  w, k9 v2 v3 w = some (zv, zw) → RR true KX6_isFit (some (vI zv), zw) 9 [some (vR 0 0), some (vI v1), some (vI v2), some (vI v3), none, none] [] w) {w : AW} (hf : mX6_isFit_130 k9 v1 v3 s0 w = some (zv, zw)) : RR true KX6_isFit (some (vI zv), zw) 130 [some (vR 0 0), some (vI v1), none, some (vI v3), none, none] [vI s0] w := by
  refine r_iconst dX6_isFit_130 ic_1 ?_
  refine r_goto (tgt := 135) dX6_isFit_131 rfl ?_
  exact ok_mX6_isFit_135 hk9 hf
set_option maxRecDepth 100000 in
set_option maxHeartbeats 4000000 in
theorem ok_mX6_isFit_79 {zv : Int32} {zw : AW} {k9 : Int32 → Int32 → AW → Option (Int32 × AW)} {v1 : Int32} {v3 : Int32} {v4 : Int32} {v5 : Int32} {s0 : Int32} {s1 : Int32} (hk9 : ∀ (v2 : Int32) (v3 : Int32)  w, k9 v2 v3 w = some (zv, zw) → RR true KX6_isFit (some (vI zv), zw) 9 [some (vR 0 0), some (vI v1), some (vI v2), some (vI v3), none, none] [] w) {w : AW} (hf : mX6_isFit_79 k9 v1 v3 v4 v5 s0 s1 w = some (zv, zw)) : RR true KX6_isFit (some (vI zv), zw) 79 [some (vR 0 0), some (vI v1), none, some (vI v3), some (vI v4), some (vI v5)] [vI s0, vI s1] w := by
  refine r_iand dX6_isFit_79 ?_
  refine g_istore_n (fun v2_1 => [some (vR 0 0), some (vI v1), some (vI v2_1), some (vI v3), some (vI v4), some (vI v5)]) dX6_isFit_80 rfl rfl (fun _ => rfl) (Nat.le_of_ble_eq_true rfl) hf (fun v2_1 hf => ?_)
  refine r_iload_n dX6_isFit_81 rfl rfl ?_
  refine r_iload dX6_isFit_82 rfl ?_
  refine g_if_eq (tgt := 130) dX6_isFit_84 rfl hf (fun _ hf => ?_) (fun _ hf => ?_)
  · refine r_mask (bs := [true, true, false, true, false, false]) ?_
    exact ok_mX6_isFit_130 hk9 hf
  · refine r_aload_n dX6_isFit_87 rfl rfl ?_
    refine g_getA dX6_isFit_88 fl_RX6_77 fk_6_29 rfl (cl_true_0) ?_
    refine r_iload dX6_isFit_91 rfl ?_
    refine g_iald dX6_isFit_93 aK_true_0_30 aL_true_0_30 hf (fun x_2 hf => ?_)
    refine r_bipush dX6_isFit_94 (bp_62) ?_
    refine g_icmp_ne (tgt := 130) dX6_isFit_96 rfl hf (fun _ hf => ?_) (fun _ hf => ?_)
    · refine r_mask (bs := [true, true, false, true, false, false]) ?_
      exact ok_mX6_isFit_130 hk9 hf
    · refine r_aload_n dX6_isFit_99 rfl rfl ?_
      refine g_getA dX6_isFit_100 fl_RX6_98 fk_6_37 rfl (cl_true_0) ?_
      refine r_aload_n dX6_isFit_103 rfl rfl ?_
      refine g_getA dX6_isFit_104 fl_RX6_80 fk_6_30 rfl (cl_true_0) ?_
      refine r_iload dX6_isFit_107 rfl ?_
      refine g_iald dX6_isFit_109 aK_true_0_31 aL_true_0_31 hf (fun x_3 hf => ?_)
      refine g_iald dX6_isFit_110 aK_true_0_38 aL_true_0_38 hf (fun x_4 hf => ?_)
      refine g_if_eq (tgt := 130) dX6_isFit_111 rfl hf (fun _ hf => ?_) (fun _ hf => ?_)
      · refine r_mask (bs := [true, true, false, true, false, false]) ?_
        exact ok_mX6_isFit_130 hk9 hf
      · refine r_aload_n dX6_isFit_114 rfl rfl ?_
        refine g_getA dX6_isFit_115 fl_RX6_98 fk_6_37 rfl (cl_true_0) ?_
        refine r_aload_n dX6_isFit_118 rfl rfl ?_
        refine g_getA dX6_isFit_119 fl_RX6_83 fk_6_31 rfl (cl_true_0) ?_
        refine r_iload dX6_isFit_122 rfl ?_
        refine g_iald dX6_isFit_124 aK_true_0_32 aL_true_0_32 hf (fun x_5 hf => ?_)
        refine g_iald dX6_isFit_125 aK_true_0_38 aL_true_0_38 hf (fun x_6 hf => ?_)
        refine r_iconst dX6_isFit_126 ic_1 ?_
        refine g_icmp_ne (tgt := 134) dX6_isFit_127 rfl hf (fun _ hf => ?_) (fun _ hf => ?_)
        · refine r_iconst dX6_isFit_134 ic_0 ?_
          refine r_mask (bs := [true, true, false, true, false, false]) ?_
          exact ok_mX6_isFit_135 hk9 hf
        · refine r_mask (bs := [true, true, false, true, false, false]) ?_
          exact ok_mX6_isFit_130 hk9 hf
set_option maxRecDepth 100000 in
set_option maxHeartbeats 4000000 in
theorem ok_mX6_isFit_74 {zv : Int32} {zw : AW} {k9 : Int32 → Int32 → AW → Option (Int32 × AW)} {v1 : Int32} {v3 : Int32} {v4 : Int32} {v5 : Int32} {s0 : Int32} (hk9 : ∀ (v2 : Int32) (v3 : Int32)  w, k9 v2 v3 w = some (zv, zw) → RR true KX6_isFit (some (vI zv), zw) 9 [some (vR 0 0), some (vI v1), some (vI v2), some (vI v3), none, none] [] w) {w : AW} (hf : mX6_isFit_74 k9 v1 v3 v4 v5 s0 w = some (zv, zw)) : RR true KX6_isFit (some (vI zv), zw) 74 [some (vR 0 0), some (vI v1), none, some (vI v3), some (vI v4), some (vI v5)] [vI s0] w := by
  refine r_iconst dX6_isFit_74 ic_1 ?_
  refine r_goto (tgt := 79) dX6_isFit_75 rfl ?_
  exact ok_mX6_isFit_79 hk9 hf
set_option maxRecDepth 100000 in
set_option maxHeartbeats 4000000 in
theorem ok_mX6_isFit_39 {zv : Int32} {zw : AW} {k9 : Int32 → Int32 → AW → Option (Int32 × AW)} {v1 : Int32} {v2 : Int32} {v3 : Int32} {v4 : Int32} {s0 : Int32} (hk9 : ∀ (v2 : Int32) (v3 : Int32)  w, k9 v2 v3 w = some (zv, zw) → RR true KX6_isFit (some (vI zv), zw) 9 [some (vR 0 0), some (vI v1), some (vI v2), some (vI v3), none, none] [] w) {w : AW} (hf : mX6_isFit_39 k9 v1 v2 v3 v4 s0 w = some (zv, zw)) : RR true KX6_isFit (some (vI zv), zw) 39 [some (vR 0 0), some (vI v1), some (vI v2), some (vI v3), some (vI v4), none] [vI s0] w := by
  refine r_istore (ls2 := [some (vR 0 0), some (vI v1), some (vI v2), some (vI v3), some (vI v4), some (vI s0)]) dX6_isFit_39 rfl rfl (Nat.le_of_ble_eq_true rfl) ?_
  refine r_iload_n dX6_isFit_41 rfl rfl ?_
  refine r_iload dX6_isFit_42 rfl ?_
  refine g_if_eq (tgt := 74) dX6_isFit_44 rfl hf (fun _ hf => ?_) (fun _ hf => ?_)
  · refine r_mask (bs := [true, true, false, true, true, true]) ?_
    exact ok_mX6_isFit_74 hk9 hf
  · refine r_aload_n dX6_isFit_47 rfl rfl ?_
    refine g_getA dX6_isFit_48 fl_RX6_77 fk_6_29 rfl (cl_true_0) ?_
    refine r_iload dX6_isFit_51 rfl ?_
    refine g_iald dX6_isFit_53 aK_true_0_30 aL_true_0_30 hf (fun x_1 hf => ?_)
    refine r_bipush dX6_isFit_54 (bp_33) ?_
    refine g_icmp_ne (tgt := 74) dX6_isFit_56 rfl hf (fun _ hf => ?_) (fun _ hf => ?_)
    · refine r_mask (bs := [true, true, false, true, true, true]) ?_
      exact ok_mX6_isFit_74 hk9 hf
    · refine r_aload_n dX6_isFit_59 rfl rfl ?_
      refine g_getA dX6_isFit_60 fl_RX6_98 fk_6_37 rfl (cl_true_0) ?_
      refine r_aload_n dX6_isFit_63 rfl rfl ?_
      refine g_getA dX6_isFit_64 fl_RX6_80 fk_6_30 rfl (cl_true_0) ?_
      refine r_iload dX6_isFit_67 rfl ?_
      refine g_iald dX6_isFit_69 aK_true_0_31 aL_true_0_31 hf (fun x_2 hf => ?_)
      refine g_iald dX6_isFit_70 aK_true_0_38 aL_true_0_38 hf (fun x_3 hf => ?_)
      refine g_if_ne (tgt := 78) dX6_isFit_71 rfl hf (fun _ hf => ?_) (fun _ hf => ?_)
      · refine r_iconst dX6_isFit_78 ic_0 ?_
        refine r_mask (bs := [true, true, false, true, true, true]) ?_
        exact ok_mX6_isFit_79 hk9 hf
      · refine r_mask (bs := [true, true, false, true, true, true]) ?_
        exact ok_mX6_isFit_74 hk9 hf
set_option maxRecDepth 100000 in
set_option maxHeartbeats 4000000 in
theorem ok_mX6_isFit_9 {zv : Int32} {zw : AW} {v1 : Int32} : ∀ (n : Nat) (v2 : Int32) (v3 : Int32) (w : AW), mX6_isFit_9 v1 n v2 v3 w = some (zv, zw) → RR true KX6_isFit (some (vI zv), zw) 9 [some (vR 0 0), some (vI v1), some (vI v2), some (vI v3), none, none] [] w := by
  intro n
  induction n with
  | zero => intro v2 v3 w hf; cases hf
  | succ n ih =>
    intro v2 v3 w hf
    refine r_iload_n dX6_isFit_9 rfl rfl ?_
    refine r_aload_n dX6_isFit_10 rfl rfl ?_
    refine g_getI dX6_isFit_11 fl_RX6_240 fk_6_35 (cl_true_0) ?_
    refine g_icmp_ge (tgt := 143) dX6_isFit_14 rfl hf (fun _ hf => ?_) (fun _ hf => ?_)
    · refine r_iload_n dX6_isFit_143 rfl rfl ?_
      exact g_zret dX6_isFit_144 rfl hf
    · refine r_aload_n dX6_isFit_17 rfl rfl ?_
      refine g_getA dX6_isFit_18 fl_RX6_95 fk_6_36 rfl (cl_true_0) ?_
      refine r_iload_n dX6_isFit_21 rfl rfl ?_
      refine g_iald dX6_isFit_22 aK_true_0_37 aL_true_0_37 hf (fun x_1 hf => ?_)
      refine r_istore (ls2 := [some (vR 0 0), some (vI v1), some (vI v2), some (vI v3), some (vI x_1), none]) dX6_isFit_23 rfl rfl (Nat.le_of_ble_eq_true rfl) ?_
      refine r_iload_n dX6_isFit_25 rfl rfl ?_
      refine r_iload_n dX6_isFit_26 rfl rfl ?_
      refine r_ishr dX6_isFit_27 ?_
      refine r_iconst dX6_isFit_28 ic_1 ?_
      refine r_iand dX6_isFit_29 ?_
      refine r_iconst dX6_isFit_30 ic_1 ?_
      refine g_icmp_ne (tgt := 38) dX6_isFit_31 rfl hf (fun _ hf => ?_) (fun _ hf => ?_)
      · refine r_iconst dX6_isFit_38 ic_0 ?_
        exact ok_mX6_isFit_39 (fun v2 v3 w hf => ih v2 v3 w hf) hf
      · refine r_iconst dX6_isFit_34 ic_1 ?_
        refine r_goto (tgt := 39) dX6_isFit_35 rfl ?_
        exact ok_mX6_isFit_39 (fun v2 v3 w hf => ih v2 v3 w hf) hf
set_option maxRecDepth 100000 in
set_option maxHeartbeats 4000000 in
theorem ok_mX6_isFit {zv : Int32} {zw : AW} {v1 : Int32} {w : AW} (hf : mX6_isFit v1 w = some (zv, zw)) : RR true KX6_isFit (some (vI zv), zw) 0 [some (vR 0 0), some (vI v1), none, none, none, none] [] w := by
  refine r_aload_n dX6_isFit_0 rfl rfl ?_
  refine r_iload_n dX6_isFit_1 rfl rfl ?_
  obtain ⟨x_2, w_1, hc, hf⟩ := cl_some hf
  refine g_cVv (st := []) KX6_judges [vI v1] dX6_isFit_2 e_RX6_249 (cl_true_0) (rfl : vwCl[6]? = _) rfl mok_X6_judges mw_X6_judges ⟨Nat.le_of_ble_eq_true rfl, Nat.le_of_ble_eq_true rfl⟩ (met_X6_judges hc) rfl (Nat.le_of_ble_eq_true rfl) ?_
  clear hc
  refine r_iconst dX6_isFit_5 ic_1 ?_
  refine r_istore_n (ls2 := [some (vR 0 0), some (vI v1), some (vI 1), none, none, none]) dX6_isFit_6 rfl rfl rfl (Nat.le_of_ble_eq_true rfl) ?_
  refine r_iconst dX6_isFit_7 ic_0 ?_
  refine r_istore_n (ls2 := [some (vR 0 0), some (vI v1), some (vI 1), some (vI 0), none, none]) dX6_isFit_8 rfl rfl rfl (Nat.le_of_ble_eq_true rfl) ?_
  exact ok_mX6_isFit_9 FU _ _ _ hf
theorem met_X6_isFit {zv : Int32} {zw : AW} {v1 : Int32} {w : AW} (hf : mX6_isFit v1 w = some (zv, zw)) : am_Met true KX6_isFit [vR 0 0, vI v1] w (some (vI zv), zw) := am_met mok_X6_isFit.1 (Nat.le_of_ble_eq_true rfl) (ok_mX6_isFit  hf)

/-! SeenWorldsModel.breaks(I)I -/
noncomputable def mX6_breaks_101 (k9 : Int32 → Int32 → AW → Option (Int32 × AW)) (v3 : Int32) (s0 : Int32) (s1 : Int32) (w : AW) : Option (Int32 × AW) :=
  nm (s1 ||| s0) fun v2_1 =>
  nm (v3 + 1) fun v3_2 =>
  k9 v2_1 v3_2 w
noncomputable def mX6_breaks_86 (k9 : Int32 → Int32 → AW → Option (Int32 × AW)) (v2 : Int32) (v3 : Int32) (s0 : Int32) (w : AW) : Option (Int32 × AW) :=
  if s0 = 0 then
    mX6_breaks_101 k9 v3 0 v2 w
  else
    mX6_breaks_101 k9 v3 (1 <<< (v3 &&& 31)) v2 w
noncomputable def mX6_breaks_81 (k9 : Int32 → Int32 → AW → Option (Int32 × AW)) (v2 : Int32) (v3 : Int32) (w : AW) : Option (Int32 × AW) :=
  mX6_breaks_86 k9 v2 v3 1 w
noncomputable def mX6_breaks_85 (k9 : Int32 → Int32 → AW → Option (Int32 × AW)) (v2 : Int32) (v3 : Int32) (w : AW) : Option (Int32 × AW) :=
  mX6_breaks_86 k9 v2 v3 0 w
noncomputable def mX6_breaks_9 : Nat → Int32 → Int32 → AW → Option (Int32 × AW)
  | 0, _, _, _ => none
  | n + 1, v2, v3, w =>
    if (w.1 0 0 35) ≤ v3 then
      some (v2, w)
    else
      rd 10 (w.1 0 37) v3 fun x_1 =>
      rd 90 (w.1 0 30) x_1 fun x_2 =>
      cl (mX6_isAtom x_2 w) fun x_4 w_3 =>
      if x_4 ≠ 0 then
        mX6_breaks_85 (mX6_breaks_9 n) v2 v3 w_3
      else
        rd 90 (w_3.1 0 31) x_1 fun x_5 =>
        rd 90 (w_3.1 0 38) x_5 fun x_6 =>
        if x_6 ≠ 1 then
          mX6_breaks_85 (mX6_breaks_9 n) v2 v3 w_3
        else
          rd 90 (w_3.1 0 30) x_1 fun x_7 =>
          if x_7 = 33 then
            mX6_breaks_81 (mX6_breaks_9 n) v2 v3 w_3
          else
            rd 90 (w_3.1 0 32) x_1 fun x_8 =>
            rd 90 (w_3.1 0 38) x_8 fun x_9 =>
            if x_9 ≠ 0 then
              mX6_breaks_85 (mX6_breaks_9 n) v2 v3 w_3
            else
              mX6_breaks_81 (mX6_breaks_9 n) v2 v3 w_3
noncomputable def mX6_breaks (v1 : Int32) (w : AW) : Option (Int32 × AW) :=
  cl (mX6_judges v1 w) fun x_2 w_1 =>
  mX6_breaks_9 FU 0 0 w_1
set_option maxRecDepth 100000 in
set_option maxHeartbeats 4000000 in
theorem ok_mX6_breaks_101 {zv : Int32} {zw : AW} {k9 : Int32 → Int32 → AW → Option (Int32 × AW)} {v3 : Int32} {s0 : Int32} {s1 : Int32} (hk9 : ∀ (v2 : Int32) (v3 : Int32)  w, k9 v2 v3 w = some (zv, zw) → RR true KX6_breaks (some (vI zv), zw) 9 [some (vR 0 0), none, some (vI v2), some (vI v3), none, none] [] w) {w : AW} (hf : mX6_breaks_101 k9 v3 s0 s1 w = some (zv, zw)) : RR true KX6_breaks (some (vI zv), zw) 101 [some (vR 0 0), none, none, some (vI v3), none, none] [vI s0, vI s1] w := by
  refine r_ior dX6_breaks_101 ?_
  refine g_istore_n (fun v2_1 => [some (vR 0 0), none, some (vI v2_1), some (vI v3), none, none]) dX6_breaks_102 rfl rfl (fun _ => rfl) (Nat.le_of_ble_eq_true rfl) hf (fun v2_1 hf => ?_)
  refine g_iinc (fun v3_2 => [some (vR 0 0), none, some (vI v2_1), some (vI v3_2), none, none]) dX6_breaks_103 ic_1 rfl rfl (fun _ => rfl) (Nat.le_of_ble_eq_true rfl) hf (fun v3_2 hf => ?_)
  refine r_goto (tgt := 9) dX6_breaks_106 rfl ?_
  exact hk9 _ _ _ hf
set_option maxRecDepth 100000 in
set_option maxHeartbeats 4000000 in
theorem ok_mX6_breaks_86 {zv : Int32} {zw : AW} {k9 : Int32 → Int32 → AW → Option (Int32 × AW)} {v2 : Int32} {v3 : Int32} {s0 : Int32} (hk9 : ∀ (v2 : Int32) (v3 : Int32)  w, k9 v2 v3 w = some (zv, zw) → RR true KX6_breaks (some (vI zv), zw) 9 [some (vR 0 0), none, some (vI v2), some (vI v3), none, none] [] w) {w : AW} (hf : mX6_breaks_86 k9 v2 v3 s0 w = some (zv, zw)) : RR true KX6_breaks (some (vI zv), zw) 86 [some (vR 0 0), none, some (vI v2), some (vI v3), none, none] [vI s0] w := by
  refine r_istore (ls2 := [some (vR 0 0), none, some (vI v2), some (vI v3), none, some (vI s0)]) dX6_breaks_86 rfl rfl (Nat.le_of_ble_eq_true rfl) ?_
  refine r_iload_n dX6_breaks_88 rfl rfl ?_
  refine r_iload dX6_breaks_89 rfl ?_
  refine g_if_eq (tgt := 100) dX6_breaks_91 rfl hf (fun _ hf => ?_) (fun _ hf => ?_)
  · refine r_iconst dX6_breaks_100 ic_0 ?_
    refine r_mask (bs := [true, false, false, true, false, false]) ?_
    exact ok_mX6_breaks_101 hk9 hf
  · refine r_iconst dX6_breaks_94 ic_1 ?_
    refine r_iload_n dX6_breaks_95 rfl rfl ?_
    refine r_ishl dX6_breaks_96 ?_
    refine r_goto (tgt := 101) dX6_breaks_97 rfl ?_
    refine r_mask (bs := [true, false, false, true, false, false]) ?_
    exact ok_mX6_breaks_101 hk9 hf
set_option maxRecDepth 100000 in
set_option maxHeartbeats 4000000 in
theorem ok_mX6_breaks_81 {zv : Int32} {zw : AW} {k9 : Int32 → Int32 → AW → Option (Int32 × AW)} {v2 : Int32} {v3 : Int32} (hk9 : ∀ (v2 : Int32) (v3 : Int32)  w, k9 v2 v3 w = some (zv, zw) → RR true KX6_breaks (some (vI zv), zw) 9 [some (vR 0 0), none, some (vI v2), some (vI v3), none, none] [] w) {w : AW} (hf : mX6_breaks_81 k9 v2 v3 w = some (zv, zw)) : RR true KX6_breaks (some (vI zv), zw) 81 [some (vR 0 0), none, some (vI v2), some (vI v3), none, none] [] w := by
  refine r_iconst dX6_breaks_81 ic_1 ?_
  refine r_goto (tgt := 86) dX6_breaks_82 rfl ?_
  exact ok_mX6_breaks_86 hk9 hf
set_option maxRecDepth 100000 in
set_option maxHeartbeats 4000000 in
theorem ok_mX6_breaks_85 {zv : Int32} {zw : AW} {k9 : Int32 → Int32 → AW → Option (Int32 × AW)} {v2 : Int32} {v3 : Int32} (hk9 : ∀ (v2 : Int32) (v3 : Int32)  w, k9 v2 v3 w = some (zv, zw) → RR true KX6_breaks (some (vI zv), zw) 9 [some (vR 0 0), none, some (vI v2), some (vI v3), none, none] [] w) {w : AW} (hf : mX6_breaks_85 k9 v2 v3 w = some (zv, zw)) : RR true KX6_breaks (some (vI zv), zw) 85 [some (vR 0 0), none, some (vI v2), some (vI v3), none, none] [] w := by
  refine r_iconst dX6_breaks_85 ic_0 ?_
  exact ok_mX6_breaks_86 hk9 hf
set_option maxRecDepth 100000 in
set_option maxHeartbeats 4000000 in
theorem ok_mX6_breaks_9 {zv : Int32} {zw : AW} : ∀ (n : Nat) (v2 : Int32) (v3 : Int32) (w : AW), mX6_breaks_9 n v2 v3 w = some (zv, zw) → RR true KX6_breaks (some (vI zv), zw) 9 [some (vR 0 0), none, some (vI v2), some (vI v3), none, none] [] w := by
  intro n
  induction n with
  | zero => intro v2 v3 w hf; cases hf
  | succ n ih =>
    intro v2 v3 w hf
    refine r_iload_n dX6_breaks_9 rfl rfl ?_
    refine r_aload_n dX6_breaks_10 rfl rfl ?_
    refine g_getI dX6_breaks_11 fl_RX6_240 fk_6_35 (cl_true_0) ?_
    refine g_icmp_ge (tgt := 109) dX6_breaks_14 rfl hf (fun _ hf => ?_) (fun _ hf => ?_)
    · refine r_iload_n dX6_breaks_109 rfl rfl ?_
      exact r_iret dX6_breaks_110 rfl (ret_I hf)
    · refine r_aload_n dX6_breaks_17 rfl rfl ?_
      refine g_getA dX6_breaks_18 fl_RX6_95 fk_6_36 rfl (cl_true_0) ?_
      refine r_iload_n dX6_breaks_21 rfl rfl ?_
      refine g_iald dX6_breaks_22 aK_true_0_37 aL_true_0_37 hf (fun x_1 hf => ?_)
      refine r_istore (ls2 := [some (vR 0 0), none, some (vI v2), some (vI v3), some (vI x_1), none]) dX6_breaks_23 rfl rfl (Nat.le_of_ble_eq_true rfl) ?_
      refine r_aload_n dX6_breaks_25 rfl rfl ?_
      refine g_getA dX6_breaks_26 fl_RX6_77 fk_6_29 rfl (cl_true_0) ?_
      refine r_iload dX6_breaks_29 rfl ?_
      refine g_iald dX6_breaks_31 aK_true_0_30 aL_true_0_30 hf (fun x_2 hf => ?_)
      obtain ⟨x_4, w_3, hc, hf⟩ := cl_some hf
      refine g_cS (st := []) KX6_isAtom [vI x_2] dX6_breaks_32 e_RX6_185 mok_X6_isAtom mw_X6_isAtom ⟨Nat.le_of_ble_eq_true rfl, Nat.le_of_ble_eq_true rfl⟩ (met_X6_isAtom hc) rfl (Nat.le_of_ble_eq_true rfl) ?_
      clear hc
      refine g_if_ne (tgt := 85) dX6_breaks_35 rfl hf (fun _ hf => ?_) (fun _ hf => ?_)
      · refine r_mask (bs := [true, false, true, true, false, false]) ?_
        exact ok_mX6_breaks_85 (fun v2 v3 w hf => ih v2 v3 w hf) hf
      · refine r_aload_n dX6_breaks_38 rfl rfl ?_
        refine g_getA dX6_breaks_39 fl_RX6_98 fk_6_37 rfl (cl_true_0) ?_
        refine r_aload_n dX6_breaks_42 rfl rfl ?_
        refine g_getA dX6_breaks_43 fl_RX6_80 fk_6_30 rfl (cl_true_0) ?_
        refine r_iload dX6_breaks_46 rfl ?_
        refine g_iald dX6_breaks_48 aK_true_0_31 aL_true_0_31 hf (fun x_5 hf => ?_)
        refine g_iald dX6_breaks_49 aK_true_0_38 aL_true_0_38 hf (fun x_6 hf => ?_)
        refine r_iconst dX6_breaks_50 ic_1 ?_
        refine g_icmp_ne (tgt := 85) dX6_breaks_51 rfl hf (fun _ hf => ?_) (fun _ hf => ?_)
        · refine r_mask (bs := [true, false, true, true, false, false]) ?_
          exact ok_mX6_breaks_85 (fun v2 v3 w hf => ih v2 v3 w hf) hf
        · refine r_aload_n dX6_breaks_54 rfl rfl ?_
          refine g_getA dX6_breaks_55 fl_RX6_77 fk_6_29 rfl (cl_true_0) ?_
          refine r_iload dX6_breaks_58 rfl ?_
          refine g_iald dX6_breaks_60 aK_true_0_30 aL_true_0_30 hf (fun x_7 hf => ?_)
          refine r_bipush dX6_breaks_61 (bp_33) ?_
          refine g_icmp_eq (tgt := 81) dX6_breaks_63 rfl hf (fun _ hf => ?_) (fun _ hf => ?_)
          · refine r_mask (bs := [true, false, true, true, false, false]) ?_
            exact ok_mX6_breaks_81 (fun v2 v3 w hf => ih v2 v3 w hf) hf
          · refine r_aload_n dX6_breaks_66 rfl rfl ?_
            refine g_getA dX6_breaks_67 fl_RX6_98 fk_6_37 rfl (cl_true_0) ?_
            refine r_aload_n dX6_breaks_70 rfl rfl ?_
            refine g_getA dX6_breaks_71 fl_RX6_83 fk_6_31 rfl (cl_true_0) ?_
            refine r_iload dX6_breaks_74 rfl ?_
            refine g_iald dX6_breaks_76 aK_true_0_32 aL_true_0_32 hf (fun x_8 hf => ?_)
            refine g_iald dX6_breaks_77 aK_true_0_38 aL_true_0_38 hf (fun x_9 hf => ?_)
            refine g_if_ne (tgt := 85) dX6_breaks_78 rfl hf (fun _ hf => ?_) (fun _ hf => ?_)
            · refine r_mask (bs := [true, false, true, true, false, false]) ?_
              exact ok_mX6_breaks_85 (fun v2 v3 w hf => ih v2 v3 w hf) hf
            · refine r_mask (bs := [true, false, true, true, false, false]) ?_
              exact ok_mX6_breaks_81 (fun v2 v3 w hf => ih v2 v3 w hf) hf
set_option maxRecDepth 100000 in
set_option maxHeartbeats 4000000 in
theorem ok_mX6_breaks {zv : Int32} {zw : AW} {v1 : Int32} {w : AW} (hf : mX6_breaks v1 w = some (zv, zw)) : RR true KX6_breaks (some (vI zv), zw) 0 [some (vR 0 0), some (vI v1), none, none, none, none] [] w := by
  refine r_aload_n dX6_breaks_0 rfl rfl ?_
  refine r_iload_n dX6_breaks_1 rfl rfl ?_
  obtain ⟨x_2, w_1, hc, hf⟩ := cl_some hf
  refine g_cVv (st := []) KX6_judges [vI v1] dX6_breaks_2 e_RX6_249 (cl_true_0) (rfl : vwCl[6]? = _) rfl mok_X6_judges mw_X6_judges ⟨Nat.le_of_ble_eq_true rfl, Nat.le_of_ble_eq_true rfl⟩ (met_X6_judges hc) rfl (Nat.le_of_ble_eq_true rfl) ?_
  clear hc
  refine r_iconst dX6_breaks_5 ic_0 ?_
  refine r_istore_n (ls2 := [some (vR 0 0), some (vI v1), some (vI 0), none, none, none]) dX6_breaks_6 rfl rfl rfl (Nat.le_of_ble_eq_true rfl) ?_
  refine r_iconst dX6_breaks_7 ic_0 ?_
  refine r_istore_n (ls2 := [some (vR 0 0), some (vI v1), some (vI 0), some (vI 0), none, none]) dX6_breaks_8 rfl rfl rfl (Nat.le_of_ble_eq_true rfl) ?_
  refine r_mask (bs := [true, false, true, true, false, false]) ?_
  exact ok_mX6_breaks_9 FU _ _ _ hf
theorem met_X6_breaks {zv : Int32} {zw : AW} {v1 : Int32} {w : AW} (hf : mX6_breaks v1 w = some (zv, zw)) : am_Met true KX6_breaks [vR 0 0, vI v1] w (some (vI zv), zw) := am_met mok_X6_breaks.1 (Nat.le_of_ble_eq_true rfl) (ok_mX6_breaks  hf)

/-! SeenWorldsModel.isShown()Z -/
noncomputable def mX6_isShown_37 (k4 : Int32 → Int32 → AW → Option (Int32 × AW)) (v2 : Int32) (s0 : Int32) (s1 : Int32) (w : AW) : Option (Int32 × AW) :=
  nm (s1 ||| s0) fun v1_1 =>
  nm (v2 + 1) fun v2_2 =>
  k4 v1_1 v2_2 w
noncomputable def mX6_isShown_76 (k47 : Int32 → AW → Option (Int32 × AW)) (v1 : Int32) (v2 : Int32) (s0 : Int32) (s1 : Int32) (w : AW) : Option (Int32 × AW) :=
  wr 1024 w 0 42 s1 s0 fun w_1 =>
  cl (mX6_breaks v2 w_1) fun x_3 w_2 =>
  wr 1024 w_2 0 40 v2 x_3 fun w_4 =>
  nm (v2 + 1) fun v2_5 =>
  k47 v2_5 w_4
noncomputable def mX6_isShown_181 (k96 : Int32 → AW → Option (Int32 × AW)) (k104 : Int32 → Int32 → AW → Option (Int32 × AW)) (k124 : Int32 → Int32 → AW → Option (Int32 × AW)) (v1 : Int32) (v2 : Int32) (v3 : Int32) (v5 : Int32) (s0 : Int32) (s1 : Int32) (w : AW) : Option (Int32 × AW) :=
  nm (s1 &&& s0) fun v4_1 =>
  nm (v5 + 1) fun v5_2 =>
  k124 v4_1 v5_2 w
noncomputable def mX6_isShown_180 (k96 : Int32 → AW → Option (Int32 × AW)) (k104 : Int32 → Int32 → AW → Option (Int32 × AW)) (k124 : Int32 → Int32 → AW → Option (Int32 × AW)) (v1 : Int32) (v2 : Int32) (v3 : Int32) (v5 : Int32) (s0 : Int32) (w : AW) : Option (Int32 × AW) :=
  mX6_isShown_181 k96 k104 k124 v1 v2 v3 v5 (-1) s0 w
noncomputable def mX6_isShown_212 (k96 : Int32 → AW → Option (Int32 × AW)) (k104 : Int32 → Int32 → AW → Option (Int32 × AW)) (v1 : Int32) (v2 : Int32) (v3 : Int32) (w : AW) : Option (Int32 × AW) :=
  nm (v3 + 1) fun v3_1 =>
  k104 v2 v3_1 w
noncomputable def mX6_isShown_190 (k96 : Int32 → AW → Option (Int32 × AW)) (k104 : Int32 → Int32 → AW → Option (Int32 × AW)) (v1 : Int32) (v2 : Int32) (v3 : Int32) (v4 : Int32) (w : AW) : Option (Int32 × AW) :=
  cl (mX6_isThere v3 w) fun x_2 w_1 =>
  if x_2 = 0 then
    mX6_isShown_212 k96 k104 v1 v2 v3 w_1
  else
    if v4 = 0 then
      mX6_isShown_212 k96 k104 v1 v2 v3 w_1
    else
      wr 1024 w_1 0 42 v3 1 fun w_3 =>
      mX6_isShown_212 k96 k104 v1 1 v3 w_3
noncomputable def mX6_isShown_124 (k96 : Int32 → AW → Option (Int32 × AW)) (k104 : Int32 → Int32 → AW → Option (Int32 × AW)) (v1 : Int32) (v2 : Int32) (v3 : Int32) : Nat → Int32 → Int32 → AW → Option (Int32 × AW)
  | 0, _, _, _ => none
  | n + 1, v4, v5, w =>
    if (1 <<< ((w.1 0 0 35) &&& 31)) ≤ v5 then
      mX6_isShown_190 k96 k104 v1 v2 v3 v4 w
    else
      if v4 = 0 then
        mX6_isShown_190 k96 k104 v1 v2 v3 v4 w
      else
        cl (mX6_isThere v3 w) fun x_2 w_1 =>
        if x_2 = 0 then
          mX6_isShown_190 k96 k104 v1 v2 v3 v4 w_1
        else
          cl (mX6_isThere v5 w_1) fun x_4 w_3 =>
          if x_4 = 0 then
            mX6_isShown_180 k96 k104 (mX6_isShown_124 k96 k104 v1 v2 v3 n) v1 v2 v3 v5 v4 w_3
          else
            if (v3 &&& (v5 ^^^ (-1))) ≠ 0 then
              mX6_isShown_180 k96 k104 (mX6_isShown_124 k96 k104 v1 v2 v3 n) v1 v2 v3 v5 v4 w_3
            else
              rd 1024 (w_3.1 0 40) v5 fun x_5 =>
              mX6_isShown_181 k96 k104 (mX6_isShown_124 k96 k104 v1 v2 v3 n) v1 v2 v3 v5 (x_5 ^^^ (-1)) v4 w_3
noncomputable def mX6_isShown_104 (k96 : Int32 → AW → Option (Int32 × AW)) (v1 : Int32) : Nat → Int32 → Int32 → AW → Option (Int32 × AW)
  | 0, _, _, _ => none
  | n + 1, v2, v3, w =>
    if (1 <<< ((w.1 0 0 35) &&& 31)) ≤ v3 then
      k96 v2 w
    else
      nm (v1 &&& (v3 ^^^ (-1))) fun v4_1 =>
      mX6_isShown_124 k96 (mX6_isShown_104 k96 v1 n) v1 v2 v3 FU v4_1 v3 w
noncomputable def mX6_isShown_96 (v1 : Int32) : Nat → Int32 → AW → Option (Int32 × AW)
  | 0, _, _ => none
  | n + 1, v2, w =>
    if v2 = 0 then
      cl (mX6_isLaw w) fun x_2 w_1 =>
      zr x_2 w_1
    else
      mX6_isShown_104 (mX6_isShown_96 v1 n) v1 FU 0 0 w
noncomputable def mX6_isShown_47 (v1 : Int32) : Nat → Int32 → AW → Option (Int32 × AW)
  | 0, _, _ => none
  | n + 1, v2, w =>
    if (1 <<< ((w.1 0 0 35) &&& 31)) ≤ v2 then
      mX6_isShown_96 v1 FU 1 w
    else
      cl (mX6_isFit v2 w) fun x_2 w_1 =>
      if x_2 = 0 then
        mX6_isShown_76 (mX6_isShown_47 v1 n) v1 v2 0 v2 w_1
      else
        mX6_isShown_76 (mX6_isShown_47 v1 n) v1 v2 (-9) v2 w_1
noncomputable def mX6_isShown_4 : Nat → Int32 → Int32 → AW → Option (Int32 × AW)
  | 0, _, _, _ => none
  | n + 1, v1, v2, w =>
    if (w.1 0 0 35) ≤ v2 then
      mX6_isShown_47 v1 FU 0 w
    else
      rd 10 (w.1 0 37) v2 fun x_1 =>
      rd 90 (w.1 0 30) x_1 fun x_2 =>
      cl (mX6_isAtom x_2 w) fun x_4 w_3 =>
      if x_4 = 0 then
        mX6_isShown_37 (mX6_isShown_4 n) v2 (1 <<< (v2 &&& 31)) v1 w_3
      else
        mX6_isShown_37 (mX6_isShown_4 n) v2 0 v1 w_3
noncomputable def mX6_isShown (w : AW) : Option (Int32 × AW) :=
  mX6_isShown_4 FU 0 0 w
set_option maxRecDepth 100000 in
set_option maxHeartbeats 4000000 in
theorem ok_mX6_isShown_37 {zv : Int32} {zw : AW} {k4 : Int32 → Int32 → AW → Option (Int32 × AW)} {v2 : Int32} {s0 : Int32} {s1 : Int32} (hk4 : ∀ (v1 : Int32) (v2 : Int32)  w, k4 v1 v2 w = some (zv, zw) → RR true KX6_isShown (some (vI zv), zw) 4 [some (vR 0 0), some (vI v1), some (vI v2), none, none, none] [] w) {w : AW} (hf : mX6_isShown_37 k4 v2 s0 s1 w = some (zv, zw)) : RR true KX6_isShown (some (vI zv), zw) 37 [some (vR 0 0), none, some (vI v2), none, none, none] [vI s0, vI s1] w := by
  refine r_ior dX6_isShown_37 ?_
  refine g_istore_n (fun v1_1 => [some (vR 0 0), some (vI v1_1), some (vI v2), none, none, none]) dX6_isShown_38 rfl rfl (fun _ => rfl) (Nat.le_of_ble_eq_true rfl) hf (fun v1_1 hf => ?_)
  refine g_iinc (fun v2_2 => [some (vR 0 0), some (vI v1_1), some (vI v2_2), none, none, none]) dX6_isShown_39 ic_1 rfl rfl (fun _ => rfl) (Nat.le_of_ble_eq_true rfl) hf (fun v2_2 hf => ?_)
  refine r_goto (tgt := 4) dX6_isShown_42 rfl ?_
  exact hk4 _ _ _ hf
set_option maxRecDepth 100000 in
set_option maxHeartbeats 4000000 in
theorem ok_mX6_isShown_76 {zv : Int32} {zw : AW} {k47 : Int32 → AW → Option (Int32 × AW)} {v1 : Int32} {v2 : Int32} {s0 : Int32} {s1 : Int32} (hk47 : ∀ (v2 : Int32)  w, k47 v2 w = some (zv, zw) → RR true KX6_isShown (some (vI zv), zw) 47 [some (vR 0 0), some (vI v1), some (vI v2), none, none, none] [] w) {w : AW} (hf : mX6_isShown_76 k47 v1 v2 s0 s1 w = some (zv, zw)) : RR true KX6_isShown (some (vI zv), zw) 76 [some (vR 0 0), some (vI v1), some (vI v2), none, none, none] [vI s0, vI s1, vR 0 42] w := by
  refine g_iast dX6_isShown_76 aK_true_0_42 aL_true_0_42 hf (fun w_1 hf => ?_)
  refine r_aload_n dX6_isShown_77 rfl rfl ?_
  refine g_getA dX6_isShown_78 fl_RX6_104 fk_6_39 rfl (cl_true_0) ?_
  refine r_iload_n dX6_isShown_81 rfl rfl ?_
  refine r_aload_n dX6_isShown_82 rfl rfl ?_
  refine r_iload_n dX6_isShown_83 rfl rfl ?_
  obtain ⟨x_3, w_2, hc, hf⟩ := cl_some hf
  refine g_cV (st := [vI v2, vR 0 40]) KX6_breaks [vI v2] dX6_isShown_84 e_RX6_299 (cl_true_0) (rfl : vwCl[6]? = _) rfl mok_X6_breaks mw_X6_breaks ⟨Nat.le_of_ble_eq_true rfl, Nat.le_of_ble_eq_true rfl⟩ (met_X6_breaks hc) rfl (Nat.le_of_ble_eq_true rfl) ?_
  clear hc
  refine g_iast dX6_isShown_87 aK_true_0_40 aL_true_0_40 hf (fun w_4 hf => ?_)
  refine g_iinc (fun v2_5 => [some (vR 0 0), some (vI v1), some (vI v2_5), none, none, none]) dX6_isShown_88 ic_1 rfl rfl (fun _ => rfl) (Nat.le_of_ble_eq_true rfl) hf (fun v2_5 hf => ?_)
  refine r_goto (tgt := 47) dX6_isShown_91 rfl ?_
  exact hk47 _ _ hf
set_option maxRecDepth 100000 in
set_option maxHeartbeats 4000000 in
theorem ok_mX6_isShown_181 {zv : Int32} {zw : AW} {k96 : Int32 → AW → Option (Int32 × AW)} {k104 : Int32 → Int32 → AW → Option (Int32 × AW)} {k124 : Int32 → Int32 → AW → Option (Int32 × AW)} {v1 : Int32} {v2 : Int32} {v3 : Int32} {v5 : Int32} {s0 : Int32} {s1 : Int32} (hk96 : ∀ (v2 : Int32)  w, k96 v2 w = some (zv, zw) → RR true KX6_isShown (some (vI zv), zw) 96 [some (vR 0 0), some (vI v1), some (vI v2), none, none, none] [] w) (hk104 : ∀ (v2 : Int32) (v3 : Int32)  w, k104 v2 v3 w = some (zv, zw) → RR true KX6_isShown (some (vI zv), zw) 104 [some (vR 0 0), some (vI v1), some (vI v2), some (vI v3), none, none] [] w) (hk124 : ∀ (v4 : Int32) (v5 : Int32)  w, k124 v4 v5 w = some (zv, zw) → RR true KX6_isShown (some (vI zv), zw) 124 [some (vR 0 0), some (vI v1), some (vI v2), some (vI v3), some (vI v4), some (vI v5)] [] w) {w : AW} (hf : mX6_isShown_181 k96 k104 k124 v1 v2 v3 v5 s0 s1 w = some (zv, zw)) : RR true KX6_isShown (some (vI zv), zw) 181 [some (vR 0 0), some (vI v1), some (vI v2), some (vI v3), none, some (vI v5)] [vI s0, vI s1] w := by
  refine r_iand dX6_isShown_181 ?_
  refine g_istore (fun v4_1 => [some (vR 0 0), some (vI v1), some (vI v2), some (vI v3), some (vI v4_1), some (vI v5)]) dX6_isShown_182 rfl (fun _ => rfl) (Nat.le_of_ble_eq_true rfl) hf (fun v4_1 hf => ?_)
  refine g_iinc (fun v5_2 => [some (vR 0 0), some (vI v1), some (vI v2), some (vI v3), some (vI v4_1), some (vI v5_2)]) dX6_isShown_184 ic_1 rfl rfl (fun _ => rfl) (Nat.le_of_ble_eq_true rfl) hf (fun v5_2 hf => ?_)
  refine r_goto (tgt := 124) dX6_isShown_187 rfl ?_
  exact hk124 _ _ _ hf
set_option maxRecDepth 100000 in
set_option maxHeartbeats 4000000 in
theorem ok_mX6_isShown_180 {zv : Int32} {zw : AW} {k96 : Int32 → AW → Option (Int32 × AW)} {k104 : Int32 → Int32 → AW → Option (Int32 × AW)} {k124 : Int32 → Int32 → AW → Option (Int32 × AW)} {v1 : Int32} {v2 : Int32} {v3 : Int32} {v5 : Int32} {s0 : Int32} (hk96 : ∀ (v2 : Int32)  w, k96 v2 w = some (zv, zw) → RR true KX6_isShown (some (vI zv), zw) 96 [some (vR 0 0), some (vI v1), some (vI v2), none, none, none] [] w) (hk104 : ∀ (v2 : Int32) (v3 : Int32)  w, k104 v2 v3 w = some (zv, zw) → RR true KX6_isShown (some (vI zv), zw) 104 [some (vR 0 0), some (vI v1), some (vI v2), some (vI v3), none, none] [] w) (hk124 : ∀ (v4 : Int32) (v5 : Int32)  w, k124 v4 v5 w = some (zv, zw) → RR true KX6_isShown (some (vI zv), zw) 124 [some (vR 0 0), some (vI v1), some (vI v2), some (vI v3), some (vI v4), some (vI v5)] [] w) {w : AW} (hf : mX6_isShown_180 k96 k104 k124 v1 v2 v3 v5 s0 w = some (zv, zw)) : RR true KX6_isShown (some (vI zv), zw) 180 [some (vR 0 0), some (vI v1), some (vI v2), some (vI v3), none, some (vI v5)] [vI s0] w := by
  refine r_iconst dX6_isShown_180 ic_m1 ?_
  exact ok_mX6_isShown_181 hk96 hk104 hk124 hf
set_option maxRecDepth 100000 in
set_option maxHeartbeats 4000000 in
theorem ok_mX6_isShown_212 {zv : Int32} {zw : AW} {k96 : Int32 → AW → Option (Int32 × AW)} {k104 : Int32 → Int32 → AW → Option (Int32 × AW)} {v1 : Int32} {v2 : Int32} {v3 : Int32} (hk96 : ∀ (v2 : Int32)  w, k96 v2 w = some (zv, zw) → RR true KX6_isShown (some (vI zv), zw) 96 [some (vR 0 0), some (vI v1), some (vI v2), none, none, none] [] w) (hk104 : ∀ (v2 : Int32) (v3 : Int32)  w, k104 v2 v3 w = some (zv, zw) → RR true KX6_isShown (some (vI zv), zw) 104 [some (vR 0 0), some (vI v1), some (vI v2), some (vI v3), none, none] [] w) {w : AW} (hf : mX6_isShown_212 k96 k104 v1 v2 v3 w = some (zv, zw)) : RR true KX6_isShown (some (vI zv), zw) 212 [some (vR 0 0), some (vI v1), some (vI v2), some (vI v3), none, none] [] w := by
  refine g_iinc (fun v3_1 => [some (vR 0 0), some (vI v1), some (vI v2), some (vI v3_1), none, none]) dX6_isShown_212 ic_1 rfl rfl (fun _ => rfl) (Nat.le_of_ble_eq_true rfl) hf (fun v3_1 hf => ?_)
  refine r_goto (tgt := 104) dX6_isShown_215 rfl ?_
  exact hk104 _ _ _ hf
set_option maxRecDepth 100000 in
set_option maxHeartbeats 4000000 in
theorem ok_mX6_isShown_190 {zv : Int32} {zw : AW} {k96 : Int32 → AW → Option (Int32 × AW)} {k104 : Int32 → Int32 → AW → Option (Int32 × AW)} {v1 : Int32} {v2 : Int32} {v3 : Int32} {v4 : Int32} (hk96 : ∀ (v2 : Int32)  w, k96 v2 w = some (zv, zw) → RR true KX6_isShown (some (vI zv), zw) 96 [some (vR 0 0), some (vI v1), some (vI v2), none, none, none] [] w) (hk104 : ∀ (v2 : Int32) (v3 : Int32)  w, k104 v2 v3 w = some (zv, zw) → RR true KX6_isShown (some (vI zv), zw) 104 [some (vR 0 0), some (vI v1), some (vI v2), some (vI v3), none, none] [] w) {w : AW} (hf : mX6_isShown_190 k96 k104 v1 v2 v3 v4 w = some (zv, zw)) : RR true KX6_isShown (some (vI zv), zw) 190 [some (vR 0 0), some (vI v1), some (vI v2), some (vI v3), some (vI v4), none] [] w := by
  refine r_aload_n dX6_isShown_190 rfl rfl ?_
  refine r_iload_n dX6_isShown_191 rfl rfl ?_
  obtain ⟨x_2, w_1, hc, hf⟩ := cl_some hf
  refine g_cV (st := []) KX6_isThere [vI v3] dX6_isShown_192 e_RX6_256 (cl_true_0) (rfl : vwCl[6]? = _) rfl mok_X6_isThere mw_X6_isThere ⟨Nat.le_of_ble_eq_true rfl, Nat.le_of_ble_eq_true rfl⟩ (met_X6_isThere hc) rfl (Nat.le_of_ble_eq_true rfl) ?_
  clear hc
  refine g_if_eq (tgt := 212) dX6_isShown_195 rfl hf (fun _ hf => ?_) (fun _ hf => ?_)
  · refine r_mask (bs := [true, true, true, true, false, false]) ?_
    exact ok_mX6_isShown_212 hk96 hk104 hf
  · refine r_iload dX6_isShown_198 rfl ?_
    refine g_if_eq (tgt := 212) dX6_isShown_200 rfl hf (fun _ hf => ?_) (fun _ hf => ?_)
    · refine r_mask (bs := [true, true, true, true, false, false]) ?_
      exact ok_mX6_isShown_212 hk96 hk104 hf
    · refine r_aload_n dX6_isShown_203 rfl rfl ?_
      refine g_getA dX6_isShown_204 fl_RX6_111 fk_6_41 rfl (cl_true_0) ?_
      refine r_iload_n dX6_isShown_207 rfl rfl ?_
      refine r_iconst dX6_isShown_208 ic_1 ?_
      refine g_iast dX6_isShown_209 aK_true_0_42 aL_true_0_42 hf (fun w_3 hf => ?_)
      refine r_iconst dX6_isShown_210 ic_1 ?_
      refine r_istore_n (ls2 := [some (vR 0 0), some (vI v1), some (vI 1), some (vI v3), some (vI v4), none]) dX6_isShown_211 rfl rfl rfl (Nat.le_of_ble_eq_true rfl) ?_
      refine r_mask (bs := [true, true, true, true, false, false]) ?_
      exact ok_mX6_isShown_212 hk96 hk104 hf
set_option maxRecDepth 100000 in
set_option maxHeartbeats 4000000 in
theorem ok_mX6_isShown_124 {zv : Int32} {zw : AW} {k96 : Int32 → AW → Option (Int32 × AW)} {k104 : Int32 → Int32 → AW → Option (Int32 × AW)} {v1 : Int32} {v2 : Int32} {v3 : Int32} (hk96 : ∀ (v2 : Int32)  w, k96 v2 w = some (zv, zw) → RR true KX6_isShown (some (vI zv), zw) 96 [some (vR 0 0), some (vI v1), some (vI v2), none, none, none] [] w) (hk104 : ∀ (v2 : Int32) (v3 : Int32)  w, k104 v2 v3 w = some (zv, zw) → RR true KX6_isShown (some (vI zv), zw) 104 [some (vR 0 0), some (vI v1), some (vI v2), some (vI v3), none, none] [] w) : ∀ (n : Nat) (v4 : Int32) (v5 : Int32) (w : AW), mX6_isShown_124 k96 k104 v1 v2 v3 n v4 v5 w = some (zv, zw) → RR true KX6_isShown (some (vI zv), zw) 124 [some (vR 0 0), some (vI v1), some (vI v2), some (vI v3), some (vI v4), some (vI v5)] [] w := by
  intro n
  induction n with
  | zero => intro v4 v5 w hf; cases hf
  | succ n ih =>
    intro v4 v5 w hf
    refine r_iload dX6_isShown_124 rfl ?_
    refine r_iconst dX6_isShown_126 ic_1 ?_
    refine r_aload_n dX6_isShown_127 rfl rfl ?_
    refine g_getI dX6_isShown_128 fl_RX6_240 fk_6_35 (cl_true_0) ?_
    refine r_ishl dX6_isShown_131 ?_
    refine g_icmp_ge (tgt := 190) dX6_isShown_132 rfl hf (fun _ hf => ?_) (fun _ hf => ?_)
    · refine r_mask (bs := [true, true, true, true, true, false]) ?_
      exact ok_mX6_isShown_190 hk96 hk104 hf
    · refine r_iload dX6_isShown_135 rfl ?_
      refine g_if_eq (tgt := 190) dX6_isShown_137 rfl hf (fun _ hf => ?_) (fun _ hf => ?_)
      · refine r_mask (bs := [true, true, true, true, true, false]) ?_
        exact ok_mX6_isShown_190 hk96 hk104 hf
      · refine r_aload_n dX6_isShown_140 rfl rfl ?_
        refine r_iload_n dX6_isShown_141 rfl rfl ?_
        obtain ⟨x_2, w_1, hc, hf⟩ := cl_some hf
        refine g_cV (st := []) KX6_isThere [vI v3] dX6_isShown_142 e_RX6_256 (cl_true_0) (rfl : vwCl[6]? = _) rfl mok_X6_isThere mw_X6_isThere ⟨Nat.le_of_ble_eq_true rfl, Nat.le_of_ble_eq_true rfl⟩ (met_X6_isThere hc) rfl (Nat.le_of_ble_eq_true rfl) ?_
        clear hc
        refine g_if_eq (tgt := 190) dX6_isShown_145 rfl hf (fun _ hf => ?_) (fun _ hf => ?_)
        · refine r_mask (bs := [true, true, true, true, true, false]) ?_
          exact ok_mX6_isShown_190 hk96 hk104 hf
        · refine r_iload dX6_isShown_148 rfl ?_
          refine r_aload_n dX6_isShown_150 rfl rfl ?_
          refine r_iload dX6_isShown_151 rfl ?_
          obtain ⟨x_4, w_3, hc, hf⟩ := cl_some hf
          refine g_cV (st := [vI v4]) KX6_isThere [vI v5] dX6_isShown_153 e_RX6_256 (cl_true_0) (rfl : vwCl[6]? = _) rfl mok_X6_isThere mw_X6_isThere ⟨Nat.le_of_ble_eq_true rfl, Nat.le_of_ble_eq_true rfl⟩ (met_X6_isThere hc) rfl (Nat.le_of_ble_eq_true rfl) ?_
          clear hc
          refine g_if_eq (tgt := 180) dX6_isShown_156 rfl hf (fun _ hf => ?_) (fun _ hf => ?_)
          · refine r_mask (bs := [true, true, true, true, false, true]) ?_
            exact ok_mX6_isShown_180 hk96 hk104 (fun v4 v5 w hf => ih v4 v5 w hf) hf
          · refine r_iload_n dX6_isShown_159 rfl rfl ?_
            refine r_iload dX6_isShown_160 rfl ?_
            refine r_iconst dX6_isShown_162 ic_m1 ?_
            refine r_ixor dX6_isShown_163 ?_
            refine r_iand dX6_isShown_164 ?_
            refine g_if_ne (tgt := 180) dX6_isShown_165 rfl hf (fun _ hf => ?_) (fun _ hf => ?_)
            · refine r_mask (bs := [true, true, true, true, false, true]) ?_
              exact ok_mX6_isShown_180 hk96 hk104 (fun v4 v5 w hf => ih v4 v5 w hf) hf
            · refine r_aload_n dX6_isShown_168 rfl rfl ?_
              refine g_getA dX6_isShown_169 fl_RX6_104 fk_6_39 rfl (cl_true_0) ?_
              refine r_iload dX6_isShown_172 rfl ?_
              refine g_iald dX6_isShown_174 aK_true_0_40 aL_true_0_40 hf (fun x_5 hf => ?_)
              refine r_iconst dX6_isShown_175 ic_m1 ?_
              refine r_ixor dX6_isShown_176 ?_
              refine r_goto (tgt := 181) dX6_isShown_177 rfl ?_
              refine r_mask (bs := [true, true, true, true, false, true]) ?_
              exact ok_mX6_isShown_181 hk96 hk104 (fun v4 v5 w hf => ih v4 v5 w hf) hf
set_option maxRecDepth 100000 in
set_option maxHeartbeats 4000000 in
theorem ok_mX6_isShown_104 {zv : Int32} {zw : AW} {k96 : Int32 → AW → Option (Int32 × AW)} {v1 : Int32} (hk96 : ∀ (v2 : Int32)  w, k96 v2 w = some (zv, zw) → RR true KX6_isShown (some (vI zv), zw) 96 [some (vR 0 0), some (vI v1), some (vI v2), none, none, none] [] w) : ∀ (n : Nat) (v2 : Int32) (v3 : Int32) (w : AW), mX6_isShown_104 k96 v1 n v2 v3 w = some (zv, zw) → RR true KX6_isShown (some (vI zv), zw) 104 [some (vR 0 0), some (vI v1), some (vI v2), some (vI v3), none, none] [] w := by
  intro n
  induction n with
  | zero => intro v2 v3 w hf; cases hf
  | succ n ih =>
    intro v2 v3 w hf
    refine r_iload_n dX6_isShown_104 rfl rfl ?_
    refine r_iconst dX6_isShown_105 ic_1 ?_
    refine r_aload_n dX6_isShown_106 rfl rfl ?_
    refine g_getI dX6_isShown_107 fl_RX6_240 fk_6_35 (cl_true_0) ?_
    refine r_ishl dX6_isShown_110 ?_
    refine g_icmp_ge (tgt := 218) dX6_isShown_111 rfl hf (fun _ hf => ?_) (fun _ hf => ?_)
    · refine r_goto (tgt := 96) dX6_isShown_218 rfl ?_
      refine r_mask (bs := [true, true, true, false, false, false]) ?_
      exact hk96 _ _ hf
    · refine r_iload_n dX6_isShown_114 rfl rfl ?_
      refine r_iload_n dX6_isShown_115 rfl rfl ?_
      refine r_iconst dX6_isShown_116 ic_m1 ?_
      refine r_ixor dX6_isShown_117 ?_
      refine r_iand dX6_isShown_118 ?_
      refine g_istore (fun v4_1 => [some (vR 0 0), some (vI v1), some (vI v2), some (vI v3), some (vI v4_1), none]) dX6_isShown_119 rfl (fun _ => rfl) (Nat.le_of_ble_eq_true rfl) hf (fun v4_1 hf => ?_)
      refine r_iload_n dX6_isShown_121 rfl rfl ?_
      refine r_istore (ls2 := [some (vR 0 0), some (vI v1), some (vI v2), some (vI v3), some (vI v4_1), some (vI v3)]) dX6_isShown_122 rfl rfl (Nat.le_of_ble_eq_true rfl) ?_
      exact ok_mX6_isShown_124 hk96 (fun v2 v3 w hf => ih v2 v3 w hf) FU _ _ _ hf
set_option maxRecDepth 100000 in
set_option maxHeartbeats 4000000 in
theorem ok_mX6_isShown_96 {zv : Int32} {zw : AW} {v1 : Int32} : ∀ (n : Nat) (v2 : Int32) (w : AW), mX6_isShown_96 v1 n v2 w = some (zv, zw) → RR true KX6_isShown (some (vI zv), zw) 96 [some (vR 0 0), some (vI v1), some (vI v2), none, none, none] [] w := by
  intro n
  induction n with
  | zero => intro v2 w hf; cases hf
  | succ n ih =>
    intro v2 w hf
    refine r_iload_n dX6_isShown_96 rfl rfl ?_
    refine g_if_eq (tgt := 221) dX6_isShown_97 rfl hf (fun _ hf => ?_) (fun _ hf => ?_)
    · refine r_aload_n dX6_isShown_221 rfl rfl ?_
      obtain ⟨x_2, w_1, hc, hf⟩ := cl_some hf
      refine g_cV (st := []) KX6_isLaw [] dX6_isShown_222 e_RX6_278 (cl_true_0) (rfl : vwCl[6]? = _) rfl mok_X6_isLaw mw_X6_isLaw ⟨Nat.le_of_ble_eq_true rfl, Nat.le_of_ble_eq_true rfl⟩ (met_X6_isLaw hc) rfl (Nat.le_of_ble_eq_true rfl) ?_
      clear hc
      exact g_zret dX6_isShown_225 rfl hf
    · refine r_iconst dX6_isShown_100 ic_0 ?_
      refine r_istore_n (ls2 := [some (vR 0 0), some (vI v1), some (vI 0), none, none, none]) dX6_isShown_101 rfl rfl rfl (Nat.le_of_ble_eq_true rfl) ?_
      refine r_iconst dX6_isShown_102 ic_0 ?_
      refine r_istore_n (ls2 := [some (vR 0 0), some (vI v1), some (vI 0), some (vI 0), none, none]) dX6_isShown_103 rfl rfl rfl (Nat.le_of_ble_eq_true rfl) ?_
      exact ok_mX6_isShown_104 (fun v2 w hf => ih v2 w hf) FU _ _ _ hf
set_option maxRecDepth 100000 in
set_option maxHeartbeats 4000000 in
theorem ok_mX6_isShown_47 {zv : Int32} {zw : AW} {v1 : Int32} : ∀ (n : Nat) (v2 : Int32) (w : AW), mX6_isShown_47 v1 n v2 w = some (zv, zw) → RR true KX6_isShown (some (vI zv), zw) 47 [some (vR 0 0), some (vI v1), some (vI v2), none, none, none] [] w := by
  intro n
  induction n with
  | zero => intro v2 w hf; cases hf
  | succ n ih =>
    intro v2 w hf
    refine r_iload_n dX6_isShown_47 rfl rfl ?_
    refine r_iconst dX6_isShown_48 ic_1 ?_
    refine r_aload_n dX6_isShown_49 rfl rfl ?_
    refine g_getI dX6_isShown_50 fl_RX6_240 fk_6_35 (cl_true_0) ?_
    refine r_ishl dX6_isShown_53 ?_
    refine g_icmp_ge (tgt := 94) dX6_isShown_54 rfl hf (fun _ hf => ?_) (fun _ hf => ?_)
    · refine r_iconst dX6_isShown_94 ic_1 ?_
      refine r_istore_n (ls2 := [some (vR 0 0), some (vI v1), some (vI 1), none, none, none]) dX6_isShown_95 rfl rfl rfl (Nat.le_of_ble_eq_true rfl) ?_
      exact ok_mX6_isShown_96 FU _ _ hf
    · refine r_aload_n dX6_isShown_57 rfl rfl ?_
      refine g_getA dX6_isShown_58 fl_RX6_111 fk_6_41 rfl (cl_true_0) ?_
      refine r_iload_n dX6_isShown_61 rfl rfl ?_
      refine r_aload_n dX6_isShown_62 rfl rfl ?_
      refine r_iload_n dX6_isShown_63 rfl rfl ?_
      obtain ⟨x_2, w_1, hc, hf⟩ := cl_some hf
      refine g_cV (st := [vI v2, vR 0 42]) KX6_isFit [vI v2] dX6_isShown_64 e_RX6_296 (cl_true_0) (rfl : vwCl[6]? = _) rfl mok_X6_isFit mw_X6_isFit ⟨Nat.le_of_ble_eq_true rfl, Nat.le_of_ble_eq_true rfl⟩ (met_X6_isFit hc) rfl (Nat.le_of_ble_eq_true rfl) ?_
      clear hc
      refine g_if_eq (tgt := 75) dX6_isShown_67 rfl hf (fun _ hf => ?_) (fun _ hf => ?_)
      · refine r_iconst dX6_isShown_75 ic_0 ?_
        exact ok_mX6_isShown_76 (fun v2 w hf => ih v2 w hf) hf
      · refine r_bipush dX6_isShown_70 (bp_m9) ?_
        refine r_goto (tgt := 76) dX6_isShown_72 rfl ?_
        exact ok_mX6_isShown_76 (fun v2 w hf => ih v2 w hf) hf
set_option maxRecDepth 100000 in
set_option maxHeartbeats 4000000 in
theorem ok_mX6_isShown_4 {zv : Int32} {zw : AW} : ∀ (n : Nat) (v1 : Int32) (v2 : Int32) (w : AW), mX6_isShown_4 n v1 v2 w = some (zv, zw) → RR true KX6_isShown (some (vI zv), zw) 4 [some (vR 0 0), some (vI v1), some (vI v2), none, none, none] [] w := by
  intro n
  induction n with
  | zero => intro v1 v2 w hf; cases hf
  | succ n ih =>
    intro v1 v2 w hf
    refine r_iload_n dX6_isShown_4 rfl rfl ?_
    refine r_aload_n dX6_isShown_5 rfl rfl ?_
    refine g_getI dX6_isShown_6 fl_RX6_240 fk_6_35 (cl_true_0) ?_
    refine g_icmp_ge (tgt := 45) dX6_isShown_9 rfl hf (fun _ hf => ?_) (fun _ hf => ?_)
    · refine r_iconst dX6_isShown_45 ic_0 ?_
      refine r_istore_n (ls2 := [some (vR 0 0), some (vI v1), some (vI 0), none, none, none]) dX6_isShown_46 rfl rfl rfl (Nat.le_of_ble_eq_true rfl) ?_
      exact ok_mX6_isShown_47 FU _ _ hf
    · refine r_iload_n dX6_isShown_12 rfl rfl ?_
      refine r_aload_n dX6_isShown_13 rfl rfl ?_
      refine g_getA dX6_isShown_14 fl_RX6_77 fk_6_29 rfl (cl_true_0) ?_
      refine r_aload_n dX6_isShown_17 rfl rfl ?_
      refine g_getA dX6_isShown_18 fl_RX6_95 fk_6_36 rfl (cl_true_0) ?_
      refine r_iload_n dX6_isShown_21 rfl rfl ?_
      refine g_iald dX6_isShown_22 aK_true_0_37 aL_true_0_37 hf (fun x_1 hf => ?_)
      refine g_iald dX6_isShown_23 aK_true_0_30 aL_true_0_30 hf (fun x_2 hf => ?_)
      obtain ⟨x_4, w_3, hc, hf⟩ := cl_some hf
      refine g_cS (st := [vI v1]) KX6_isAtom [vI x_2] dX6_isShown_24 e_RX6_185 mok_X6_isAtom mw_X6_isAtom ⟨Nat.le_of_ble_eq_true rfl, Nat.le_of_ble_eq_true rfl⟩ (met_X6_isAtom hc) rfl (Nat.le_of_ble_eq_true rfl) ?_
      clear hc
      refine g_if_eq (tgt := 34) dX6_isShown_27 rfl hf (fun _ hf => ?_) (fun _ hf => ?_)
      · refine r_iconst dX6_isShown_34 ic_1 ?_
        refine r_iload_n dX6_isShown_35 rfl rfl ?_
        refine r_ishl dX6_isShown_36 ?_
        refine r_mask (bs := [true, false, true, false, false, false]) ?_
        exact ok_mX6_isShown_37 (fun v1 v2 w hf => ih v1 v2 w hf) hf
      · refine r_iconst dX6_isShown_30 ic_0 ?_
        refine r_goto (tgt := 37) dX6_isShown_31 rfl ?_
        refine r_mask (bs := [true, false, true, false, false, false]) ?_
        exact ok_mX6_isShown_37 (fun v1 v2 w hf => ih v1 v2 w hf) hf
set_option maxRecDepth 100000 in
set_option maxHeartbeats 4000000 in
theorem ok_mX6_isShown {zv : Int32} {zw : AW} {w : AW} (hf : mX6_isShown w = some (zv, zw)) : RR true KX6_isShown (some (vI zv), zw) 0 [some (vR 0 0), none, none, none, none, none] [] w := by
  refine r_iconst dX6_isShown_0 ic_0 ?_
  refine r_istore_n (ls2 := [some (vR 0 0), some (vI 0), none, none, none, none]) dX6_isShown_1 rfl rfl rfl (Nat.le_of_ble_eq_true rfl) ?_
  refine r_iconst dX6_isShown_2 ic_0 ?_
  refine r_istore_n (ls2 := [some (vR 0 0), some (vI 0), some (vI 0), none, none, none]) dX6_isShown_3 rfl rfl rfl (Nat.le_of_ble_eq_true rfl) ?_
  exact ok_mX6_isShown_4 FU _ _ _ hf
theorem met_X6_isShown {zv : Int32} {zw : AW} {w : AW} (hf : mX6_isShown w = some (zv, zw)) : am_Met true KX6_isShown [vR 0 0] w (some (vI zv), zw) := am_met mok_X6_isShown.1 (Nat.le_of_ble_eq_true rfl) (ok_mX6_isShown  hf)

/-! SeenWorldsModel.isTrue()Z -/
noncomputable def mX6_isTrue_186 (k4 : Int32 → Int32 → AW → Option (Int32 × AW)) (k15 : Int32 → Int32 → AW → Option (Int32 × AW)) (v1 : Int32) (v2 : Int32) (v4 : Int32) (s0 : Int32) (w : AW) : Option (Int32 × AW) :=
  wr 90 w 0 38 v4 s0 fun w_1 =>
  nm (v4 + 1) fun v4_2 =>
  k15 s0 v4_2 w_1
noncomputable def mX6_isTrue_91 (k4 : Int32 → Int32 → AW → Option (Int32 × AW)) (k15 : Int32 → Int32 → AW → Option (Int32 × AW)) (v1 : Int32) (v2 : Int32) (v4 : Int32) (v5 : Int32) (v6 : Int32) (s0 : Int32) (w : AW) : Option (Int32 × AW) :=
  cl (mX6_isAtom v5 w) fun x_2 w_1 =>
  if x_2 = 0 then
    if v5 ≠ 84 then
      if v5 ≠ 70 then
        if v5 ≠ 33 then
          if v5 ≠ 38 then
            if v5 ≠ 124 then
              mX6_isTrue_186 k4 k15 v1 v2 v4 ((1 - v6) ||| s0) w_1
            else
              mX6_isTrue_186 k4 k15 v1 v2 v4 (v6 ||| s0) w_1
          else
            mX6_isTrue_186 k4 k15 v1 v2 v4 (v6 &&& s0) w_1
        else
          mX6_isTrue_186 k4 k15 v1 v2 v4 (1 - v6) w_1
      else
        mX6_isTrue_186 k4 k15 v1 v2 v4 0 w_1
    else
      mX6_isTrue_186 k4 k15 v1 v2 v4 1 w_1
  else
    mX6_isTrue_186 k4 k15 v1 v2 v4 ((v2 >>> ((v5 - 112) &&& 31)) &&& 1) w_1
noncomputable def mX6_isTrue_65 (k4 : Int32 → Int32 → AW → Option (Int32 × AW)) (k15 : Int32 → Int32 → AW → Option (Int32 × AW)) (v1 : Int32) (v2 : Int32) (v4 : Int32) (v5 : Int32) (s0 : Int32) (w : AW) : Option (Int32 × AW) :=
  cl (mX6_isJoin v5 w) fun x_2 w_1 =>
  if x_2 = 0 then
    mX6_isTrue_91 k4 k15 v1 v2 v4 v5 s0 0 w_1
  else
    rd 90 (w_1.1 0 32) v4 fun x_3 =>
    rd 90 (w_1.1 0 38) x_3 fun x_4 =>
    mX6_isTrue_91 k4 k15 v1 v2 v4 v5 s0 x_4 w_1
noncomputable def mX6_isTrue_49 (k4 : Int32 → Int32 → AW → Option (Int32 × AW)) (k15 : Int32 → Int32 → AW → Option (Int32 × AW)) (v1 : Int32) (v2 : Int32) (v4 : Int32) (v5 : Int32) (w : AW) : Option (Int32 × AW) :=
  rd 90 (w.1 0 31) v4 fun x_1 =>
  rd 90 (w.1 0 38) x_1 fun x_2 =>
  mX6_isTrue_65 k4 k15 v1 v2 v4 v5 x_2 w
noncomputable def mX6_isTrue_212 (k4 : Int32 → Int32 → AW → Option (Int32 × AW)) (v2 : Int32) (s0 : Int32) (s1 : Int32) (w : AW) : Option (Int32 × AW) :=
  nm (s1 &&& s0) fun v1_1 =>
  nm (v2 + 1) fun v2_2 =>
  k4 v1_1 v2_2 w
noncomputable def mX6_isTrue_15 (k4 : Int32 → Int32 → AW → Option (Int32 × AW)) (v1 : Int32) (v2 : Int32) : Nat → Int32 → Int32 → AW → Option (Int32 × AW)
  | 0, _, _, _ => none
  | n + 1, v3, v4, w =>
    if (w.1 0 0 26) ≤ v4 then
      if v3 ≠ 1 then
        mX6_isTrue_212 k4 v2 0 v1 w
      else
        mX6_isTrue_212 k4 v2 1 v1 w
    else
      rd 90 (w.1 0 30) v4 fun x_1 =>
      cl (mX6_isPrefix x_1 w) fun x_3 w_2 =>
      if x_3 ≠ 0 then
        mX6_isTrue_49 k4 (mX6_isTrue_15 k4 v1 v2 n) v1 v2 v4 x_1 w_2
      else
        cl (mX6_isJoin x_1 w_2) fun x_5 w_4 =>
        if x_5 = 0 then
          mX6_isTrue_65 k4 (mX6_isTrue_15 k4 v1 v2 n) v1 v2 v4 x_1 0 w_4
        else
          mX6_isTrue_49 k4 (mX6_isTrue_15 k4 v1 v2 n) v1 v2 v4 x_1 w_4
noncomputable def mX6_isTrue_4 : Nat → Int32 → Int32 → AW → Option (Int32 × AW)
  | 0, _, _, _ => none
  | n + 1, v1, v2, w =>
    if 16 ≤ v2 then
      zr v1 w
    else
      mX6_isTrue_15 (mX6_isTrue_4 n) v1 v2 FU 0 0 w
noncomputable def mX6_isTrue (w : AW) : Option (Int32 × AW) :=
  mX6_isTrue_4 FU 1 0 w
set_option maxRecDepth 100000 in
set_option maxHeartbeats 4000000 in
theorem ok_mX6_isTrue_186 {zv : Int32} {zw : AW} {k4 : Int32 → Int32 → AW → Option (Int32 × AW)} {k15 : Int32 → Int32 → AW → Option (Int32 × AW)} {v1 : Int32} {v2 : Int32} {v4 : Int32} {s0 : Int32} (hk4 : ∀ (v1 : Int32) (v2 : Int32)  w, k4 v1 v2 w = some (zv, zw) → RR true KX6_isTrue (some (vI zv), zw) 4 [some (vR 0 0), some (vI v1), some (vI v2), none, none, none, none, none] [] w) (hk15 : ∀ (v3 : Int32) (v4 : Int32)  w, k15 v3 v4 w = some (zv, zw) → RR true KX6_isTrue (some (vI zv), zw) 15 [some (vR 0 0), some (vI v1), some (vI v2), some (vI v3), some (vI v4), none, none, none] [] w) {w : AW} (hf : mX6_isTrue_186 k4 k15 v1 v2 v4 s0 w = some (zv, zw)) : RR true KX6_isTrue (some (vI zv), zw) 186 [some (vR 0 0), some (vI v1), some (vI v2), none, some (vI v4), none, none, none] [vI s0] w := by
  refine r_istore_n (ls2 := [some (vR 0 0), some (vI v1), some (vI v2), some (vI s0), some (vI v4), none, none, none]) dX6_isTrue_186 rfl rfl rfl (Nat.le_of_ble_eq_true rfl) ?_
  refine r_aload_n dX6_isTrue_187 rfl rfl ?_
  refine g_getA dX6_isTrue_188 fl_RX6_98 fk_6_37 rfl (cl_true_0) ?_
  refine r_iload dX6_isTrue_191 rfl ?_
  refine r_iload_n dX6_isTrue_193 rfl rfl ?_
  refine g_iast dX6_isTrue_194 aK_true_0_38 aL_true_0_38 hf (fun w_1 hf => ?_)
  refine g_iinc (fun v4_2 => [some (vR 0 0), some (vI v1), some (vI v2), some (vI s0), some (vI v4_2), none, none, none]) dX6_isTrue_195 ic_1 rfl rfl (fun _ => rfl) (Nat.le_of_ble_eq_true rfl) hf (fun v4_2 hf => ?_)
  refine r_goto (tgt := 15) dX6_isTrue_198 rfl ?_
  exact hk15 _ _ _ hf
set_option maxRecDepth 100000 in
set_option maxHeartbeats 4000000 in
theorem ok_mX6_isTrue_91 {zv : Int32} {zw : AW} {k4 : Int32 → Int32 → AW → Option (Int32 × AW)} {k15 : Int32 → Int32 → AW → Option (Int32 × AW)} {v1 : Int32} {v2 : Int32} {v4 : Int32} {v5 : Int32} {v6 : Int32} {s0 : Int32} (hk4 : ∀ (v1 : Int32) (v2 : Int32)  w, k4 v1 v2 w = some (zv, zw) → RR true KX6_isTrue (some (vI zv), zw) 4 [some (vR 0 0), some (vI v1), some (vI v2), none, none, none, none, none] [] w) (hk15 : ∀ (v3 : Int32) (v4 : Int32)  w, k15 v3 v4 w = some (zv, zw) → RR true KX6_isTrue (some (vI zv), zw) 15 [some (vR 0 0), some (vI v1), some (vI v2), some (vI v3), some (vI v4), none, none, none] [] w) {w : AW} (hf : mX6_isTrue_91 k4 k15 v1 v2 v4 v5 v6 s0 w = some (zv, zw)) : RR true KX6_isTrue (some (vI zv), zw) 91 [some (vR 0 0), some (vI v1), some (vI v2), none, some (vI v4), some (vI v5), some (vI v6), none] [vI s0] w := by
  refine r_istore (ls2 := [some (vR 0 0), some (vI v1), some (vI v2), none, some (vI v4), some (vI v5), some (vI v6), some (vI s0)]) dX6_isTrue_91 rfl rfl (Nat.le_of_ble_eq_true rfl) ?_
  refine r_iload dX6_isTrue_93 rfl ?_
  obtain ⟨x_2, w_1, hc, hf⟩ := cl_some hf
  refine g_cS (st := []) KX6_isAtom [vI v5] dX6_isTrue_95 e_RX6_185 mok_X6_isAtom mw_X6_isAtom ⟨Nat.le_of_ble_eq_true rfl, Nat.le_of_ble_eq_true rfl⟩ (met_X6_isAtom hc) rfl (Nat.le_of_ble_eq_true rfl) ?_
  clear hc
  refine g_if_eq (tgt := 113) dX6_isTrue_98 rfl hf (fun _ hf => ?_) (fun _ hf => ?_)
  · refine r_iload dX6_isTrue_113 rfl ?_
    refine r_bipush dX6_isTrue_115 (bp_84) ?_
    refine g_icmp_ne (tgt := 124) dX6_isTrue_117 rfl hf (fun _ hf => ?_) (fun _ hf => ?_)
    · refine r_iload dX6_isTrue_124 rfl ?_
      refine r_bipush dX6_isTrue_126 (bp_70) ?_
      refine g_icmp_ne (tgt := 135) dX6_isTrue_128 rfl hf (fun _ hf => ?_) (fun _ hf => ?_)
      · refine r_iload dX6_isTrue_135 rfl ?_
        refine r_bipush dX6_isTrue_137 (bp_33) ?_
        refine g_icmp_ne (tgt := 149) dX6_isTrue_139 rfl hf (fun _ hf => ?_) (fun _ hf => ?_)
        · refine r_iload dX6_isTrue_149 rfl ?_
          refine r_bipush dX6_isTrue_151 (bp_38) ?_
          refine g_icmp_ne (tgt := 164) dX6_isTrue_153 rfl hf (fun _ hf => ?_) (fun _ hf => ?_)
          · refine r_iload dX6_isTrue_164 rfl ?_
            refine r_bipush dX6_isTrue_166 (bp_124) ?_
            refine g_icmp_ne (tgt := 179) dX6_isTrue_168 rfl hf (fun _ hf => ?_) (fun _ hf => ?_)
            · refine r_iconst dX6_isTrue_179 ic_1 ?_
              refine r_iload dX6_isTrue_180 rfl ?_
              refine r_isub dX6_isTrue_182 ?_
              refine r_iload dX6_isTrue_183 rfl ?_
              refine r_ior dX6_isTrue_185 ?_
              refine r_mask (bs := [true, true, true, false, true, false, false, false]) ?_
              exact ok_mX6_isTrue_186 hk4 hk15 hf
            · refine r_iload dX6_isTrue_171 rfl ?_
              refine r_iload dX6_isTrue_173 rfl ?_
              refine r_ior dX6_isTrue_175 ?_
              refine r_goto (tgt := 186) dX6_isTrue_176 rfl ?_
              refine r_mask (bs := [true, true, true, false, true, false, false, false]) ?_
              exact ok_mX6_isTrue_186 hk4 hk15 hf
          · refine r_iload dX6_isTrue_156 rfl ?_
            refine r_iload dX6_isTrue_158 rfl ?_
            refine r_iand dX6_isTrue_160 ?_
            refine r_goto (tgt := 186) dX6_isTrue_161 rfl ?_
            refine r_mask (bs := [true, true, true, false, true, false, false, false]) ?_
            exact ok_mX6_isTrue_186 hk4 hk15 hf
        · refine r_iconst dX6_isTrue_142 ic_1 ?_
          refine r_iload dX6_isTrue_143 rfl ?_
          refine r_isub dX6_isTrue_145 ?_
          refine r_goto (tgt := 186) dX6_isTrue_146 rfl ?_
          refine r_mask (bs := [true, true, true, false, true, false, false, false]) ?_
          exact ok_mX6_isTrue_186 hk4 hk15 hf
      · refine r_iconst dX6_isTrue_131 ic_0 ?_
        refine r_goto (tgt := 186) dX6_isTrue_132 rfl ?_
        refine r_mask (bs := [true, true, true, false, true, false, false, false]) ?_
        exact ok_mX6_isTrue_186 hk4 hk15 hf
    · refine r_iconst dX6_isTrue_120 ic_1 ?_
      refine r_goto (tgt := 186) dX6_isTrue_121 rfl ?_
      refine r_mask (bs := [true, true, true, false, true, false, false, false]) ?_
      exact ok_mX6_isTrue_186 hk4 hk15 hf
  · refine r_iload_n dX6_isTrue_101 rfl rfl ?_
    refine r_iload dX6_isTrue_102 rfl ?_
    refine r_bipush dX6_isTrue_104 (bp_112) ?_
    refine r_isub dX6_isTrue_106 ?_
    refine r_ishr dX6_isTrue_107 ?_
    refine r_iconst dX6_isTrue_108 ic_1 ?_
    refine r_iand dX6_isTrue_109 ?_
    refine r_goto (tgt := 186) dX6_isTrue_110 rfl ?_
    refine r_mask (bs := [true, true, true, false, true, false, false, false]) ?_
    exact ok_mX6_isTrue_186 hk4 hk15 hf
set_option maxRecDepth 100000 in
set_option maxHeartbeats 4000000 in
theorem ok_mX6_isTrue_65 {zv : Int32} {zw : AW} {k4 : Int32 → Int32 → AW → Option (Int32 × AW)} {k15 : Int32 → Int32 → AW → Option (Int32 × AW)} {v1 : Int32} {v2 : Int32} {v4 : Int32} {v5 : Int32} {s0 : Int32} (hk4 : ∀ (v1 : Int32) (v2 : Int32)  w, k4 v1 v2 w = some (zv, zw) → RR true KX6_isTrue (some (vI zv), zw) 4 [some (vR 0 0), some (vI v1), some (vI v2), none, none, none, none, none] [] w) (hk15 : ∀ (v3 : Int32) (v4 : Int32)  w, k15 v3 v4 w = some (zv, zw) → RR true KX6_isTrue (some (vI zv), zw) 15 [some (vR 0 0), some (vI v1), some (vI v2), some (vI v3), some (vI v4), none, none, none] [] w) {w : AW} (hf : mX6_isTrue_65 k4 k15 v1 v2 v4 v5 s0 w = some (zv, zw)) : RR true KX6_isTrue (some (vI zv), zw) 65 [some (vR 0 0), some (vI v1), some (vI v2), none, some (vI v4), some (vI v5), none, none] [vI s0] w := by
  refine r_istore (ls2 := [some (vR 0 0), some (vI v1), some (vI v2), none, some (vI v4), some (vI v5), some (vI s0), none]) dX6_isTrue_65 rfl rfl (Nat.le_of_ble_eq_true rfl) ?_
  refine r_iload dX6_isTrue_67 rfl ?_
  obtain ⟨x_2, w_1, hc, hf⟩ := cl_some hf
  refine g_cS (st := []) KX6_isJoin [vI v5] dX6_isTrue_69 e_RX6_192 mok_X6_isJoin mw_X6_isJoin ⟨Nat.le_of_ble_eq_true rfl, Nat.le_of_ble_eq_true rfl⟩ (met_X6_isJoin hc) rfl (Nat.le_of_ble_eq_true rfl) ?_
  clear hc
  refine g_if_eq (tgt := 90) dX6_isTrue_72 rfl hf (fun _ hf => ?_) (fun _ hf => ?_)
  · refine r_iconst dX6_isTrue_90 ic_0 ?_
    exact ok_mX6_isTrue_91 hk4 hk15 hf
  · refine r_aload_n dX6_isTrue_75 rfl rfl ?_
    refine g_getA dX6_isTrue_76 fl_RX6_98 fk_6_37 rfl (cl_true_0) ?_
    refine r_aload_n dX6_isTrue_79 rfl rfl ?_
    refine g_getA dX6_isTrue_80 fl_RX6_83 fk_6_31 rfl (cl_true_0) ?_
    refine r_iload dX6_isTrue_83 rfl ?_
    refine g_iald dX6_isTrue_85 aK_true_0_32 aL_true_0_32 hf (fun x_3 hf => ?_)
    refine g_iald dX6_isTrue_86 aK_true_0_38 aL_true_0_38 hf (fun x_4 hf => ?_)
    refine r_goto (tgt := 91) dX6_isTrue_87 rfl ?_
    exact ok_mX6_isTrue_91 hk4 hk15 hf
set_option maxRecDepth 100000 in
set_option maxHeartbeats 4000000 in
theorem ok_mX6_isTrue_49 {zv : Int32} {zw : AW} {k4 : Int32 → Int32 → AW → Option (Int32 × AW)} {k15 : Int32 → Int32 → AW → Option (Int32 × AW)} {v1 : Int32} {v2 : Int32} {v4 : Int32} {v5 : Int32} (hk4 : ∀ (v1 : Int32) (v2 : Int32)  w, k4 v1 v2 w = some (zv, zw) → RR true KX6_isTrue (some (vI zv), zw) 4 [some (vR 0 0), some (vI v1), some (vI v2), none, none, none, none, none] [] w) (hk15 : ∀ (v3 : Int32) (v4 : Int32)  w, k15 v3 v4 w = some (zv, zw) → RR true KX6_isTrue (some (vI zv), zw) 15 [some (vR 0 0), some (vI v1), some (vI v2), some (vI v3), some (vI v4), none, none, none] [] w) {w : AW} (hf : mX6_isTrue_49 k4 k15 v1 v2 v4 v5 w = some (zv, zw)) : RR true KX6_isTrue (some (vI zv), zw) 49 [some (vR 0 0), some (vI v1), some (vI v2), none, some (vI v4), some (vI v5), none, none] [] w := by
  refine r_aload_n dX6_isTrue_49 rfl rfl ?_
  refine g_getA dX6_isTrue_50 fl_RX6_98 fk_6_37 rfl (cl_true_0) ?_
  refine r_aload_n dX6_isTrue_53 rfl rfl ?_
  refine g_getA dX6_isTrue_54 fl_RX6_80 fk_6_30 rfl (cl_true_0) ?_
  refine r_iload dX6_isTrue_57 rfl ?_
  refine g_iald dX6_isTrue_59 aK_true_0_31 aL_true_0_31 hf (fun x_1 hf => ?_)
  refine g_iald dX6_isTrue_60 aK_true_0_38 aL_true_0_38 hf (fun x_2 hf => ?_)
  refine r_goto (tgt := 65) dX6_isTrue_61 rfl ?_
  exact ok_mX6_isTrue_65 hk4 hk15 hf
set_option maxRecDepth 100000 in
set_option maxHeartbeats 4000000 in
theorem ok_mX6_isTrue_212 {zv : Int32} {zw : AW} {k4 : Int32 → Int32 → AW → Option (Int32 × AW)} {v2 : Int32} {s0 : Int32} {s1 : Int32} (hk4 : ∀ (v1 : Int32) (v2 : Int32)  w, k4 v1 v2 w = some (zv, zw) → RR true KX6_isTrue (some (vI zv), zw) 4 [some (vR 0 0), some (vI v1), some (vI v2), none, none, none, none, none] [] w) {w : AW} (hf : mX6_isTrue_212 k4 v2 s0 s1 w = some (zv, zw)) : RR true KX6_isTrue (some (vI zv), zw) 212 [some (vR 0 0), none, some (vI v2), none, none, none, none, none] [vI s0, vI s1] w := by
  refine r_iand dX6_isTrue_212 ?_
  refine g_istore_n (fun v1_1 => [some (vR 0 0), some (vI v1_1), some (vI v2), none, none, none, none, none]) dX6_isTrue_213 rfl rfl (fun _ => rfl) (Nat.le_of_ble_eq_true rfl) hf (fun v1_1 hf => ?_)
  refine g_iinc (fun v2_2 => [some (vR 0 0), some (vI v1_1), some (vI v2_2), none, none, none, none, none]) dX6_isTrue_214 ic_1 rfl rfl (fun _ => rfl) (Nat.le_of_ble_eq_true rfl) hf (fun v2_2 hf => ?_)
  refine r_goto (tgt := 4) dX6_isTrue_217 rfl ?_
  exact hk4 _ _ _ hf
set_option maxRecDepth 100000 in
set_option maxHeartbeats 4000000 in
theorem ok_mX6_isTrue_15 {zv : Int32} {zw : AW} {k4 : Int32 → Int32 → AW → Option (Int32 × AW)} {v1 : Int32} {v2 : Int32} (hk4 : ∀ (v1 : Int32) (v2 : Int32)  w, k4 v1 v2 w = some (zv, zw) → RR true KX6_isTrue (some (vI zv), zw) 4 [some (vR 0 0), some (vI v1), some (vI v2), none, none, none, none, none] [] w) : ∀ (n : Nat) (v3 : Int32) (v4 : Int32) (w : AW), mX6_isTrue_15 k4 v1 v2 n v3 v4 w = some (zv, zw) → RR true KX6_isTrue (some (vI zv), zw) 15 [some (vR 0 0), some (vI v1), some (vI v2), some (vI v3), some (vI v4), none, none, none] [] w := by
  intro n
  induction n with
  | zero => intro v3 v4 w hf; cases hf
  | succ n ih =>
    intro v3 v4 w hf
    refine r_iload dX6_isTrue_15 rfl ?_
    refine r_aload_n dX6_isTrue_17 rfl rfl ?_
    refine g_getI dX6_isTrue_18 fl_RX6_202 fk_6_26 (cl_true_0) ?_
    refine g_icmp_ge (tgt := 201) dX6_isTrue_21 rfl hf (fun _ hf => ?_) (fun _ hf => ?_)
    · refine r_iload_n dX6_isTrue_201 rfl rfl ?_
      refine r_iload_n dX6_isTrue_202 rfl rfl ?_
      refine r_iconst dX6_isTrue_203 ic_1 ?_
      refine g_icmp_ne (tgt := 211) dX6_isTrue_204 rfl hf (fun _ hf => ?_) (fun _ hf => ?_)
      · refine r_iconst dX6_isTrue_211 ic_0 ?_
        refine r_mask (bs := [true, false, true, false, false, false, false, false]) ?_
        exact ok_mX6_isTrue_212 hk4 hf
      · refine r_iconst dX6_isTrue_207 ic_1 ?_
        refine r_goto (tgt := 212) dX6_isTrue_208 rfl ?_
        refine r_mask (bs := [true, false, true, false, false, false, false, false]) ?_
        exact ok_mX6_isTrue_212 hk4 hf
    · refine r_aload_n dX6_isTrue_24 rfl rfl ?_
      refine g_getA dX6_isTrue_25 fl_RX6_77 fk_6_29 rfl (cl_true_0) ?_
      refine r_iload dX6_isTrue_28 rfl ?_
      refine g_iald dX6_isTrue_30 aK_true_0_30 aL_true_0_30 hf (fun x_1 hf => ?_)
      refine r_istore (ls2 := [some (vR 0 0), some (vI v1), some (vI v2), some (vI v3), some (vI v4), some (vI x_1), none, none]) dX6_isTrue_31 rfl rfl (Nat.le_of_ble_eq_true rfl) ?_
      refine r_iload dX6_isTrue_33 rfl ?_
      obtain ⟨x_3, w_2, hc, hf⟩ := cl_some hf
      refine g_cS (st := []) KX6_isPrefix [vI x_1] dX6_isTrue_35 e_RX6_182 mok_X6_isPrefix mw_X6_isPrefix ⟨Nat.le_of_ble_eq_true rfl, Nat.le_of_ble_eq_true rfl⟩ (met_X6_isPrefix hc) rfl (Nat.le_of_ble_eq_true rfl) ?_
      clear hc
      refine g_if_ne (tgt := 49) dX6_isTrue_38 rfl hf (fun _ hf => ?_) (fun _ hf => ?_)
      · refine r_mask (bs := [true, true, true, false, true, true, false, false]) ?_
        exact ok_mX6_isTrue_49 hk4 (fun v3 v4 w hf => ih v3 v4 w hf) hf
      · refine r_iload dX6_isTrue_41 rfl ?_
        obtain ⟨x_5, w_4, hc, hf⟩ := cl_some hf
        refine g_cS (st := []) KX6_isJoin [vI x_1] dX6_isTrue_43 e_RX6_192 mok_X6_isJoin mw_X6_isJoin ⟨Nat.le_of_ble_eq_true rfl, Nat.le_of_ble_eq_true rfl⟩ (met_X6_isJoin hc) rfl (Nat.le_of_ble_eq_true rfl) ?_
        clear hc
        refine g_if_eq (tgt := 64) dX6_isTrue_46 rfl hf (fun _ hf => ?_) (fun _ hf => ?_)
        · refine r_iconst dX6_isTrue_64 ic_0 ?_
          refine r_mask (bs := [true, true, true, false, true, true, false, false]) ?_
          exact ok_mX6_isTrue_65 hk4 (fun v3 v4 w hf => ih v3 v4 w hf) hf
        · refine r_mask (bs := [true, true, true, false, true, true, false, false]) ?_
          exact ok_mX6_isTrue_49 hk4 (fun v3 v4 w hf => ih v3 v4 w hf) hf
set_option maxRecDepth 100000 in
set_option maxHeartbeats 4000000 in
theorem ok_mX6_isTrue_4 {zv : Int32} {zw : AW} : ∀ (n : Nat) (v1 : Int32) (v2 : Int32) (w : AW), mX6_isTrue_4 n v1 v2 w = some (zv, zw) → RR true KX6_isTrue (some (vI zv), zw) 4 [some (vR 0 0), some (vI v1), some (vI v2), none, none, none, none, none] [] w := by
  intro n
  induction n with
  | zero => intro v1 v2 w hf; cases hf
  | succ n ih =>
    intro v1 v2 w hf
    refine r_iload_n dX6_isTrue_4 rfl rfl ?_
    refine r_bipush dX6_isTrue_5 (bp_16) ?_
    refine g_icmp_ge (tgt := 220) dX6_isTrue_7 rfl hf (fun _ hf => ?_) (fun _ hf => ?_)
    · refine r_iload_n dX6_isTrue_220 rfl rfl ?_
      exact g_zret dX6_isTrue_221 rfl hf
    · refine r_iconst dX6_isTrue_10 ic_0 ?_
      refine r_istore_n (ls2 := [some (vR 0 0), some (vI v1), some (vI v2), some (vI 0), none, none, none, none]) dX6_isTrue_11 rfl rfl rfl (Nat.le_of_ble_eq_true rfl) ?_
      refine r_iconst dX6_isTrue_12 ic_0 ?_
      refine r_istore (ls2 := [some (vR 0 0), some (vI v1), some (vI v2), some (vI 0), some (vI 0), none, none, none]) dX6_isTrue_13 rfl rfl (Nat.le_of_ble_eq_true rfl) ?_
      exact ok_mX6_isTrue_15 (fun v1 v2 w hf => ih v1 v2 w hf) FU _ _ _ hf
set_option maxRecDepth 100000 in
set_option maxHeartbeats 4000000 in
theorem ok_mX6_isTrue {zv : Int32} {zw : AW} {w : AW} (hf : mX6_isTrue w = some (zv, zw)) : RR true KX6_isTrue (some (vI zv), zw) 0 [some (vR 0 0), none, none, none, none, none, none, none] [] w := by
  refine r_iconst dX6_isTrue_0 ic_1 ?_
  refine r_istore_n (ls2 := [some (vR 0 0), some (vI 1), none, none, none, none, none, none]) dX6_isTrue_1 rfl rfl rfl (Nat.le_of_ble_eq_true rfl) ?_
  refine r_iconst dX6_isTrue_2 ic_0 ?_
  refine r_istore_n (ls2 := [some (vR 0 0), some (vI 1), some (vI 0), none, none, none, none, none]) dX6_isTrue_3 rfl rfl rfl (Nat.le_of_ble_eq_true rfl) ?_
  exact ok_mX6_isTrue_4 FU _ _ _ hf
theorem met_X6_isTrue {zv : Int32} {zw : AW} {w : AW} (hf : mX6_isTrue w = some (zv, zw)) : am_Met true KX6_isTrue [vR 0 0] w (some (vI zv), zw) := am_met mok_X6_isTrue.1 (Nat.le_of_ble_eq_true rfl) (ok_mX6_isTrue  hf)

/-! SeenWorldsModel.shown(II)I -/
noncomputable def mX6_shown_50 (v2 : Int32) (w : AW) : Option (Int32 × AW) :=
  if v2 ≠ 0 then
    cl (mX6_isTrue w) fun x_2 w_1 =>
    if x_2 = 0 then
      some (0, w_1)
    else
      some (1, w_1)
  else
    cl (mX6_isShown w) fun x_4 w_3 =>
    if x_4 = 0 then
      some (0, w_3)
    else
      some (1, w_3)
noncomputable def mX6_shown (v1 : Int32) (v2 : Int32) (w : AW) : Option (Int32 × AW) :=
  pu w 0 0 0 fun w_1 =>
  cl (mX6_isSentence v1 w_1) fun x_3 w_2 =>
  if x_3 = 0 then
    some ((-1), w_2)
  else
    cl (mX6_in v2 0 1 w_2) fun x_5 w_4 =>
    if x_5 ≠ 0 then
      cl (mX6_works v1 w_4) fun x_7 w_6 =>
      cl (mX6_isPlain w_6) fun x_9 w_8 =>
      if x_9 = 0 then
        some ((-2), w_8)
      else
        if v2 ≠ 0 then
          mX6_shown_50 v2 w_8
        else
          cl (mX6_tells 1 w_8) fun x_11 w_10 =>
          if x_11 ≠ 0 then
            mX6_shown_50 v2 w_10
          else
            some ((-2), w_10)
    else
      some ((-1), w_4)
set_option maxRecDepth 100000 in
set_option maxHeartbeats 4000000 in
theorem ok_mX6_shown_50 {zv : Int32} {zw : AW} {v2 : Int32} {w : AW} (hf : mX6_shown_50 v2 w = some (zv, zw)) : RR true KX6_shown (some (vI zv), zw) 50 [some (vR 0 0), none, some (vI v2)] [] w := by
  refine r_iload_n dX6_shown_50 rfl rfl ?_
  refine g_if_ne (tgt := 69) dX6_shown_51 rfl hf (fun _ hf => ?_) (fun _ hf => ?_)
  · refine r_aload_n dX6_shown_69 rfl rfl ?_
    obtain ⟨x_2, w_1, hc, hf⟩ := cl_some hf
    refine g_cV (st := []) KX6_isTrue [] dX6_shown_70 e_RX6_305 (cl_true_0) (rfl : vwCl[6]? = _) rfl mok_X6_isTrue mw_X6_isTrue ⟨Nat.le_of_ble_eq_true rfl, Nat.le_of_ble_eq_true rfl⟩ (met_X6_isTrue hc) rfl (Nat.le_of_ble_eq_true rfl) ?_
    clear hc
    refine g_if_eq (tgt := 80) dX6_shown_73 rfl hf (fun _ hf => ?_) (fun _ hf => ?_)
    · refine r_iconst dX6_shown_80 ic_0 ?_
      exact r_iret dX6_shown_81 rfl (ret_I hf)
    · refine r_iconst dX6_shown_76 ic_1 ?_
      refine r_goto (tgt := 81) dX6_shown_77 rfl ?_
      exact r_iret dX6_shown_81 rfl (ret_I hf)
  · refine r_aload_n dX6_shown_54 rfl rfl ?_
    obtain ⟨x_4, w_3, hc, hf⟩ := cl_some hf
    refine g_cV (st := []) KX6_isShown [] dX6_shown_55 e_RX6_302 (cl_true_0) (rfl : vwCl[6]? = _) rfl mok_X6_isShown mw_X6_isShown ⟨Nat.le_of_ble_eq_true rfl, Nat.le_of_ble_eq_true rfl⟩ (met_X6_isShown hc) rfl (Nat.le_of_ble_eq_true rfl) ?_
    clear hc
    refine g_if_eq (tgt := 65) dX6_shown_58 rfl hf (fun _ hf => ?_) (fun _ hf => ?_)
    · refine r_iconst dX6_shown_65 ic_0 ?_
      refine r_goto (tgt := 81) dX6_shown_66 rfl ?_
      exact r_iret dX6_shown_81 rfl (ret_I hf)
    · refine r_iconst dX6_shown_61 ic_1 ?_
      refine r_goto (tgt := 81) dX6_shown_62 rfl ?_
      exact r_iret dX6_shown_81 rfl (ret_I hf)
set_option maxRecDepth 100000 in
set_option maxHeartbeats 4000000 in
theorem ok_mX6_shown {zv : Int32} {zw : AW} {v1 : Int32} {v2 : Int32} {w : AW} (hf : mX6_shown v1 v2 w = some (zv, zw)) : RR true KX6_shown (some (vI zv), zw) 0 [some (vR 0 0), some (vI v1), some (vI v2)] [] w := by
  refine r_aload_n dX6_shown_0 rfl rfl ?_
  refine r_iconst dX6_shown_1 ic_0 ?_
  refine g_putI dX6_shown_2 fl_RX6_132 fk_6_0 (cl_true_0) hf (fun w_1 hf => ?_)
  refine r_iload_n dX6_shown_5 rfl rfl ?_
  obtain ⟨x_3, w_2, hc, hf⟩ := cl_some hf
  refine g_cS (st := []) KX6_isSentence [vI v1] dX6_shown_6 e_RX6_195 mok_X6_isSentence mw_X6_isSentence ⟨Nat.le_of_ble_eq_true rfl, Nat.le_of_ble_eq_true rfl⟩ (met_X6_isSentence hc) rfl (Nat.le_of_ble_eq_true rfl) ?_
  clear hc
  refine g_if_eq (tgt := 21) dX6_shown_9 rfl hf (fun _ hf => ?_) (fun _ hf => ?_)
  · refine r_iconst dX6_shown_21 ic_m1 ?_
    exact r_iret dX6_shown_22 rfl (ret_I hf)
  · refine r_iload_n dX6_shown_12 rfl rfl ?_
    refine r_iconst dX6_shown_13 ic_0 ?_
    refine r_iconst dX6_shown_14 ic_1 ?_
    obtain ⟨x_5, w_4, hc, hf⟩ := cl_some hf
    refine g_cS (st := []) KX6_in [vI v2, vI 0, vI 1] dX6_shown_15 e_RX6_135 mok_X6_in mw_X6_in ⟨Nat.le_of_ble_eq_true rfl, Nat.le_of_ble_eq_true rfl⟩ (met_X6_in hc) rfl (Nat.le_of_ble_eq_true rfl) ?_
    clear hc
    refine g_if_ne (tgt := 23) dX6_shown_18 rfl hf (fun _ hf => ?_) (fun _ hf => ?_)
    · refine r_aload_n dX6_shown_23 rfl rfl ?_
      refine r_iload_n dX6_shown_24 rfl rfl ?_
      obtain ⟨x_7, w_6, hc, hf⟩ := cl_some hf
      refine g_cVv (st := []) KX6_works [vI v1] dX6_shown_25 e_RX6_215 (cl_true_0) (rfl : vwCl[6]? = _) rfl mok_X6_works mw_X6_works ⟨Nat.le_of_ble_eq_true rfl, Nat.le_of_ble_eq_true rfl⟩ (met_X6_works hc) rfl (Nat.le_of_ble_eq_true rfl) ?_
      clear hc
      refine r_aload_n dX6_shown_28 rfl rfl ?_
      obtain ⟨x_9, w_8, hc, hf⟩ := cl_some hf
      refine g_cV (st := []) KX6_isPlain [] dX6_shown_29 e_RX6_221 (cl_true_0) (rfl : vwCl[6]? = _) rfl mok_X6_isPlain mw_X6_isPlain ⟨Nat.le_of_ble_eq_true rfl, Nat.le_of_ble_eq_true rfl⟩ (met_X6_isPlain hc) rfl (Nat.le_of_ble_eq_true rfl) ?_
      clear hc
      refine g_if_eq (tgt := 47) dX6_shown_32 rfl hf (fun _ hf => ?_) (fun _ hf => ?_)
      · refine r_bipush dX6_shown_47 (bp_m2) ?_
        exact r_iret dX6_shown_49 rfl (ret_I hf)
      · refine r_iload_n dX6_shown_35 rfl rfl ?_
        refine g_if_ne (tgt := 50) dX6_shown_36 rfl hf (fun _ hf => ?_) (fun _ hf => ?_)
        · refine r_mask (bs := [true, false, true]) ?_
          exact ok_mX6_shown_50 hf
        · refine r_aload_n dX6_shown_39 rfl rfl ?_
          refine r_iconst dX6_shown_40 ic_1 ?_
          obtain ⟨x_11, w_10, hc, hf⟩ := cl_some hf
          refine g_cV (st := []) KX6_tells [vI 1] dX6_shown_41 e_RX6_268 (cl_true_0) (rfl : vwCl[6]? = _) rfl mok_X6_tells mw_X6_tells ⟨Nat.le_of_ble_eq_true rfl, Nat.le_of_ble_eq_true rfl⟩ (met_X6_tells hc) rfl (Nat.le_of_ble_eq_true rfl) ?_
          clear hc
          refine g_if_ne (tgt := 50) dX6_shown_44 rfl hf (fun _ hf => ?_) (fun _ hf => ?_)
          · refine r_mask (bs := [true, false, true]) ?_
            exact ok_mX6_shown_50 hf
          · refine r_bipush dX6_shown_47 (bp_m2) ?_
            exact r_iret dX6_shown_49 rfl (ret_I hf)
    · refine r_iconst dX6_shown_21 ic_m1 ?_
      exact r_iret dX6_shown_22 rfl (ret_I hf)
theorem met_X6_shown {zv : Int32} {zw : AW} {v1 : Int32} {v2 : Int32} {w : AW} (hf : mX6_shown v1 v2 w = some (zv, zw)) : am_Met true KX6_shown [vR 0 0, vI v1, vI v2] w (some (vI zv), zw) := am_met mok_X6_shown.1 (Nat.le_of_ble_eq_true rfl) (ok_mX6_shown  hf)

/-! SeenWorldsModel.held(I)I -/
noncomputable def mX6_held (v1 : Int32) (w : AW) : Option (Int32 × AW) :=
  cl (mX6_works v1 w) fun x_2 w_1 =>
  cl (mX6_looks 0 w_1) fun x_4 w_3 =>
  cl (mX6_holding w_3) fun x_6 w_5 =>
  some (x_6, w_5)
set_option maxRecDepth 100000 in
set_option maxHeartbeats 4000000 in
theorem ok_mX6_held {zv : Int32} {zw : AW} {v1 : Int32} {w : AW} (hf : mX6_held v1 w = some (zv, zw)) : RR true KX6_held (some (vI zv), zw) 0 [some (vR 0 0), some (vI v1)] [] w := by
  refine r_aload_n dX6_held_0 rfl rfl ?_
  refine r_iload_n dX6_held_1 rfl rfl ?_
  obtain ⟨x_2, w_1, hc, hf⟩ := cl_some hf
  refine g_cVv (st := []) KX6_works [vI v1] dX6_held_2 e_RX6_215 (cl_true_0) (rfl : vwCl[6]? = _) rfl mok_X6_works mw_X6_works ⟨Nat.le_of_ble_eq_true rfl, Nat.le_of_ble_eq_true rfl⟩ (met_X6_works hc) rfl (Nat.le_of_ble_eq_true rfl) ?_
  clear hc
  refine r_aload_n dX6_held_5 rfl rfl ?_
  refine r_iconst dX6_held_6 ic_0 ?_
  obtain ⟨x_4, w_3, hc, hf⟩ := cl_some hf
  refine g_cVv (st := []) KX6_looks [vI 0] dX6_held_7 e_RX6_234 (cl_true_0) (rfl : vwCl[6]? = _) rfl mok_X6_looks mw_X6_looks ⟨Nat.le_of_ble_eq_true rfl, Nat.le_of_ble_eq_true rfl⟩ (met_X6_looks hc) rfl (Nat.le_of_ble_eq_true rfl) ?_
  clear hc
  refine r_aload_n dX6_held_10 rfl rfl ?_
  obtain ⟨x_6, w_5, hc, hf⟩ := cl_some hf
  refine g_cV (st := []) KX6_holding [] dX6_held_11 e_RX6_237 (cl_true_0) (rfl : vwCl[6]? = _) rfl mok_X6_holding mw_X6_holding ⟨Nat.le_of_ble_eq_true rfl, Nat.le_of_ble_eq_true rfl⟩ (met_X6_holding hc) rfl (Nat.le_of_ble_eq_true rfl) ?_
  clear hc
  exact r_iret dX6_held_14 rfl (ret_I hf)
theorem met_X6_held {zv : Int32} {zw : AW} {v1 : Int32} {w : AW} (hf : mX6_held v1 w = some (zv, zw)) : am_Met true KX6_held [vR 0 0, vI v1] w (some (vI zv), zw) := am_met mok_X6_held.1 (Nat.le_of_ble_eq_true rfl) (ok_mX6_held  hf)

/-! SeenWorldsModel.packed(II)I -/
noncomputable def mX6_packed_38 (k7 : Int32 → Int32 → Int32 → AW → Option (Int32 × AW)) (v0 : Int32) (v1 : Int32) (v2 : Int32) (v3 : Int32) (v4 : Int32) (w : AW) : Option (Int32 × AW) :=
  nm (v4 + 1) fun v4_1 =>
  k7 v2 v3 v4_1 w
noncomputable def mX6_packed_7 (v0 : Int32) (v1 : Int32) : Nat → Int32 → Int32 → Int32 → AW → Option (Int32 × AW)
  | 0, _, _, _, _ => none
  | n + 1, v2, v3, v4, w =>
    if 8 ≤ v4 then
      some (v2, w)
    else
      if ((v1 >>> (v4 &&& 31)) &&& 1) ≠ 1 then
        mX6_packed_38 (mX6_packed_7 v0 v1 n) v0 v1 v2 v3 v4 w
      else
        nm (v2 ||| (((v0 >>> (v4 &&& 31)) &&& 1) <<< (v3 &&& 31))) fun v2_1 =>
        nm (v3 + 1) fun v3_2 =>
        mX6_packed_38 (mX6_packed_7 v0 v1 n) v0 v1 v2_1 v3_2 v4 w
noncomputable def mX6_packed (v0 : Int32) (v1 : Int32) (w : AW) : Option (Int32 × AW) :=
  mX6_packed_7 v0 v1 FU 0 0 0 w
set_option maxRecDepth 100000 in
set_option maxHeartbeats 4000000 in
theorem ok_mX6_packed_38 {zv : Int32} {zw : AW} {k7 : Int32 → Int32 → Int32 → AW → Option (Int32 × AW)} {v0 : Int32} {v1 : Int32} {v2 : Int32} {v3 : Int32} {v4 : Int32} (hk7 : ∀ (v2 : Int32) (v3 : Int32) (v4 : Int32)  w, k7 v2 v3 v4 w = some (zv, zw) → RR true KX6_packed (some (vI zv), zw) 7 [some (vI v0), some (vI v1), some (vI v2), some (vI v3), some (vI v4)] [] w) {w : AW} (hf : mX6_packed_38 k7 v0 v1 v2 v3 v4 w = some (zv, zw)) : RR true KX6_packed (some (vI zv), zw) 38 [some (vI v0), some (vI v1), some (vI v2), some (vI v3), some (vI v4)] [] w := by
  refine g_iinc (fun v4_1 => [some (vI v0), some (vI v1), some (vI v2), some (vI v3), some (vI v4_1)]) dX6_packed_38 ic_1 rfl rfl (fun _ => rfl) (Nat.le_of_ble_eq_true rfl) hf (fun v4_1 hf => ?_)
  refine r_goto (tgt := 7) dX6_packed_41 rfl ?_
  exact hk7 _ _ _ _ hf
set_option maxRecDepth 100000 in
set_option maxHeartbeats 4000000 in
theorem ok_mX6_packed_7 {zv : Int32} {zw : AW} {v0 : Int32} {v1 : Int32} : ∀ (n : Nat) (v2 : Int32) (v3 : Int32) (v4 : Int32) (w : AW), mX6_packed_7 v0 v1 n v2 v3 v4 w = some (zv, zw) → RR true KX6_packed (some (vI zv), zw) 7 [some (vI v0), some (vI v1), some (vI v2), some (vI v3), some (vI v4)] [] w := by
  intro n
  induction n with
  | zero => intro v2 v3 v4 w hf; cases hf
  | succ n ih =>
    intro v2 v3 v4 w hf
    refine r_iload dX6_packed_7 rfl ?_
    refine r_bipush dX6_packed_9 (bp_8) ?_
    refine g_icmp_ge (tgt := 44) dX6_packed_11 rfl hf (fun _ hf => ?_) (fun _ hf => ?_)
    · refine r_iload_n dX6_packed_44 rfl rfl ?_
      exact r_iret dX6_packed_45 rfl (ret_I hf)
    · refine r_iload_n dX6_packed_14 rfl rfl ?_
      refine r_iload dX6_packed_15 rfl ?_
      refine r_ishr dX6_packed_17 ?_
      refine r_iconst dX6_packed_18 ic_1 ?_
      refine r_iand dX6_packed_19 ?_
      refine r_iconst dX6_packed_20 ic_1 ?_
      refine g_icmp_ne (tgt := 38) dX6_packed_21 rfl hf (fun _ hf => ?_) (fun _ hf => ?_)
      · exact ok_mX6_packed_38 (fun v2 v3 v4 w hf => ih v2 v3 v4 w hf) hf
      · refine r_iload_n dX6_packed_24 rfl rfl ?_
        refine r_iload_n dX6_packed_25 rfl rfl ?_
        refine r_iload dX6_packed_26 rfl ?_
        refine r_ishr dX6_packed_28 ?_
        refine r_iconst dX6_packed_29 ic_1 ?_
        refine r_iand dX6_packed_30 ?_
        refine r_iload_n dX6_packed_31 rfl rfl ?_
        refine r_ishl dX6_packed_32 ?_
        refine r_ior dX6_packed_33 ?_
        refine g_istore_n (fun v2_1 => [some (vI v0), some (vI v1), some (vI v2_1), some (vI v3), some (vI v4)]) dX6_packed_34 rfl rfl (fun _ => rfl) (Nat.le_of_ble_eq_true rfl) hf (fun v2_1 hf => ?_)
        refine g_iinc (fun v3_2 => [some (vI v0), some (vI v1), some (vI v2_1), some (vI v3_2), some (vI v4)]) dX6_packed_35 ic_1 rfl rfl (fun _ => rfl) (Nat.le_of_ble_eq_true rfl) hf (fun v3_2 hf => ?_)
        exact ok_mX6_packed_38 (fun v2 v3 v4 w hf => ih v2 v3 v4 w hf) hf
set_option maxRecDepth 100000 in
set_option maxHeartbeats 4000000 in
theorem ok_mX6_packed {zv : Int32} {zw : AW} {v0 : Int32} {v1 : Int32} {w : AW} (hf : mX6_packed v0 v1 w = some (zv, zw)) : RR true KX6_packed (some (vI zv), zw) 0 [some (vI v0), some (vI v1), none, none, none] [] w := by
  refine r_iconst dX6_packed_0 ic_0 ?_
  refine r_istore_n (ls2 := [some (vI v0), some (vI v1), some (vI 0), none, none]) dX6_packed_1 rfl rfl rfl (Nat.le_of_ble_eq_true rfl) ?_
  refine r_iconst dX6_packed_2 ic_0 ?_
  refine r_istore_n (ls2 := [some (vI v0), some (vI v1), some (vI 0), some (vI 0), none]) dX6_packed_3 rfl rfl rfl (Nat.le_of_ble_eq_true rfl) ?_
  refine r_iconst dX6_packed_4 ic_0 ?_
  refine r_istore (ls2 := [some (vI v0), some (vI v1), some (vI 0), some (vI 0), some (vI 0)]) dX6_packed_5 rfl rfl (Nat.le_of_ble_eq_true rfl) ?_
  exact ok_mX6_packed_7 FU _ _ _ _ hf
theorem met_X6_packed {zv : Int32} {zw : AW} {v0 : Int32} {v1 : Int32} {w : AW} (hf : mX6_packed v0 v1 w = some (zv, zw)) : am_Met true KX6_packed [vI v0, vI v1] w (some (vI zv), zw) := am_met mok_X6_packed.1 (Nat.le_of_ble_eq_true rfl) (ok_mX6_packed  hf)

/-! SeenWorldsModel.tell(I)I -/
noncomputable def mX6_tell_71 (k32 : Int32 → Int32 → AW → Option (Int32 × AW)) (v2 : Int32) (v3 : Int32) (v4 : Int32) (w : AW) : Option (Int32 × AW) :=
  nm (v4 + 1) fun v4_1 =>
  k32 v3 v4_1 w
noncomputable def mX6_tell_113 (v3 : Int32) : Nat → Int32 → AW → Option (Int32 × AW)
  | 0, _, _ => none
  | n + 1, v4, w =>
    if 8 ≤ v4 then
      pu w 0 2 v3 fun w_1 =>
      some (w_1.1 0 0 2, w_1)
    else
      wr 8 w 0 4 v4 0 fun w_2 =>
      nm (v4 + 1) fun v4_3 =>
      mX6_tell_113 v3 n v4_3 w_2
noncomputable def mX6_tell_80 (v2 : Int32) (v3 : Int32) : Nat → Int32 → AW → Option (Int32 × AW)
  | 0, _, _ => none
  | n + 1, v4, w =>
    if 4 ≤ v4 then
      mX6_tell_113 v3 FU v3 w
    else
      rd 4 (w.1 0 5) v4 fun x_1 =>
      cl (mX6_packed x_1 v2 w) fun x_3 w_2 =>
      wr 4 w_2 0 5 v4 x_3 fun w_4 =>
      nm (v4 + 1) fun v4_5 =>
      mX6_tell_80 v2 v3 n v4_5 w_4
noncomputable def mX6_tell_32 (v2 : Int32) : Nat → Int32 → Int32 → AW → Option (Int32 × AW)
  | 0, _, _, _ => none
  | n + 1, v3, v4, w =>
    if (w.1 0 0 2) ≤ v4 then
      mX6_tell_80 v2 v3 FU 0 w
    else
      if ((v2 >>> (v4 &&& 31)) &&& 1) ≠ 1 then
        mX6_tell_71 (mX6_tell_32 v2 n) v2 v3 v4 w
      else
        rd 8 (w.1 0 4) v4 fun x_1 =>
        cl (mX6_packed x_1 v2 w) fun x_3 w_2 =>
        wr 8 w_2 0 4 v3 x_3 fun w_4 =>
        nm (v3 + 1) fun v3_5 =>
        mX6_tell_71 (mX6_tell_32 v2 n) v2 v3_5 v4 w_4
noncomputable def mX6_tell (v1 : Int32) (w : AW) : Option (Int32 × AW) :=
  pu w 0 0 0 fun w_1 =>
  cl (mX6_isSentence v1 w_1) fun x_3 w_2 =>
  if x_3 ≠ 0 then
    cl (mX6_held v1 w_2) fun x_5 w_4 =>
    if x_5 ≠ 0 then
      mX6_tell_32 x_5 FU 0 0 w_4
    else
      some ((-2), w_4)
  else
    some ((-1), w_2)
set_option maxRecDepth 100000 in
set_option maxHeartbeats 4000000 in
theorem ok_mX6_tell_71 {zv : Int32} {zw : AW} {k32 : Int32 → Int32 → AW → Option (Int32 × AW)} {v2 : Int32} {v3 : Int32} {v4 : Int32} (hk32 : ∀ (v3 : Int32) (v4 : Int32)  w, k32 v3 v4 w = some (zv, zw) → RR true KX6_tell (some (vI zv), zw) 32 [some (vR 0 0), none, some (vI v2), some (vI v3), some (vI v4)] [] w) {w : AW} (hf : mX6_tell_71 k32 v2 v3 v4 w = some (zv, zw)) : RR true KX6_tell (some (vI zv), zw) 71 [some (vR 0 0), none, some (vI v2), some (vI v3), some (vI v4)] [] w := by
  refine g_iinc (fun v4_1 => [some (vR 0 0), none, some (vI v2), some (vI v3), some (vI v4_1)]) dX6_tell_71 ic_1 rfl rfl (fun _ => rfl) (Nat.le_of_ble_eq_true rfl) hf (fun v4_1 hf => ?_)
  refine r_goto (tgt := 32) dX6_tell_74 rfl ?_
  exact hk32 _ _ _ hf
set_option maxRecDepth 100000 in
set_option maxHeartbeats 4000000 in
theorem ok_mX6_tell_113 {zv : Int32} {zw : AW} {v3 : Int32} : ∀ (n : Nat) (v4 : Int32) (w : AW), mX6_tell_113 v3 n v4 w = some (zv, zw) → RR true KX6_tell (some (vI zv), zw) 113 [some (vR 0 0), none, none, some (vI v3), some (vI v4)] [] w := by
  intro n
  induction n with
  | zero => intro v4 w hf; cases hf
  | succ n ih =>
    intro v4 w hf
    refine r_iload dX6_tell_113 rfl ?_
    refine r_bipush dX6_tell_115 (bp_8) ?_
    refine g_icmp_ge (tgt := 134) dX6_tell_117 rfl hf (fun _ hf => ?_) (fun _ hf => ?_)
    · refine r_aload_n dX6_tell_134 rfl rfl ?_
      refine r_iload_n dX6_tell_135 rfl rfl ?_
      refine g_putI dX6_tell_136 fl_RX6_7 fk_6_2 (cl_true_0) hf (fun w_1 hf => ?_)
      refine r_aload_n dX6_tell_139 rfl rfl ?_
      refine g_getI dX6_tell_140 fl_RX6_7 fk_6_2 (cl_true_0) ?_
      exact r_iret dX6_tell_143 rfl (ret_I hf)
    · refine r_aload_n dX6_tell_120 rfl rfl ?_
      refine g_getA dX6_tell_121 fl_RX6_13 fk_6_3 rfl (cl_true_0) ?_
      refine r_iload dX6_tell_124 rfl ?_
      refine r_iconst dX6_tell_126 ic_0 ?_
      refine g_iast dX6_tell_127 aK_true_0_4 aL_true_0_4 hf (fun w_2 hf => ?_)
      refine g_iinc (fun v4_3 => [some (vR 0 0), none, none, some (vI v3), some (vI v4_3)]) dX6_tell_128 ic_1 rfl rfl (fun _ => rfl) (Nat.le_of_ble_eq_true rfl) hf (fun v4_3 hf => ?_)
      refine r_goto (tgt := 113) dX6_tell_131 rfl ?_
      exact ih _ _ hf
set_option maxRecDepth 100000 in
set_option maxHeartbeats 4000000 in
theorem ok_mX6_tell_80 {zv : Int32} {zw : AW} {v2 : Int32} {v3 : Int32} : ∀ (n : Nat) (v4 : Int32) (w : AW), mX6_tell_80 v2 v3 n v4 w = some (zv, zw) → RR true KX6_tell (some (vI zv), zw) 80 [some (vR 0 0), none, some (vI v2), some (vI v3), some (vI v4)] [] w := by
  intro n
  induction n with
  | zero => intro v4 w hf; cases hf
  | succ n ih =>
    intro v4 w hf
    refine r_iload dX6_tell_80 rfl ?_
    refine r_iconst dX6_tell_82 ic_4 ?_
    refine g_icmp_ge (tgt := 110) dX6_tell_83 rfl hf (fun _ hf => ?_) (fun _ hf => ?_)
    · refine r_iload_n dX6_tell_110 rfl rfl ?_
      refine r_istore (ls2 := [some (vR 0 0), none, some (vI v2), some (vI v3), some (vI v3)]) dX6_tell_111 rfl rfl (Nat.le_of_ble_eq_true rfl) ?_
      refine r_mask (bs := [true, false, false, true, true]) ?_
      exact ok_mX6_tell_113 FU _ _ hf
    · refine r_aload_n dX6_tell_86 rfl rfl ?_
      refine g_getA dX6_tell_87 fl_RX6_17 fk_6_4 rfl (cl_true_0) ?_
      refine r_iload dX6_tell_90 rfl ?_
      refine r_aload_n dX6_tell_92 rfl rfl ?_
      refine g_getA dX6_tell_93 fl_RX6_17 fk_6_4 rfl (cl_true_0) ?_
      refine r_iload dX6_tell_96 rfl ?_
      refine g_iald dX6_tell_98 aK_true_0_5 aL_true_0_5 hf (fun x_1 hf => ?_)
      refine r_iload_n dX6_tell_99 rfl rfl ?_
      obtain ⟨x_3, w_2, hc, hf⟩ := cl_some hf
      refine g_cS (st := [vI v4, vR 0 5]) KX6_packed [vI x_1, vI v2] dX6_tell_100 e_RX6_311 mok_X6_packed mw_X6_packed ⟨Nat.le_of_ble_eq_true rfl, Nat.le_of_ble_eq_true rfl⟩ (met_X6_packed hc) rfl (Nat.le_of_ble_eq_true rfl) ?_
      clear hc
      refine g_iast dX6_tell_103 aK_true_0_5 aL_true_0_5 hf (fun w_4 hf => ?_)
      refine g_iinc (fun v4_5 => [some (vR 0 0), none, some (vI v2), some (vI v3), some (vI v4_5)]) dX6_tell_104 ic_1 rfl rfl (fun _ => rfl) (Nat.le_of_ble_eq_true rfl) hf (fun v4_5 hf => ?_)
      refine r_goto (tgt := 80) dX6_tell_107 rfl ?_
      exact ih _ _ hf
set_option maxRecDepth 100000 in
set_option maxHeartbeats 4000000 in
theorem ok_mX6_tell_32 {zv : Int32} {zw : AW} {v2 : Int32} : ∀ (n : Nat) (v3 : Int32) (v4 : Int32) (w : AW), mX6_tell_32 v2 n v3 v4 w = some (zv, zw) → RR true KX6_tell (some (vI zv), zw) 32 [some (vR 0 0), none, some (vI v2), some (vI v3), some (vI v4)] [] w := by
  intro n
  induction n with
  | zero => intro v3 v4 w hf; cases hf
  | succ n ih =>
    intro v3 v4 w hf
    refine r_iload dX6_tell_32 rfl ?_
    refine r_aload_n dX6_tell_34 rfl rfl ?_
    refine g_getI dX6_tell_35 fl_RX6_7 fk_6_2 (cl_true_0) ?_
    refine g_icmp_ge (tgt := 77) dX6_tell_38 rfl hf (fun _ hf => ?_) (fun _ hf => ?_)
    · refine r_iconst dX6_tell_77 ic_0 ?_
      refine r_istore (ls2 := [some (vR 0 0), none, some (vI v2), some (vI v3), some (vI 0)]) dX6_tell_78 rfl rfl (Nat.le_of_ble_eq_true rfl) ?_
      exact ok_mX6_tell_80 FU _ _ hf
    · refine r_iload_n dX6_tell_41 rfl rfl ?_
      refine r_iload dX6_tell_42 rfl ?_
      refine r_ishr dX6_tell_44 ?_
      refine r_iconst dX6_tell_45 ic_1 ?_
      refine r_iand dX6_tell_46 ?_
      refine r_iconst dX6_tell_47 ic_1 ?_
      refine g_icmp_ne (tgt := 71) dX6_tell_48 rfl hf (fun _ hf => ?_) (fun _ hf => ?_)
      · exact ok_mX6_tell_71 (fun v3 v4 w hf => ih v3 v4 w hf) hf
      · refine r_aload_n dX6_tell_51 rfl rfl ?_
        refine g_getA dX6_tell_52 fl_RX6_13 fk_6_3 rfl (cl_true_0) ?_
        refine r_iload_n dX6_tell_55 rfl rfl ?_
        refine r_aload_n dX6_tell_56 rfl rfl ?_
        refine g_getA dX6_tell_57 fl_RX6_13 fk_6_3 rfl (cl_true_0) ?_
        refine r_iload dX6_tell_60 rfl ?_
        refine g_iald dX6_tell_62 aK_true_0_4 aL_true_0_4 hf (fun x_1 hf => ?_)
        refine r_iload_n dX6_tell_63 rfl rfl ?_
        obtain ⟨x_3, w_2, hc, hf⟩ := cl_some hf
        refine g_cS (st := [vI v3, vR 0 4]) KX6_packed [vI x_1, vI v2] dX6_tell_64 e_RX6_311 mok_X6_packed mw_X6_packed ⟨Nat.le_of_ble_eq_true rfl, Nat.le_of_ble_eq_true rfl⟩ (met_X6_packed hc) rfl (Nat.le_of_ble_eq_true rfl) ?_
        clear hc
        refine g_iast dX6_tell_67 aK_true_0_4 aL_true_0_4 hf (fun w_4 hf => ?_)
        refine g_iinc (fun v3_5 => [some (vR 0 0), none, some (vI v2), some (vI v3_5), some (vI v4)]) dX6_tell_68 ic_1 rfl rfl (fun _ => rfl) (Nat.le_of_ble_eq_true rfl) hf (fun v3_5 hf => ?_)
        exact ok_mX6_tell_71 (fun v3 v4 w hf => ih v3 v4 w hf) hf
set_option maxRecDepth 100000 in
set_option maxHeartbeats 4000000 in
theorem ok_mX6_tell {zv : Int32} {zw : AW} {v1 : Int32} {w : AW} (hf : mX6_tell v1 w = some (zv, zw)) : RR true KX6_tell (some (vI zv), zw) 0 [some (vR 0 0), some (vI v1), none, none, none] [] w := by
  refine r_aload_n dX6_tell_0 rfl rfl ?_
  refine r_iconst dX6_tell_1 ic_0 ?_
  refine g_putI dX6_tell_2 fl_RX6_132 fk_6_0 (cl_true_0) hf (fun w_1 hf => ?_)
  refine r_iload_n dX6_tell_5 rfl rfl ?_
  obtain ⟨x_3, w_2, hc, hf⟩ := cl_some hf
  refine g_cS (st := []) KX6_isSentence [vI v1] dX6_tell_6 e_RX6_195 mok_X6_isSentence mw_X6_isSentence ⟨Nat.le_of_ble_eq_true rfl, Nat.le_of_ble_eq_true rfl⟩ (met_X6_isSentence hc) rfl (Nat.le_of_ble_eq_true rfl) ?_
  clear hc
  refine g_if_ne (tgt := 14) dX6_tell_9 rfl hf (fun _ hf => ?_) (fun _ hf => ?_)
  · refine r_aload_n dX6_tell_14 rfl rfl ?_
    refine r_iload_n dX6_tell_15 rfl rfl ?_
    obtain ⟨x_5, w_4, hc, hf⟩ := cl_some hf
    refine g_cV (st := []) KX6_held [vI v1] dX6_tell_16 e_RX6_308 (cl_true_0) (rfl : vwCl[6]? = _) rfl mok_X6_held mw_X6_held ⟨Nat.le_of_ble_eq_true rfl, Nat.le_of_ble_eq_true rfl⟩ (met_X6_held hc) rfl (Nat.le_of_ble_eq_true rfl) ?_
    clear hc
    refine r_istore_n (ls2 := [some (vR 0 0), some (vI v1), some (vI x_5), none, none]) dX6_tell_19 rfl rfl rfl (Nat.le_of_ble_eq_true rfl) ?_
    refine r_iload_n dX6_tell_20 rfl rfl ?_
    refine g_if_ne (tgt := 27) dX6_tell_21 rfl hf (fun _ hf => ?_) (fun _ hf => ?_)
    · refine r_iconst dX6_tell_27 ic_0 ?_
      refine r_istore_n (ls2 := [some (vR 0 0), some (vI v1), some (vI x_5), some (vI 0), none]) dX6_tell_28 rfl rfl rfl (Nat.le_of_ble_eq_true rfl) ?_
      refine r_iconst dX6_tell_29 ic_0 ?_
      refine r_istore (ls2 := [some (vR 0 0), some (vI v1), some (vI x_5), some (vI 0), some (vI 0)]) dX6_tell_30 rfl rfl (Nat.le_of_ble_eq_true rfl) ?_
      refine r_mask (bs := [true, false, true, true, true]) ?_
      exact ok_mX6_tell_32 FU _ _ _ hf
    · refine r_bipush dX6_tell_24 (bp_m2) ?_
      exact r_iret dX6_tell_26 rfl (ret_I hf)
  · refine r_iconst dX6_tell_12 ic_m1 ?_
    exact r_iret dX6_tell_13 rfl (ret_I hf)
theorem met_X6_tell {zv : Int32} {zw : AW} {v1 : Int32} {w : AW} (hf : mX6_tell v1 w = some (zv, zw)) : am_Met true KX6_tell [vR 0 0, vI v1] w (some (vI zv), zw) := am_met mok_X6_tell.1 (Nat.le_of_ble_eq_true rfl) (ok_mX6_tell  hf)

/-! SeenWorldsModel.known(I)I -/
noncomputable def mX6_known_77 (k25 : Int32 → Int32 → AW → Option (Int32 × AW)) (k40 : Int32 → Int32 → AW → Option (Int32 × AW)) (v2 : Int32) (v3 : Int32) (v4 : Int32) (v6 : Int32) (s0 : Int32) (s1 : Int32) (w : AW) : Option (Int32 × AW) :=
  nm (s1 ||| s0) fun v5_1 =>
  nm (v6 + 1) fun v6_2 =>
  k40 v5_1 v6_2 w
noncomputable def mX6_known_104 (k25 : Int32 → Int32 → AW → Option (Int32 × AW)) (v2 : Int32) (v4 : Int32) (s0 : Int32) (s1 : Int32) (w : AW) : Option (Int32 × AW) :=
  nm (s1 ||| s0) fun v3_1 =>
  nm (v4 + 1) fun v4_2 =>
  k25 v3_1 v4_2 w
noncomputable def mX6_known_40 (k25 : Int32 → Int32 → AW → Option (Int32 × AW)) (v2 : Int32) (v3 : Int32) (v4 : Int32) : Nat → Int32 → Int32 → AW → Option (Int32 × AW)
  | 0, _, _, _ => none
  | n + 1, v5, v6, w =>
    if (w.1 0 0 2) ≤ v6 then
      if (v5 &&& (v2 ^^^ (-1))) ≠ 0 then
        mX6_known_104 k25 v2 v4 0 v3 w
      else
        mX6_known_104 k25 v2 v4 (1 <<< (v4 &&& 31)) v3 w
    else
      rd 8 (w.1 0 4) v4 fun x_1 =>
      if ((x_1 >>> (v6 &&& 31)) &&& 1) ≠ 1 then
        mX6_known_77 k25 (mX6_known_40 k25 v2 v3 v4 n) v2 v3 v4 v6 0 v5 w
      else
        cl (mX6_farOf v6 w) fun x_3 w_2 =>
        mX6_known_77 k25 (mX6_known_40 k25 v2 v3 v4 n) v2 v3 v4 v6 x_3 v5 w_2
noncomputable def mX6_known_25 (v2 : Int32) : Nat → Int32 → Int32 → AW → Option (Int32 × AW)
  | 0, _, _, _ => none
  | n + 1, v3, v4, w =>
    if (w.1 0 0 2) ≤ v4 then
      some (v3, w)
    else
      mX6_known_40 (mX6_known_25 v2 n) v2 v3 v4 FU 0 0 w
noncomputable def mX6_known (v1 : Int32) (w : AW) : Option (Int32 × AW) :=
  pu w 0 0 0 fun w_1 =>
  cl (mX6_isSentence v1 w_1) fun x_3 w_2 =>
  if x_3 ≠ 0 then
    cl (mX6_held v1 w_2) fun x_5 w_4 =>
    mX6_known_25 x_5 FU 0 0 w_4
  else
    some ((-1), w_2)
set_option maxRecDepth 100000 in
set_option maxHeartbeats 4000000 in
theorem ok_mX6_known_77 {zv : Int32} {zw : AW} {k25 : Int32 → Int32 → AW → Option (Int32 × AW)} {k40 : Int32 → Int32 → AW → Option (Int32 × AW)} {v2 : Int32} {v3 : Int32} {v4 : Int32} {v6 : Int32} {s0 : Int32} {s1 : Int32} (hk25 : ∀ (v3 : Int32) (v4 : Int32)  w, k25 v3 v4 w = some (zv, zw) → RR true KX6_known (some (vI zv), zw) 25 [some (vR 0 0), none, some (vI v2), some (vI v3), some (vI v4), none, none] [] w) (hk40 : ∀ (v5 : Int32) (v6 : Int32)  w, k40 v5 v6 w = some (zv, zw) → RR true KX6_known (some (vI zv), zw) 40 [some (vR 0 0), none, some (vI v2), some (vI v3), some (vI v4), some (vI v5), some (vI v6)] [] w) {w : AW} (hf : mX6_known_77 k25 k40 v2 v3 v4 v6 s0 s1 w = some (zv, zw)) : RR true KX6_known (some (vI zv), zw) 77 [some (vR 0 0), none, some (vI v2), some (vI v3), some (vI v4), none, some (vI v6)] [vI s0, vI s1] w := by
  refine r_ior dX6_known_77 ?_
  refine g_istore (fun v5_1 => [some (vR 0 0), none, some (vI v2), some (vI v3), some (vI v4), some (vI v5_1), some (vI v6)]) dX6_known_78 rfl (fun _ => rfl) (Nat.le_of_ble_eq_true rfl) hf (fun v5_1 hf => ?_)
  refine g_iinc (fun v6_2 => [some (vR 0 0), none, some (vI v2), some (vI v3), some (vI v4), some (vI v5_1), some (vI v6_2)]) dX6_known_80 ic_1 rfl rfl (fun _ => rfl) (Nat.le_of_ble_eq_true rfl) hf (fun v6_2 hf => ?_)
  refine r_goto (tgt := 40) dX6_known_83 rfl ?_
  exact hk40 _ _ _ hf
set_option maxRecDepth 100000 in
set_option maxHeartbeats 4000000 in
theorem ok_mX6_known_104 {zv : Int32} {zw : AW} {k25 : Int32 → Int32 → AW → Option (Int32 × AW)} {v2 : Int32} {v4 : Int32} {s0 : Int32} {s1 : Int32} (hk25 : ∀ (v3 : Int32) (v4 : Int32)  w, k25 v3 v4 w = some (zv, zw) → RR true KX6_known (some (vI zv), zw) 25 [some (vR 0 0), none, some (vI v2), some (vI v3), some (vI v4), none, none] [] w) {w : AW} (hf : mX6_known_104 k25 v2 v4 s0 s1 w = some (zv, zw)) : RR true KX6_known (some (vI zv), zw) 104 [some (vR 0 0), none, some (vI v2), none, some (vI v4), none, none] [vI s0, vI s1] w := by
  refine r_ior dX6_known_104 ?_
  refine g_istore_n (fun v3_1 => [some (vR 0 0), none, some (vI v2), some (vI v3_1), some (vI v4), none, none]) dX6_known_105 rfl rfl (fun _ => rfl) (Nat.le_of_ble_eq_true rfl) hf (fun v3_1 hf => ?_)
  refine g_iinc (fun v4_2 => [some (vR 0 0), none, some (vI v2), some (vI v3_1), some (vI v4_2), none, none]) dX6_known_106 ic_1 rfl rfl (fun _ => rfl) (Nat.le_of_ble_eq_true rfl) hf (fun v4_2 hf => ?_)
  refine r_goto (tgt := 25) dX6_known_109 rfl ?_
  exact hk25 _ _ _ hf
set_option maxRecDepth 100000 in
set_option maxHeartbeats 4000000 in
theorem ok_mX6_known_40 {zv : Int32} {zw : AW} {k25 : Int32 → Int32 → AW → Option (Int32 × AW)} {v2 : Int32} {v3 : Int32} {v4 : Int32} (hk25 : ∀ (v3 : Int32) (v4 : Int32)  w, k25 v3 v4 w = some (zv, zw) → RR true KX6_known (some (vI zv), zw) 25 [some (vR 0 0), none, some (vI v2), some (vI v3), some (vI v4), none, none] [] w) : ∀ (n : Nat) (v5 : Int32) (v6 : Int32) (w : AW), mX6_known_40 k25 v2 v3 v4 n v5 v6 w = some (zv, zw) → RR true KX6_known (some (vI zv), zw) 40 [some (vR 0 0), none, some (vI v2), some (vI v3), some (vI v4), some (vI v5), some (vI v6)] [] w := by
  intro n
  induction n with
  | zero => intro v5 v6 w hf; cases hf
  | succ n ih =>
    intro v5 v6 w hf
    refine r_iload dX6_known_40 rfl ?_
    refine r_aload_n dX6_known_42 rfl rfl ?_
    refine g_getI dX6_known_43 fl_RX6_7 fk_6_2 (cl_true_0) ?_
    refine g_icmp_ge (tgt := 86) dX6_known_46 rfl hf (fun _ hf => ?_) (fun _ hf => ?_)
    · refine r_iload_n dX6_known_86 rfl rfl ?_
      refine r_iload dX6_known_87 rfl ?_
      refine r_iload_n dX6_known_89 rfl rfl ?_
      refine r_iconst dX6_known_90 ic_m1 ?_
      refine r_ixor dX6_known_91 ?_
      refine r_iand dX6_known_92 ?_
      refine g_if_ne (tgt := 103) dX6_known_93 rfl hf (fun _ hf => ?_) (fun _ hf => ?_)
      · refine r_iconst dX6_known_103 ic_0 ?_
        refine r_mask (bs := [true, false, true, false, true, false, false]) ?_
        exact ok_mX6_known_104 hk25 hf
      · refine r_iconst dX6_known_96 ic_1 ?_
        refine r_iload dX6_known_97 rfl ?_
        refine r_ishl dX6_known_99 ?_
        refine r_goto (tgt := 104) dX6_known_100 rfl ?_
        refine r_mask (bs := [true, false, true, false, true, false, false]) ?_
        exact ok_mX6_known_104 hk25 hf
    · refine r_iload dX6_known_49 rfl ?_
      refine r_aload_n dX6_known_51 rfl rfl ?_
      refine g_getA dX6_known_52 fl_RX6_13 fk_6_3 rfl (cl_true_0) ?_
      refine r_iload dX6_known_55 rfl ?_
      refine g_iald dX6_known_57 aK_true_0_4 aL_true_0_4 hf (fun x_1 hf => ?_)
      refine r_iload dX6_known_58 rfl ?_
      refine r_ishr dX6_known_60 ?_
      refine r_iconst dX6_known_61 ic_1 ?_
      refine r_iand dX6_known_62 ?_
      refine r_iconst dX6_known_63 ic_1 ?_
      refine g_icmp_ne (tgt := 76) dX6_known_64 rfl hf (fun _ hf => ?_) (fun _ hf => ?_)
      · refine r_iconst dX6_known_76 ic_0 ?_
        refine r_mask (bs := [true, false, true, true, true, false, true]) ?_
        exact ok_mX6_known_77 hk25 (fun v5 v6 w hf => ih v5 v6 w hf) hf
      · refine r_aload_n dX6_known_67 rfl rfl ?_
        refine r_iload dX6_known_68 rfl ?_
        obtain ⟨x_3, w_2, hc, hf⟩ := cl_some hf
        refine g_cV (st := [vI v5]) KX6_farOf [vI v6] dX6_known_70 e_RX6_147 (cl_true_0) (rfl : vwCl[6]? = _) rfl mok_X6_farOf mw_X6_farOf ⟨Nat.le_of_ble_eq_true rfl, Nat.le_of_ble_eq_true rfl⟩ (met_X6_farOf hc) rfl (Nat.le_of_ble_eq_true rfl) ?_
        clear hc
        refine r_goto (tgt := 77) dX6_known_73 rfl ?_
        refine r_mask (bs := [true, false, true, true, true, false, true]) ?_
        exact ok_mX6_known_77 hk25 (fun v5 v6 w hf => ih v5 v6 w hf) hf
set_option maxRecDepth 100000 in
set_option maxHeartbeats 4000000 in
theorem ok_mX6_known_25 {zv : Int32} {zw : AW} {v2 : Int32} : ∀ (n : Nat) (v3 : Int32) (v4 : Int32) (w : AW), mX6_known_25 v2 n v3 v4 w = some (zv, zw) → RR true KX6_known (some (vI zv), zw) 25 [some (vR 0 0), none, some (vI v2), some (vI v3), some (vI v4), none, none] [] w := by
  intro n
  induction n with
  | zero => intro v3 v4 w hf; cases hf
  | succ n ih =>
    intro v3 v4 w hf
    refine r_iload dX6_known_25 rfl ?_
    refine r_aload_n dX6_known_27 rfl rfl ?_
    refine g_getI dX6_known_28 fl_RX6_7 fk_6_2 (cl_true_0) ?_
    refine g_icmp_ge (tgt := 112) dX6_known_31 rfl hf (fun _ hf => ?_) (fun _ hf => ?_)
    · refine r_iload_n dX6_known_112 rfl rfl ?_
      exact r_iret dX6_known_113 rfl (ret_I hf)
    · refine r_iconst dX6_known_34 ic_0 ?_
      refine r_istore (ls2 := [some (vR 0 0), none, some (vI v2), some (vI v3), some (vI v4), some (vI 0), none]) dX6_known_35 rfl rfl (Nat.le_of_ble_eq_true rfl) ?_
      refine r_iconst dX6_known_37 ic_0 ?_
      refine r_istore (ls2 := [some (vR 0 0), none, some (vI v2), some (vI v3), some (vI v4), some (vI 0), some (vI 0)]) dX6_known_38 rfl rfl (Nat.le_of_ble_eq_true rfl) ?_
      exact ok_mX6_known_40 (fun v3 v4 w hf => ih v3 v4 w hf) FU _ _ _ hf
set_option maxRecDepth 100000 in
set_option maxHeartbeats 4000000 in
theorem ok_mX6_known {zv : Int32} {zw : AW} {v1 : Int32} {w : AW} (hf : mX6_known v1 w = some (zv, zw)) : RR true KX6_known (some (vI zv), zw) 0 [some (vR 0 0), some (vI v1), none, none, none, none, none] [] w := by
  refine r_aload_n dX6_known_0 rfl rfl ?_
  refine r_iconst dX6_known_1 ic_0 ?_
  refine g_putI dX6_known_2 fl_RX6_132 fk_6_0 (cl_true_0) hf (fun w_1 hf => ?_)
  refine r_iload_n dX6_known_5 rfl rfl ?_
  obtain ⟨x_3, w_2, hc, hf⟩ := cl_some hf
  refine g_cS (st := []) KX6_isSentence [vI v1] dX6_known_6 e_RX6_195 mok_X6_isSentence mw_X6_isSentence ⟨Nat.le_of_ble_eq_true rfl, Nat.le_of_ble_eq_true rfl⟩ (met_X6_isSentence hc) rfl (Nat.le_of_ble_eq_true rfl) ?_
  clear hc
  refine g_if_ne (tgt := 14) dX6_known_9 rfl hf (fun _ hf => ?_) (fun _ hf => ?_)
  · refine r_aload_n dX6_known_14 rfl rfl ?_
    refine r_iload_n dX6_known_15 rfl rfl ?_
    obtain ⟨x_5, w_4, hc, hf⟩ := cl_some hf
    refine g_cV (st := []) KX6_held [vI v1] dX6_known_16 e_RX6_308 (cl_true_0) (rfl : vwCl[6]? = _) rfl mok_X6_held mw_X6_held ⟨Nat.le_of_ble_eq_true rfl, Nat.le_of_ble_eq_true rfl⟩ (met_X6_held hc) rfl (Nat.le_of_ble_eq_true rfl) ?_
    clear hc
    refine r_istore_n (ls2 := [some (vR 0 0), some (vI v1), some (vI x_5), none, none, none, none]) dX6_known_19 rfl rfl rfl (Nat.le_of_ble_eq_true rfl) ?_
    refine r_iconst dX6_known_20 ic_0 ?_
    refine r_istore_n (ls2 := [some (vR 0 0), some (vI v1), some (vI x_5), some (vI 0), none, none, none]) dX6_known_21 rfl rfl rfl (Nat.le_of_ble_eq_true rfl) ?_
    refine r_iconst dX6_known_22 ic_0 ?_
    refine r_istore (ls2 := [some (vR 0 0), some (vI v1), some (vI x_5), some (vI 0), some (vI 0), none, none]) dX6_known_23 rfl rfl (Nat.le_of_ble_eq_true rfl) ?_
    refine r_mask (bs := [true, false, true, true, true, false, false]) ?_
    exact ok_mX6_known_25 FU _ _ _ hf
  · refine r_iconst dX6_known_12 ic_m1 ?_
    exact r_iret dX6_known_13 rfl (ret_I hf)
theorem met_X6_known {zv : Int32} {zw : AW} {v1 : Int32} {w : AW} (hf : mX6_known v1 w = some (zv, zw)) : am_Met true KX6_known [vR 0 0, vI v1] w (some (vI zv), zw) := am_met mok_X6_known.1 (Nat.le_of_ble_eq_true rfl) (ok_mX6_known  hf)
