/-! SeenWorldsModel.steps(II)I -/
noncomputable def mX6_steps_95 (k36 : Int32 → Int32 → AW → Option (Int32 × AW)) (k62 : Int32 → Int32 → AW → Option (Int32 × AW)) (v3 : Int32) (v4 : Int32) (v5 : Int32) (v7 : Int32) (s0 : Int32) (s1 : Int32) (w : AW) : Option (Int32 × AW) :=
  nm (s1 ||| s0) fun v6_1 =>
  nm (v7 + 1) fun v7_2 =>
  k62 v6_1 v7_2 w
noncomputable def mX6_steps_62 (k36 : Int32 → Int32 → AW → Option (Int32 × AW)) (v3 : Int32) (v4 : Int32) (v5 : Int32) : Nat → Int32 → Int32 → AW → Option (Int32 × AW)
  | 0, _, _, _ => none
  | n + 1, v6, v7, w =>
    if (w.1 0 0 2) ≤ v7 then
      nm (v5 + 1) fun v5_1 =>
      k36 v6 v5_1 w
    else
      if ((v4 >>> (v7 &&& 31)) &&& 1) ≠ 1 then
        mX6_steps_95 k36 (mX6_steps_62 k36 v3 v4 v5 n) v3 v4 v5 v7 0 v6 w
      else
        rd 8 (w.1 0 4) v7 fun x_2 =>
        mX6_steps_95 k36 (mX6_steps_62 k36 v3 v4 v5 n) v3 v4 v5 v7 x_2 v6 w
noncomputable def mX6_steps_36 (v3 : Int32) : Nat → Int32 → Int32 → AW → Option (Int32 × AW)
  | 0, _, _, _ => none
  | n + 1, v4, v5, w =>
    if 9 ≤ v5 then
      some ((-9), w)
    else
      if (v4 &&& (v3 ^^^ (-1))) = 0 then
        mX6_steps_62 (mX6_steps_36 v3 n) v3 v4 v5 FU v4 0 w
      else
        some (v5, w)
noncomputable def mX6_steps (v1 : Int32) (v2 : Int32) (w : AW) : Option (Int32 × AW) :=
  pu w 0 0 0 fun w_1 =>
  cl (mX6_isSentence v1 w_1) fun x_3 w_2 =>
  if x_3 = 0 then
    some ((-1), w_2)
  else
    cl (mX6_isWorld v2 w_2) fun x_5 w_4 =>
    if x_5 ≠ 0 then
      cl (mX6_held v1 w_4) fun x_7 w_6 =>
      nm (1 <<< (v2 &&& 31)) fun v4_8 =>
      mX6_steps_36 x_7 FU v4_8 0 w_6
    else
      some ((-1), w_4)
set_option maxRecDepth 100000 in
set_option maxHeartbeats 4000000 in
theorem ok_mX6_steps_95 {zv : Int32} {zw : AW} {k36 : Int32 → Int32 → AW → Option (Int32 × AW)} {k62 : Int32 → Int32 → AW → Option (Int32 × AW)} {v3 : Int32} {v4 : Int32} {v5 : Int32} {v7 : Int32} {s0 : Int32} {s1 : Int32} (hk36 : ∀ (v4 : Int32) (v5 : Int32)  w, k36 v4 v5 w = some (zv, zw) → RR true KX6_steps (some (vI zv), zw) 36 [some (vR 0 0), none, none, some (vI v3), some (vI v4), some (vI v5), none, none] [] w) (hk62 : ∀ (v6 : Int32) (v7 : Int32)  w, k62 v6 v7 w = some (zv, zw) → RR true KX6_steps (some (vI zv), zw) 62 [some (vR 0 0), none, none, some (vI v3), some (vI v4), some (vI v5), some (vI v6), some (vI v7)] [] w) {w : AW} (hf : mX6_steps_95 k36 k62 v3 v4 v5 v7 s0 s1 w = some (zv, zw)) : RR true KX6_steps (some (vI zv), zw) 95 [some (vR 0 0), none, none, some (vI v3), some (vI v4), some (vI v5), none, some (vI v7)] [vI s0, vI s1] w := by
  refine r_ior dX6_steps_95 ?_
  refine g_istore (fun v6_1 => [some (vR 0 0), none, none, some (vI v3), some (vI v4), some (vI v5), some (vI v6_1), some (vI v7)]) dX6_steps_96 rfl (fun _ => rfl) (Nat.le_of_ble_eq_true rfl) hf (fun v6_1 hf => ?_)
  refine g_iinc (fun v7_2 => [some (vR 0 0), none, none, some (vI v3), some (vI v4), some (vI v5), some (vI v6_1), some (vI v7_2)]) dX6_steps_98 ic_1 rfl rfl (fun _ => rfl) (Nat.le_of_ble_eq_true rfl) hf (fun v7_2 hf => ?_)
  refine r_goto (tgt := 62) dX6_steps_101 rfl ?_
  exact hk62 _ _ _ hf
set_option maxRecDepth 100000 in
set_option maxHeartbeats 4000000 in
theorem ok_mX6_steps_62 {zv : Int32} {zw : AW} {k36 : Int32 → Int32 → AW → Option (Int32 × AW)} {v3 : Int32} {v4 : Int32} {v5 : Int32} (hk36 : ∀ (v4 : Int32) (v5 : Int32)  w, k36 v4 v5 w = some (zv, zw) → RR true KX6_steps (some (vI zv), zw) 36 [some (vR 0 0), none, none, some (vI v3), some (vI v4), some (vI v5), none, none] [] w) : ∀ (n : Nat) (v6 : Int32) (v7 : Int32) (w : AW), mX6_steps_62 k36 v3 v4 v5 n v6 v7 w = some (zv, zw) → RR true KX6_steps (some (vI zv), zw) 62 [some (vR 0 0), none, none, some (vI v3), some (vI v4), some (vI v5), some (vI v6), some (vI v7)] [] w := by
  intro n
  induction n with
  | zero => intro v6 v7 w hf; cases hf
  | succ n ih =>
    intro v6 v7 w hf
    refine r_iload dX6_steps_62 rfl ?_
    refine r_aload_n dX6_steps_64 rfl rfl ?_
    refine g_getI dX6_steps_65 fl_RX6_7 fk_6_2 (cl_true_0) ?_
    refine g_icmp_ge (tgt := 104) dX6_steps_68 rfl hf (fun _ hf => ?_) (fun _ hf => ?_)
    · refine r_iload dX6_steps_104 rfl ?_
      refine r_istore (ls2 := [some (vR 0 0), none, none, some (vI v3), some (vI v6), some (vI v5), some (vI v6), some (vI v7)]) dX6_steps_106 rfl rfl (Nat.le_of_ble_eq_true rfl) ?_
      refine g_iinc (fun v5_1 => [some (vR 0 0), none, none, some (vI v3), some (vI v6), some (vI v5_1), some (vI v6), some (vI v7)]) dX6_steps_108 ic_1 rfl rfl (fun _ => rfl) (Nat.le_of_ble_eq_true rfl) hf (fun v5_1 hf => ?_)
      refine r_goto (tgt := 36) dX6_steps_111 rfl ?_
      refine r_mask (bs := [true, false, false, true, true, true, false, false]) ?_
      exact hk36 _ _ _ hf
    · refine r_iload dX6_steps_71 rfl ?_
      refine r_iload dX6_steps_73 rfl ?_
      refine r_iload dX6_steps_75 rfl ?_
      refine r_ishr dX6_steps_77 ?_
      refine r_iconst dX6_steps_78 ic_1 ?_
      refine r_iand dX6_steps_79 ?_
      refine r_iconst dX6_steps_80 ic_1 ?_
      refine g_icmp_ne (tgt := 94) dX6_steps_81 rfl hf (fun _ hf => ?_) (fun _ hf => ?_)
      · refine r_iconst dX6_steps_94 ic_0 ?_
        refine r_mask (bs := [true, false, false, true, true, true, false, true]) ?_
        exact ok_mX6_steps_95 hk36 (fun v6 v7 w hf => ih v6 v7 w hf) hf
      · refine r_aload_n dX6_steps_84 rfl rfl ?_
        refine g_getA dX6_steps_85 fl_RX6_13 fk_6_3 rfl (cl_true_0) ?_
        refine r_iload dX6_steps_88 rfl ?_
        refine g_iald dX6_steps_90 aK_true_0_4 aL_true_0_4 hf (fun x_2 hf => ?_)
        refine r_goto (tgt := 95) dX6_steps_91 rfl ?_
        refine r_mask (bs := [true, false, false, true, true, true, false, true]) ?_
        exact ok_mX6_steps_95 hk36 (fun v6 v7 w hf => ih v6 v7 w hf) hf
set_option maxRecDepth 100000 in
set_option maxHeartbeats 4000000 in
theorem ok_mX6_steps_36 {zv : Int32} {zw : AW} {v3 : Int32} : ∀ (n : Nat) (v4 : Int32) (v5 : Int32) (w : AW), mX6_steps_36 v3 n v4 v5 w = some (zv, zw) → RR true KX6_steps (some (vI zv), zw) 36 [some (vR 0 0), none, none, some (vI v3), some (vI v4), some (vI v5), none, none] [] w := by
  intro n
  induction n with
  | zero => intro v4 v5 w hf; cases hf
  | succ n ih =>
    intro v4 v5 w hf
    refine r_iload dX6_steps_36 rfl ?_
    refine r_bipush dX6_steps_38 (bp_9) ?_
    refine g_icmp_ge (tgt := 114) dX6_steps_40 rfl hf (fun _ hf => ?_) (fun _ hf => ?_)
    · refine r_bipush dX6_steps_114 (bp_m9) ?_
      exact r_iret dX6_steps_116 rfl (ret_I hf)
    · refine r_iload dX6_steps_43 rfl ?_
      refine r_iload_n dX6_steps_45 rfl rfl ?_
      refine r_iconst dX6_steps_46 ic_m1 ?_
      refine r_ixor dX6_steps_47 ?_
      refine r_iand dX6_steps_48 ?_
      refine g_if_eq (tgt := 55) dX6_steps_49 rfl hf (fun _ hf => ?_) (fun _ hf => ?_)
      · refine r_iload dX6_steps_55 rfl ?_
        refine r_istore (ls2 := [some (vR 0 0), none, none, some (vI v3), some (vI v4), some (vI v5), some (vI v4), none]) dX6_steps_57 rfl rfl (Nat.le_of_ble_eq_true rfl) ?_
        refine r_iconst dX6_steps_59 ic_0 ?_
        refine r_istore (ls2 := [some (vR 0 0), none, none, some (vI v3), some (vI v4), some (vI v5), some (vI v4), some (vI 0)]) dX6_steps_60 rfl rfl (Nat.le_of_ble_eq_true rfl) ?_
        exact ok_mX6_steps_62 (fun v4 v5 w hf => ih v4 v5 w hf) FU _ _ _ hf
      · refine r_iload dX6_steps_52 rfl ?_
        exact r_iret dX6_steps_54 rfl (ret_I hf)
set_option maxRecDepth 100000 in
set_option maxHeartbeats 4000000 in
theorem ok_mX6_steps {zv : Int32} {zw : AW} {v1 : Int32} {v2 : Int32} {w : AW} (hf : mX6_steps v1 v2 w = some (zv, zw)) : RR true KX6_steps (some (vI zv), zw) 0 [some (vR 0 0), some (vI v1), some (vI v2), none, none, none, none, none] [] w := by
  refine r_aload_n dX6_steps_0 rfl rfl ?_
  refine r_iconst dX6_steps_1 ic_0 ?_
  refine g_putI dX6_steps_2 fl_RX6_132 fk_6_0 (cl_true_0) hf (fun w_1 hf => ?_)
  refine r_iload_n dX6_steps_5 rfl rfl ?_
  obtain ⟨x_3, w_2, hc, hf⟩ := cl_some hf
  refine g_cS (st := []) KX6_isSentence [vI v1] dX6_steps_6 e_RX6_195 mok_X6_isSentence mw_X6_isSentence ⟨Nat.le_of_ble_eq_true rfl, Nat.le_of_ble_eq_true rfl⟩ (met_X6_isSentence hc) rfl (Nat.le_of_ble_eq_true rfl) ?_
  clear hc
  refine g_if_eq (tgt := 20) dX6_steps_9 rfl hf (fun _ hf => ?_) (fun _ hf => ?_)
  · refine r_iconst dX6_steps_20 ic_m1 ?_
    exact r_iret dX6_steps_21 rfl (ret_I hf)
  · refine r_aload_n dX6_steps_12 rfl rfl ?_
    refine r_iload_n dX6_steps_13 rfl rfl ?_
    obtain ⟨x_5, w_4, hc, hf⟩ := cl_some hf
    refine g_cV (st := []) KX6_isWorld [vI v2] dX6_steps_14 e_RX6_139 (cl_true_0) (rfl : vwCl[6]? = _) rfl mok_X6_isWorld mw_X6_isWorld ⟨Nat.le_of_ble_eq_true rfl, Nat.le_of_ble_eq_true rfl⟩ (met_X6_isWorld hc) rfl (Nat.le_of_ble_eq_true rfl) ?_
    clear hc
    refine g_if_ne (tgt := 22) dX6_steps_17 rfl hf (fun _ hf => ?_) (fun _ hf => ?_)
    · refine r_aload_n dX6_steps_22 rfl rfl ?_
      refine r_iload_n dX6_steps_23 rfl rfl ?_
      obtain ⟨x_7, w_6, hc, hf⟩ := cl_some hf
      refine g_cV (st := []) KX6_held [vI v1] dX6_steps_24 e_RX6_308 (cl_true_0) (rfl : vwCl[6]? = _) rfl mok_X6_held mw_X6_held ⟨Nat.le_of_ble_eq_true rfl, Nat.le_of_ble_eq_true rfl⟩ (met_X6_held hc) rfl (Nat.le_of_ble_eq_true rfl) ?_
      clear hc
      refine r_istore_n (ls2 := [some (vR 0 0), some (vI v1), some (vI v2), some (vI x_7), none, none, none, none]) dX6_steps_27 rfl rfl rfl (Nat.le_of_ble_eq_true rfl) ?_
      refine r_iconst dX6_steps_28 ic_1 ?_
      refine r_iload_n dX6_steps_29 rfl rfl ?_
      refine r_ishl dX6_steps_30 ?_
      refine g_istore (fun v4_8 => [some (vR 0 0), some (vI v1), some (vI v2), some (vI x_7), some (vI v4_8), none, none, none]) dX6_steps_31 rfl (fun _ => rfl) (Nat.le_of_ble_eq_true rfl) hf (fun v4_8 hf => ?_)
      refine r_iconst dX6_steps_33 ic_0 ?_
      refine r_istore (ls2 := [some (vR 0 0), some (vI v1), some (vI v2), some (vI x_7), some (vI v4_8), some (vI 0), none, none]) dX6_steps_34 rfl rfl (Nat.le_of_ble_eq_true rfl) ?_
      refine r_mask (bs := [true, false, false, true, true, true, false, false]) ?_
      exact ok_mX6_steps_36 FU _ _ _ hf
    · refine r_iconst dX6_steps_20 ic_m1 ?_
      exact r_iret dX6_steps_21 rfl (ret_I hf)
theorem met_X6_steps {zv : Int32} {zw : AW} {v1 : Int32} {v2 : Int32} {w : AW} (hf : mX6_steps v1 v2 w = some (zv, zw)) : am_Met true KX6_steps [vR 0 0, vI v1, vI v2] w (some (vI zv), zw) := am_met mok_X6_steps.1 (Nat.le_of_ble_eq_true rfl) (ok_mX6_steps  hf)

/-! SeenWorldsModel.count(I)I -/
noncomputable def mX6_count_9 (v1 : Int32) : Nat → Int32 → Int32 → AW → Option (Int32 × AW)
  | 0, _, _, _ => none
  | n + 1, v2, v3, w =>
    if (w.1 0 0 2) ≤ v3 then
      if v1 ≠ 0 then
        if v1 ≠ 1 then
          if v1 ≠ 2 then
            cl (mX6_in v1 3 6 w) fun x_2 w_1 =>
            if x_2 = 0 then
              some ((-1), w_1)
            else
              rd 4 (w_1.1 0 5) (v1 - 3) fun x_3 =>
              some (x_3, w_1)
          else
            some (w.1 0 0 6, w)
        else
          some (v2, w)
      else
        some (w.1 0 0 2, w)
    else
      rd 8 (w.1 0 4) v3 fun x_4 =>
      cl (mX6_ones x_4 w) fun x_6 w_5 =>
      nm (v2 + x_6) fun v2_7 =>
      nm (v3 + 1) fun v3_8 =>
      mX6_count_9 v1 n v2_7 v3_8 w_5
noncomputable def mX6_count (v1 : Int32) (w : AW) : Option (Int32 × AW) :=
  pu w 0 0 0 fun w_1 =>
  mX6_count_9 v1 FU 0 0 w_1
set_option maxRecDepth 100000 in
set_option maxHeartbeats 4000000 in
theorem ok_mX6_count_9 {zv : Int32} {zw : AW} {v1 : Int32} : ∀ (n : Nat) (v2 : Int32) (v3 : Int32) (w : AW), mX6_count_9 v1 n v2 v3 w = some (zv, zw) → RR true KX6_count (some (vI zv), zw) 9 [some (vR 0 0), some (vI v1), some (vI v2), some (vI v3)] [] w := by
  intro n
  induction n with
  | zero => intro v2 v3 w hf; cases hf
  | succ n ih =>
    intro v2 v3 w hf
    refine r_iload_n dX6_count_9 rfl rfl ?_
    refine r_aload_n dX6_count_10 rfl rfl ?_
    refine g_getI dX6_count_11 fl_RX6_7 fk_6_2 (cl_true_0) ?_
    refine g_icmp_ge (tgt := 35) dX6_count_14 rfl hf (fun _ hf => ?_) (fun _ hf => ?_)
    · refine r_iload_n dX6_count_35 rfl rfl ?_
      refine g_if_ne (tgt := 46) dX6_count_36 rfl hf (fun _ hf => ?_) (fun _ hf => ?_)
      · refine r_iload_n dX6_count_46 rfl rfl ?_
        refine r_iconst dX6_count_47 ic_1 ?_
        refine g_icmp_ne (tgt := 55) dX6_count_48 rfl hf (fun _ hf => ?_) (fun _ hf => ?_)
        · refine r_iload_n dX6_count_55 rfl rfl ?_
          refine r_iconst dX6_count_56 ic_2 ?_
          refine g_icmp_ne (tgt := 67) dX6_count_57 rfl hf (fun _ hf => ?_) (fun _ hf => ?_)
          · refine r_iload_n dX6_count_67 rfl rfl ?_
            refine r_iconst dX6_count_68 ic_3 ?_
            refine r_bipush dX6_count_69 (bp_6) ?_
            obtain ⟨x_2, w_1, hc, hf⟩ := cl_some hf
            refine g_cS (st := []) KX6_in [vI v1, vI 3, vI 6] dX6_count_71 e_RX6_135 mok_X6_in mw_X6_in ⟨Nat.le_of_ble_eq_true rfl, Nat.le_of_ble_eq_true rfl⟩ (met_X6_in hc) rfl (Nat.le_of_ble_eq_true rfl) ?_
            clear hc
            refine g_if_eq (tgt := 88) dX6_count_74 rfl hf (fun _ hf => ?_) (fun _ hf => ?_)
            · refine r_iconst dX6_count_88 ic_m1 ?_
              exact r_iret dX6_count_89 rfl (ret_I hf)
            · refine r_aload_n dX6_count_77 rfl rfl ?_
              refine g_getA dX6_count_78 fl_RX6_17 fk_6_4 rfl (cl_true_0) ?_
              refine r_iload_n dX6_count_81 rfl rfl ?_
              refine r_iconst dX6_count_82 ic_3 ?_
              refine r_isub dX6_count_83 ?_
              refine g_iald dX6_count_84 aK_true_0_5 aL_true_0_5 hf (fun x_3 hf => ?_)
              refine r_goto (tgt := 89) dX6_count_85 rfl ?_
              exact r_iret dX6_count_89 rfl (ret_I hf)
          · refine r_aload_n dX6_count_60 rfl rfl ?_
            refine g_getI dX6_count_61 fl_RX6_171 fk_6_6 (cl_true_0) ?_
            refine r_goto (tgt := 89) dX6_count_64 rfl ?_
            exact r_iret dX6_count_89 rfl (ret_I hf)
        · refine r_iload_n dX6_count_51 rfl rfl ?_
          refine r_goto (tgt := 89) dX6_count_52 rfl ?_
          exact r_iret dX6_count_89 rfl (ret_I hf)
      · refine r_aload_n dX6_count_39 rfl rfl ?_
        refine g_getI dX6_count_40 fl_RX6_7 fk_6_2 (cl_true_0) ?_
        refine r_goto (tgt := 89) dX6_count_43 rfl ?_
        exact r_iret dX6_count_89 rfl (ret_I hf)
    · refine r_iload_n dX6_count_17 rfl rfl ?_
      refine r_aload_n dX6_count_18 rfl rfl ?_
      refine g_getA dX6_count_19 fl_RX6_13 fk_6_3 rfl (cl_true_0) ?_
      refine r_iload_n dX6_count_22 rfl rfl ?_
      refine g_iald dX6_count_23 aK_true_0_4 aL_true_0_4 hf (fun x_4 hf => ?_)
      obtain ⟨x_6, w_5, hc, hf⟩ := cl_some hf
      refine g_cS (st := [vI v2]) KX6_ones [vI x_4] dX6_count_24 e_RX6_168 mok_X6_ones mw_X6_ones ⟨Nat.le_of_ble_eq_true rfl, Nat.le_of_ble_eq_true rfl⟩ (met_X6_ones hc) rfl (Nat.le_of_ble_eq_true rfl) ?_
      clear hc
      refine r_iadd dX6_count_27 ?_
      refine g_istore_n (fun v2_7 => [some (vR 0 0), some (vI v1), some (vI v2_7), some (vI v3)]) dX6_count_28 rfl rfl (fun _ => rfl) (Nat.le_of_ble_eq_true rfl) hf (fun v2_7 hf => ?_)
      refine g_iinc (fun v3_8 => [some (vR 0 0), some (vI v1), some (vI v2_7), some (vI v3_8)]) dX6_count_29 ic_1 rfl rfl (fun _ => rfl) (Nat.le_of_ble_eq_true rfl) hf (fun v3_8 hf => ?_)
      refine r_goto (tgt := 9) dX6_count_32 rfl ?_
      exact ih _ _ _ hf
set_option maxRecDepth 100000 in
set_option maxHeartbeats 4000000 in
theorem ok_mX6_count {zv : Int32} {zw : AW} {v1 : Int32} {w : AW} (hf : mX6_count v1 w = some (zv, zw)) : RR true KX6_count (some (vI zv), zw) 0 [some (vR 0 0), some (vI v1), none, none] [] w := by
  refine r_aload_n dX6_count_0 rfl rfl ?_
  refine r_iconst dX6_count_1 ic_0 ?_
  refine g_putI dX6_count_2 fl_RX6_132 fk_6_0 (cl_true_0) hf (fun w_1 hf => ?_)
  refine r_iconst dX6_count_5 ic_0 ?_
  refine r_istore_n (ls2 := [some (vR 0 0), some (vI v1), some (vI 0), none]) dX6_count_6 rfl rfl rfl (Nat.le_of_ble_eq_true rfl) ?_
  refine r_iconst dX6_count_7 ic_0 ?_
  refine r_istore_n (ls2 := [some (vR 0 0), some (vI v1), some (vI 0), some (vI 0)]) dX6_count_8 rfl rfl rfl (Nat.le_of_ble_eq_true rfl) ?_
  exact ok_mX6_count_9 FU _ _ _ hf
theorem met_X6_count {zv : Int32} {zw : AW} {v1 : Int32} {w : AW} (hf : mX6_count v1 w = some (zv, zw)) : am_Met true KX6_count [vR 0 0, vI v1] w (some (vI zv), zw) := am_met mok_X6_count.1 (Nat.le_of_ble_eq_true rfl) (ok_mX6_count  hf)

/-! SeenWorldsModel.trace()J -/
noncomputable def mX6_trace (w : AW) : Option (Int64 × AW) :=
  pu w 0 0 0 fun w_1 =>
  some (w_1.2, w_1)
set_option maxRecDepth 100000 in
set_option maxHeartbeats 4000000 in
theorem ok_mX6_trace {zv : Int64} {zw : AW} {w : AW} (hf : mX6_trace w = some (zv, zw)) : RR true KX6_trace (some (vL zv), zw) 0 [some (vR 0 0)] [] w := by
  refine r_aload_n dX6_trace_0 rfl rfl ?_
  refine r_iconst dX6_trace_1 ic_0 ?_
  refine g_putI dX6_trace_2 fl_RX6_132 fk_6_0 (cl_true_0) hf (fun w_1 hf => ?_)
  refine r_aload_n dX6_trace_5 rfl rfl ?_
  refine g_getL dX6_trace_6 fl_RX6_154 fk_6_1 (cl_true_0) ?_
  exact r_lret dX6_trace_9 rfl (ret_L hf)
theorem met_X6_trace {zv : Int64} {zw : AW} {w : AW} (hf : mX6_trace w = some (zv, zw)) : am_Met true KX6_trace [vR 0 0] w (some (vL zv), zw) := am_met mok_X6_trace.1 (Nat.le_of_ble_eq_true rfl) (ok_mX6_trace  hf)
