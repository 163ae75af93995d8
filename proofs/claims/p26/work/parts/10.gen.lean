/-! SeenWorldsModel.type(JI)I -/
noncomputable def mX6_type_37 (v1 : Int64) : Nat → Int32 → AW → Option (Int32 × AW)
  | 0, _, _ => none
  | n + 1, v4, w =>
    if v4 < 0 then
      some (w.1 0 0 6, w)
    else
      wr 200 w 0 6 (w.1 0 0 6) (((v1 >>> ((8 * v4).toInt64 &&& 63)) &&& (255 : Int64)).toInt32) fun w_1 =>
      pu w_1 0 6 ((w_1.1 0 0 6) + 1) fun w_2 =>
      nm (v4 + (-1)) fun v4_3 =>
      mX6_type_37 v1 n v4_3 w_2
noncomputable def mX6_type (v1 : Int64) (v3 : Int32) (w : AW) : Option (Int32 × AW) :=
  pu w 0 0 0 fun w_1 =>
  cl (mX6_in v3 1 8 w_1) fun x_3 w_2 =>
  if x_3 ≠ 0 then
    if ((w_2.1 0 0 6) + v3) ≤ 200 then
      nm (v3 - 1) fun v4_4 =>
      mX6_type_37 v1 FU v4_4 w_2
    else
      some ((-3), w_2)
  else
    some ((-1), w_2)
set_option maxRecDepth 100000 in
set_option maxHeartbeats 4000000 in
theorem ok_mX6_type_37 {zv : Int32} {zw : AW} {v1 : Int64} : ∀ (n : Nat) (v4 : Int32) (w : AW), mX6_type_37 v1 n v4 w = some (zv, zw) → RR true KX6_type (some (vI zv), zw) 37 [some (vR 0 0), some (vL v1), none, none, some (vI v4)] [] w := by
  intro n
  induction n with
  | zero => intro v4 w hf; cases hf
  | succ n ih =>
    intro v4 w hf
    refine r_iload dX6_type_37 rfl ?_
    refine g_if_lt (tgt := 79) dX6_type_39 rfl hf (fun _ hf => ?_) (fun _ hf => ?_)
    · refine r_aload_n dX6_type_79 rfl rfl ?_
      refine g_getI dX6_type_80 fl_RX6_171 fk_6_6 (cl_true_0) ?_
      exact r_iret dX6_type_83 rfl (ret_I hf)
    · refine r_aload_n dX6_type_42 rfl rfl ?_
      refine g_getA dX6_type_43 fl_RX6_20 fk_6_5 rfl (cl_true_0) ?_
      refine r_aload_n dX6_type_46 rfl rfl ?_
      refine g_getI dX6_type_47 fl_RX6_171 fk_6_6 (cl_true_0) ?_
      refine r_lload_n dX6_type_50 rfl rfl ?_
      refine r_bipush dX6_type_51 (bp_8) ?_
      refine r_iload dX6_type_53 rfl ?_
      refine r_imul dX6_type_55 ?_
      refine r_lshr dX6_type_56 ?_
      refine r_ldc2 (x := 255) dX6_type_57 (am_c29 (i := 29) rfl rfl) ?_
      refine r_land dX6_type_60 ?_
      refine r_l2i dX6_type_61 ?_
      refine g_iast dX6_type_62 aK_true_0_6 aL_true_0_6 hf (fun w_1 hf => ?_)
      refine r_aload_n dX6_type_63 rfl rfl ?_
      refine r_dup dX6_type_64 rfl ?_
      refine g_getI dX6_type_65 fl_RX6_171 fk_6_6 (cl_true_0) ?_
      refine r_iconst dX6_type_68 ic_1 ?_
      refine r_iadd dX6_type_69 ?_
      refine g_putI dX6_type_70 fl_RX6_171 fk_6_6 (cl_true_0) hf (fun w_2 hf => ?_)
      refine g_iinc (fun v4_3 => [some (vR 0 0), some (vL v1), none, none, some (vI v4_3)]) dX6_type_73 ic_m1 rfl rfl (fun _ => rfl) (Nat.le_of_ble_eq_true rfl) hf (fun v4_3 hf => ?_)
      refine r_goto (tgt := 37) dX6_type_76 rfl ?_
      exact ih _ _ hf
set_option maxRecDepth 100000 in
set_option maxHeartbeats 4000000 in
theorem ok_mX6_type {zv : Int32} {zw : AW} {v1 : Int64} {v3 : Int32} {w : AW} (hf : mX6_type v1 v3 w = some (zv, zw)) : RR true KX6_type (some (vI zv), zw) 0 [some (vR 0 0), some (vL v1), none, some (vI v3), none] [] w := by
  refine r_aload_n dX6_type_0 rfl rfl ?_
  refine r_iconst dX6_type_1 ic_0 ?_
  refine g_putI dX6_type_2 fl_RX6_132 fk_6_0 (cl_true_0) hf (fun w_1 hf => ?_)
  refine r_iload_n dX6_type_5 rfl rfl ?_
  refine r_iconst dX6_type_6 ic_1 ?_
  refine r_bipush dX6_type_7 (bp_8) ?_
  obtain ⟨x_3, w_2, hc, hf⟩ := cl_some hf
  refine g_cS (st := []) KX6_in [vI v3, vI 1, vI 8] dX6_type_9 e_RX6_135 mok_X6_in mw_X6_in ⟨Nat.le_of_ble_eq_true rfl, Nat.le_of_ble_eq_true rfl⟩ (met_X6_in hc) rfl (Nat.le_of_ble_eq_true rfl) ?_
  clear hc
  refine g_if_ne (tgt := 17) dX6_type_12 rfl hf (fun _ hf => ?_) (fun _ hf => ?_)
  · refine r_aload_n dX6_type_17 rfl rfl ?_
    refine g_getI dX6_type_18 fl_RX6_171 fk_6_6 (cl_true_0) ?_
    refine r_iload_n dX6_type_21 rfl rfl ?_
    refine r_iadd dX6_type_22 ?_
    refine r_sipush dX6_type_23 (sp_200) ?_
    refine g_icmp_le (tgt := 32) dX6_type_26 rfl hf (fun _ hf => ?_) (fun _ hf => ?_)
    · refine r_iload_n dX6_type_32 rfl rfl ?_
      refine r_iconst dX6_type_33 ic_1 ?_
      refine r_isub dX6_type_34 ?_
      refine g_istore (fun v4_4 => [some (vR 0 0), some (vL v1), none, some (vI v3), some (vI v4_4)]) dX6_type_35 rfl (fun _ => rfl) (Nat.le_of_ble_eq_true rfl) hf (fun v4_4 hf => ?_)
      refine r_mask (bs := [true, true, false, false, true]) ?_
      exact ok_mX6_type_37 FU _ _ hf
    · refine r_bipush dX6_type_29 (bp_m3) ?_
      exact r_iret dX6_type_31 rfl (ret_I hf)
  · refine r_iconst dX6_type_15 ic_m1 ?_
    exact r_iret dX6_type_16 rfl (ret_I hf)
theorem met_X6_type {zv : Int32} {zw : AW} {v1 : Int64} {v3 : Int32} {w : AW} (hf : mX6_type v1 v3 w = some (zv, zw)) : am_Met true KX6_type [vR 0 0, vL v1, vI v3] w (some (vI zv), zw) := am_met mok_X6_type.1 (Nat.le_of_ble_eq_true rfl) (ok_mX6_type  hf)

/-! SeenWorldsModel.clear()I -/
noncomputable def mX6_clear (w : AW) : Option (Int32 × AW) :=
  pu w 0 0 0 fun w_1 =>
  nm (w_1.1 0 0 6) fun v1_2 =>
  pu w_1 0 6 0 fun w_3 =>
  some (v1_2, w_3)
set_option maxRecDepth 100000 in
set_option maxHeartbeats 4000000 in
theorem ok_mX6_clear {zv : Int32} {zw : AW} {w : AW} (hf : mX6_clear w = some (zv, zw)) : RR true KX6_clear (some (vI zv), zw) 0 [some (vR 0 0), none] [] w := by
  refine r_aload_n dX6_clear_0 rfl rfl ?_
  refine r_iconst dX6_clear_1 ic_0 ?_
  refine g_putI dX6_clear_2 fl_RX6_132 fk_6_0 (cl_true_0) hf (fun w_1 hf => ?_)
  refine r_aload_n dX6_clear_5 rfl rfl ?_
  refine g_getI dX6_clear_6 fl_RX6_171 fk_6_6 (cl_true_0) ?_
  refine g_istore_n (fun v1_2 => [some (vR 0 0), some (vI v1_2)]) dX6_clear_9 rfl rfl (fun _ => rfl) (Nat.le_of_ble_eq_true rfl) hf (fun v1_2 hf => ?_)
  refine r_aload_n dX6_clear_10 rfl rfl ?_
  refine r_iconst dX6_clear_11 ic_0 ?_
  refine g_putI dX6_clear_12 fl_RX6_171 fk_6_6 (cl_true_0) hf (fun w_3 hf => ?_)
  refine r_iload_n dX6_clear_15 rfl rfl ?_
  exact r_iret dX6_clear_16 rfl (ret_I hf)
theorem met_X6_clear {zv : Int32} {zw : AW} {w : AW} (hf : mX6_clear w = some (zv, zw)) : am_Met true KX6_clear [vR 0 0] w (some (vI zv), zw) := am_met mok_X6_clear.1 (Nat.le_of_ble_eq_true rfl) (ok_mX6_clear  hf)

/-! SeenWorldsModel.isAtom(I)Z -/
noncomputable def mX6_isAtom (v0 : Int32) (w : AW) : Option (Int32 × AW) :=
  cl (mX6_in v0 112 115 w) fun x_2 w_1 =>
  zr x_2 w_1
set_option maxRecDepth 100000 in
set_option maxHeartbeats 4000000 in
theorem ok_mX6_isAtom {zv : Int32} {zw : AW} {v0 : Int32} {w : AW} (hf : mX6_isAtom v0 w = some (zv, zw)) : RR true KX6_isAtom (some (vI zv), zw) 0 [some (vI v0)] [] w := by
  refine r_iload_n dX6_isAtom_0 rfl rfl ?_
  refine r_bipush dX6_isAtom_1 (bp_112) ?_
  refine r_bipush dX6_isAtom_3 (bp_115) ?_
  obtain ⟨x_2, w_1, hc, hf⟩ := cl_some hf
  refine g_cS (st := []) KX6_in [vI v0, vI 112, vI 115] dX6_isAtom_5 e_RX6_135 mok_X6_in mw_X6_in ⟨Nat.le_of_ble_eq_true rfl, Nat.le_of_ble_eq_true rfl⟩ (met_X6_in hc) rfl (Nat.le_of_ble_eq_true rfl) ?_
  clear hc
  exact g_zret dX6_isAtom_8 rfl hf
theorem met_X6_isAtom {zv : Int32} {zw : AW} {v0 : Int32} {w : AW} (hf : mX6_isAtom v0 w = some (zv, zw)) : am_Met true KX6_isAtom [vI v0] w (some (vI zv), zw) := am_met mok_X6_isAtom.1 (Nat.le_of_ble_eq_true rfl) (ok_mX6_isAtom  hf)

/-! SeenWorldsModel.isPrefix(I)Z -/
noncomputable def mX6_isPrefix_18 (w : AW) : Option (Int32 × AW) :=
  some (1, w)
noncomputable def mX6_isPrefix (v0 : Int32) (w : AW) : Option (Int32 × AW) :=
  if v0 = 33 then
    mX6_isPrefix_18 w
  else
    if v0 = 91 then
      mX6_isPrefix_18 w
    else
      if v0 ≠ 123 then
        some (0, w)
      else
        mX6_isPrefix_18 w
set_option maxRecDepth 100000 in
set_option maxHeartbeats 4000000 in
theorem ok_mX6_isPrefix_18 {zv : Int32} {zw : AW} {w : AW} (hf : mX6_isPrefix_18 w = some (zv, zw)) : RR true KX6_isPrefix (some (vI zv), zw) 18 [none] [] w := by
  refine r_iconst dX6_isPrefix_18 ic_1 ?_
  refine r_goto (tgt := 23) dX6_isPrefix_19 rfl ?_
  exact r_zret dX6_isPrefix_23 rfl nar_1 (ret_I hf)
set_option maxRecDepth 100000 in
set_option maxHeartbeats 4000000 in
theorem ok_mX6_isPrefix {zv : Int32} {zw : AW} {v0 : Int32} {w : AW} (hf : mX6_isPrefix v0 w = some (zv, zw)) : RR true KX6_isPrefix (some (vI zv), zw) 0 [some (vI v0)] [] w := by
  refine r_iload_n dX6_isPrefix_0 rfl rfl ?_
  refine r_bipush dX6_isPrefix_1 (bp_33) ?_
  refine g_icmp_eq (tgt := 18) dX6_isPrefix_3 rfl hf (fun _ hf => ?_) (fun _ hf => ?_)
  · refine r_mask (bs := [false]) ?_
    exact ok_mX6_isPrefix_18 hf
  · refine r_iload_n dX6_isPrefix_6 rfl rfl ?_
    refine r_bipush dX6_isPrefix_7 (bp_91) ?_
    refine g_icmp_eq (tgt := 18) dX6_isPrefix_9 rfl hf (fun _ hf => ?_) (fun _ hf => ?_)
    · refine r_mask (bs := [false]) ?_
      exact ok_mX6_isPrefix_18 hf
    · refine r_iload_n dX6_isPrefix_12 rfl rfl ?_
      refine r_bipush dX6_isPrefix_13 (bp_123) ?_
      refine g_icmp_ne (tgt := 22) dX6_isPrefix_15 rfl hf (fun _ hf => ?_) (fun _ hf => ?_)
      · refine r_iconst dX6_isPrefix_22 ic_0 ?_
        exact r_zret dX6_isPrefix_23 rfl nar_0 (ret_I hf)
      · refine r_mask (bs := [false]) ?_
        exact ok_mX6_isPrefix_18 hf
theorem met_X6_isPrefix {zv : Int32} {zw : AW} {v0 : Int32} {w : AW} (hf : mX6_isPrefix v0 w = some (zv, zw)) : am_Met true KX6_isPrefix [vI v0] w (some (vI zv), zw) := am_met mok_X6_isPrefix.1 (Nat.le_of_ble_eq_true rfl) (ok_mX6_isPrefix  hf)

/-! SeenWorldsModel.isJoin(I)Z -/
noncomputable def mX6_isJoin_18 (w : AW) : Option (Int32 × AW) :=
  some (1, w)
noncomputable def mX6_isJoin (v0 : Int32) (w : AW) : Option (Int32 × AW) :=
  if v0 = 38 then
    mX6_isJoin_18 w
  else
    if v0 = 124 then
      mX6_isJoin_18 w
    else
      if v0 ≠ 62 then
        some (0, w)
      else
        mX6_isJoin_18 w
set_option maxRecDepth 100000 in
set_option maxHeartbeats 4000000 in
theorem ok_mX6_isJoin_18 {zv : Int32} {zw : AW} {w : AW} (hf : mX6_isJoin_18 w = some (zv, zw)) : RR true KX6_isJoin (some (vI zv), zw) 18 [none] [] w := by
  refine r_iconst dX6_isJoin_18 ic_1 ?_
  refine r_goto (tgt := 23) dX6_isJoin_19 rfl ?_
  exact r_zret dX6_isJoin_23 rfl nar_1 (ret_I hf)
set_option maxRecDepth 100000 in
set_option maxHeartbeats 4000000 in
theorem ok_mX6_isJoin {zv : Int32} {zw : AW} {v0 : Int32} {w : AW} (hf : mX6_isJoin v0 w = some (zv, zw)) : RR true KX6_isJoin (some (vI zv), zw) 0 [some (vI v0)] [] w := by
  refine r_iload_n dX6_isJoin_0 rfl rfl ?_
  refine r_bipush dX6_isJoin_1 (bp_38) ?_
  refine g_icmp_eq (tgt := 18) dX6_isJoin_3 rfl hf (fun _ hf => ?_) (fun _ hf => ?_)
  · refine r_mask (bs := [false]) ?_
    exact ok_mX6_isJoin_18 hf
  · refine r_iload_n dX6_isJoin_6 rfl rfl ?_
    refine r_bipush dX6_isJoin_7 (bp_124) ?_
    refine g_icmp_eq (tgt := 18) dX6_isJoin_9 rfl hf (fun _ hf => ?_) (fun _ hf => ?_)
    · refine r_mask (bs := [false]) ?_
      exact ok_mX6_isJoin_18 hf
    · refine r_iload_n dX6_isJoin_12 rfl rfl ?_
      refine r_bipush dX6_isJoin_13 (bp_62) ?_
      refine g_icmp_ne (tgt := 22) dX6_isJoin_15 rfl hf (fun _ hf => ?_) (fun _ hf => ?_)
      · refine r_iconst dX6_isJoin_22 ic_0 ?_
        exact r_zret dX6_isJoin_23 rfl nar_0 (ret_I hf)
      · refine r_mask (bs := [false]) ?_
        exact ok_mX6_isJoin_18 hf
theorem met_X6_isJoin {zv : Int32} {zw : AW} {v0 : Int32} {w : AW} (hf : mX6_isJoin v0 w = some (zv, zw)) : am_Met true KX6_isJoin [vI v0] w (some (vI zv), zw) := am_met mok_X6_isJoin.1 (Nat.le_of_ble_eq_true rfl) (ok_mX6_isJoin  hf)

/-! SeenWorldsModel.part(IIIII)I -/
noncomputable def mX6_part (v1 : Int32) (v2 : Int32) (v3 : Int32) (v4 : Int32) (v5 : Int32) (w : AW) : Option (Int32 × AW) :=
  wr 40 w 0 18 (w.1 0 0 15) v1 fun w_1 =>
  wr 40 w_1 0 19 (w_1.1 0 0 15) v2 fun w_2 =>
  wr 40 w_2 0 20 (w_2.1 0 0 15) v3 fun w_3 =>
  wr 40 w_3 0 21 (w_3.1 0 0 15) v4 fun w_4 =>
  wr 40 w_4 0 22 (w_4.1 0 0 15) v5 fun w_5 =>
  pu w_5 0 15 ((w_5.1 0 0 15) + 1) fun w_6 =>
  some ((w_6.1 0 0 15) - 1, w_6)
set_option maxRecDepth 100000 in
set_option maxHeartbeats 4000000 in
theorem ok_mX6_part {zv : Int32} {zw : AW} {v1 : Int32} {v2 : Int32} {v3 : Int32} {v4 : Int32} {v5 : Int32} {w : AW} (hf : mX6_part v1 v2 v3 v4 v5 w = some (zv, zw)) : RR true KX6_part (some (vI zv), zw) 0 [some (vR 0 0), some (vI v1), some (vI v2), some (vI v3), some (vI v4), some (vI v5)] [] w := by
  refine r_aload_n dX6_part_0 rfl rfl ?_
  refine g_getA dX6_part_1 fl_RX6_47 fk_6_17 rfl (cl_true_0) ?_
  refine r_aload_n dX6_part_4 rfl rfl ?_
  refine g_getI dX6_part_5 fl_RX6_176 fk_6_15 (cl_true_0) ?_
  refine r_iload_n dX6_part_8 rfl rfl ?_
  refine g_iast dX6_part_9 aK_true_0_18 aL_true_0_18 hf (fun w_1 hf => ?_)
  refine r_aload_n dX6_part_10 rfl rfl ?_
  refine g_getA dX6_part_11 fl_RX6_50 fk_6_18 rfl (cl_true_0) ?_
  refine r_aload_n dX6_part_14 rfl rfl ?_
  refine g_getI dX6_part_15 fl_RX6_176 fk_6_15 (cl_true_0) ?_
  refine r_iload_n dX6_part_18 rfl rfl ?_
  refine g_iast dX6_part_19 aK_true_0_19 aL_true_0_19 hf (fun w_2 hf => ?_)
  refine r_aload_n dX6_part_20 rfl rfl ?_
  refine g_getA dX6_part_21 fl_RX6_53 fk_6_19 rfl (cl_true_0) ?_
  refine r_aload_n dX6_part_24 rfl rfl ?_
  refine g_getI dX6_part_25 fl_RX6_176 fk_6_15 (cl_true_0) ?_
  refine r_iload_n dX6_part_28 rfl rfl ?_
  refine g_iast dX6_part_29 aK_true_0_20 aL_true_0_20 hf (fun w_3 hf => ?_)
  refine r_aload_n dX6_part_30 rfl rfl ?_
  refine g_getA dX6_part_31 fl_RX6_56 fk_6_20 rfl (cl_true_0) ?_
  refine r_aload_n dX6_part_34 rfl rfl ?_
  refine g_getI dX6_part_35 fl_RX6_176 fk_6_15 (cl_true_0) ?_
  refine r_iload dX6_part_38 rfl ?_
  refine g_iast dX6_part_40 aK_true_0_21 aL_true_0_21 hf (fun w_4 hf => ?_)
  refine r_aload_n dX6_part_41 rfl rfl ?_
  refine g_getA dX6_part_42 fl_RX6_59 fk_6_21 rfl (cl_true_0) ?_
  refine r_aload_n dX6_part_45 rfl rfl ?_
  refine g_getI dX6_part_46 fl_RX6_176 fk_6_15 (cl_true_0) ?_
  refine r_iload dX6_part_49 rfl ?_
  refine g_iast dX6_part_51 aK_true_0_22 aL_true_0_22 hf (fun w_5 hf => ?_)
  refine r_aload_n dX6_part_52 rfl rfl ?_
  refine r_dup dX6_part_53 rfl ?_
  refine g_getI dX6_part_54 fl_RX6_176 fk_6_15 (cl_true_0) ?_
  refine r_iconst dX6_part_57 ic_1 ?_
  refine r_iadd dX6_part_58 ?_
  refine g_putI dX6_part_59 fl_RX6_176 fk_6_15 (cl_true_0) hf (fun w_6 hf => ?_)
  refine r_aload_n dX6_part_62 rfl rfl ?_
  refine g_getI dX6_part_63 fl_RX6_176 fk_6_15 (cl_true_0) ?_
  refine r_iconst dX6_part_66 ic_1 ?_
  refine r_isub dX6_part_67 ?_
  exact r_iret dX6_part_68 rfl (ret_I hf)
theorem met_X6_part {zv : Int32} {zw : AW} {v1 : Int32} {v2 : Int32} {v3 : Int32} {v4 : Int32} {v5 : Int32} {w : AW} (hf : mX6_part v1 v2 v3 v4 v5 w = some (zv, zw)) : am_Met true KX6_part [vR 0 0, vI v1, vI v2, vI v3, vI v4, vI v5] w (some (vI zv), zw) := am_met mok_X6_part.1 (Nat.le_of_ble_eq_true rfl) (ok_mX6_part  hf)

/-! SeenWorldsModel.reads()Z -/
noncomputable def mX6_reads_424 (k17 : Int32 → Int32 → Int32 → Int32 → Int32 → AW → Option (Int32 × AW)) (v1 : Int32) (v2 : Int32) (v3 : Int32) (v4 : Int32) (v5 : Int32) (w : AW) : Option (Int32 × AW) :=
  nm (v5 + 1) fun v5_1 =>
  k17 v1 v2 v3 v4 v5_1 w
noncomputable def mX6_reads_423 (k17 : Int32 → Int32 → Int32 → Int32 → Int32 → AW → Option (Int32 × AW)) (v1 : Int32) (v2 : Int32) (v3 : Int32) (v4 : Int32) (v5 : Int32) (s0 : Int32) (s1 : Int32) (w : AW) : Option (Int32 × AW) :=
  wr 20 w 0 26 s1 s0 fun w_1 =>
  mX6_reads_424 k17 v1 v2 v3 v4 v5 w_1
noncomputable def mX6_reads_405 (k17 : Int32 → Int32 → Int32 → Int32 → Int32 → AW → Option (Int32 × AW)) (v1 : Int32) (v2 : Int32) (v3 : Int32) (v4 : Int32) (v5 : Int32) (v9 : Int32) (s0 : Int32) (s1 : Int32) (w : AW) : Option (Int32 × AW) :=
  wr 20 w 0 25 s1 s0 fun w_1 =>
  if v9 = 0 then
    mX6_reads_423 k17 v1 v2 v3 v4 v5 3 (v2 - 1) w_1
  else
    mX6_reads_423 k17 v1 v2 v3 v4 v5 1 (v2 - 1) w_1
noncomputable def mX6_reads_378 (k17 : Int32 → Int32 → Int32 → Int32 → Int32 → AW → Option (Int32 × AW)) (v1 : Int32) (v2 : Int32) (v3 : Int32) (v4 : Int32) (v5 : Int32) (v8 : Int32) (s0 : Int32) (w : AW) : Option (Int32 × AW) :=
  if s0 = 0 then
    rd 20 (w.1 0 25) (v2 - 1) fun x_1 =>
    mX6_reads_405 k17 v1 v2 v3 v4 v5 s0 x_1 (v2 - 1) w
  else
    mX6_reads_405 k17 v1 v2 v3 v4 v5 s0 v8 (v2 - 1) w
noncomputable def mX6_reads_354 (k17 : Int32 → Int32 → Int32 → Int32 → Int32 → AW → Option (Int32 × AW)) (v1 : Int32) (v2 : Int32) (v5 : Int32) (v8 : Int32) (s0 : Int32) (w : AW) : Option (Int32 × AW) :=
  if s0 ≠ 0 then
    mX6_reads_424 k17 v1 v2 s0 0 v5 w
  else
    rd 20 (w.1 0 26) (v2 - 1) fun x_1 =>
    if x_1 ≠ 0 then
      mX6_reads_378 k17 v1 v2 s0 0 v5 v8 0 w
    else
      mX6_reads_378 k17 v1 v2 s0 0 v5 v8 1 w
noncomputable def mX6_reads_345 (k17 : Int32 → Int32 → Int32 → Int32 → Int32 → AW → Option (Int32 × AW)) (v1 : Int32) (v2 : Int32) (v5 : Int32) (v8 : Int32) (w : AW) : Option (Int32 × AW) :=
  if v2 ≠ 0 then
    mX6_reads_354 k17 v1 v2 v5 v8 0 w
  else
    mX6_reads_354 k17 v1 v2 v5 v8 1 w
noncomputable def mX6_reads_296 (k17 : Int32 → Int32 → Int32 → Int32 → Int32 → AW → Option (Int32 × AW)) (v1 : Int32) (v5 : Int32) : Nat → Int32 → Int32 → AW → Option (Int32 × AW)
  | 0, _, _, _ => none
  | n + 1, v2, v8, w =>
    if v2 ≤ 0 then
      mX6_reads_345 k17 v1 v2 v5 v8 w
    else
      rd 20 (w.1 0 23) (v2 - 1) fun x_1 =>
      cl (mX6_isPrefix x_1 w) fun x_3 w_2 =>
      if x_3 = 0 then
        mX6_reads_345 k17 v1 v2 v5 v8 w_2
      else
        nm (v2 + (-1)) fun v2_4 =>
        rd 20 (w_2.1 0 23) v2_4 fun x_5 =>
        rd 20 (w_2.1 0 24) v2_4 fun x_6 =>
        cl (mX6_part x_5 v8 0 x_6 (v5 + 1) w_2) fun x_8 w_7 =>
        mX6_reads_296 k17 v1 v5 n v2_4 x_8 w_7
noncomputable def mX6_reads_289 (k17 : Int32 → Int32 → Int32 → Int32 → Int32 → AW → Option (Int32 × AW)) (v1 : Int32) (v2 : Int32) (v3 : Int32) (v4 : Int32) (v5 : Int32) (v8 : Int32) (w : AW) : Option (Int32 × AW) :=
  if v8 = (-9) then
    mX6_reads_424 k17 v1 v2 v3 v4 v5 w
  else
    mX6_reads_296 k17 v1 v5 FU v2 v8 w
noncomputable def mX6_reads_116 (k17 : Int32 → Int32 → Int32 → Int32 → Int32 → AW → Option (Int32 × AW)) (v1 : Int32) (v2 : Int32) (v3 : Int32) (v4 : Int32) (v5 : Int32) (v6 : Int32) (v8 : Int32) (w : AW) : Option (Int32 × AW) :=
  if v2 ≠ 20 then
    wr 20 w 0 23 v2 v6 fun w_1 =>
    wr 20 w_1 0 24 v2 v5 fun w_2 =>
    wr 20 w_2 0 26 v2 0 fun w_3 =>
    nm (v2 + 1) fun v2_4 =>
    mX6_reads_289 k17 v1 v2_4 v3 v4 v5 v8 w_3
  else
    some (0, w)
noncomputable def mX6_reads_175 (k17 : Int32 → Int32 → Int32 → Int32 → Int32 → AW → Option (Int32 × AW)) (v1 : Int32) (v2 : Int32) (v3 : Int32) (v4 : Int32) (v5 : Int32) (v6 : Int32) (w : AW) : Option (Int32 × AW) :=
  cl (mX6_part v6 0 0 v5 (v5 + 1) w) fun x_2 w_1 =>
  mX6_reads_289 k17 v1 v2 v3 v4 v5 x_2 w_1
noncomputable def mX6_reads_90 (k17 : Int32 → Int32 → Int32 → Int32 → Int32 → AW → Option (Int32 × AW)) (v2 : Int32) (v3 : Int32) (v4 : Int32) (v5 : Int32) (v6 : Int32) (s0 : Int32) (s1 : Int32) (w : AW) : Option (Int32 × AW) :=
  nm (s1 + s0) fun v1_1 =>
  if v4 = 0 then
    rd 20 (w.1 0 26) (v2 - 1) fun x_2 =>
    if x_2 ≠ 1 then
      if v6 = 41 then
        nm (v2 + (-1)) fun v2_3 =>
        rd 20 (w.1 0 23) v2_3 fun x_4 =>
        rd 20 (w.1 0 25) v2_3 fun x_5 =>
        rd 20 (w.1 0 24) v2_3 fun x_6 =>
        cl (mX6_part x_4 x_5 ((w.1 0 0 15) - 1) x_6 (v5 + 1) w) fun x_8 w_7 =>
        mX6_reads_289 k17 v1_1 v2_3 v3 v4 v5 x_8 w_7
      else
        some (0, w)
    else
      cl (mX6_isJoin v6 w) fun x_10 w_9 =>
      if x_10 ≠ 0 then
        wr 20 w_9 0 23 (v2 - 1) v6 fun w_11 =>
        wr 20 w_11 0 26 (v2 - 1) 2 fun w_12 =>
        mX6_reads_289 k17 v1_1 v2 v3 1 v5 (-9) w_12
      else
        some (0, w_9)
  else
    cl (mX6_isPrefix v6 w) fun x_14 w_13 =>
    if x_14 ≠ 0 then
      mX6_reads_116 k17 v1_1 v2 v3 v4 v5 v6 (-9) w_13
    else
      if v6 ≠ 40 then
        cl (mX6_isAtom v6 w_13) fun x_16 w_15 =>
        if x_16 ≠ 0 then
          mX6_reads_175 k17 v1_1 v2 v3 v4 v5 v6 w_15
        else
          if v6 = 84 then
            mX6_reads_175 k17 v1_1 v2 v3 v4 v5 v6 w_15
          else
            if v6 ≠ 70 then
              some (0, w_15)
            else
              mX6_reads_175 k17 v1_1 v2 v3 v4 v5 v6 w_15
      else
        mX6_reads_116 k17 v1_1 v2 v3 v4 v5 v6 (-9) w_13
noncomputable def mX6_reads_79 (k17 : Int32 → Int32 → Int32 → Int32 → Int32 → AW → Option (Int32 × AW)) (v1 : Int32) (v2 : Int32) (v3 : Int32) (v4 : Int32) (v5 : Int32) (v6 : Int32) (v7 : Int32) (w : AW) : Option (Int32 × AW) :=
  if v7 = 0 then
    mX6_reads_90 k17 v2 v3 v4 v5 v6 0 v1 w
  else
    mX6_reads_90 k17 v2 v3 v4 v5 v6 1 v1 w
noncomputable def mX6_reads_54 (k17 : Int32 → Int32 → Int32 → Int32 → Int32 → AW → Option (Int32 × AW)) (v1 : Int32) (v2 : Int32) (v3 : Int32) (v4 : Int32) (v5 : Int32) (v6 : Int32) (s0 : Int32) (w : AW) : Option (Int32 × AW) :=
  pu w 0 16 v5 fun w_1 =>
  if v3 ≠ 0 then
    some (0, w_1)
  else
    if s0 = 0 then
      mX6_reads_79 k17 v1 v2 v3 v4 v5 v6 s0 w_1
    else
      if v1 ≠ 40 then
        mX6_reads_79 k17 v1 v2 v3 v4 v5 v6 s0 w_1
      else
        some (0, w_1)
noncomputable def mX6_reads_53 (k17 : Int32 → Int32 → Int32 → Int32 → Int32 → AW → Option (Int32 × AW)) (v1 : Int32) (v2 : Int32) (v3 : Int32) (v4 : Int32) (v5 : Int32) (v6 : Int32) (w : AW) : Option (Int32 × AW) :=
  mX6_reads_54 k17 v1 v2 v3 v4 v5 v6 0 w
noncomputable def mX6_reads_17 : Nat → Int32 → Int32 → Int32 → Int32 → Int32 → AW → Option (Int32 × AW)
  | 0, _, _, _, _, _, _ => none
  | n + 1, v1, v2, v3, v4, v5, w =>
    if (w.1 0 0 6) ≤ v5 then
      pu w 0 16 (w.1 0 0 6) fun w_1 =>
      zr v3 w_1
    else
      rd 200 (w.1 0 6) v5 fun x_2 =>
      if x_2 = 40 then
        mX6_reads_53 (mX6_reads_17 n) v1 v2 v3 v4 v5 x_2 w
      else
        if x_2 = 41 then
          mX6_reads_53 (mX6_reads_17 n) v1 v2 v3 v4 v5 x_2 w
        else
          mX6_reads_54 (mX6_reads_17 n) v1 v2 v3 v4 v5 x_2 1 w
noncomputable def mX6_reads (w : AW) : Option (Int32 × AW) :=
  pu w 0 15 0 fun w_1 =>
  mX6_reads_17 FU 0 0 0 1 0 w_1
set_option maxRecDepth 100000 in
set_option maxHeartbeats 4000000 in
theorem ok_mX6_reads_424 {zv : Int32} {zw : AW} {k17 : Int32 → Int32 → Int32 → Int32 → Int32 → AW → Option (Int32 × AW)} {v1 : Int32} {v2 : Int32} {v3 : Int32} {v4 : Int32} {v5 : Int32} (hk17 : ∀ (v1 : Int32) (v2 : Int32) (v3 : Int32) (v4 : Int32) (v5 : Int32)  w, k17 v1 v2 v3 v4 v5 w = some (zv, zw) → RR true KX6_reads (some (vI zv), zw) 17 [some (vR 0 0), some (vI v1), some (vI v2), some (vI v3), some (vI v4), some (vI v5), none, none, none, none] [] w) {w : AW} (hf : mX6_reads_424 k17 v1 v2 v3 v4 v5 w = some (zv, zw)) : RR true KX6_reads (some (vI zv), zw) 424 [some (vR 0 0), some (vI v1), some (vI v2), some (vI v3), some (vI v4), some (vI v5), none, none, none, none] [] w := by
  refine g_iinc (fun v5_1 => [some (vR 0 0), some (vI v1), some (vI v2), some (vI v3), some (vI v4), some (vI v5_1), none, none, none, none]) dX6_reads_424 ic_1 rfl rfl (fun _ => rfl) (Nat.le_of_ble_eq_true rfl) hf (fun v5_1 hf => ?_)
  refine r_goto (tgt := 17) dX6_reads_427 rfl ?_
  exact hk17 _ _ _ _ _ _ hf
set_option maxRecDepth 100000 in
set_option maxHeartbeats 4000000 in
theorem ok_mX6_reads_423 {zv : Int32} {zw : AW} {k17 : Int32 → Int32 → Int32 → Int32 → Int32 → AW → Option (Int32 × AW)} {v1 : Int32} {v2 : Int32} {v3 : Int32} {v4 : Int32} {v5 : Int32} {s0 : Int32} {s1 : Int32} (hk17 : ∀ (v1 : Int32) (v2 : Int32) (v3 : Int32) (v4 : Int32) (v5 : Int32)  w, k17 v1 v2 v3 v4 v5 w = some (zv, zw) → RR true KX6_reads (some (vI zv), zw) 17 [some (vR 0 0), some (vI v1), some (vI v2), some (vI v3), some (vI v4), some (vI v5), none, none, none, none] [] w) {w : AW} (hf : mX6_reads_423 k17 v1 v2 v3 v4 v5 s0 s1 w = some (zv, zw)) : RR true KX6_reads (some (vI zv), zw) 423 [some (vR 0 0), some (vI v1), some (vI v2), some (vI v3), some (vI v4), some (vI v5), none, none, none, none] [vI s0, vI s1, vR 0 26] w := by
  refine g_iast dX6_reads_423 aK_true_0_26 aL_true_0_26 hf (fun w_1 hf => ?_)
  exact ok_mX6_reads_424 hk17 hf
set_option maxRecDepth 100000 in
set_option maxHeartbeats 4000000 in
theorem ok_mX6_reads_405 {zv : Int32} {zw : AW} {k17 : Int32 → Int32 → Int32 → Int32 → Int32 → AW → Option (Int32 × AW)} {v1 : Int32} {v2 : Int32} {v3 : Int32} {v4 : Int32} {v5 : Int32} {v9 : Int32} {s0 : Int32} {s1 : Int32} (hk17 : ∀ (v1 : Int32) (v2 : Int32) (v3 : Int32) (v4 : Int32) (v5 : Int32)  w, k17 v1 v2 v3 v4 v5 w = some (zv, zw) → RR true KX6_reads (some (vI zv), zw) 17 [some (vR 0 0), some (vI v1), some (vI v2), some (vI v3), some (vI v4), some (vI v5), none, none, none, none] [] w) {w : AW} (hf : mX6_reads_405 k17 v1 v2 v3 v4 v5 v9 s0 s1 w = some (zv, zw)) : RR true KX6_reads (some (vI zv), zw) 405 [some (vR 0 0), some (vI v1), some (vI v2), some (vI v3), some (vI v4), some (vI v5), none, none, none, some (vI v9)] [vI s0, vI s1, vR 0 25] w := by
  refine g_iast dX6_reads_405 aK_true_0_25 aL_true_0_25 hf (fun w_1 hf => ?_)
  refine r_aload_n dX6_reads_406 rfl rfl ?_
  refine g_getA dX6_reads_407 fl_RX6_71 fk_6_25 rfl (cl_true_0) ?_
  refine r_iload_n dX6_reads_410 rfl rfl ?_
  refine r_iconst dX6_reads_411 ic_1 ?_
  refine r_isub dX6_reads_412 ?_
  refine r_iload dX6_reads_413 rfl ?_
  refine g_if_eq (tgt := 422) dX6_reads_415 rfl hf (fun _ hf => ?_) (fun _ hf => ?_)
  · refine r_iconst dX6_reads_422 ic_3 ?_
    refine r_mask (bs := [true, true, true, true, true, true, false, false, false, false]) ?_
    exact ok_mX6_reads_423 hk17 hf
  · refine r_iconst dX6_reads_418 ic_1 ?_
    refine r_goto (tgt := 423) dX6_reads_419 rfl ?_
    refine r_mask (bs := [true, true, true, true, true, true, false, false, false, false]) ?_
    exact ok_mX6_reads_423 hk17 hf
set_option maxRecDepth 100000 in
set_option maxHeartbeats 4000000 in
theorem ok_mX6_reads_378 {zv : Int32} {zw : AW} {k17 : Int32 → Int32 → Int32 → Int32 → Int32 → AW → Option (Int32 × AW)} {v1 : Int32} {v2 : Int32} {v3 : Int32} {v4 : Int32} {v5 : Int32} {v8 : Int32} {s0 : Int32} (hk17 : ∀ (v1 : Int32) (v2 : Int32) (v3 : Int32) (v4 : Int32) (v5 : Int32)  w, k17 v1 v2 v3 v4 v5 w = some (zv, zw) → RR true KX6_reads (some (vI zv), zw) 17 [some (vR 0 0), some (vI v1), some (vI v2), some (vI v3), some (vI v4), some (vI v5), none, none, none, none] [] w) {w : AW} (hf : mX6_reads_378 k17 v1 v2 v3 v4 v5 v8 s0 w = some (zv, zw)) : RR true KX6_reads (some (vI zv), zw) 378 [some (vR 0 0), some (vI v1), some (vI v2), some (vI v3), some (vI v4), some (vI v5), none, none, some (vI v8), none] [vI s0] w := by
  refine r_istore (ls2 := [some (vR 0 0), some (vI v1), some (vI v2), some (vI v3), some (vI v4), some (vI v5), none, none, some (vI v8), some (vI s0)]) dX6_reads_378 rfl rfl (Nat.le_of_ble_eq_true rfl) ?_
  refine r_aload_n dX6_reads_380 rfl rfl ?_
  refine g_getA dX6_reads_381 fl_RX6_68 fk_6_24 rfl (cl_true_0) ?_
  refine r_iload_n dX6_reads_384 rfl rfl ?_
  refine r_iconst dX6_reads_385 ic_1 ?_
  refine r_isub dX6_reads_386 ?_
  refine r_iload dX6_reads_387 rfl ?_
  refine g_if_eq (tgt := 397) dX6_reads_389 rfl hf (fun _ hf => ?_) (fun _ hf => ?_)
  · refine r_aload_n dX6_reads_397 rfl rfl ?_
    refine g_getA dX6_reads_398 fl_RX6_68 fk_6_24 rfl (cl_true_0) ?_
    refine r_iload_n dX6_reads_401 rfl rfl ?_
    refine r_iconst dX6_reads_402 ic_1 ?_
    refine r_isub dX6_reads_403 ?_
    refine g_iald dX6_reads_404 aK_true_0_25 aL_true_0_25 hf (fun x_1 hf => ?_)
    refine r_mask (bs := [true, true, true, true, true, true, false, false, false, true]) ?_
    exact ok_mX6_reads_405 hk17 hf
  · refine r_iload dX6_reads_392 rfl ?_
    refine r_goto (tgt := 405) dX6_reads_394 rfl ?_
    refine r_mask (bs := [true, true, true, true, true, true, false, false, false, true]) ?_
    exact ok_mX6_reads_405 hk17 hf
set_option maxRecDepth 100000 in
set_option maxHeartbeats 4000000 in
theorem ok_mX6_reads_354 {zv : Int32} {zw : AW} {k17 : Int32 → Int32 → Int32 → Int32 → Int32 → AW → Option (Int32 × AW)} {v1 : Int32} {v2 : Int32} {v5 : Int32} {v8 : Int32} {s0 : Int32} (hk17 : ∀ (v1 : Int32) (v2 : Int32) (v3 : Int32) (v4 : Int32) (v5 : Int32)  w, k17 v1 v2 v3 v4 v5 w = some (zv, zw) → RR true KX6_reads (some (vI zv), zw) 17 [some (vR 0 0), some (vI v1), some (vI v2), some (vI v3), some (vI v4), some (vI v5), none, none, none, none] [] w) {w : AW} (hf : mX6_reads_354 k17 v1 v2 v5 v8 s0 w = some (zv, zw)) : RR true KX6_reads (some (vI zv), zw) 354 [some (vR 0 0), some (vI v1), some (vI v2), none, none, some (vI v5), none, none, some (vI v8), none] [vI s0] w := by
  refine r_istore_n (ls2 := [some (vR 0 0), some (vI v1), some (vI v2), some (vI s0), none, some (vI v5), none, none, some (vI v8), none]) dX6_reads_354 rfl rfl rfl (Nat.le_of_ble_eq_true rfl) ?_
  refine r_iconst dX6_reads_355 ic_0 ?_
  refine r_istore (ls2 := [some (vR 0 0), some (vI v1), some (vI v2), some (vI s0), some (vI 0), some (vI v5), none, none, some (vI v8), none]) dX6_reads_356 rfl rfl (Nat.le_of_ble_eq_true rfl) ?_
  refine r_iload_n dX6_reads_358 rfl rfl ?_
  refine g_if_ne (tgt := 424) dX6_reads_359 rfl hf (fun _ hf => ?_) (fun _ hf => ?_)
  · refine r_mask (bs := [true, true, true, true, true, true, false, false, false, false]) ?_
    exact ok_mX6_reads_424 hk17 hf
  · refine r_aload_n dX6_reads_362 rfl rfl ?_
    refine g_getA dX6_reads_363 fl_RX6_71 fk_6_25 rfl (cl_true_0) ?_
    refine r_iload_n dX6_reads_366 rfl rfl ?_
    refine r_iconst dX6_reads_367 ic_1 ?_
    refine r_isub dX6_reads_368 ?_
    refine g_iald dX6_reads_369 aK_true_0_26 aL_true_0_26 hf (fun x_1 hf => ?_)
    refine g_if_ne (tgt := 377) dX6_reads_370 rfl hf (fun _ hf => ?_) (fun _ hf => ?_)
    · refine r_iconst dX6_reads_377 ic_0 ?_
      exact ok_mX6_reads_378 hk17 hf
    · refine r_iconst dX6_reads_373 ic_1 ?_
      refine r_goto (tgt := 378) dX6_reads_374 rfl ?_
      exact ok_mX6_reads_378 hk17 hf
set_option maxRecDepth 100000 in
set_option maxHeartbeats 4000000 in
theorem ok_mX6_reads_345 {zv : Int32} {zw : AW} {k17 : Int32 → Int32 → Int32 → Int32 → Int32 → AW → Option (Int32 × AW)} {v1 : Int32} {v2 : Int32} {v5 : Int32} {v8 : Int32} (hk17 : ∀ (v1 : Int32) (v2 : Int32) (v3 : Int32) (v4 : Int32) (v5 : Int32)  w, k17 v1 v2 v3 v4 v5 w = some (zv, zw) → RR true KX6_reads (some (vI zv), zw) 17 [some (vR 0 0), some (vI v1), some (vI v2), some (vI v3), some (vI v4), some (vI v5), none, none, none, none] [] w) {w : AW} (hf : mX6_reads_345 k17 v1 v2 v5 v8 w = some (zv, zw)) : RR true KX6_reads (some (vI zv), zw) 345 [some (vR 0 0), some (vI v1), some (vI v2), none, none, some (vI v5), none, none, some (vI v8), none] [] w := by
  refine r_iload_n dX6_reads_345 rfl rfl ?_
  refine g_if_ne (tgt := 353) dX6_reads_346 rfl hf (fun _ hf => ?_) (fun _ hf => ?_)
  · refine r_iconst dX6_reads_353 ic_0 ?_
    exact ok_mX6_reads_354 hk17 hf
  · refine r_iconst dX6_reads_349 ic_1 ?_
    refine r_goto (tgt := 354) dX6_reads_350 rfl ?_
    exact ok_mX6_reads_354 hk17 hf
set_option maxRecDepth 100000 in
set_option maxHeartbeats 4000000 in
theorem ok_mX6_reads_296 {zv : Int32} {zw : AW} {k17 : Int32 → Int32 → Int32 → Int32 → Int32 → AW → Option (Int32 × AW)} {v1 : Int32} {v5 : Int32} (hk17 : ∀ (v1 : Int32) (v2 : Int32) (v3 : Int32) (v4 : Int32) (v5 : Int32)  w, k17 v1 v2 v3 v4 v5 w = some (zv, zw) → RR true KX6_reads (some (vI zv), zw) 17 [some (vR 0 0), some (vI v1), some (vI v2), some (vI v3), some (vI v4), some (vI v5), none, none, none, none] [] w) : ∀ (n : Nat) (v2 : Int32) (v8 : Int32) (w : AW), mX6_reads_296 k17 v1 v5 n v2 v8 w = some (zv, zw) → RR true KX6_reads (some (vI zv), zw) 296 [some (vR 0 0), some (vI v1), some (vI v2), none, none, some (vI v5), none, none, some (vI v8), none] [] w := by
  intro n
  induction n with
  | zero => intro v2 v8 w hf; cases hf
  | succ n ih =>
    intro v2 v8 w hf
    refine r_iload_n dX6_reads_296 rfl rfl ?_
    refine g_if_le (tgt := 345) dX6_reads_297 rfl hf (fun _ hf => ?_) (fun _ hf => ?_)
    · exact ok_mX6_reads_345 hk17 hf
    · refine r_aload_n dX6_reads_300 rfl rfl ?_
      refine g_getA dX6_reads_301 fl_RX6_62 fk_6_22 rfl (cl_true_0) ?_
      refine r_iload_n dX6_reads_304 rfl rfl ?_
      refine r_iconst dX6_reads_305 ic_1 ?_
      refine r_isub dX6_reads_306 ?_
      refine g_iald dX6_reads_307 aK_true_0_23 aL_true_0_23 hf (fun x_1 hf => ?_)
      obtain ⟨x_3, w_2, hc, hf⟩ := cl_some hf
      refine g_cS (st := []) KX6_isPrefix [vI x_1] dX6_reads_308 e_RX6_182 mok_X6_isPrefix mw_X6_isPrefix ⟨Nat.le_of_ble_eq_true rfl, Nat.le_of_ble_eq_true rfl⟩ (met_X6_isPrefix hc) rfl (Nat.le_of_ble_eq_true rfl) ?_
      clear hc
      refine g_if_eq (tgt := 345) dX6_reads_311 rfl hf (fun _ hf => ?_) (fun _ hf => ?_)
      · exact ok_mX6_reads_345 hk17 hf
      · refine g_iinc (fun v2_4 => [some (vR 0 0), some (vI v1), some (vI v2_4), none, none, some (vI v5), none, none, some (vI v8), none]) dX6_reads_314 ic_m1 rfl rfl (fun _ => rfl) (Nat.le_of_ble_eq_true rfl) hf (fun v2_4 hf => ?_)
        refine r_aload_n dX6_reads_317 rfl rfl ?_
        refine r_aload_n dX6_reads_318 rfl rfl ?_
        refine g_getA dX6_reads_319 fl_RX6_62 fk_6_22 rfl (cl_true_0) ?_
        refine r_iload_n dX6_reads_322 rfl rfl ?_
        refine g_iald dX6_reads_323 aK_true_0_23 aL_true_0_23 hf (fun x_5 hf => ?_)
        refine r_iload dX6_reads_324 rfl ?_
        refine r_iconst dX6_reads_326 ic_0 ?_
        refine r_aload_n dX6_reads_327 rfl rfl ?_
        refine g_getA dX6_reads_328 fl_RX6_65 fk_6_23 rfl (cl_true_0) ?_
        refine r_iload_n dX6_reads_331 rfl rfl ?_
        refine g_iald dX6_reads_332 aK_true_0_24 aL_true_0_24 hf (fun x_6 hf => ?_)
        refine r_iload dX6_reads_333 rfl ?_
        refine r_iconst dX6_reads_335 ic_1 ?_
        refine r_iadd dX6_reads_336 ?_
        obtain ⟨x_8, w_7, hc, hf⟩ := cl_some hf
        refine g_cV (st := []) KX6_part [vI x_5, vI v8, vI 0, vI x_6, vI (v5 + 1)] dX6_reads_337 e_RX6_188 (cl_true_0) (rfl : vwCl[6]? = _) rfl mok_X6_part mw_X6_part ⟨Nat.le_of_ble_eq_true rfl, Nat.le_of_ble_eq_true rfl⟩ (met_X6_part hc) rfl (Nat.le_of_ble_eq_true rfl) ?_
        clear hc
        refine r_istore (ls2 := [some (vR 0 0), some (vI v1), some (vI v2_4), none, none, some (vI v5), none, none, some (vI x_8), none]) dX6_reads_340 rfl rfl (Nat.le_of_ble_eq_true rfl) ?_
        refine r_goto (tgt := 296) dX6_reads_342 rfl ?_
        exact ih _ _ _ hf
set_option maxRecDepth 100000 in
set_option maxHeartbeats 4000000 in
theorem ok_mX6_reads_289 {zv : Int32} {zw : AW} {k17 : Int32 → Int32 → Int32 → Int32 → Int32 → AW → Option (Int32 × AW)} {v1 : Int32} {v2 : Int32} {v3 : Int32} {v4 : Int32} {v5 : Int32} {v8 : Int32} (hk17 : ∀ (v1 : Int32) (v2 : Int32) (v3 : Int32) (v4 : Int32) (v5 : Int32)  w, k17 v1 v2 v3 v4 v5 w = some (zv, zw) → RR true KX6_reads (some (vI zv), zw) 17 [some (vR 0 0), some (vI v1), some (vI v2), some (vI v3), some (vI v4), some (vI v5), none, none, none, none] [] w) {w : AW} (hf : mX6_reads_289 k17 v1 v2 v3 v4 v5 v8 w = some (zv, zw)) : RR true KX6_reads (some (vI zv), zw) 289 [some (vR 0 0), some (vI v1), some (vI v2), some (vI v3), some (vI v4), some (vI v5), none, none, some (vI v8), none] [] w := by
  refine r_iload dX6_reads_289 rfl ?_
  refine r_bipush dX6_reads_291 (bp_m9) ?_
  refine g_icmp_eq (tgt := 424) dX6_reads_293 rfl hf (fun _ hf => ?_) (fun _ hf => ?_)
  · refine r_mask (bs := [true, true, true, true, true, true, false, false, false, false]) ?_
    exact ok_mX6_reads_424 hk17 hf
  · refine r_mask (bs := [true, true, true, false, false, true, false, false, true, false]) ?_
    exact ok_mX6_reads_296 hk17 FU _ _ _ hf
set_option maxRecDepth 100000 in
set_option maxHeartbeats 4000000 in
theorem ok_mX6_reads_116 {zv : Int32} {zw : AW} {k17 : Int32 → Int32 → Int32 → Int32 → Int32 → AW → Option (Int32 × AW)} {v1 : Int32} {v2 : Int32} {v3 : Int32} {v4 : Int32} {v5 : Int32} {v6 : Int32} {v8 : Int32} (hk17 : ∀ (v1 : Int32) (v2 : Int32) (v3 : Int32) (v4 : Int32) (v5 : Int32)  w, k17 v1 v2 v3 v4 v5 w = some (zv, zw) → RR true KX6_reads (some (vI zv), zw) 17 [some (vR 0 0), some (vI v1), some (vI v2), some (vI v3), some (vI v4), some (vI v5), none, none, none, none] [] w) {w : AW} (hf : mX6_reads_116 k17 v1 v2 v3 v4 v5 v6 v8 w = some (zv, zw)) : RR true KX6_reads (some (vI zv), zw) 116 [some (vR 0 0), some (vI v1), some (vI v2), some (vI v3), some (vI v4), some (vI v5), some (vI v6), none, some (vI v8), none] [] w := by
  refine r_iload_n dX6_reads_116 rfl rfl ?_
  refine r_bipush dX6_reads_117 (bp_20) ?_
  refine g_icmp_ne (tgt := 124) dX6_reads_119 rfl hf (fun _ hf => ?_) (fun _ hf => ?_)
  · refine r_aload_n dX6_reads_124 rfl rfl ?_
    refine g_getA dX6_reads_125 fl_RX6_62 fk_6_22 rfl (cl_true_0) ?_
    refine r_iload_n dX6_reads_128 rfl rfl ?_
    refine r_iload dX6_reads_129 rfl ?_
    refine g_iast dX6_reads_131 aK_true_0_23 aL_true_0_23 hf (fun w_1 hf => ?_)
    refine r_aload_n dX6_reads_132 rfl rfl ?_
    refine g_getA dX6_reads_133 fl_RX6_65 fk_6_23 rfl (cl_true_0) ?_
    refine r_iload_n dX6_reads_136 rfl rfl ?_
    refine r_iload dX6_reads_137 rfl ?_
    refine g_iast dX6_reads_139 aK_true_0_24 aL_true_0_24 hf (fun w_2 hf => ?_)
    refine r_aload_n dX6_reads_140 rfl rfl ?_
    refine g_getA dX6_reads_141 fl_RX6_71 fk_6_25 rfl (cl_true_0) ?_
    refine r_iload_n dX6_reads_144 rfl rfl ?_
    refine r_iconst dX6_reads_145 ic_0 ?_
    refine g_iast dX6_reads_146 aK_true_0_26 aL_true_0_26 hf (fun w_3 hf => ?_)
    refine g_iinc (fun v2_4 => [some (vR 0 0), some (vI v1), some (vI v2_4), some (vI v3), some (vI v4), some (vI v5), some (vI v6), none, some (vI v8), none]) dX6_reads_147 ic_1 rfl rfl (fun _ => rfl) (Nat.le_of_ble_eq_true rfl) hf (fun v2_4 hf => ?_)
    refine r_goto (tgt := 289) dX6_reads_150 rfl ?_
    refine r_mask (bs := [true, true, true, true, true, true, false, false, true, false]) ?_
    exact ok_mX6_reads_289 hk17 hf
  · refine r_iconst dX6_reads_122 ic_0 ?_
    exact r_zret dX6_reads_123 rfl nar_0 (ret_I hf)
set_option maxRecDepth 100000 in
set_option maxHeartbeats 4000000 in
theorem ok_mX6_reads_175 {zv : Int32} {zw : AW} {k17 : Int32 → Int32 → Int32 → Int32 → Int32 → AW → Option (Int32 × AW)} {v1 : Int32} {v2 : Int32} {v3 : Int32} {v4 : Int32} {v5 : Int32} {v6 : Int32} (hk17 : ∀ (v1 : Int32) (v2 : Int32) (v3 : Int32) (v4 : Int32) (v5 : Int32)  w, k17 v1 v2 v3 v4 v5 w = some (zv, zw) → RR true KX6_reads (some (vI zv), zw) 17 [some (vR 0 0), some (vI v1), some (vI v2), some (vI v3), some (vI v4), some (vI v5), none, none, none, none] [] w) {w : AW} (hf : mX6_reads_175 k17 v1 v2 v3 v4 v5 v6 w = some (zv, zw)) : RR true KX6_reads (some (vI zv), zw) 175 [some (vR 0 0), some (vI v1), some (vI v2), some (vI v3), some (vI v4), some (vI v5), some (vI v6), none, none, none] [] w := by
  refine r_aload_n dX6_reads_175 rfl rfl ?_
  refine r_iload dX6_reads_176 rfl ?_
  refine r_iconst dX6_reads_178 ic_0 ?_
  refine r_iconst dX6_reads_179 ic_0 ?_
  refine r_iload dX6_reads_180 rfl ?_
  refine r_iload dX6_reads_182 rfl ?_
  refine r_iconst dX6_reads_184 ic_1 ?_
  refine r_iadd dX6_reads_185 ?_
  obtain ⟨x_2, w_1, hc, hf⟩ := cl_some hf
  refine g_cV (st := []) KX6_part [vI v6, vI 0, vI 0, vI v5, vI (v5 + 1)] dX6_reads_186 e_RX6_188 (cl_true_0) (rfl : vwCl[6]? = _) rfl mok_X6_part mw_X6_part ⟨Nat.le_of_ble_eq_true rfl, Nat.le_of_ble_eq_true rfl⟩ (met_X6_part hc) rfl (Nat.le_of_ble_eq_true rfl) ?_
  clear hc
  refine r_istore (ls2 := [some (vR 0 0), some (vI v1), some (vI v2), some (vI v3), some (vI v4), some (vI v5), some (vI v6), none, some (vI x_2), none]) dX6_reads_189 rfl rfl (Nat.le_of_ble_eq_true rfl) ?_
  refine r_goto (tgt := 289) dX6_reads_191 rfl ?_
  refine r_mask (bs := [true, true, true, true, true, true, false, false, true, false]) ?_
  exact ok_mX6_reads_289 hk17 hf
set_option maxRecDepth 100000 in
set_option maxHeartbeats 4000000 in
theorem ok_mX6_reads_90 {zv : Int32} {zw : AW} {k17 : Int32 → Int32 → Int32 → Int32 → Int32 → AW → Option (Int32 × AW)} {v2 : Int32} {v3 : Int32} {v4 : Int32} {v5 : Int32} {v6 : Int32} {s0 : Int32} {s1 : Int32} (hk17 : ∀ (v1 : Int32) (v2 : Int32) (v3 : Int32) (v4 : Int32) (v5 : Int32)  w, k17 v1 v2 v3 v4 v5 w = some (zv, zw) → RR true KX6_reads (some (vI zv), zw) 17 [some (vR 0 0), some (vI v1), some (vI v2), some (vI v3), some (vI v4), some (vI v5), none, none, none, none] [] w) {w : AW} (hf : mX6_reads_90 k17 v2 v3 v4 v5 v6 s0 s1 w = some (zv, zw)) : RR true KX6_reads (some (vI zv), zw) 90 [some (vR 0 0), none, some (vI v2), some (vI v3), some (vI v4), some (vI v5), some (vI v6), none, none, none] [vI s0, vI s1] w := by
  refine r_iadd dX6_reads_90 ?_
  refine g_istore_n (fun v1_1 => [some (vR 0 0), some (vI v1_1), some (vI v2), some (vI v3), some (vI v4), some (vI v5), some (vI v6), none, none, none]) dX6_reads_91 rfl rfl (fun _ => rfl) (Nat.le_of_ble_eq_true rfl) hf (fun v1_1 hf => ?_)
  refine r_bipush dX6_reads_92 (bp_m9) ?_
  refine r_istore (ls2 := [some (vR 0 0), some (vI v1_1), some (vI v2), some (vI v3), some (vI v4), some (vI v5), some (vI v6), none, some (vI (-9)), none]) dX6_reads_94 rfl rfl (Nat.le_of_ble_eq_true rfl) ?_
  refine r_iload dX6_reads_96 rfl ?_
  refine g_if_eq (tgt := 196) dX6_reads_98 rfl hf (fun _ hf => ?_) (fun _ hf => ?_)
  · refine r_aload_n dX6_reads_196 rfl rfl ?_
    refine g_getA dX6_reads_197 fl_RX6_71 fk_6_25 rfl (cl_true_0) ?_
    refine r_iload_n dX6_reads_200 rfl rfl ?_
    refine r_iconst dX6_reads_201 ic_1 ?_
    refine r_isub dX6_reads_202 ?_
    refine g_iald dX6_reads_203 aK_true_0_26 aL_true_0_26 hf (fun x_2 hf => ?_)
    refine r_iconst dX6_reads_204 ic_1 ?_
    refine g_icmp_ne (tgt := 243) dX6_reads_205 rfl hf (fun _ hf => ?_) (fun _ hf => ?_)
    · refine r_iload dX6_reads_243 rfl ?_
      refine r_bipush dX6_reads_245 (bp_41) ?_
      refine g_icmp_eq (tgt := 252) dX6_reads_247 rfl hf (fun _ hf => ?_) (fun _ hf => ?_)
      · refine g_iinc (fun v2_3 => [some (vR 0 0), some (vI v1_1), some (vI v2_3), some (vI v3), some (vI v4), some (vI v5), some (vI v6), none, some (vI (-9)), none]) dX6_reads_252 ic_m1 rfl rfl (fun _ => rfl) (Nat.le_of_ble_eq_true rfl) hf (fun v2_3 hf => ?_)
        refine r_aload_n dX6_reads_255 rfl rfl ?_
        refine r_aload_n dX6_reads_256 rfl rfl ?_
        refine g_getA dX6_reads_257 fl_RX6_62 fk_6_22 rfl (cl_true_0) ?_
        refine r_iload_n dX6_reads_260 rfl rfl ?_
        refine g_iald dX6_reads_261 aK_true_0_23 aL_true_0_23 hf (fun x_4 hf => ?_)
        refine r_aload_n dX6_reads_262 rfl rfl ?_
        refine g_getA dX6_reads_263 fl_RX6_68 fk_6_24 rfl (cl_true_0) ?_
        refine r_iload_n dX6_reads_266 rfl rfl ?_
        refine g_iald dX6_reads_267 aK_true_0_25 aL_true_0_25 hf (fun x_5 hf => ?_)
        refine r_aload_n dX6_reads_268 rfl rfl ?_
        refine g_getI dX6_reads_269 fl_RX6_176 fk_6_15 (cl_true_0) ?_
        refine r_iconst dX6_reads_272 ic_1 ?_
        refine r_isub dX6_reads_273 ?_
        refine r_aload_n dX6_reads_274 rfl rfl ?_
        refine g_getA dX6_reads_275 fl_RX6_65 fk_6_23 rfl (cl_true_0) ?_
        refine r_iload_n dX6_reads_278 rfl rfl ?_
        refine g_iald dX6_reads_279 aK_true_0_24 aL_true_0_24 hf (fun x_6 hf => ?_)
        refine r_iload dX6_reads_280 rfl ?_
        refine r_iconst dX6_reads_282 ic_1 ?_
        refine r_iadd dX6_reads_283 ?_
        obtain ⟨x_8, w_7, hc, hf⟩ := cl_some hf
        refine g_cV (st := []) KX6_part [vI x_4, vI x_5, vI ((w.1 0 0 15) - 1), vI x_6, vI (v5 + 1)] dX6_reads_284 e_RX6_188 (cl_true_0) (rfl : vwCl[6]? = _) rfl mok_X6_part mw_X6_part ⟨Nat.le_of_ble_eq_true rfl, Nat.le_of_ble_eq_true rfl⟩ (met_X6_part hc) rfl (Nat.le_of_ble_eq_true rfl) ?_
        clear hc
        refine r_istore (ls2 := [some (vR 0 0), some (vI v1_1), some (vI v2_3), some (vI v3), some (vI v4), some (vI v5), some (vI v6), none, some (vI x_8), none]) dX6_reads_287 rfl rfl (Nat.le_of_ble_eq_true rfl) ?_
        refine r_mask (bs := [true, true, true, true, true, true, false, false, true, false]) ?_
        exact ok_mX6_reads_289 hk17 hf
      · refine r_iconst dX6_reads_250 ic_0 ?_
        exact r_zret dX6_reads_251 rfl nar_0 (ret_I hf)
    · refine r_iload dX6_reads_208 rfl ?_
      obtain ⟨x_10, w_9, hc, hf⟩ := cl_some hf
      refine g_cS (st := []) KX6_isJoin [vI v6] dX6_reads_210 e_RX6_192 mok_X6_isJoin mw_X6_isJoin ⟨Nat.le_of_ble_eq_true rfl, Nat.le_of_ble_eq_true rfl⟩ (met_X6_isJoin hc) rfl (Nat.le_of_ble_eq_true rfl) ?_
      clear hc
      refine g_if_ne (tgt := 218) dX6_reads_213 rfl hf (fun _ hf => ?_) (fun _ hf => ?_)
      · refine r_aload_n dX6_reads_218 rfl rfl ?_
        refine g_getA dX6_reads_219 fl_RX6_62 fk_6_22 rfl (cl_true_0) ?_
        refine r_iload_n dX6_reads_222 rfl rfl ?_
        refine r_iconst dX6_reads_223 ic_1 ?_
        refine r_isub dX6_reads_224 ?_
        refine r_iload dX6_reads_225 rfl ?_
        refine g_iast dX6_reads_227 aK_true_0_23 aL_true_0_23 hf (fun w_11 hf => ?_)
        refine r_aload_n dX6_reads_228 rfl rfl ?_
        refine g_getA dX6_reads_229 fl_RX6_71 fk_6_25 rfl (cl_true_0) ?_
        refine r_iload_n dX6_reads_232 rfl rfl ?_
        refine r_iconst dX6_reads_233 ic_1 ?_
        refine r_isub dX6_reads_234 ?_
        refine r_iconst dX6_reads_235 ic_2 ?_
        refine g_iast dX6_reads_236 aK_true_0_26 aL_true_0_26 hf (fun w_12 hf => ?_)
        refine r_iconst dX6_reads_237 ic_1 ?_
        refine r_istore (ls2 := [some (vR 0 0), some (vI v1_1), some (vI v2), some (vI v3), some (vI 1), some (vI v5), some (vI v6), none, some (vI (-9)), none]) dX6_reads_238 rfl rfl (Nat.le_of_ble_eq_true rfl) ?_
        refine r_goto (tgt := 289) dX6_reads_240 rfl ?_
        refine r_mask (bs := [true, true, true, true, true, true, false, false, true, false]) ?_
        exact ok_mX6_reads_289 hk17 hf
      · refine r_iconst dX6_reads_216 ic_0 ?_
        exact r_zret dX6_reads_217 rfl nar_0 (ret_I hf)
  · refine r_iload dX6_reads_101 rfl ?_
    obtain ⟨x_14, w_13, hc, hf⟩ := cl_some hf
    refine g_cS (st := []) KX6_isPrefix [vI v6] dX6_reads_103 e_RX6_182 mok_X6_isPrefix mw_X6_isPrefix ⟨Nat.le_of_ble_eq_true rfl, Nat.le_of_ble_eq_true rfl⟩ (met_X6_isPrefix hc) rfl (Nat.le_of_ble_eq_true rfl) ?_
    clear hc
    refine g_if_ne (tgt := 116) dX6_reads_106 rfl hf (fun _ hf => ?_) (fun _ hf => ?_)
    · exact ok_mX6_reads_116 hk17 hf
    · refine r_iload dX6_reads_109 rfl ?_
      refine r_bipush dX6_reads_111 (bp_40) ?_
      refine g_icmp_ne (tgt := 153) dX6_reads_113 rfl hf (fun _ hf => ?_) (fun _ hf => ?_)
      · refine r_iload dX6_reads_153 rfl ?_
        obtain ⟨x_16, w_15, hc, hf⟩ := cl_some hf
        refine g_cS (st := []) KX6_isAtom [vI v6] dX6_reads_155 e_RX6_185 mok_X6_isAtom mw_X6_isAtom ⟨Nat.le_of_ble_eq_true rfl, Nat.le_of_ble_eq_true rfl⟩ (met_X6_isAtom hc) rfl (Nat.le_of_ble_eq_true rfl) ?_
        clear hc
        refine g_if_ne (tgt := 175) dX6_reads_158 rfl hf (fun _ hf => ?_) (fun _ hf => ?_)
        · refine r_mask (bs := [true, true, true, true, true, true, true, false, false, false]) ?_
          exact ok_mX6_reads_175 hk17 hf
        · refine r_iload dX6_reads_161 rfl ?_
          refine r_bipush dX6_reads_163 (bp_84) ?_
          refine g_icmp_eq (tgt := 175) dX6_reads_165 rfl hf (fun _ hf => ?_) (fun _ hf => ?_)
          · refine r_mask (bs := [true, true, true, true, true, true, true, false, false, false]) ?_
            exact ok_mX6_reads_175 hk17 hf
          · refine r_iload dX6_reads_168 rfl ?_
            refine r_bipush dX6_reads_170 (bp_70) ?_
            refine g_icmp_ne (tgt := 194) dX6_reads_172 rfl hf (fun _ hf => ?_) (fun _ hf => ?_)
            · refine r_iconst dX6_reads_194 ic_0 ?_
              exact r_zret dX6_reads_195 rfl nar_0 (ret_I hf)
            · refine r_mask (bs := [true, true, true, true, true, true, true, false, false, false]) ?_
              exact ok_mX6_reads_175 hk17 hf
      · exact ok_mX6_reads_116 hk17 hf
set_option maxRecDepth 100000 in
set_option maxHeartbeats 4000000 in
theorem ok_mX6_reads_79 {zv : Int32} {zw : AW} {k17 : Int32 → Int32 → Int32 → Int32 → Int32 → AW → Option (Int32 × AW)} {v1 : Int32} {v2 : Int32} {v3 : Int32} {v4 : Int32} {v5 : Int32} {v6 : Int32} {v7 : Int32} (hk17 : ∀ (v1 : Int32) (v2 : Int32) (v3 : Int32) (v4 : Int32) (v5 : Int32)  w, k17 v1 v2 v3 v4 v5 w = some (zv, zw) → RR true KX6_reads (some (vI zv), zw) 17 [some (vR 0 0), some (vI v1), some (vI v2), some (vI v3), some (vI v4), some (vI v5), none, none, none, none] [] w) {w : AW} (hf : mX6_reads_79 k17 v1 v2 v3 v4 v5 v6 v7 w = some (zv, zw)) : RR true KX6_reads (some (vI zv), zw) 79 [some (vR 0 0), some (vI v1), some (vI v2), some (vI v3), some (vI v4), some (vI v5), some (vI v6), some (vI v7), none, none] [] w := by
  refine r_iload_n dX6_reads_79 rfl rfl ?_
  refine r_iload dX6_reads_80 rfl ?_
  refine g_if_eq (tgt := 89) dX6_reads_82 rfl hf (fun _ hf => ?_) (fun _ hf => ?_)
  · refine r_iconst dX6_reads_89 ic_0 ?_
    refine r_mask (bs := [true, false, true, true, true, true, true, false, false, false]) ?_
    exact ok_mX6_reads_90 hk17 hf
  · refine r_iconst dX6_reads_85 ic_1 ?_
    refine r_goto (tgt := 90) dX6_reads_86 rfl ?_
    refine r_mask (bs := [true, false, true, true, true, true, true, false, false, false]) ?_
    exact ok_mX6_reads_90 hk17 hf
set_option maxRecDepth 100000 in
set_option maxHeartbeats 4000000 in
theorem ok_mX6_reads_54 {zv : Int32} {zw : AW} {k17 : Int32 → Int32 → Int32 → Int32 → Int32 → AW → Option (Int32 × AW)} {v1 : Int32} {v2 : Int32} {v3 : Int32} {v4 : Int32} {v5 : Int32} {v6 : Int32} {s0 : Int32} (hk17 : ∀ (v1 : Int32) (v2 : Int32) (v3 : Int32) (v4 : Int32) (v5 : Int32)  w, k17 v1 v2 v3 v4 v5 w = some (zv, zw) → RR true KX6_reads (some (vI zv), zw) 17 [some (vR 0 0), some (vI v1), some (vI v2), some (vI v3), some (vI v4), some (vI v5), none, none, none, none] [] w) {w : AW} (hf : mX6_reads_54 k17 v1 v2 v3 v4 v5 v6 s0 w = some (zv, zw)) : RR true KX6_reads (some (vI zv), zw) 54 [some (vR 0 0), some (vI v1), some (vI v2), some (vI v3), some (vI v4), some (vI v5), some (vI v6), none, none, none] [vI s0] w := by
  refine r_istore (ls2 := [some (vR 0 0), some (vI v1), some (vI v2), some (vI v3), some (vI v4), some (vI v5), some (vI v6), some (vI s0), none, none]) dX6_reads_54 rfl rfl (Nat.le_of_ble_eq_true rfl) ?_
  refine r_aload_n dX6_reads_56 rfl rfl ?_
  refine r_iload dX6_reads_57 rfl ?_
  refine g_putI dX6_reads_59 fl_RX6_179 fk_6_16 (cl_true_0) hf (fun w_1 hf => ?_)
  refine r_iload_n dX6_reads_62 rfl rfl ?_
  refine g_if_ne (tgt := 77) dX6_reads_63 rfl hf (fun _ hf => ?_) (fun _ hf => ?_)
  · refine r_iconst dX6_reads_77 ic_0 ?_
    exact r_zret dX6_reads_78 rfl nar_0 (ret_I hf)
  · refine r_iload dX6_reads_66 rfl ?_
    refine g_if_eq (tgt := 79) dX6_reads_68 rfl hf (fun _ hf => ?_) (fun _ hf => ?_)
    · exact ok_mX6_reads_79 hk17 hf
    · refine r_iload_n dX6_reads_71 rfl rfl ?_
      refine r_bipush dX6_reads_72 (bp_40) ?_
      refine g_icmp_ne (tgt := 79) dX6_reads_74 rfl hf (fun _ hf => ?_) (fun _ hf => ?_)
      · exact ok_mX6_reads_79 hk17 hf
      · refine r_iconst dX6_reads_77 ic_0 ?_
        exact r_zret dX6_reads_78 rfl nar_0 (ret_I hf)
set_option maxRecDepth 100000 in
set_option maxHeartbeats 4000000 in
theorem ok_mX6_reads_53 {zv : Int32} {zw : AW} {k17 : Int32 → Int32 → Int32 → Int32 → Int32 → AW → Option (Int32 × AW)} {v1 : Int32} {v2 : Int32} {v3 : Int32} {v4 : Int32} {v5 : Int32} {v6 : Int32} (hk17 : ∀ (v1 : Int32) (v2 : Int32) (v3 : Int32) (v4 : Int32) (v5 : Int32)  w, k17 v1 v2 v3 v4 v5 w = some (zv, zw) → RR true KX6_reads (some (vI zv), zw) 17 [some (vR 0 0), some (vI v1), some (vI v2), some (vI v3), some (vI v4), some (vI v5), none, none, none, none] [] w) {w : AW} (hf : mX6_reads_53 k17 v1 v2 v3 v4 v5 v6 w = some (zv, zw)) : RR true KX6_reads (some (vI zv), zw) 53 [some (vR 0 0), some (vI v1), some (vI v2), some (vI v3), some (vI v4), some (vI v5), some (vI v6), none, none, none] [] w := by
  refine r_iconst dX6_reads_53 ic_0 ?_
  exact ok_mX6_reads_54 hk17 hf
set_option maxRecDepth 100000 in
set_option maxHeartbeats 4000000 in
theorem ok_mX6_reads_17 {zv : Int32} {zw : AW} : ∀ (n : Nat) (v1 : Int32) (v2 : Int32) (v3 : Int32) (v4 : Int32) (v5 : Int32) (w : AW), mX6_reads_17 n v1 v2 v3 v4 v5 w = some (zv, zw) → RR true KX6_reads (some (vI zv), zw) 17 [some (vR 0 0), some (vI v1), some (vI v2), some (vI v3), some (vI v4), some (vI v5), none, none, none, none] [] w := by
  intro n
  induction n with
  | zero => intro v1 v2 v3 v4 v5 w hf; cases hf
  | succ n ih =>
    intro v1 v2 v3 v4 v5 w hf
    refine r_iload dX6_reads_17 rfl ?_
    refine r_aload_n dX6_reads_19 rfl rfl ?_
    refine g_getI dX6_reads_20 fl_RX6_171 fk_6_6 (cl_true_0) ?_
    refine g_icmp_ge (tgt := 430) dX6_reads_23 rfl hf (fun _ hf => ?_) (fun _ hf => ?_)
    · refine r_aload_n dX6_reads_430 rfl rfl ?_
      refine r_aload_n dX6_reads_431 rfl rfl ?_
      refine g_getI dX6_reads_432 fl_RX6_171 fk_6_6 (cl_true_0) ?_
      refine g_putI dX6_reads_435 fl_RX6_179 fk_6_16 (cl_true_0) hf (fun w_1 hf => ?_)
      refine r_iload_n dX6_reads_438 rfl rfl ?_
      exact g_zret dX6_reads_439 rfl hf
    · refine r_aload_n dX6_reads_26 rfl rfl ?_
      refine g_getA dX6_reads_27 fl_RX6_20 fk_6_5 rfl (cl_true_0) ?_
      refine r_iload dX6_reads_30 rfl ?_
      refine g_iald dX6_reads_32 aK_true_0_6 aL_true_0_6 hf (fun x_2 hf => ?_)
      refine r_istore (ls2 := [some (vR 0 0), some (vI v1), some (vI v2), some (vI v3), some (vI v4), some (vI v5), some (vI x_2), none, none, none]) dX6_reads_33 rfl rfl (Nat.le_of_ble_eq_true rfl) ?_
      refine r_iload dX6_reads_35 rfl ?_
      refine r_bipush dX6_reads_37 (bp_40) ?_
      refine g_icmp_eq (tgt := 53) dX6_reads_39 rfl hf (fun _ hf => ?_) (fun _ hf => ?_)
      · exact ok_mX6_reads_53 (fun v1 v2 v3 v4 v5 w hf => ih v1 v2 v3 v4 v5 w hf) hf
      · refine r_iload dX6_reads_42 rfl ?_
        refine r_bipush dX6_reads_44 (bp_41) ?_
        refine g_icmp_eq (tgt := 53) dX6_reads_46 rfl hf (fun _ hf => ?_) (fun _ hf => ?_)
        · exact ok_mX6_reads_53 (fun v1 v2 v3 v4 v5 w hf => ih v1 v2 v3 v4 v5 w hf) hf
        · refine r_iconst dX6_reads_49 ic_1 ?_
          refine r_goto (tgt := 54) dX6_reads_50 rfl ?_
          exact ok_mX6_reads_54 (fun v1 v2 v3 v4 v5 w hf => ih v1 v2 v3 v4 v5 w hf) hf
set_option maxRecDepth 100000 in
set_option maxHeartbeats 4000000 in
theorem ok_mX6_reads {zv : Int32} {zw : AW} {w : AW} (hf : mX6_reads w = some (zv, zw)) : RR true KX6_reads (some (vI zv), zw) 0 [some (vR 0 0), none, none, none, none, none, none, none, none, none] [] w := by
  refine r_aload_n dX6_reads_0 rfl rfl ?_
  refine r_iconst dX6_reads_1 ic_0 ?_
  refine g_putI dX6_reads_2 fl_RX6_176 fk_6_15 (cl_true_0) hf (fun w_1 hf => ?_)
  refine r_iconst dX6_reads_5 ic_0 ?_
  refine r_istore_n (ls2 := [some (vR 0 0), some (vI 0), none, none, none, none, none, none, none, none]) dX6_reads_6 rfl rfl rfl (Nat.le_of_ble_eq_true rfl) ?_
  refine r_iconst dX6_reads_7 ic_0 ?_
  refine r_istore_n (ls2 := [some (vR 0 0), some (vI 0), some (vI 0), none, none, none, none, none, none, none]) dX6_reads_8 rfl rfl rfl (Nat.le_of_ble_eq_true rfl) ?_
  refine r_iconst dX6_reads_9 ic_0 ?_
  refine r_istore_n (ls2 := [some (vR 0 0), some (vI 0), some (vI 0), some (vI 0), none, none, none, none, none, none]) dX6_reads_10 rfl rfl rfl (Nat.le_of_ble_eq_true rfl) ?_
  refine r_iconst dX6_reads_11 ic_1 ?_
  refine r_istore (ls2 := [some (vR 0 0), some (vI 0), some (vI 0), some (vI 0), some (vI 1), none, none, none, none, none]) dX6_reads_12 rfl rfl (Nat.le_of_ble_eq_true rfl) ?_
  refine r_iconst dX6_reads_14 ic_0 ?_
  refine r_istore (ls2 := [some (vR 0 0), some (vI 0), some (vI 0), some (vI 0), some (vI 1), some (vI 0), none, none, none, none]) dX6_reads_15 rfl rfl (Nat.le_of_ble_eq_true rfl) ?_
  exact ok_mX6_reads_17 FU _ _ _ _ _ _ hf
theorem met_X6_reads {zv : Int32} {zw : AW} {w : AW} (hf : mX6_reads w = some (zv, zw)) : am_Met true KX6_reads [vR 0 0] w (some (vI zv), zw) := am_met mok_X6_reads.1 (Nat.le_of_ble_eq_true rfl) (ok_mX6_reads  hf)

/-! SeenWorldsModel.read(I)I -/
noncomputable def mX6_read_90 (v1 : Int32) : Nat → Int32 → AW → Option (Int32 × AW)
  | 0, _, _ => none
  | n + 1, v2, w =>
    if (w.1 0 0 15) ≤ v2 then
      some (w.1 0 0 15, w)
    else
      nm ((40 * v1) + v2) fun v3_1 =>
      rd 40 (w.1 0 18) v2 fun x_2 =>
      wr 240 w 0 11 v3_1 x_2 fun w_3 =>
      rd 40 (w_3.1 0 19) v2 fun x_4 =>
      wr 240 w_3 0 12 v3_1 x_4 fun w_5 =>
      rd 40 (w_5.1 0 20) v2 fun x_6 =>
      wr 240 w_5 0 13 v3_1 x_6 fun w_7 =>
      rd 40 (w_7.1 0 21) v2 fun x_8 =>
      wr 240 w_7 0 14 v3_1 x_8 fun w_9 =>
      rd 40 (w_9.1 0 22) v2 fun x_10 =>
      wr 240 w_9 0 15 v3_1 x_10 fun w_11 =>
      nm (v2 + 1) fun v2_12 =>
      mX6_read_90 v1 n v2_12 w_11
noncomputable def mX6_read_31 (v1 : Int32) : Nat → Int32 → AW → Option (Int32 × AW)
  | 0, _, _ => none
  | n + 1, v2, w =>
    if (w.1 0 0 6) ≤ v2 then
      wr 6 w 0 9 v1 (w.1 0 0 6) fun w_1 =>
      pu w_1 0 6 0 fun w_2 =>
      wr 6 w_2 0 10 v1 (w_2.1 0 0 15) fun w_3 =>
      mX6_read_90 v1 FU 0 w_3
    else
      rd 200 (w.1 0 6) v2 fun x_4 =>
      wr 1200 w 0 8 ((200 * v1) + v2) x_4 fun w_5 =>
      nm (v2 + 1) fun v2_6 =>
      mX6_read_31 v1 n v2_6 w_5
noncomputable def mX6_read (v1 : Int32) (w : AW) : Option (Int32 × AW) :=
  pu w 0 0 0 fun w_1 =>
  cl (mX6_isSentence v1 w_1) fun x_3 w_2 =>
  if x_3 ≠ 0 then
    cl (mX6_reads w_2) fun x_5 w_4 =>
    if x_5 ≠ 0 then
      mX6_read_31 v1 FU 0 w_4
    else
      some ((-10) - (w_4.1 0 0 16), w_4)
  else
    some ((-1), w_2)
set_option maxRecDepth 100000 in
set_option maxHeartbeats 4000000 in
theorem ok_mX6_read_90 {zv : Int32} {zw : AW} {v1 : Int32} : ∀ (n : Nat) (v2 : Int32) (w : AW), mX6_read_90 v1 n v2 w = some (zv, zw) → RR true KX6_read (some (vI zv), zw) 90 [some (vR 0 0), some (vI v1), some (vI v2), none] [] w := by
  intro n
  induction n with
  | zero => intro v2 w hf; cases hf
  | succ n ih =>
    intro v2 w hf
    refine r_iload_n dX6_read_90 rfl rfl ?_
    refine r_aload_n dX6_read_91 rfl rfl ?_
    refine g_getI dX6_read_92 fl_RX6_176 fk_6_15 (cl_true_0) ?_
    refine g_icmp_ge (tgt := 171) dX6_read_95 rfl hf (fun _ hf => ?_) (fun _ hf => ?_)
    · refine r_aload_n dX6_read_171 rfl rfl ?_
      refine g_getI dX6_read_172 fl_RX6_176 fk_6_15 (cl_true_0) ?_
      exact r_iret dX6_read_175 rfl (ret_I hf)
    · refine r_bipush dX6_read_98 (bp_40) ?_
      refine r_iload_n dX6_read_100 rfl rfl ?_
      refine r_imul dX6_read_101 ?_
      refine r_iload_n dX6_read_102 rfl rfl ?_
      refine r_iadd dX6_read_103 ?_
      refine g_istore_n (fun v3_1 => [some (vR 0 0), some (vI v1), some (vI v2), some (vI v3_1)]) dX6_read_104 rfl rfl (fun _ => rfl) (Nat.le_of_ble_eq_true rfl) hf (fun v3_1 hf => ?_)
      refine r_aload_n dX6_read_105 rfl rfl ?_
      refine g_getA dX6_read_106 fl_RX6_32 fk_6_10 rfl (cl_true_0) ?_
      refine r_iload_n dX6_read_109 rfl rfl ?_
      refine r_aload_n dX6_read_110 rfl rfl ?_
      refine g_getA dX6_read_111 fl_RX6_47 fk_6_17 rfl (cl_true_0) ?_
      refine r_iload_n dX6_read_114 rfl rfl ?_
      refine g_iald dX6_read_115 aK_true_0_18 aL_true_0_18 hf (fun x_2 hf => ?_)
      refine g_iast dX6_read_116 aK_true_0_11 aL_true_0_11 hf (fun w_3 hf => ?_)
      refine r_aload_n dX6_read_117 rfl rfl ?_
      refine g_getA dX6_read_118 fl_RX6_35 fk_6_11 rfl (cl_true_0) ?_
      refine r_iload_n dX6_read_121 rfl rfl ?_
      refine r_aload_n dX6_read_122 rfl rfl ?_
      refine g_getA dX6_read_123 fl_RX6_50 fk_6_18 rfl (cl_true_0) ?_
      refine r_iload_n dX6_read_126 rfl rfl ?_
      refine g_iald dX6_read_127 aK_true_0_19 aL_true_0_19 hf (fun x_4 hf => ?_)
      refine g_iast dX6_read_128 aK_true_0_12 aL_true_0_12 hf (fun w_5 hf => ?_)
      refine r_aload_n dX6_read_129 rfl rfl ?_
      refine g_getA dX6_read_130 fl_RX6_38 fk_6_12 rfl (cl_true_0) ?_
      refine r_iload_n dX6_read_133 rfl rfl ?_
      refine r_aload_n dX6_read_134 rfl rfl ?_
      refine g_getA dX6_read_135 fl_RX6_53 fk_6_19 rfl (cl_true_0) ?_
      refine r_iload_n dX6_read_138 rfl rfl ?_
      refine g_iald dX6_read_139 aK_true_0_20 aL_true_0_20 hf (fun x_6 hf => ?_)
      refine g_iast dX6_read_140 aK_true_0_13 aL_true_0_13 hf (fun w_7 hf => ?_)
      refine r_aload_n dX6_read_141 rfl rfl ?_
      refine g_getA dX6_read_142 fl_RX6_41 fk_6_13 rfl (cl_true_0) ?_
      refine r_iload_n dX6_read_145 rfl rfl ?_
      refine r_aload_n dX6_read_146 rfl rfl ?_
      refine g_getA dX6_read_147 fl_RX6_56 fk_6_20 rfl (cl_true_0) ?_
      refine r_iload_n dX6_read_150 rfl rfl ?_
      refine g_iald dX6_read_151 aK_true_0_21 aL_true_0_21 hf (fun x_8 hf => ?_)
      refine g_iast dX6_read_152 aK_true_0_14 aL_true_0_14 hf (fun w_9 hf => ?_)
      refine r_aload_n dX6_read_153 rfl rfl ?_
      refine g_getA dX6_read_154 fl_RX6_44 fk_6_14 rfl (cl_true_0) ?_
      refine r_iload_n dX6_read_157 rfl rfl ?_
      refine r_aload_n dX6_read_158 rfl rfl ?_
      refine g_getA dX6_read_159 fl_RX6_59 fk_6_21 rfl (cl_true_0) ?_
      refine r_iload_n dX6_read_162 rfl rfl ?_
      refine g_iald dX6_read_163 aK_true_0_22 aL_true_0_22 hf (fun x_10 hf => ?_)
      refine g_iast dX6_read_164 aK_true_0_15 aL_true_0_15 hf (fun w_11 hf => ?_)
      refine g_iinc (fun v2_12 => [some (vR 0 0), some (vI v1), some (vI v2_12), some (vI v3_1)]) dX6_read_165 ic_1 rfl rfl (fun _ => rfl) (Nat.le_of_ble_eq_true rfl) hf (fun v2_12 hf => ?_)
      refine r_goto (tgt := 90) dX6_read_168 rfl ?_
      refine r_mask (bs := [true, true, true, false]) ?_
      exact ih _ _ hf
set_option maxRecDepth 100000 in
set_option maxHeartbeats 4000000 in
theorem ok_mX6_read_31 {zv : Int32} {zw : AW} {v1 : Int32} : ∀ (n : Nat) (v2 : Int32) (w : AW), mX6_read_31 v1 n v2 w = some (zv, zw) → RR true KX6_read (some (vI zv), zw) 31 [some (vR 0 0), some (vI v1), some (vI v2), none] [] w := by
  intro n
  induction n with
  | zero => intro v2 w hf; cases hf
  | succ n ih =>
    intro v2 w hf
    refine r_iload_n dX6_read_31 rfl rfl ?_
    refine r_aload_n dX6_read_32 rfl rfl ?_
    refine g_getI dX6_read_33 fl_RX6_171 fk_6_6 (cl_true_0) ?_
    refine g_icmp_ge (tgt := 63) dX6_read_36 rfl hf (fun _ hf => ?_) (fun _ hf => ?_)
    · refine r_aload_n dX6_read_63 rfl rfl ?_
      refine g_getA dX6_read_64 fl_RX6_26 fk_6_8 rfl (cl_true_0) ?_
      refine r_iload_n dX6_read_67 rfl rfl ?_
      refine r_aload_n dX6_read_68 rfl rfl ?_
      refine g_getI dX6_read_69 fl_RX6_171 fk_6_6 (cl_true_0) ?_
      refine g_iast dX6_read_72 aK_true_0_9 aL_true_0_9 hf (fun w_1 hf => ?_)
      refine r_aload_n dX6_read_73 rfl rfl ?_
      refine r_iconst dX6_read_74 ic_0 ?_
      refine g_putI dX6_read_75 fl_RX6_171 fk_6_6 (cl_true_0) hf (fun w_2 hf => ?_)
      refine r_aload_n dX6_read_78 rfl rfl ?_
      refine g_getA dX6_read_79 fl_RX6_29 fk_6_9 rfl (cl_true_0) ?_
      refine r_iload_n dX6_read_82 rfl rfl ?_
      refine r_aload_n dX6_read_83 rfl rfl ?_
      refine g_getI dX6_read_84 fl_RX6_176 fk_6_15 (cl_true_0) ?_
      refine g_iast dX6_read_87 aK_true_0_10 aL_true_0_10 hf (fun w_3 hf => ?_)
      refine r_iconst dX6_read_88 ic_0 ?_
      refine r_istore_n (ls2 := [some (vR 0 0), some (vI v1), some (vI 0), none]) dX6_read_89 rfl rfl rfl (Nat.le_of_ble_eq_true rfl) ?_
      exact ok_mX6_read_90 FU _ _ hf
    · refine r_aload_n dX6_read_39 rfl rfl ?_
      refine g_getA dX6_read_40 fl_RX6_23 fk_6_7 rfl (cl_true_0) ?_
      refine r_sipush dX6_read_43 (sp_200) ?_
      refine r_iload_n dX6_read_46 rfl rfl ?_
      refine r_imul dX6_read_47 ?_
      refine r_iload_n dX6_read_48 rfl rfl ?_
      refine r_iadd dX6_read_49 ?_
      refine r_aload_n dX6_read_50 rfl rfl ?_
      refine g_getA dX6_read_51 fl_RX6_20 fk_6_5 rfl (cl_true_0) ?_
      refine r_iload_n dX6_read_54 rfl rfl ?_
      refine g_iald dX6_read_55 aK_true_0_6 aL_true_0_6 hf (fun x_4 hf => ?_)
      refine g_iast dX6_read_56 aK_true_0_8 aL_true_0_8 hf (fun w_5 hf => ?_)
      refine g_iinc (fun v2_6 => [some (vR 0 0), some (vI v1), some (vI v2_6), none]) dX6_read_57 ic_1 rfl rfl (fun _ => rfl) (Nat.le_of_ble_eq_true rfl) hf (fun v2_6 hf => ?_)
      refine r_goto (tgt := 31) dX6_read_60 rfl ?_
      exact ih _ _ hf
set_option maxRecDepth 100000 in
set_option maxHeartbeats 4000000 in
theorem ok_mX6_read {zv : Int32} {zw : AW} {v1 : Int32} {w : AW} (hf : mX6_read v1 w = some (zv, zw)) : RR true KX6_read (some (vI zv), zw) 0 [some (vR 0 0), some (vI v1), none, none] [] w := by
  refine r_aload_n dX6_read_0 rfl rfl ?_
  refine r_iconst dX6_read_1 ic_0 ?_
  refine g_putI dX6_read_2 fl_RX6_132 fk_6_0 (cl_true_0) hf (fun w_1 hf => ?_)
  refine r_iload_n dX6_read_5 rfl rfl ?_
  obtain ⟨x_3, w_2, hc, hf⟩ := cl_some hf
  refine g_cS (st := []) KX6_isSentence [vI v1] dX6_read_6 e_RX6_195 mok_X6_isSentence mw_X6_isSentence ⟨Nat.le_of_ble_eq_true rfl, Nat.le_of_ble_eq_true rfl⟩ (met_X6_isSentence hc) rfl (Nat.le_of_ble_eq_true rfl) ?_
  clear hc
  refine g_if_ne (tgt := 14) dX6_read_9 rfl hf (fun _ hf => ?_) (fun _ hf => ?_)
  · refine r_aload_n dX6_read_14 rfl rfl ?_
    obtain ⟨x_5, w_4, hc, hf⟩ := cl_some hf
    refine g_cV (st := []) KX6_reads [] dX6_read_15 e_RX6_198 (cl_true_0) (rfl : vwCl[6]? = _) rfl mok_X6_reads mw_X6_reads ⟨Nat.le_of_ble_eq_true rfl, Nat.le_of_ble_eq_true rfl⟩ (met_X6_reads hc) rfl (Nat.le_of_ble_eq_true rfl) ?_
    clear hc
    refine g_if_ne (tgt := 29) dX6_read_18 rfl hf (fun _ hf => ?_) (fun _ hf => ?_)
    · refine r_iconst dX6_read_29 ic_0 ?_
      refine r_istore_n (ls2 := [some (vR 0 0), some (vI v1), some (vI 0), none]) dX6_read_30 rfl rfl rfl (Nat.le_of_ble_eq_true rfl) ?_
      exact ok_mX6_read_31 FU _ _ hf
    · refine r_bipush dX6_read_21 (bp_m10) ?_
      refine r_aload_n dX6_read_23 rfl rfl ?_
      refine g_getI dX6_read_24 fl_RX6_179 fk_6_16 (cl_true_0) ?_
      refine r_isub dX6_read_27 ?_
      exact r_iret dX6_read_28 rfl (ret_I hf)
  · refine r_iconst dX6_read_12 ic_m1 ?_
    exact r_iret dX6_read_13 rfl (ret_I hf)
theorem met_X6_read {zv : Int32} {zw : AW} {v1 : Int32} {w : AW} (hf : mX6_read v1 w = some (zv, zw)) : am_Met true KX6_read [vR 0 0, vI v1] w (some (vI zv), zw) := am_met mok_X6_read.1 (Nat.le_of_ble_eq_true rfl) (ok_mX6_read  hf)

/-! SeenWorldsModel.takes(I)V -/
noncomputable def mX6_takes_120 (v1 : Int32) : Nat → Int32 → AW → Option (Unit × AW)
  | 0, _, _ => none
  | n + 1, v2, w =>
    rd 6 (w.1 0 9) v1 fun x_1 =>
    if x_1 ≤ v2 then
      rd 6 (w.1 0 10) v1 fun x_2 =>
      pu w 0 26 ((w.1 0 0 26) + x_2) fun w_3 =>
      rd 6 (w_3.1 0 9) v1 fun x_4 =>
      pu w_3 0 27 ((w_3.1 0 0 27) + x_4) fun w_5 =>
      some ((), w_5)
    else
      rd 1200 (w.1 0 8) ((200 * v1) + v2) fun x_6 =>
      wr 420 w 0 29 ((w.1 0 0 27) + v2) x_6 fun w_7 =>
      nm (v2 + 1) fun v2_8 =>
      mX6_takes_120 v1 n v2_8 w_7
noncomputable def mX6_takes_2 (v1 : Int32) : Nat → Int32 → AW → Option (Unit × AW)
  | 0, _, _ => none
  | n + 1, v2, w =>
    rd 6 (w.1 0 10) v1 fun x_1 =>
    if x_1 ≤ v2 then
      mX6_takes_120 v1 FU 0 w
    else
      nm ((40 * v1) + v2) fun v3_2 =>
      nm ((w.1 0 0 26) + v2) fun v4_3 =>
      rd 240 (w.1 0 11) v3_2 fun x_4 =>
      wr 90 w 0 30 v4_3 x_4 fun w_5 =>
      rd 240 (w_5.1 0 12) v3_2 fun x_6 =>
      wr 90 w_5 0 31 v4_3 (x_6 + (w_5.1 0 0 26)) fun w_7 =>
      rd 240 (w_7.1 0 13) v3_2 fun x_8 =>
      wr 90 w_7 0 32 v4_3 (x_8 + (w_7.1 0 0 26)) fun w_9 =>
      rd 240 (w_9.1 0 14) v3_2 fun x_10 =>
      wr 90 w_9 0 33 v4_3 (x_10 + (w_9.1 0 0 27)) fun w_11 =>
      rd 240 (w_11.1 0 15) v3_2 fun x_12 =>
      wr 90 w_11 0 34 v4_3 (x_12 + (w_11.1 0 0 27)) fun w_13 =>
      nm (v2 + 1) fun v2_14 =>
      mX6_takes_2 v1 n v2_14 w_13
noncomputable def mX6_takes (v1 : Int32) (w : AW) : Option (Unit × AW) :=
  mX6_takes_2 v1 FU 0 w
set_option maxRecDepth 100000 in
set_option maxHeartbeats 4000000 in
theorem ok_mX6_takes_120 {zv : Unit} {zw : AW} {v1 : Int32} : ∀ (n : Nat) (v2 : Int32) (w : AW), mX6_takes_120 v1 n v2 w = some (zv, zw) → RR true KX6_takes (none, zw) 120 [some (vR 0 0), some (vI v1), some (vI v2), none, none] [] w := by
  intro n
  induction n with
  | zero => intro v2 w hf; cases hf
  | succ n ih =>
    intro v2 w hf
    refine r_iload_n dX6_takes_120 rfl rfl ?_
    refine r_aload_n dX6_takes_121 rfl rfl ?_
    refine g_getA dX6_takes_122 fl_RX6_26 fk_6_8 rfl (cl_true_0) ?_
    refine r_iload_n dX6_takes_125 rfl rfl ?_
    refine g_iald dX6_takes_126 aK_true_0_9 aL_true_0_9 hf (fun x_1 hf => ?_)
    refine g_icmp_ge (tgt := 159) dX6_takes_127 rfl hf (fun _ hf => ?_) (fun _ hf => ?_)
    · refine r_aload_n dX6_takes_159 rfl rfl ?_
      refine r_dup dX6_takes_160 rfl ?_
      refine g_getI dX6_takes_161 fl_RX6_202 fk_6_26 (cl_true_0) ?_
      refine r_aload_n dX6_takes_164 rfl rfl ?_
      refine g_getA dX6_takes_165 fl_RX6_29 fk_6_9 rfl (cl_true_0) ?_
      refine r_iload_n dX6_takes_168 rfl rfl ?_
      refine g_iald dX6_takes_169 aK_true_0_10 aL_true_0_10 hf (fun x_2 hf => ?_)
      refine r_iadd dX6_takes_170 ?_
      refine g_putI dX6_takes_171 fl_RX6_202 fk_6_26 (cl_true_0) hf (fun w_3 hf => ?_)
      refine r_aload_n dX6_takes_174 rfl rfl ?_
      refine r_dup dX6_takes_175 rfl ?_
      refine g_getI dX6_takes_176 fl_RX6_205 fk_6_27 (cl_true_0) ?_
      refine r_aload_n dX6_takes_179 rfl rfl ?_
      refine g_getA dX6_takes_180 fl_RX6_26 fk_6_8 rfl (cl_true_0) ?_
      refine r_iload_n dX6_takes_183 rfl rfl ?_
      refine g_iald dX6_takes_184 aK_true_0_9 aL_true_0_9 hf (fun x_4 hf => ?_)
      refine r_iadd dX6_takes_185 ?_
      refine g_putI dX6_takes_186 fl_RX6_205 fk_6_27 (cl_true_0) hf (fun w_5 hf => ?_)
      exact r_vret dX6_takes_189 rfl (ret_U hf)
    · refine r_aload_n dX6_takes_130 rfl rfl ?_
      refine g_getA dX6_takes_131 fl_RX6_74 fk_6_28 rfl (cl_true_0) ?_
      refine r_aload_n dX6_takes_134 rfl rfl ?_
      refine g_getI dX6_takes_135 fl_RX6_205 fk_6_27 (cl_true_0) ?_
      refine r_iload_n dX6_takes_138 rfl rfl ?_
      refine r_iadd dX6_takes_139 ?_
      refine r_aload_n dX6_takes_140 rfl rfl ?_
      refine g_getA dX6_takes_141 fl_RX6_23 fk_6_7 rfl (cl_true_0) ?_
      refine r_sipush dX6_takes_144 (sp_200) ?_
      refine r_iload_n dX6_takes_147 rfl rfl ?_
      refine r_imul dX6_takes_148 ?_
      refine r_iload_n dX6_takes_149 rfl rfl ?_
      refine r_iadd dX6_takes_150 ?_
      refine g_iald dX6_takes_151 aK_true_0_8 aL_true_0_8 hf (fun x_6 hf => ?_)
      refine g_iast dX6_takes_152 aK_true_0_29 aL_true_0_29 hf (fun w_7 hf => ?_)
      refine g_iinc (fun v2_8 => [some (vR 0 0), some (vI v1), some (vI v2_8), none, none]) dX6_takes_153 ic_1 rfl rfl (fun _ => rfl) (Nat.le_of_ble_eq_true rfl) hf (fun v2_8 hf => ?_)
      refine r_goto (tgt := 120) dX6_takes_156 rfl ?_
      exact ih _ _ hf
set_option maxRecDepth 100000 in
set_option maxHeartbeats 4000000 in
theorem ok_mX6_takes_2 {zv : Unit} {zw : AW} {v1 : Int32} : ∀ (n : Nat) (v2 : Int32) (w : AW), mX6_takes_2 v1 n v2 w = some (zv, zw) → RR true KX6_takes (none, zw) 2 [some (vR 0 0), some (vI v1), some (vI v2), none, none] [] w := by
  intro n
  induction n with
  | zero => intro v2 w hf; cases hf
  | succ n ih =>
    intro v2 w hf
    refine r_iload_n dX6_takes_2 rfl rfl ?_
    refine r_aload_n dX6_takes_3 rfl rfl ?_
    refine g_getA dX6_takes_4 fl_RX6_29 fk_6_9 rfl (cl_true_0) ?_
    refine r_iload_n dX6_takes_7 rfl rfl ?_
    refine g_iald dX6_takes_8 aK_true_0_10 aL_true_0_10 hf (fun x_1 hf => ?_)
    refine g_icmp_ge (tgt := 118) dX6_takes_9 rfl hf (fun _ hf => ?_) (fun _ hf => ?_)
    · refine r_iconst dX6_takes_118 ic_0 ?_
      refine r_istore_n (ls2 := [some (vR 0 0), some (vI v1), some (vI 0), none, none]) dX6_takes_119 rfl rfl rfl (Nat.le_of_ble_eq_true rfl) ?_
      exact ok_mX6_takes_120 FU _ _ hf
    · refine r_bipush dX6_takes_12 (bp_40) ?_
      refine r_iload_n dX6_takes_14 rfl rfl ?_
      refine r_imul dX6_takes_15 ?_
      refine r_iload_n dX6_takes_16 rfl rfl ?_
      refine r_iadd dX6_takes_17 ?_
      refine g_istore_n (fun v3_2 => [some (vR 0 0), some (vI v1), some (vI v2), some (vI v3_2), none]) dX6_takes_18 rfl rfl (fun _ => rfl) (Nat.le_of_ble_eq_true rfl) hf (fun v3_2 hf => ?_)
      refine r_aload_n dX6_takes_19 rfl rfl ?_
      refine g_getI dX6_takes_20 fl_RX6_202 fk_6_26 (cl_true_0) ?_
      refine r_iload_n dX6_takes_23 rfl rfl ?_
      refine r_iadd dX6_takes_24 ?_
      refine g_istore (fun v4_3 => [some (vR 0 0), some (vI v1), some (vI v2), some (vI v3_2), some (vI v4_3)]) dX6_takes_25 rfl (fun _ => rfl) (Nat.le_of_ble_eq_true rfl) hf (fun v4_3 hf => ?_)
      refine r_aload_n dX6_takes_27 rfl rfl ?_
      refine g_getA dX6_takes_28 fl_RX6_77 fk_6_29 rfl (cl_true_0) ?_
      refine r_iload dX6_takes_31 rfl ?_
      refine r_aload_n dX6_takes_33 rfl rfl ?_
      refine g_getA dX6_takes_34 fl_RX6_32 fk_6_10 rfl (cl_true_0) ?_
      refine r_iload_n dX6_takes_37 rfl rfl ?_
      refine g_iald dX6_takes_38 aK_true_0_11 aL_true_0_11 hf (fun x_4 hf => ?_)
      refine g_iast dX6_takes_39 aK_true_0_30 aL_true_0_30 hf (fun w_5 hf => ?_)
      refine r_aload_n dX6_takes_40 rfl rfl ?_
      refine g_getA dX6_takes_41 fl_RX6_80 fk_6_30 rfl (cl_true_0) ?_
      refine r_iload dX6_takes_44 rfl ?_
      refine r_aload_n dX6_takes_46 rfl rfl ?_
      refine g_getA dX6_takes_47 fl_RX6_35 fk_6_11 rfl (cl_true_0) ?_
      refine r_iload_n dX6_takes_50 rfl rfl ?_
      refine g_iald dX6_takes_51 aK_true_0_12 aL_true_0_12 hf (fun x_6 hf => ?_)
      refine r_aload_n dX6_takes_52 rfl rfl ?_
      refine g_getI dX6_takes_53 fl_RX6_202 fk_6_26 (cl_true_0) ?_
      refine r_iadd dX6_takes_56 ?_
      refine g_iast dX6_takes_57 aK_true_0_31 aL_true_0_31 hf (fun w_7 hf => ?_)
      refine r_aload_n dX6_takes_58 rfl rfl ?_
      refine g_getA dX6_takes_59 fl_RX6_83 fk_6_31 rfl (cl_true_0) ?_
      refine r_iload dX6_takes_62 rfl ?_
      refine r_aload_n dX6_takes_64 rfl rfl ?_
      refine g_getA dX6_takes_65 fl_RX6_38 fk_6_12 rfl (cl_true_0) ?_
      refine r_iload_n dX6_takes_68 rfl rfl ?_
      refine g_iald dX6_takes_69 aK_true_0_13 aL_true_0_13 hf (fun x_8 hf => ?_)
      refine r_aload_n dX6_takes_70 rfl rfl ?_
      refine g_getI dX6_takes_71 fl_RX6_202 fk_6_26 (cl_true_0) ?_
      refine r_iadd dX6_takes_74 ?_
      refine g_iast dX6_takes_75 aK_true_0_32 aL_true_0_32 hf (fun w_9 hf => ?_)
      refine r_aload_n dX6_takes_76 rfl rfl ?_
      refine g_getA dX6_takes_77 fl_RX6_86 fk_6_32 rfl (cl_true_0) ?_
      refine r_iload dX6_takes_80 rfl ?_
      refine r_aload_n dX6_takes_82 rfl rfl ?_
      refine g_getA dX6_takes_83 fl_RX6_41 fk_6_13 rfl (cl_true_0) ?_
      refine r_iload_n dX6_takes_86 rfl rfl ?_
      refine g_iald dX6_takes_87 aK_true_0_14 aL_true_0_14 hf (fun x_10 hf => ?_)
      refine r_aload_n dX6_takes_88 rfl rfl ?_
      refine g_getI dX6_takes_89 fl_RX6_205 fk_6_27 (cl_true_0) ?_
      refine r_iadd dX6_takes_92 ?_
      refine g_iast dX6_takes_93 aK_true_0_33 aL_true_0_33 hf (fun w_11 hf => ?_)
      refine r_aload_n dX6_takes_94 rfl rfl ?_
      refine g_getA dX6_takes_95 fl_RX6_89 fk_6_33 rfl (cl_true_0) ?_
      refine r_iload dX6_takes_98 rfl ?_
      refine r_aload_n dX6_takes_100 rfl rfl ?_
      refine g_getA dX6_takes_101 fl_RX6_44 fk_6_14 rfl (cl_true_0) ?_
      refine r_iload_n dX6_takes_104 rfl rfl ?_
      refine g_iald dX6_takes_105 aK_true_0_15 aL_true_0_15 hf (fun x_12 hf => ?_)
      refine r_aload_n dX6_takes_106 rfl rfl ?_
      refine g_getI dX6_takes_107 fl_RX6_205 fk_6_27 (cl_true_0) ?_
      refine r_iadd dX6_takes_110 ?_
      refine g_iast dX6_takes_111 aK_true_0_34 aL_true_0_34 hf (fun w_13 hf => ?_)
      refine g_iinc (fun v2_14 => [some (vR 0 0), some (vI v1), some (vI v2_14), some (vI v3_2), some (vI v4_3)]) dX6_takes_112 ic_1 rfl rfl (fun _ => rfl) (Nat.le_of_ble_eq_true rfl) hf (fun v2_14 hf => ?_)
      refine r_goto (tgt := 2) dX6_takes_115 rfl ?_
      refine r_mask (bs := [true, true, true, false, false]) ?_
      exact ih _ _ hf
set_option maxRecDepth 100000 in
set_option maxHeartbeats 4000000 in
theorem ok_mX6_takes {zv : Unit} {zw : AW} {v1 : Int32} {w : AW} (hf : mX6_takes v1 w = some (zv, zw)) : RR true KX6_takes (none, zw) 0 [some (vR 0 0), some (vI v1), none, none, none] [] w := by
  refine r_iconst dX6_takes_0 ic_0 ?_
  refine r_istore_n (ls2 := [some (vR 0 0), some (vI v1), some (vI 0), none, none]) dX6_takes_1 rfl rfl rfl (Nat.le_of_ble_eq_true rfl) ?_
  exact ok_mX6_takes_2 FU _ _ hf
theorem met_X6_takes {zv : Unit} {zw : AW} {v1 : Int32} {w : AW} (hf : mX6_takes v1 w = some (zv, zw)) : am_Met true KX6_takes [vR 0 0, vI v1] w (none, zw) := am_met mok_X6_takes.1 (Nat.le_of_ble_eq_true rfl) (ok_mX6_takes  hf)

/-! SeenWorldsModel.works(I)V -/
noncomputable def mX6_works (v1 : Int32) (w : AW) : Option (Unit × AW) :=
  pu w 0 26 0 fun w_1 =>
  pu w_1 0 27 0 fun w_2 =>
  cl (mX6_takes v1 w_2) fun x_4 w_3 =>
  some ((), w_3)
set_option maxRecDepth 100000 in
set_option maxHeartbeats 4000000 in
theorem ok_mX6_works {zv : Unit} {zw : AW} {v1 : Int32} {w : AW} (hf : mX6_works v1 w = some (zv, zw)) : RR true KX6_works (none, zw) 0 [some (vR 0 0), some (vI v1)] [] w := by
  refine r_aload_n dX6_works_0 rfl rfl ?_
  refine r_iconst dX6_works_1 ic_0 ?_
  refine g_putI dX6_works_2 fl_RX6_202 fk_6_26 (cl_true_0) hf (fun w_1 hf => ?_)
  refine r_aload_n dX6_works_5 rfl rfl ?_
  refine r_iconst dX6_works_6 ic_0 ?_
  refine g_putI dX6_works_7 fl_RX6_205 fk_6_27 (cl_true_0) hf (fun w_2 hf => ?_)
  refine r_aload_n dX6_works_10 rfl rfl ?_
  refine r_iload_n dX6_works_11 rfl rfl ?_
  obtain ⟨x_4, w_3, hc, hf⟩ := cl_some hf
  refine g_cVv (st := []) KX6_takes [vI v1] dX6_works_12 e_RX6_208 (cl_true_0) (rfl : vwCl[6]? = _) rfl mok_X6_takes mw_X6_takes ⟨Nat.le_of_ble_eq_true rfl, Nat.le_of_ble_eq_true rfl⟩ (met_X6_takes hc) rfl (Nat.le_of_ble_eq_true rfl) ?_
  clear hc
  exact r_vret dX6_works_15 rfl (ret_U hf)
theorem met_X6_works {zv : Unit} {zw : AW} {v1 : Int32} {w : AW} (hf : mX6_works v1 w = some (zv, zw)) : am_Met true KX6_works [vR 0 0, vI v1] w (none, zw) := am_met mok_X6_works.1 (Nat.le_of_ble_eq_true rfl) (ok_mX6_works  hf)

/-! SeenWorldsModel.isLike(II)Z -/
noncomputable def mX6_isLike_88 (k41 : Int32 → Int32 → AW → Option (Int32 × AW)) (v1 : Int32) (v2 : Int32) (v3 : Int32) (v5 : Int32) (s0 : Int32) (w : AW) : Option (Int32 × AW) :=
  nm (v5 + 1) fun v5_1 =>
  k41 s0 v5_1 w
noncomputable def mX6_isLike_41 (v1 : Int32) (v2 : Int32) (v3 : Int32) : Nat → Int32 → Int32 → AW → Option (Int32 × AW)
  | 0, _, _, _ => none
  | n + 1, v4, v5, w =>
    if v3 ≤ v5 then
      zr v4 w
    else
      if v4 = 0 then
        zr v4 w
      else
        rd 90 (w.1 0 33) v1 fun x_1 =>
        rd 420 (w.1 0 29) (x_1 + v5) fun x_2 =>
        rd 90 (w.1 0 33) v2 fun x_3 =>
        rd 420 (w.1 0 29) (x_3 + v5) fun x_4 =>
        if x_2 ≠ x_4 then
          mX6_isLike_88 (mX6_isLike_41 v1 v2 v3 n) v1 v2 v3 v5 0 w
        else
          mX6_isLike_88 (mX6_isLike_41 v1 v2 v3 n) v1 v2 v3 v5 1 w
noncomputable def mX6_isLike_36 (v1 : Int32) (v2 : Int32) (v3 : Int32) (s0 : Int32) (w : AW) : Option (Int32 × AW) :=
  mX6_isLike_41 v1 v2 v3 FU s0 0 w
noncomputable def mX6_isLike (v1 : Int32) (v2 : Int32) (w : AW) : Option (Int32 × AW) :=
  rd 90 (w.1 0 34) v1 fun x_1 =>
  rd 90 (w.1 0 33) v1 fun x_2 =>
  nm (x_1 - x_2) fun v3_3 =>
  rd 90 (w.1 0 34) v2 fun x_4 =>
  rd 90 (w.1 0 33) v2 fun x_5 =>
  if v3_3 ≠ (x_4 - x_5) then
    mX6_isLike_36 v1 v2 v3_3 0 w
  else
    mX6_isLike_36 v1 v2 v3_3 1 w
set_option maxRecDepth 100000 in
set_option maxHeartbeats 4000000 in
theorem ok_mX6_isLike_88 {zv : Int32} {zw : AW} {k41 : Int32 → Int32 → AW → Option (Int32 × AW)} {v1 : Int32} {v2 : Int32} {v3 : Int32} {v5 : Int32} {s0 : Int32} (hk41 : ∀ (v4 : Int32) (v5 : Int32)  w, k41 v4 v5 w = some (zv, zw) → RR true KX6_isLike (some (vI zv), zw) 41 [some (vR 0 0), some (vI v1), some (vI v2), some (vI v3), some (vI v4), some (vI v5)] [] w) {w : AW} (hf : mX6_isLike_88 k41 v1 v2 v3 v5 s0 w = some (zv, zw)) : RR true KX6_isLike (some (vI zv), zw) 88 [some (vR 0 0), some (vI v1), some (vI v2), some (vI v3), none, some (vI v5)] [vI s0] w := by
  refine r_istore (ls2 := [some (vR 0 0), some (vI v1), some (vI v2), some (vI v3), some (vI s0), some (vI v5)]) dX6_isLike_88 rfl rfl (Nat.le_of_ble_eq_true rfl) ?_
  refine g_iinc (fun v5_1 => [some (vR 0 0), some (vI v1), some (vI v2), some (vI v3), some (vI s0), some (vI v5_1)]) dX6_isLike_90 ic_1 rfl rfl (fun _ => rfl) (Nat.le_of_ble_eq_true rfl) hf (fun v5_1 hf => ?_)
  refine r_goto (tgt := 41) dX6_isLike_93 rfl ?_
  exact hk41 _ _ _ hf
set_option maxRecDepth 100000 in
set_option maxHeartbeats 4000000 in
theorem ok_mX6_isLike_41 {zv : Int32} {zw : AW} {v1 : Int32} {v2 : Int32} {v3 : Int32} : ∀ (n : Nat) (v4 : Int32) (v5 : Int32) (w : AW), mX6_isLike_41 v1 v2 v3 n v4 v5 w = some (zv, zw) → RR true KX6_isLike (some (vI zv), zw) 41 [some (vR 0 0), some (vI v1), some (vI v2), some (vI v3), some (vI v4), some (vI v5)] [] w := by
  intro n
  induction n with
  | zero => intro v4 v5 w hf; cases hf
  | succ n ih =>
    intro v4 v5 w hf
    refine r_iload dX6_isLike_41 rfl ?_
    refine r_iload_n dX6_isLike_43 rfl rfl ?_
    refine g_icmp_ge (tgt := 96) dX6_isLike_44 rfl hf (fun _ hf => ?_) (fun _ hf => ?_)
    · refine r_iload dX6_isLike_96 rfl ?_
      exact g_zret dX6_isLike_98 rfl hf
    · refine r_iload dX6_isLike_47 rfl ?_
      refine g_if_eq (tgt := 96) dX6_isLike_49 rfl hf (fun _ hf => ?_) (fun _ hf => ?_)
      · refine r_iload dX6_isLike_96 rfl ?_
        exact g_zret dX6_isLike_98 rfl hf
      · refine r_aload_n dX6_isLike_52 rfl rfl ?_
        refine g_getA dX6_isLike_53 fl_RX6_74 fk_6_28 rfl (cl_true_0) ?_
        refine r_aload_n dX6_isLike_56 rfl rfl ?_
        refine g_getA dX6_isLike_57 fl_RX6_86 fk_6_32 rfl (cl_true_0) ?_
        refine r_iload_n dX6_isLike_60 rfl rfl ?_
        refine g_iald dX6_isLike_61 aK_true_0_33 aL_true_0_33 hf (fun x_1 hf => ?_)
        refine r_iload dX6_isLike_62 rfl ?_
        refine r_iadd dX6_isLike_64 ?_
        refine g_iald dX6_isLike_65 aK_true_0_29 aL_true_0_29 hf (fun x_2 hf => ?_)
        refine r_aload_n dX6_isLike_66 rfl rfl ?_
        refine g_getA dX6_isLike_67 fl_RX6_74 fk_6_28 rfl (cl_true_0) ?_
        refine r_aload_n dX6_isLike_70 rfl rfl ?_
        refine g_getA dX6_isLike_71 fl_RX6_86 fk_6_32 rfl (cl_true_0) ?_
        refine r_iload_n dX6_isLike_74 rfl rfl ?_
        refine g_iald dX6_isLike_75 aK_true_0_33 aL_true_0_33 hf (fun x_3 hf => ?_)
        refine r_iload dX6_isLike_76 rfl ?_
        refine r_iadd dX6_isLike_78 ?_
        refine g_iald dX6_isLike_79 aK_true_0_29 aL_true_0_29 hf (fun x_4 hf => ?_)
        refine g_icmp_ne (tgt := 87) dX6_isLike_80 rfl hf (fun _ hf => ?_) (fun _ hf => ?_)
        · refine r_iconst dX6_isLike_87 ic_0 ?_
          refine r_mask (bs := [true, true, true, true, false, true]) ?_
          exact ok_mX6_isLike_88 (fun v4 v5 w hf => ih v4 v5 w hf) hf
        · refine r_iconst dX6_isLike_83 ic_1 ?_
          refine r_goto (tgt := 88) dX6_isLike_84 rfl ?_
          refine r_mask (bs := [true, true, true, true, false, true]) ?_
          exact ok_mX6_isLike_88 (fun v4 v5 w hf => ih v4 v5 w hf) hf
set_option maxRecDepth 100000 in
set_option maxHeartbeats 4000000 in
theorem ok_mX6_isLike_36 {zv : Int32} {zw : AW} {v1 : Int32} {v2 : Int32} {v3 : Int32} {s0 : Int32} {w : AW} (hf : mX6_isLike_36 v1 v2 v3 s0 w = some (zv, zw)) : RR true KX6_isLike (some (vI zv), zw) 36 [some (vR 0 0), some (vI v1), some (vI v2), some (vI v3), none, none] [vI s0] w := by
  refine r_istore (ls2 := [some (vR 0 0), some (vI v1), some (vI v2), some (vI v3), some (vI s0), none]) dX6_isLike_36 rfl rfl (Nat.le_of_ble_eq_true rfl) ?_
  refine r_iconst dX6_isLike_38 ic_0 ?_
  refine r_istore (ls2 := [some (vR 0 0), some (vI v1), some (vI v2), some (vI v3), some (vI s0), some (vI 0)]) dX6_isLike_39 rfl rfl (Nat.le_of_ble_eq_true rfl) ?_
  exact ok_mX6_isLike_41 FU _ _ _ hf
set_option maxRecDepth 100000 in
set_option maxHeartbeats 4000000 in
theorem ok_mX6_isLike {zv : Int32} {zw : AW} {v1 : Int32} {v2 : Int32} {w : AW} (hf : mX6_isLike v1 v2 w = some (zv, zw)) : RR true KX6_isLike (some (vI zv), zw) 0 [some (vR 0 0), some (vI v1), some (vI v2), none, none, none] [] w := by
  refine r_aload_n dX6_isLike_0 rfl rfl ?_
  refine g_getA dX6_isLike_1 fl_RX6_89 fk_6_33 rfl (cl_true_0) ?_
  refine r_iload_n dX6_isLike_4 rfl rfl ?_
  refine g_iald dX6_isLike_5 aK_true_0_34 aL_true_0_34 hf (fun x_1 hf => ?_)
  refine r_aload_n dX6_isLike_6 rfl rfl ?_
  refine g_getA dX6_isLike_7 fl_RX6_86 fk_6_32 rfl (cl_true_0) ?_
  refine r_iload_n dX6_isLike_10 rfl rfl ?_
  refine g_iald dX6_isLike_11 aK_true_0_33 aL_true_0_33 hf (fun x_2 hf => ?_)
  refine r_isub dX6_isLike_12 ?_
  refine g_istore_n (fun v3_3 => [some (vR 0 0), some (vI v1), some (vI v2), some (vI v3_3), none, none]) dX6_isLike_13 rfl rfl (fun _ => rfl) (Nat.le_of_ble_eq_true rfl) hf (fun v3_3 hf => ?_)
  refine r_iload_n dX6_isLike_14 rfl rfl ?_
  refine r_aload_n dX6_isLike_15 rfl rfl ?_
  refine g_getA dX6_isLike_16 fl_RX6_89 fk_6_33 rfl (cl_true_0) ?_
  refine r_iload_n dX6_isLike_19 rfl rfl ?_
  refine g_iald dX6_isLike_20 aK_true_0_34 aL_true_0_34 hf (fun x_4 hf => ?_)
  refine r_aload_n dX6_isLike_21 rfl rfl ?_
  refine g_getA dX6_isLike_22 fl_RX6_86 fk_6_32 rfl (cl_true_0) ?_
  refine r_iload_n dX6_isLike_25 rfl rfl ?_
  refine g_iald dX6_isLike_26 aK_true_0_33 aL_true_0_33 hf (fun x_5 hf => ?_)
  refine r_isub dX6_isLike_27 ?_
  refine g_icmp_ne (tgt := 35) dX6_isLike_28 rfl hf (fun _ hf => ?_) (fun _ hf => ?_)
  · refine r_iconst dX6_isLike_35 ic_0 ?_
    exact ok_mX6_isLike_36 hf
  · refine r_iconst dX6_isLike_31 ic_1 ?_
    refine r_goto (tgt := 36) dX6_isLike_32 rfl ?_
    exact ok_mX6_isLike_36 hf
theorem met_X6_isLike {zv : Int32} {zw : AW} {v1 : Int32} {v2 : Int32} {w : AW} (hf : mX6_isLike v1 v2 w = some (zv, zw)) : am_Met true KX6_isLike [vR 0 0, vI v1, vI v2] w (some (vI zv), zw) := am_met mok_X6_isLike.1 (Nat.le_of_ble_eq_true rfl) (ok_mX6_isLike  hf)

/-! SeenWorldsModel.isModal(I)Z -/
noncomputable def mX6_isModal_22 (w : AW) : Option (Int32 × AW) :=
  some (1, w)
noncomputable def mX6_isModal (v1 : Int32) (w : AW) : Option (Int32 × AW) :=
  rd 90 (w.1 0 30) v1 fun x_1 =>
  if x_1 = 91 then
    mX6_isModal_22 w
  else
    rd 90 (w.1 0 30) v1 fun x_2 =>
    if x_2 ≠ 123 then
      some (0, w)
    else
      mX6_isModal_22 w
set_option maxRecDepth 100000 in
set_option maxHeartbeats 4000000 in
theorem ok_mX6_isModal_22 {zv : Int32} {zw : AW} {w : AW} (hf : mX6_isModal_22 w = some (zv, zw)) : RR true KX6_isModal (some (vI zv), zw) 22 [none, none] [] w := by
  refine r_iconst dX6_isModal_22 ic_1 ?_
  refine r_goto (tgt := 27) dX6_isModal_23 rfl ?_
  exact r_zret dX6_isModal_27 rfl nar_1 (ret_I hf)
set_option maxRecDepth 100000 in
set_option maxHeartbeats 4000000 in
theorem ok_mX6_isModal {zv : Int32} {zw : AW} {v1 : Int32} {w : AW} (hf : mX6_isModal v1 w = some (zv, zw)) : RR true KX6_isModal (some (vI zv), zw) 0 [some (vR 0 0), some (vI v1)] [] w := by
  refine r_aload_n dX6_isModal_0 rfl rfl ?_
  refine g_getA dX6_isModal_1 fl_RX6_77 fk_6_29 rfl (cl_true_0) ?_
  refine r_iload_n dX6_isModal_4 rfl rfl ?_
  refine g_iald dX6_isModal_5 aK_true_0_30 aL_true_0_30 hf (fun x_1 hf => ?_)
  refine r_bipush dX6_isModal_6 (bp_91) ?_
  refine g_icmp_eq (tgt := 22) dX6_isModal_8 rfl hf (fun _ hf => ?_) (fun _ hf => ?_)
  · refine r_mask (bs := [false, false]) ?_
    exact ok_mX6_isModal_22 hf
  · refine r_aload_n dX6_isModal_11 rfl rfl ?_
    refine g_getA dX6_isModal_12 fl_RX6_77 fk_6_29 rfl (cl_true_0) ?_
    refine r_iload_n dX6_isModal_15 rfl rfl ?_
    refine g_iald dX6_isModal_16 aK_true_0_30 aL_true_0_30 hf (fun x_2 hf => ?_)
    refine r_bipush dX6_isModal_17 (bp_123) ?_
    refine g_icmp_ne (tgt := 26) dX6_isModal_19 rfl hf (fun _ hf => ?_) (fun _ hf => ?_)
    · refine r_iconst dX6_isModal_26 ic_0 ?_
      exact r_zret dX6_isModal_27 rfl nar_0 (ret_I hf)
    · refine r_mask (bs := [false, false]) ?_
      exact ok_mX6_isModal_22 hf
theorem met_X6_isModal {zv : Int32} {zw : AW} {v1 : Int32} {w : AW} (hf : mX6_isModal v1 w = some (zv, zw)) : am_Met true KX6_isModal [vR 0 0, vI v1] w (some (vI zv), zw) := am_met mok_X6_isModal.1 (Nat.le_of_ble_eq_true rfl) (ok_mX6_isModal  hf)

/-! SeenWorldsModel.atomsOf()I -/
noncomputable def mX6_atomsOf_40 (k4 : Int32 → Int32 → AW → Option (Int32 × AW)) (v2 : Int32) (s0 : Int32) (s1 : Int32) (w : AW) : Option (Int32 × AW) :=
  nm (s1 ||| s0) fun v1_1 =>
  nm (v2 + 1) fun v2_2 =>
  k4 v1_1 v2_2 w
noncomputable def mX6_atomsOf_4 : Nat → Int32 → Int32 → AW → Option (Int32 × AW)
  | 0, _, _, _ => none
  | n + 1, v1, v2, w =>
    if (w.1 0 0 26) ≤ v2 then
      some (v1, w)
    else
      rd 90 (w.1 0 30) v2 fun x_1 =>
      cl (mX6_isAtom x_1 w) fun x_3 w_2 =>
      if x_3 = 0 then
        mX6_atomsOf_40 (mX6_atomsOf_4 n) v2 0 v1 w_2
      else
        rd 90 (w_2.1 0 30) v2 fun x_4 =>
        mX6_atomsOf_40 (mX6_atomsOf_4 n) v2 (1 <<< ((x_4 - 112) &&& 31)) v1 w_2
noncomputable def mX6_atomsOf (w : AW) : Option (Int32 × AW) :=
  mX6_atomsOf_4 FU 0 0 w
set_option maxRecDepth 100000 in
set_option maxHeartbeats 4000000 in
theorem ok_mX6_atomsOf_40 {zv : Int32} {zw : AW} {k4 : Int32 → Int32 → AW → Option (Int32 × AW)} {v2 : Int32} {s0 : Int32} {s1 : Int32} (hk4 : ∀ (v1 : Int32) (v2 : Int32)  w, k4 v1 v2 w = some (zv, zw) → RR true KX6_atomsOf (some (vI zv), zw) 4 [some (vR 0 0), some (vI v1), some (vI v2)] [] w) {w : AW} (hf : mX6_atomsOf_40 k4 v2 s0 s1 w = some (zv, zw)) : RR true KX6_atomsOf (some (vI zv), zw) 40 [some (vR 0 0), none, some (vI v2)] [vI s0, vI s1] w := by
  refine r_ior dX6_atomsOf_40 ?_
  refine g_istore_n (fun v1_1 => [some (vR 0 0), some (vI v1_1), some (vI v2)]) dX6_atomsOf_41 rfl rfl (fun _ => rfl) (Nat.le_of_ble_eq_true rfl) hf (fun v1_1 hf => ?_)
  refine g_iinc (fun v2_2 => [some (vR 0 0), some (vI v1_1), some (vI v2_2)]) dX6_atomsOf_42 ic_1 rfl rfl (fun _ => rfl) (Nat.le_of_ble_eq_true rfl) hf (fun v2_2 hf => ?_)
  refine r_goto (tgt := 4) dX6_atomsOf_45 rfl ?_
  exact hk4 _ _ _ hf
set_option maxRecDepth 100000 in
set_option maxHeartbeats 4000000 in
theorem ok_mX6_atomsOf_4 {zv : Int32} {zw : AW} : ∀ (n : Nat) (v1 : Int32) (v2 : Int32) (w : AW), mX6_atomsOf_4 n v1 v2 w = some (zv, zw) → RR true KX6_atomsOf (some (vI zv), zw) 4 [some (vR 0 0), some (vI v1), some (vI v2)] [] w := by
  intro n
  induction n with
  | zero => intro v1 v2 w hf; cases hf
  | succ n ih =>
    intro v1 v2 w hf
    refine r_iload_n dX6_atomsOf_4 rfl rfl ?_
    refine r_aload_n dX6_atomsOf_5 rfl rfl ?_
    refine g_getI dX6_atomsOf_6 fl_RX6_202 fk_6_26 (cl_true_0) ?_
    refine g_icmp_ge (tgt := 48) dX6_atomsOf_9 rfl hf (fun _ hf => ?_) (fun _ hf => ?_)
    · refine r_iload_n dX6_atomsOf_48 rfl rfl ?_
      exact r_iret dX6_atomsOf_49 rfl (ret_I hf)
    · refine r_iload_n dX6_atomsOf_12 rfl rfl ?_
      refine r_aload_n dX6_atomsOf_13 rfl rfl ?_
      refine g_getA dX6_atomsOf_14 fl_RX6_77 fk_6_29 rfl (cl_true_0) ?_
      refine r_iload_n dX6_atomsOf_17 rfl rfl ?_
      refine g_iald dX6_atomsOf_18 aK_true_0_30 aL_true_0_30 hf (fun x_1 hf => ?_)
      obtain ⟨x_3, w_2, hc, hf⟩ := cl_some hf
      refine g_cS (st := [vI v1]) KX6_isAtom [vI x_1] dX6_atomsOf_19 e_RX6_185 mok_X6_isAtom mw_X6_isAtom ⟨Nat.le_of_ble_eq_true rfl, Nat.le_of_ble_eq_true rfl⟩ (met_X6_isAtom hc) rfl (Nat.le_of_ble_eq_true rfl) ?_
      clear hc
      refine g_if_eq (tgt := 39) dX6_atomsOf_22 rfl hf (fun _ hf => ?_) (fun _ hf => ?_)
      · refine r_iconst dX6_atomsOf_39 ic_0 ?_
        refine r_mask (bs := [true, false, true]) ?_
        exact ok_mX6_atomsOf_40 (fun v1 v2 w hf => ih v1 v2 w hf) hf
      · refine r_iconst dX6_atomsOf_25 ic_1 ?_
        refine r_aload_n dX6_atomsOf_26 rfl rfl ?_
        refine g_getA dX6_atomsOf_27 fl_RX6_77 fk_6_29 rfl (cl_true_0) ?_
        refine r_iload_n dX6_atomsOf_30 rfl rfl ?_
        refine g_iald dX6_atomsOf_31 aK_true_0_30 aL_true_0_30 hf (fun x_4 hf => ?_)
        refine r_bipush dX6_atomsOf_32 (bp_112) ?_
        refine r_isub dX6_atomsOf_34 ?_
        refine r_ishl dX6_atomsOf_35 ?_
        refine r_goto (tgt := 40) dX6_atomsOf_36 rfl ?_
        refine r_mask (bs := [true, false, true]) ?_
        exact ok_mX6_atomsOf_40 (fun v1 v2 w hf => ih v1 v2 w hf) hf
set_option maxRecDepth 100000 in
set_option maxHeartbeats 4000000 in
theorem ok_mX6_atomsOf {zv : Int32} {zw : AW} {w : AW} (hf : mX6_atomsOf w = some (zv, zw)) : RR true KX6_atomsOf (some (vI zv), zw) 0 [some (vR 0 0), none, none] [] w := by
  refine r_iconst dX6_atomsOf_0 ic_0 ?_
  refine r_istore_n (ls2 := [some (vR 0 0), some (vI 0), none]) dX6_atomsOf_1 rfl rfl rfl (Nat.le_of_ble_eq_true rfl) ?_
  refine r_iconst dX6_atomsOf_2 ic_0 ?_
  refine r_istore_n (ls2 := [some (vR 0 0), some (vI 0), some (vI 0)]) dX6_atomsOf_3 rfl rfl rfl (Nat.le_of_ble_eq_true rfl) ?_
  exact ok_mX6_atomsOf_4 FU _ _ _ hf
theorem met_X6_atomsOf {zv : Int32} {zw : AW} {w : AW} (hf : mX6_atomsOf w = some (zv, zw)) : am_Met true KX6_atomsOf [vR 0 0] w (some (vI zv), zw) := am_met mok_X6_atomsOf.1 (Nat.le_of_ble_eq_true rfl) (ok_mX6_atomsOf  hf)

/-! SeenWorldsModel.isPlain()Z -/
noncomputable def mX6_isPlain_26 (k4 : Int32 → Int32 → AW → Option (Int32 × AW)) (v2 : Int32) (s0 : Int32) (s1 : Int32) (w : AW) : Option (Int32 × AW) :=
  nm (s1 &&& s0) fun v1_1 =>
  nm (v2 + 1) fun v2_2 =>
  k4 v1_1 v2_2 w
noncomputable def mX6_isPlain_4 : Nat → Int32 → Int32 → AW → Option (Int32 × AW)
  | 0, _, _, _ => none
  | n + 1, v1, v2, w =>
    if (w.1 0 0 26) ≤ v2 then
      zr v1 w
    else
      cl (mX6_isModal v2 w) fun x_2 w_1 =>
      if x_2 ≠ 0 then
        mX6_isPlain_26 (mX6_isPlain_4 n) v2 0 v1 w_1
      else
        mX6_isPlain_26 (mX6_isPlain_4 n) v2 1 v1 w_1
noncomputable def mX6_isPlain (w : AW) : Option (Int32 × AW) :=
  mX6_isPlain_4 FU 1 0 w
set_option maxRecDepth 100000 in
set_option maxHeartbeats 4000000 in
theorem ok_mX6_isPlain_26 {zv : Int32} {zw : AW} {k4 : Int32 → Int32 → AW → Option (Int32 × AW)} {v2 : Int32} {s0 : Int32} {s1 : Int32} (hk4 : ∀ (v1 : Int32) (v2 : Int32)  w, k4 v1 v2 w = some (zv, zw) → RR true KX6_isPlain (some (vI zv), zw) 4 [some (vR 0 0), some (vI v1), some (vI v2)] [] w) {w : AW} (hf : mX6_isPlain_26 k4 v2 s0 s1 w = some (zv, zw)) : RR true KX6_isPlain (some (vI zv), zw) 26 [some (vR 0 0), none, some (vI v2)] [vI s0, vI s1] w := by
  refine r_iand dX6_isPlain_26 ?_
  refine g_istore_n (fun v1_1 => [some (vR 0 0), some (vI v1_1), some (vI v2)]) dX6_isPlain_27 rfl rfl (fun _ => rfl) (Nat.le_of_ble_eq_true rfl) hf (fun v1_1 hf => ?_)
  refine g_iinc (fun v2_2 => [some (vR 0 0), some (vI v1_1), some (vI v2_2)]) dX6_isPlain_28 ic_1 rfl rfl (fun _ => rfl) (Nat.le_of_ble_eq_true rfl) hf (fun v2_2 hf => ?_)
  refine r_goto (tgt := 4) dX6_isPlain_31 rfl ?_
  exact hk4 _ _ _ hf
set_option maxRecDepth 100000 in
set_option maxHeartbeats 4000000 in
theorem ok_mX6_isPlain_4 {zv : Int32} {zw : AW} : ∀ (n : Nat) (v1 : Int32) (v2 : Int32) (w : AW), mX6_isPlain_4 n v1 v2 w = some (zv, zw) → RR true KX6_isPlain (some (vI zv), zw) 4 [some (vR 0 0), some (vI v1), some (vI v2)] [] w := by
  intro n
  induction n with
  | zero => intro v1 v2 w hf; cases hf
  | succ n ih =>
    intro v1 v2 w hf
    refine r_iload_n dX6_isPlain_4 rfl rfl ?_
    refine r_aload_n dX6_isPlain_5 rfl rfl ?_
    refine g_getI dX6_isPlain_6 fl_RX6_202 fk_6_26 (cl_true_0) ?_
    refine g_icmp_ge (tgt := 34) dX6_isPlain_9 rfl hf (fun _ hf => ?_) (fun _ hf => ?_)
    · refine r_iload_n dX6_isPlain_34 rfl rfl ?_
      exact g_zret dX6_isPlain_35 rfl hf
    · refine r_iload_n dX6_isPlain_12 rfl rfl ?_
      refine r_aload_n dX6_isPlain_13 rfl rfl ?_
      refine r_iload_n dX6_isPlain_14 rfl rfl ?_
      obtain ⟨x_2, w_1, hc, hf⟩ := cl_some hf
      refine g_cV (st := [vI v1]) KX6_isModal [vI v2] dX6_isPlain_15 e_RX6_212 (cl_true_0) (rfl : vwCl[6]? = _) rfl mok_X6_isModal mw_X6_isModal ⟨Nat.le_of_ble_eq_true rfl, Nat.le_of_ble_eq_true rfl⟩ (met_X6_isModal hc) rfl (Nat.le_of_ble_eq_true rfl) ?_
      clear hc
      refine g_if_ne (tgt := 25) dX6_isPlain_18 rfl hf (fun _ hf => ?_) (fun _ hf => ?_)
      · refine r_iconst dX6_isPlain_25 ic_0 ?_
        refine r_mask (bs := [true, false, true]) ?_
        exact ok_mX6_isPlain_26 (fun v1 v2 w hf => ih v1 v2 w hf) hf
      · refine r_iconst dX6_isPlain_21 ic_1 ?_
        refine r_goto (tgt := 26) dX6_isPlain_22 rfl ?_
        refine r_mask (bs := [true, false, true]) ?_
        exact ok_mX6_isPlain_26 (fun v1 v2 w hf => ih v1 v2 w hf) hf
set_option maxRecDepth 100000 in
set_option maxHeartbeats 4000000 in
theorem ok_mX6_isPlain {zv : Int32} {zw : AW} {w : AW} (hf : mX6_isPlain w = some (zv, zw)) : RR true KX6_isPlain (some (vI zv), zw) 0 [some (vR 0 0), none, none] [] w := by
  refine r_iconst dX6_isPlain_0 ic_1 ?_
  refine r_istore_n (ls2 := [some (vR 0 0), some (vI 1), none]) dX6_isPlain_1 rfl rfl rfl (Nat.le_of_ble_eq_true rfl) ?_
  refine r_iconst dX6_isPlain_2 ic_0 ?_
  refine r_istore_n (ls2 := [some (vR 0 0), some (vI 1), some (vI 0)]) dX6_isPlain_3 rfl rfl rfl (Nat.le_of_ble_eq_true rfl) ?_
  exact ok_mX6_isPlain_4 FU _ _ _ hf
theorem met_X6_isPlain {zv : Int32} {zw : AW} {w : AW} (hf : mX6_isPlain w = some (zv, zw)) : am_Met true KX6_isPlain [vR 0 0] w (some (vI zv), zw) := am_met mok_X6_isPlain.1 (Nat.le_of_ble_eq_true rfl) (ok_mX6_isPlain  hf)

/-! SeenWorldsModel.isTwo(I)Z -/
noncomputable def mX6_isTwo (v1 : Int32) (w : AW) : Option (Int32 × AW) :=
  rd 90 (w.1 0 30) v1 fun x_1 =>
  cl (mX6_isJoin x_1 w) fun x_3 w_2 =>
  zr x_3 w_2
set_option maxRecDepth 100000 in
set_option maxHeartbeats 4000000 in
theorem ok_mX6_isTwo {zv : Int32} {zw : AW} {v1 : Int32} {w : AW} (hf : mX6_isTwo v1 w = some (zv, zw)) : RR true KX6_isTwo (some (vI zv), zw) 0 [some (vR 0 0), some (vI v1)] [] w := by
  refine r_aload_n dX6_isTwo_0 rfl rfl ?_
  refine g_getA dX6_isTwo_1 fl_RX6_77 fk_6_29 rfl (cl_true_0) ?_
  refine r_iload_n dX6_isTwo_4 rfl rfl ?_
  refine g_iald dX6_isTwo_5 aK_true_0_30 aL_true_0_30 hf (fun x_1 hf => ?_)
  obtain ⟨x_3, w_2, hc, hf⟩ := cl_some hf
  refine g_cS (st := []) KX6_isJoin [vI x_1] dX6_isTwo_6 e_RX6_192 mok_X6_isJoin mw_X6_isJoin ⟨Nat.le_of_ble_eq_true rfl, Nat.le_of_ble_eq_true rfl⟩ (met_X6_isJoin hc) rfl (Nat.le_of_ble_eq_true rfl) ?_
  clear hc
  exact g_zret dX6_isTwo_9 rfl hf
theorem met_X6_isTwo {zv : Int32} {zw : AW} {v1 : Int32} {w : AW} (hf : mX6_isTwo v1 w = some (zv, zw)) : am_Met true KX6_isTwo [vR 0 0, vI v1] w (some (vI zv), zw) := am_met mok_X6_isTwo.1 (Nat.le_of_ble_eq_true rfl) (ok_mX6_isTwo  hf)

/-! SeenWorldsModel.about(II)I -/
noncomputable def mX6_about_253 (k72 : Int32 → Int32 → AW → Option (Int32 × AW)) (v2 : Int32) (v3 : Int32) (v4 : Int32) (w : AW) : Option (Int32 × AW) :=
  nm (v4 + 1) fun v4_1 =>
  k72 v3 v4_1 w
noncomputable def mX6_about_187 (k72 : Int32 → Int32 → AW → Option (Int32 × AW)) (v2 : Int32) (v4 : Int32) (s0 : Int32) (s1 : Int32) (s2 : Int32) (w : AW) : Option (Int32 × AW) :=
  wr 90 w 0 38 s2 (s1 + s0) fun w_1 =>
  rd 90 (w_1.1 0 38) v4 fun x_2 =>
  mX6_about_253 k72 v2 x_2 v4 w_1
noncomputable def mX6_about_173 (k72 : Int32 → Int32 → AW → Option (Int32 × AW)) (v2 : Int32) (v4 : Int32) (s0 : Int32) (s1 : Int32) (w : AW) : Option (Int32 × AW) :=
  cl (mX6_isModal v4 w) fun x_2 w_1 =>
  if x_2 = 0 then
    mX6_about_187 k72 v2 v4 0 s0 s1 w_1
  else
    mX6_about_187 k72 v2 v4 1 s0 s1 w_1
noncomputable def mX6_about_151 (k72 : Int32 → Int32 → AW → Option (Int32 × AW)) (v2 : Int32) (v4 : Int32) (v5 : Int32) (s0 : Int32) (w : AW) : Option (Int32 × AW) :=
  if v5 ≤ s0 then
    mX6_about_173 k72 v2 v4 s0 v4 w
  else
    mX6_about_173 k72 v2 v4 v5 v4 w
noncomputable def mX6_about_124 (k72 : Int32 → Int32 → AW → Option (Int32 × AW)) (v2 : Int32) (v4 : Int32) (s0 : Int32) (w : AW) : Option (Int32 × AW) :=
  cl (mX6_isTwo v4 w) fun x_2 w_1 =>
  if x_2 = 0 then
    mX6_about_151 k72 v2 v4 s0 0 w_1
  else
    rd 90 (w_1.1 0 32) v4 fun x_3 =>
    rd 90 (w_1.1 0 38) x_3 fun x_4 =>
    mX6_about_151 k72 v2 v4 s0 x_4 w_1
noncomputable def mX6_about_108 (k72 : Int32 → Int32 → AW → Option (Int32 × AW)) (v2 : Int32) (v4 : Int32) (w : AW) : Option (Int32 × AW) :=
  rd 90 (w.1 0 31) v4 fun x_1 =>
  rd 90 (w.1 0 38) x_1 fun x_2 =>
  mX6_about_124 k72 v2 v4 x_2 w
noncomputable def mX6_about_231 (k72 : Int32 → Int32 → AW → Option (Int32 × AW)) (k206 : Int32 → Int32 → AW → Option (Int32 × AW)) (v2 : Int32) (v3 : Int32) (v4 : Int32) (v6 : Int32) (s0 : Int32) (s1 : Int32) (w : AW) : Option (Int32 × AW) :=
  nm (s1 &&& s0) fun v5_1 =>
  nm (v6 + 1) fun v6_2 =>
  k206 v5_1 v6_2 w
noncomputable def mX6_about_251 (k72 : Int32 → Int32 → AW → Option (Int32 × AW)) (v2 : Int32) (v4 : Int32) (s0 : Int32) (s1 : Int32) (w : AW) : Option (Int32 × AW) :=
  nm (s1 + s0) fun v3_1 =>
  mX6_about_253 k72 v2 v3_1 v4 w
noncomputable def mX6_about_206 (k72 : Int32 → Int32 → AW → Option (Int32 × AW)) (v2 : Int32) (v3 : Int32) (v4 : Int32) : Nat → Int32 → Int32 → AW → Option (Int32 × AW)
  | 0, _, _, _ => none
  | n + 1, v5, v6, w =>
    if v4 ≤ v6 then
      if v5 = 0 then
        mX6_about_251 k72 v2 v4 0 v3 w
      else
        mX6_about_251 k72 v2 v4 1 v3 w
    else
      cl (mX6_isLike v6 v4 w) fun x_2 w_1 =>
      if x_2 ≠ 0 then
        mX6_about_231 k72 (mX6_about_206 k72 v2 v3 v4 n) v2 v3 v4 v6 0 v5 w_1
      else
        mX6_about_231 k72 (mX6_about_206 k72 v2 v3 v4 n) v2 v3 v4 v6 1 v5 w_1
noncomputable def mX6_about_72 (v2 : Int32) : Nat → Int32 → Int32 → AW → Option (Int32 × AW)
  | 0, _, _, _ => none
  | n + 1, v3, v4, w =>
    if (w.1 0 0 26) ≤ v4 then
      some (v3, w)
    else
      if v2 ≠ 1 then
        mX6_about_206 (mX6_about_72 v2 n) v2 v3 v4 FU 1 0 w
      else
        rd 90 (w.1 0 30) v4 fun x_1 =>
        cl (mX6_isPrefix x_1 w) fun x_3 w_2 =>
        if x_3 ≠ 0 then
          mX6_about_108 (mX6_about_72 v2 n) v2 v4 w_2
        else
          cl (mX6_isTwo v4 w_2) fun x_5 w_4 =>
          if x_5 = 0 then
            mX6_about_124 (mX6_about_72 v2 n) v2 v4 0 w_4
          else
            mX6_about_108 (mX6_about_72 v2 n) v2 v4 w_4
noncomputable def mX6_about (v1 : Int32) (v2 : Int32) (w : AW) : Option (Int32 × AW) :=
  pu w 0 0 0 fun w_1 =>
  cl (mX6_isSentence v1 w_1) fun x_3 w_2 =>
  if x_3 = 0 then
    some ((-1), w_2)
  else
    cl (mX6_in v2 0 4 w_2) fun x_5 w_4 =>
    if x_5 ≠ 0 then
      cl (mX6_works v1 w_4) fun x_7 w_6 =>
      if v2 ≠ 0 then
        if v2 ≤ 2 then
          mX6_about_72 v2 FU 0 0 w_6
        else
          if v2 ≠ 3 then
            cl (mX6_isPlain w_6) fun x_9 w_8 =>
            if x_9 = 0 then
              some (0, w_8)
            else
              some (1, w_8)
          else
            cl (mX6_atomsOf w_6) fun x_11 w_10 =>
            some (x_11, w_10)
      else
        some (w_6.1 0 0 26, w_6)
    else
      some ((-1), w_4)
set_option maxRecDepth 100000 in
set_option maxHeartbeats 4000000 in
theorem ok_mX6_about_253 {zv : Int32} {zw : AW} {k72 : Int32 → Int32 → AW → Option (Int32 × AW)} {v2 : Int32} {v3 : Int32} {v4 : Int32} (hk72 : ∀ (v3 : Int32) (v4 : Int32)  w, k72 v3 v4 w = some (zv, zw) → RR true KX6_about (some (vI zv), zw) 72 [some (vR 0 0), none, some (vI v2), some (vI v3), some (vI v4), none, none] [] w) {w : AW} (hf : mX6_about_253 k72 v2 v3 v4 w = some (zv, zw)) : RR true KX6_about (some (vI zv), zw) 253 [some (vR 0 0), none, some (vI v2), some (vI v3), some (vI v4), none, none] [] w := by
  refine g_iinc (fun v4_1 => [some (vR 0 0), none, some (vI v2), some (vI v3), some (vI v4_1), none, none]) dX6_about_253 ic_1 rfl rfl (fun _ => rfl) (Nat.le_of_ble_eq_true rfl) hf (fun v4_1 hf => ?_)
  refine r_goto (tgt := 72) dX6_about_256 rfl ?_
  exact hk72 _ _ _ hf
set_option maxRecDepth 100000 in
set_option maxHeartbeats 4000000 in
theorem ok_mX6_about_187 {zv : Int32} {zw : AW} {k72 : Int32 → Int32 → AW → Option (Int32 × AW)} {v2 : Int32} {v4 : Int32} {s0 : Int32} {s1 : Int32} {s2 : Int32} (hk72 : ∀ (v3 : Int32) (v4 : Int32)  w, k72 v3 v4 w = some (zv, zw) → RR true KX6_about (some (vI zv), zw) 72 [some (vR 0 0), none, some (vI v2), some (vI v3), some (vI v4), none, none] [] w) {w : AW} (hf : mX6_about_187 k72 v2 v4 s0 s1 s2 w = some (zv, zw)) : RR true KX6_about (some (vI zv), zw) 187 [some (vR 0 0), none, some (vI v2), none, some (vI v4), none, none] [vI s0, vI s1, vI s2, vR 0 38] w := by
  refine r_iadd dX6_about_187 ?_
  refine g_iast dX6_about_188 aK_true_0_38 aL_true_0_38 hf (fun w_1 hf => ?_)
  refine r_aload_n dX6_about_189 rfl rfl ?_
  refine g_getA dX6_about_190 fl_RX6_98 fk_6_37 rfl (cl_true_0) ?_
  refine r_iload dX6_about_193 rfl ?_
  refine g_iald dX6_about_195 aK_true_0_38 aL_true_0_38 hf (fun x_2 hf => ?_)
  refine r_istore_n (ls2 := [some (vR 0 0), none, some (vI v2), some (vI x_2), some (vI v4), none, none]) dX6_about_196 rfl rfl rfl (Nat.le_of_ble_eq_true rfl) ?_
  refine r_goto (tgt := 253) dX6_about_197 rfl ?_
  exact ok_mX6_about_253 hk72 hf
set_option maxRecDepth 100000 in
set_option maxHeartbeats 4000000 in
theorem ok_mX6_about_173 {zv : Int32} {zw : AW} {k72 : Int32 → Int32 → AW → Option (Int32 × AW)} {v2 : Int32} {v4 : Int32} {s0 : Int32} {s1 : Int32} (hk72 : ∀ (v3 : Int32) (v4 : Int32)  w, k72 v3 v4 w = some (zv, zw) → RR true KX6_about (some (vI zv), zw) 72 [some (vR 0 0), none, some (vI v2), some (vI v3), some (vI v4), none, none] [] w) {w : AW} (hf : mX6_about_173 k72 v2 v4 s0 s1 w = some (zv, zw)) : RR true KX6_about (some (vI zv), zw) 173 [some (vR 0 0), none, some (vI v2), none, some (vI v4), none, none] [vI s0, vI s1, vR 0 38] w := by
  refine r_aload_n dX6_about_173 rfl rfl ?_
  refine r_iload dX6_about_174 rfl ?_
  obtain ⟨x_2, w_1, hc, hf⟩ := cl_some hf
  refine g_cV (st := [vI s0, vI s1, vR 0 38]) KX6_isModal [vI v4] dX6_about_176 e_RX6_212 (cl_true_0) (rfl : vwCl[6]? = _) rfl mok_X6_isModal mw_X6_isModal ⟨Nat.le_of_ble_eq_true rfl, Nat.le_of_ble_eq_true rfl⟩ (met_X6_isModal hc) rfl (Nat.le_of_ble_eq_true rfl) ?_
  clear hc
  refine g_if_eq (tgt := 186) dX6_about_179 rfl hf (fun _ hf => ?_) (fun _ hf => ?_)
  · refine r_iconst dX6_about_186 ic_0 ?_
    exact ok_mX6_about_187 hk72 hf
  · refine r_iconst dX6_about_182 ic_1 ?_
    refine r_goto (tgt := 187) dX6_about_183 rfl ?_
    exact ok_mX6_about_187 hk72 hf
set_option maxRecDepth 100000 in
set_option maxHeartbeats 4000000 in
theorem ok_mX6_about_151 {zv : Int32} {zw : AW} {k72 : Int32 → Int32 → AW → Option (Int32 × AW)} {v2 : Int32} {v4 : Int32} {v5 : Int32} {s0 : Int32} (hk72 : ∀ (v3 : Int32) (v4 : Int32)  w, k72 v3 v4 w = some (zv, zw) → RR true KX6_about (some (vI zv), zw) 72 [some (vR 0 0), none, some (vI v2), some (vI v3), some (vI v4), none, none] [] w) {w : AW} (hf : mX6_about_151 k72 v2 v4 v5 s0 w = some (zv, zw)) : RR true KX6_about (some (vI zv), zw) 151 [some (vR 0 0), none, some (vI v2), none, some (vI v4), some (vI v5), none] [vI s0] w := by
  refine r_istore (ls2 := [some (vR 0 0), none, some (vI v2), none, some (vI v4), some (vI v5), some (vI s0)]) dX6_about_151 rfl rfl (Nat.le_of_ble_eq_true rfl) ?_
  refine r_aload_n dX6_about_153 rfl rfl ?_
  refine g_getA dX6_about_154 fl_RX6_98 fk_6_37 rfl (cl_true_0) ?_
  refine r_iload dX6_about_157 rfl ?_
  refine r_iload dX6_about_159 rfl ?_
  refine r_iload dX6_about_161 rfl ?_
  refine g_icmp_le (tgt := 171) dX6_about_163 rfl hf (fun _ hf => ?_) (fun _ hf => ?_)
  · refine r_iload dX6_about_171 rfl ?_
    refine r_mask (bs := [true, false, true, false, true, false, false]) ?_
    exact ok_mX6_about_173 hk72 hf
  · refine r_iload dX6_about_166 rfl ?_
    refine r_goto (tgt := 173) dX6_about_168 rfl ?_
    refine r_mask (bs := [true, false, true, false, true, false, false]) ?_
    exact ok_mX6_about_173 hk72 hf
set_option maxRecDepth 100000 in
set_option maxHeartbeats 4000000 in
theorem ok_mX6_about_124 {zv : Int32} {zw : AW} {k72 : Int32 → Int32 → AW → Option (Int32 × AW)} {v2 : Int32} {v4 : Int32} {s0 : Int32} (hk72 : ∀ (v3 : Int32) (v4 : Int32)  w, k72 v3 v4 w = some (zv, zw) → RR true KX6_about (some (vI zv), zw) 72 [some (vR 0 0), none, some (vI v2), some (vI v3), some (vI v4), none, none] [] w) {w : AW} (hf : mX6_about_124 k72 v2 v4 s0 w = some (zv, zw)) : RR true KX6_about (some (vI zv), zw) 124 [some (vR 0 0), none, some (vI v2), none, some (vI v4), none, none] [vI s0] w := by
  refine r_istore (ls2 := [some (vR 0 0), none, some (vI v2), none, some (vI v4), some (vI s0), none]) dX6_about_124 rfl rfl (Nat.le_of_ble_eq_true rfl) ?_
  refine r_aload_n dX6_about_126 rfl rfl ?_
  refine r_iload dX6_about_127 rfl ?_
  obtain ⟨x_2, w_1, hc, hf⟩ := cl_some hf
  refine g_cV (st := []) KX6_isTwo [vI v4] dX6_about_129 e_RX6_224 (cl_true_0) (rfl : vwCl[6]? = _) rfl mok_X6_isTwo mw_X6_isTwo ⟨Nat.le_of_ble_eq_true rfl, Nat.le_of_ble_eq_true rfl⟩ (met_X6_isTwo hc) rfl (Nat.le_of_ble_eq_true rfl) ?_
  clear hc
  refine g_if_eq (tgt := 150) dX6_about_132 rfl hf (fun _ hf => ?_) (fun _ hf => ?_)
  · refine r_iconst dX6_about_150 ic_0 ?_
    exact ok_mX6_about_151 hk72 hf
  · refine r_aload_n dX6_about_135 rfl rfl ?_
    refine g_getA dX6_about_136 fl_RX6_98 fk_6_37 rfl (cl_true_0) ?_
    refine r_aload_n dX6_about_139 rfl rfl ?_
    refine g_getA dX6_about_140 fl_RX6_83 fk_6_31 rfl (cl_true_0) ?_
    refine r_iload dX6_about_143 rfl ?_
    refine g_iald dX6_about_145 aK_true_0_32 aL_true_0_32 hf (fun x_3 hf => ?_)
    refine g_iald dX6_about_146 aK_true_0_38 aL_true_0_38 hf (fun x_4 hf => ?_)
    refine r_goto (tgt := 151) dX6_about_147 rfl ?_
    exact ok_mX6_about_151 hk72 hf
set_option maxRecDepth 100000 in
set_option maxHeartbeats 4000000 in
theorem ok_mX6_about_108 {zv : Int32} {zw : AW} {k72 : Int32 → Int32 → AW → Option (Int32 × AW)} {v2 : Int32} {v4 : Int32} (hk72 : ∀ (v3 : Int32) (v4 : Int32)  w, k72 v3 v4 w = some (zv, zw) → RR true KX6_about (some (vI zv), zw) 72 [some (vR 0 0), none, some (vI v2), some (vI v3), some (vI v4), none, none] [] w) {w : AW} (hf : mX6_about_108 k72 v2 v4 w = some (zv, zw)) : RR true KX6_about (some (vI zv), zw) 108 [some (vR 0 0), none, some (vI v2), none, some (vI v4), none, none] [] w := by
  refine r_aload_n dX6_about_108 rfl rfl ?_
  refine g_getA dX6_about_109 fl_RX6_98 fk_6_37 rfl (cl_true_0) ?_
  refine r_aload_n dX6_about_112 rfl rfl ?_
  refine g_getA dX6_about_113 fl_RX6_80 fk_6_30 rfl (cl_true_0) ?_
  refine r_iload dX6_about_116 rfl ?_
  refine g_iald dX6_about_118 aK_true_0_31 aL_true_0_31 hf (fun x_1 hf => ?_)
  refine g_iald dX6_about_119 aK_true_0_38 aL_true_0_38 hf (fun x_2 hf => ?_)
  refine r_goto (tgt := 124) dX6_about_120 rfl ?_
  exact ok_mX6_about_124 hk72 hf
set_option maxRecDepth 100000 in
set_option maxHeartbeats 4000000 in
theorem ok_mX6_about_231 {zv : Int32} {zw : AW} {k72 : Int32 → Int32 → AW → Option (Int32 × AW)} {k206 : Int32 → Int32 → AW → Option (Int32 × AW)} {v2 : Int32} {v3 : Int32} {v4 : Int32} {v6 : Int32} {s0 : Int32} {s1 : Int32} (hk72 : ∀ (v3 : Int32) (v4 : Int32)  w, k72 v3 v4 w = some (zv, zw) → RR true KX6_about (some (vI zv), zw) 72 [some (vR 0 0), none, some (vI v2), some (vI v3), some (vI v4), none, none] [] w) (hk206 : ∀ (v5 : Int32) (v6 : Int32)  w, k206 v5 v6 w = some (zv, zw) → RR true KX6_about (some (vI zv), zw) 206 [some (vR 0 0), none, some (vI v2), some (vI v3), some (vI v4), some (vI v5), some (vI v6)] [] w) {w : AW} (hf : mX6_about_231 k72 k206 v2 v3 v4 v6 s0 s1 w = some (zv, zw)) : RR true KX6_about (some (vI zv), zw) 231 [some (vR 0 0), none, some (vI v2), some (vI v3), some (vI v4), none, some (vI v6)] [vI s0, vI s1] w := by
  refine r_iand dX6_about_231 ?_
  refine g_istore (fun v5_1 => [some (vR 0 0), none, some (vI v2), some (vI v3), some (vI v4), some (vI v5_1), some (vI v6)]) dX6_about_232 rfl (fun _ => rfl) (Nat.le_of_ble_eq_true rfl) hf (fun v5_1 hf => ?_)
  refine g_iinc (fun v6_2 => [some (vR 0 0), none, some (vI v2), some (vI v3), some (vI v4), some (vI v5_1), some (vI v6_2)]) dX6_about_234 ic_1 rfl rfl (fun _ => rfl) (Nat.le_of_ble_eq_true rfl) hf (fun v6_2 hf => ?_)
  refine r_goto (tgt := 206) dX6_about_237 rfl ?_
  exact hk206 _ _ _ hf
set_option maxRecDepth 100000 in
set_option maxHeartbeats 4000000 in
theorem ok_mX6_about_251 {zv : Int32} {zw : AW} {k72 : Int32 → Int32 → AW → Option (Int32 × AW)} {v2 : Int32} {v4 : Int32} {s0 : Int32} {s1 : Int32} (hk72 : ∀ (v3 : Int32) (v4 : Int32)  w, k72 v3 v4 w = some (zv, zw) → RR true KX6_about (some (vI zv), zw) 72 [some (vR 0 0), none, some (vI v2), some (vI v3), some (vI v4), none, none] [] w) {w : AW} (hf : mX6_about_251 k72 v2 v4 s0 s1 w = some (zv, zw)) : RR true KX6_about (some (vI zv), zw) 251 [some (vR 0 0), none, some (vI v2), none, some (vI v4), none, none] [vI s0, vI s1] w := by
  refine r_iadd dX6_about_251 ?_
  refine g_istore_n (fun v3_1 => [some (vR 0 0), none, some (vI v2), some (vI v3_1), some (vI v4), none, none]) dX6_about_252 rfl rfl (fun _ => rfl) (Nat.le_of_ble_eq_true rfl) hf (fun v3_1 hf => ?_)
  exact ok_mX6_about_253 hk72 hf
set_option maxRecDepth 100000 in
set_option maxHeartbeats 4000000 in
theorem ok_mX6_about_206 {zv : Int32} {zw : AW} {k72 : Int32 → Int32 → AW → Option (Int32 × AW)} {v2 : Int32} {v3 : Int32} {v4 : Int32} (hk72 : ∀ (v3 : Int32) (v4 : Int32)  w, k72 v3 v4 w = some (zv, zw) → RR true KX6_about (some (vI zv), zw) 72 [some (vR 0 0), none, some (vI v2), some (vI v3), some (vI v4), none, none] [] w) : ∀ (n : Nat) (v5 : Int32) (v6 : Int32) (w : AW), mX6_about_206 k72 v2 v3 v4 n v5 v6 w = some (zv, zw) → RR true KX6_about (some (vI zv), zw) 206 [some (vR 0 0), none, some (vI v2), some (vI v3), some (vI v4), some (vI v5), some (vI v6)] [] w := by
  intro n
  induction n with
  | zero => intro v5 v6 w hf; cases hf
  | succ n ih =>
    intro v5 v6 w hf
    refine r_iload dX6_about_206 rfl ?_
    refine r_iload dX6_about_208 rfl ?_
    refine g_icmp_ge (tgt := 240) dX6_about_210 rfl hf (fun _ hf => ?_) (fun _ hf => ?_)
    · refine r_iload_n dX6_about_240 rfl rfl ?_
      refine r_iload dX6_about_241 rfl ?_
      refine g_if_eq (tgt := 250) dX6_about_243 rfl hf (fun _ hf => ?_) (fun _ hf => ?_)
      · refine r_iconst dX6_about_250 ic_0 ?_
        refine r_mask (bs := [true, false, true, false, true, false, false]) ?_
        exact ok_mX6_about_251 hk72 hf
      · refine r_iconst dX6_about_246 ic_1 ?_
        refine r_goto (tgt := 251) dX6_about_247 rfl ?_
        refine r_mask (bs := [true, false, true, false, true, false, false]) ?_
        exact ok_mX6_about_251 hk72 hf
    · refine r_iload dX6_about_213 rfl ?_
      refine r_aload_n dX6_about_215 rfl rfl ?_
      refine r_iload dX6_about_216 rfl ?_
      refine r_iload dX6_about_218 rfl ?_
      obtain ⟨x_2, w_1, hc, hf⟩ := cl_some hf
      refine g_cV (st := [vI v5]) KX6_isLike [vI v6, vI v4] dX6_about_220 e_RX6_227 (cl_true_0) (rfl : vwCl[6]? = _) rfl mok_X6_isLike mw_X6_isLike ⟨Nat.le_of_ble_eq_true rfl, Nat.le_of_ble_eq_true rfl⟩ (met_X6_isLike hc) rfl (Nat.le_of_ble_eq_true rfl) ?_
      clear hc
      refine g_if_ne (tgt := 230) dX6_about_223 rfl hf (fun _ hf => ?_) (fun _ hf => ?_)
      · refine r_iconst dX6_about_230 ic_0 ?_
        refine r_mask (bs := [true, false, true, true, true, false, true]) ?_
        exact ok_mX6_about_231 hk72 (fun v5 v6 w hf => ih v5 v6 w hf) hf
      · refine r_iconst dX6_about_226 ic_1 ?_
        refine r_goto (tgt := 231) dX6_about_227 rfl ?_
        refine r_mask (bs := [true, false, true, true, true, false, true]) ?_
        exact ok_mX6_about_231 hk72 (fun v5 v6 w hf => ih v5 v6 w hf) hf
set_option maxRecDepth 100000 in
set_option maxHeartbeats 4000000 in
theorem ok_mX6_about_72 {zv : Int32} {zw : AW} {v2 : Int32} : ∀ (n : Nat) (v3 : Int32) (v4 : Int32) (w : AW), mX6_about_72 v2 n v3 v4 w = some (zv, zw) → RR true KX6_about (some (vI zv), zw) 72 [some (vR 0 0), none, some (vI v2), some (vI v3), some (vI v4), none, none] [] w := by
  intro n
  induction n with
  | zero => intro v3 v4 w hf; cases hf
  | succ n ih =>
    intro v3 v4 w hf
    refine r_iload dX6_about_72 rfl ?_
    refine r_aload_n dX6_about_74 rfl rfl ?_
    refine g_getI dX6_about_75 fl_RX6_202 fk_6_26 (cl_true_0) ?_
    refine g_icmp_ge (tgt := 259) dX6_about_78 rfl hf (fun _ hf => ?_) (fun _ hf => ?_)
    · refine r_iload_n dX6_about_259 rfl rfl ?_
      exact r_iret dX6_about_260 rfl (ret_I hf)
    · refine r_iload_n dX6_about_81 rfl rfl ?_
      refine r_iconst dX6_about_82 ic_1 ?_
      refine g_icmp_ne (tgt := 200) dX6_about_83 rfl hf (fun _ hf => ?_) (fun _ hf => ?_)
      · refine r_iconst dX6_about_200 ic_1 ?_
        refine r_istore (ls2 := [some (vR 0 0), none, some (vI v2), some (vI v3), some (vI v4), some (vI 1), none]) dX6_about_201 rfl rfl (Nat.le_of_ble_eq_true rfl) ?_
        refine r_iconst dX6_about_203 ic_0 ?_
        refine r_istore (ls2 := [some (vR 0 0), none, some (vI v2), some (vI v3), some (vI v4), some (vI 1), some (vI 0)]) dX6_about_204 rfl rfl (Nat.le_of_ble_eq_true rfl) ?_
        exact ok_mX6_about_206 (fun v3 v4 w hf => ih v3 v4 w hf) FU _ _ _ hf
      · refine r_aload_n dX6_about_86 rfl rfl ?_
        refine g_getA dX6_about_87 fl_RX6_77 fk_6_29 rfl (cl_true_0) ?_
        refine r_iload dX6_about_90 rfl ?_
        refine g_iald dX6_about_92 aK_true_0_30 aL_true_0_30 hf (fun x_1 hf => ?_)
        obtain ⟨x_3, w_2, hc, hf⟩ := cl_some hf
        refine g_cS (st := []) KX6_isPrefix [vI x_1] dX6_about_93 e_RX6_182 mok_X6_isPrefix mw_X6_isPrefix ⟨Nat.le_of_ble_eq_true rfl, Nat.le_of_ble_eq_true rfl⟩ (met_X6_isPrefix hc) rfl (Nat.le_of_ble_eq_true rfl) ?_
        clear hc
        refine g_if_ne (tgt := 108) dX6_about_96 rfl hf (fun _ hf => ?_) (fun _ hf => ?_)
        · refine r_mask (bs := [true, false, true, false, true, false, false]) ?_
          exact ok_mX6_about_108 (fun v3 v4 w hf => ih v3 v4 w hf) hf
        · refine r_aload_n dX6_about_99 rfl rfl ?_
          refine r_iload dX6_about_100 rfl ?_
          obtain ⟨x_5, w_4, hc, hf⟩ := cl_some hf
          refine g_cV (st := []) KX6_isTwo [vI v4] dX6_about_102 e_RX6_224 (cl_true_0) (rfl : vwCl[6]? = _) rfl mok_X6_isTwo mw_X6_isTwo ⟨Nat.le_of_ble_eq_true rfl, Nat.le_of_ble_eq_true rfl⟩ (met_X6_isTwo hc) rfl (Nat.le_of_ble_eq_true rfl) ?_
          clear hc
          refine g_if_eq (tgt := 123) dX6_about_105 rfl hf (fun _ hf => ?_) (fun _ hf => ?_)
          · refine r_iconst dX6_about_123 ic_0 ?_
            refine r_mask (bs := [true, false, true, false, true, false, false]) ?_
            exact ok_mX6_about_124 (fun v3 v4 w hf => ih v3 v4 w hf) hf
          · refine r_mask (bs := [true, false, true, false, true, false, false]) ?_
            exact ok_mX6_about_108 (fun v3 v4 w hf => ih v3 v4 w hf) hf
set_option maxRecDepth 100000 in
set_option maxHeartbeats 4000000 in
theorem ok_mX6_about {zv : Int32} {zw : AW} {v1 : Int32} {v2 : Int32} {w : AW} (hf : mX6_about v1 v2 w = some (zv, zw)) : RR true KX6_about (some (vI zv), zw) 0 [some (vR 0 0), some (vI v1), some (vI v2), none, none, none, none] [] w := by
  refine r_aload_n dX6_about_0 rfl rfl ?_
  refine r_iconst dX6_about_1 ic_0 ?_
  refine g_putI dX6_about_2 fl_RX6_132 fk_6_0 (cl_true_0) hf (fun w_1 hf => ?_)
  refine r_iload_n dX6_about_5 rfl rfl ?_
  obtain ⟨x_3, w_2, hc, hf⟩ := cl_some hf
  refine g_cS (st := []) KX6_isSentence [vI v1] dX6_about_6 e_RX6_195 mok_X6_isSentence mw_X6_isSentence ⟨Nat.le_of_ble_eq_true rfl, Nat.le_of_ble_eq_true rfl⟩ (met_X6_isSentence hc) rfl (Nat.le_of_ble_eq_true rfl) ?_
  clear hc
  refine g_if_eq (tgt := 21) dX6_about_9 rfl hf (fun _ hf => ?_) (fun _ hf => ?_)
  · refine r_iconst dX6_about_21 ic_m1 ?_
    exact r_iret dX6_about_22 rfl (ret_I hf)
  · refine r_iload_n dX6_about_12 rfl rfl ?_
    refine r_iconst dX6_about_13 ic_0 ?_
    refine r_iconst dX6_about_14 ic_4 ?_
    obtain ⟨x_5, w_4, hc, hf⟩ := cl_some hf
    refine g_cS (st := []) KX6_in [vI v2, vI 0, vI 4] dX6_about_15 e_RX6_135 mok_X6_in mw_X6_in ⟨Nat.le_of_ble_eq_true rfl, Nat.le_of_ble_eq_true rfl⟩ (met_X6_in hc) rfl (Nat.le_of_ble_eq_true rfl) ?_
    clear hc
    refine g_if_ne (tgt := 23) dX6_about_18 rfl hf (fun _ hf => ?_) (fun _ hf => ?_)
    · refine r_aload_n dX6_about_23 rfl rfl ?_
      refine r_iload_n dX6_about_24 rfl rfl ?_
      obtain ⟨x_7, w_6, hc, hf⟩ := cl_some hf
      refine g_cVv (st := []) KX6_works [vI v1] dX6_about_25 e_RX6_215 (cl_true_0) (rfl : vwCl[6]? = _) rfl mok_X6_works mw_X6_works ⟨Nat.le_of_ble_eq_true rfl, Nat.le_of_ble_eq_true rfl⟩ (met_X6_works hc) rfl (Nat.le_of_ble_eq_true rfl) ?_
      clear hc
      refine r_iload_n dX6_about_28 rfl rfl ?_
      refine g_if_ne (tgt := 37) dX6_about_29 rfl hf (fun _ hf => ?_) (fun _ hf => ?_)
      · refine r_iload_n dX6_about_37 rfl rfl ?_
        refine r_iconst dX6_about_38 ic_2 ?_
        refine g_icmp_le (tgt := 67) dX6_about_39 rfl hf (fun _ hf => ?_) (fun _ hf => ?_)
        · refine r_iconst dX6_about_67 ic_0 ?_
          refine r_istore_n (ls2 := [some (vR 0 0), some (vI v1), some (vI v2), some (vI 0), none, none, none]) dX6_about_68 rfl rfl rfl (Nat.le_of_ble_eq_true rfl) ?_
          refine r_iconst dX6_about_69 ic_0 ?_
          refine r_istore (ls2 := [some (vR 0 0), some (vI v1), some (vI v2), some (vI 0), some (vI 0), none, none]) dX6_about_70 rfl rfl (Nat.le_of_ble_eq_true rfl) ?_
          refine r_mask (bs := [true, false, true, true, true, false, false]) ?_
          exact ok_mX6_about_72 FU _ _ _ hf
        · refine r_iload_n dX6_about_42 rfl rfl ?_
          refine r_iconst dX6_about_43 ic_3 ?_
          refine g_icmp_ne (tgt := 54) dX6_about_44 rfl hf (fun _ hf => ?_) (fun _ hf => ?_)
          · refine r_aload_n dX6_about_54 rfl rfl ?_
            obtain ⟨x_9, w_8, hc, hf⟩ := cl_some hf
            refine g_cV (st := []) KX6_isPlain [] dX6_about_55 e_RX6_221 (cl_true_0) (rfl : vwCl[6]? = _) rfl mok_X6_isPlain mw_X6_isPlain ⟨Nat.le_of_ble_eq_true rfl, Nat.le_of_ble_eq_true rfl⟩ (met_X6_isPlain hc) rfl (Nat.le_of_ble_eq_true rfl) ?_
            clear hc
            refine g_if_eq (tgt := 65) dX6_about_58 rfl hf (fun _ hf => ?_) (fun _ hf => ?_)
            · refine r_iconst dX6_about_65 ic_0 ?_
              exact r_iret dX6_about_66 rfl (ret_I hf)
            · refine r_iconst dX6_about_61 ic_1 ?_
              refine r_goto (tgt := 66) dX6_about_62 rfl ?_
              exact r_iret dX6_about_66 rfl (ret_I hf)
          · refine r_aload_n dX6_about_47 rfl rfl ?_
            obtain ⟨x_11, w_10, hc, hf⟩ := cl_some hf
            refine g_cV (st := []) KX6_atomsOf [] dX6_about_48 e_RX6_218 (cl_true_0) (rfl : vwCl[6]? = _) rfl mok_X6_atomsOf mw_X6_atomsOf ⟨Nat.le_of_ble_eq_true rfl, Nat.le_of_ble_eq_true rfl⟩ (met_X6_atomsOf hc) rfl (Nat.le_of_ble_eq_true rfl) ?_
            clear hc
            refine r_goto (tgt := 66) dX6_about_51 rfl ?_
            exact r_iret dX6_about_66 rfl (ret_I hf)
      · refine r_aload_n dX6_about_32 rfl rfl ?_
        refine g_getI dX6_about_33 fl_RX6_202 fk_6_26 (cl_true_0) ?_
        exact r_iret dX6_about_36 rfl (ret_I hf)
    · refine r_iconst dX6_about_21 ic_m1 ?_
      exact r_iret dX6_about_22 rfl (ret_I hf)
theorem met_X6_about {zv : Int32} {zw : AW} {v1 : Int32} {v2 : Int32} {w : AW} (hf : mX6_about v1 v2 w = some (zv, zw)) : am_Met true KX6_about [vR 0 0, vI v1, vI v2] w (some (vI zv), zw) := am_met mok_X6_about.1 (Nat.le_of_ble_eq_true rfl) (ok_mX6_about  hf)

/-! SeenWorldsModel.looks(I)V -/
noncomputable def mX6_looks_2 (v1 : Int32) : Nat → Int32 → AW → Option (Unit × AW)
  | 0, _, _ => none
  | n + 1, v2, w =>
    if (w.1 0 0 2) ≤ v2 then
      some ((), w)
    else
      cl (mX6_seenOf v1 v2 w) fun x_2 w_1 =>
      wr 8 w_1 0 47 v2 x_2 fun w_3 =>
      nm (v2 + 1) fun v2_4 =>
      mX6_looks_2 v1 n v2_4 w_3
noncomputable def mX6_looks (v1 : Int32) (w : AW) : Option (Unit × AW) :=
  mX6_looks_2 v1 FU 0 w
set_option maxRecDepth 100000 in
set_option maxHeartbeats 4000000 in
theorem ok_mX6_looks_2 {zv : Unit} {zw : AW} {v1 : Int32} : ∀ (n : Nat) (v2 : Int32) (w : AW), mX6_looks_2 v1 n v2 w = some (zv, zw) → RR true KX6_looks (none, zw) 2 [some (vR 0 0), some (vI v1), some (vI v2)] [] w := by
  intro n
  induction n with
  | zero => intro v2 w hf; cases hf
  | succ n ih =>
    intro v2 w hf
    refine r_iload_n dX6_looks_2 rfl rfl ?_
    refine r_aload_n dX6_looks_3 rfl rfl ?_
    refine g_getI dX6_looks_4 fl_RX6_7 fk_6_2 (cl_true_0) ?_
    refine g_icmp_ge (tgt := 28) dX6_looks_7 rfl hf (fun _ hf => ?_) (fun _ hf => ?_)
    · exact r_vret dX6_looks_28 rfl (ret_U hf)
    · refine r_aload_n dX6_looks_10 rfl rfl ?_
      refine g_getA dX6_looks_11 fl_RX6_120 fk_6_46 rfl (cl_true_0) ?_
      refine r_iload_n dX6_looks_14 rfl rfl ?_
      refine r_aload_n dX6_looks_15 rfl rfl ?_
      refine r_iload_n dX6_looks_16 rfl rfl ?_
      refine r_iload_n dX6_looks_17 rfl rfl ?_
      obtain ⟨x_2, w_1, hc, hf⟩ := cl_some hf
      refine g_cV (st := [vI v2, vR 0 47]) KX6_seenOf [vI v1, vI v2] dX6_looks_18 e_RX6_164 (cl_true_0) (rfl : vwCl[6]? = _) rfl mok_X6_seenOf mw_X6_seenOf ⟨Nat.le_of_ble_eq_true rfl, Nat.le_of_ble_eq_true rfl⟩ (met_X6_seenOf hc) rfl (Nat.le_of_ble_eq_true rfl) ?_
      clear hc
      refine g_iast dX6_looks_21 aK_true_0_47 aL_true_0_47 hf (fun w_3 hf => ?_)
      refine g_iinc (fun v2_4 => [some (vR 0 0), some (vI v1), some (vI v2_4)]) dX6_looks_22 ic_1 rfl rfl (fun _ => rfl) (Nat.le_of_ble_eq_true rfl) hf (fun v2_4 hf => ?_)
      refine r_goto (tgt := 2) dX6_looks_25 rfl ?_
      exact ih _ _ hf
set_option maxRecDepth 100000 in
set_option maxHeartbeats 4000000 in
theorem ok_mX6_looks {zv : Unit} {zw : AW} {v1 : Int32} {w : AW} (hf : mX6_looks v1 w = some (zv, zw)) : RR true KX6_looks (none, zw) 0 [some (vR 0 0), some (vI v1), none] [] w := by
  refine r_iconst dX6_looks_0 ic_0 ?_
  refine r_istore_n (ls2 := [some (vR 0 0), some (vI v1), some (vI 0)]) dX6_looks_1 rfl rfl rfl (Nat.le_of_ble_eq_true rfl) ?_
  exact ok_mX6_looks_2 FU _ _ hf
theorem met_X6_looks {zv : Unit} {zw : AW} {v1 : Int32} {w : AW} (hf : mX6_looks v1 w = some (zv, zw)) : am_Met true KX6_looks [vR 0 0, vI v1] w (none, zw) := am_met mok_X6_looks.1 (Nat.le_of_ble_eq_true rfl) (ok_mX6_looks  hf)

/-! SeenWorldsModel.allIn(I)I -/
noncomputable def mX6_allIn_33 (k4 : Int32 → Int32 → AW → Option (Int32 × AW)) (v1 : Int32) (v3 : Int32) (s0 : Int32) (s1 : Int32) (w : AW) : Option (Int32 × AW) :=
  nm (s1 ||| s0) fun v2_1 =>
  nm (v3 + 1) fun v3_2 =>
  k4 v2_1 v3_2 w
noncomputable def mX6_allIn_4 (v1 : Int32) : Nat → Int32 → Int32 → AW → Option (Int32 × AW)
  | 0, _, _, _ => none
  | n + 1, v2, v3, w =>
    if (w.1 0 0 2) ≤ v3 then
      some (v2, w)
    else
      rd 8 (w.1 0 47) v3 fun x_1 =>
      if (x_1 &&& (v1 ^^^ (-1))) ≠ 0 then
        mX6_allIn_33 (mX6_allIn_4 v1 n) v1 v3 0 v2 w
      else
        mX6_allIn_33 (mX6_allIn_4 v1 n) v1 v3 (1 <<< (v3 &&& 31)) v2 w
noncomputable def mX6_allIn (v1 : Int32) (w : AW) : Option (Int32 × AW) :=
  mX6_allIn_4 v1 FU 0 0 w
set_option maxRecDepth 100000 in
set_option maxHeartbeats 4000000 in
theorem ok_mX6_allIn_33 {zv : Int32} {zw : AW} {k4 : Int32 → Int32 → AW → Option (Int32 × AW)} {v1 : Int32} {v3 : Int32} {s0 : Int32} {s1 : Int32} (hk4 : ∀ (v2 : Int32) (v3 : Int32)  w, k4 v2 v3 w = some (zv, zw) → RR true KX6_allIn (some (vI zv), zw) 4 [some (vR 0 0), some (vI v1), some (vI v2), some (vI v3)] [] w) {w : AW} (hf : mX6_allIn_33 k4 v1 v3 s0 s1 w = some (zv, zw)) : RR true KX6_allIn (some (vI zv), zw) 33 [some (vR 0 0), some (vI v1), none, some (vI v3)] [vI s0, vI s1] w := by
  refine r_ior dX6_allIn_33 ?_
  refine g_istore_n (fun v2_1 => [some (vR 0 0), some (vI v1), some (vI v2_1), some (vI v3)]) dX6_allIn_34 rfl rfl (fun _ => rfl) (Nat.le_of_ble_eq_true rfl) hf (fun v2_1 hf => ?_)
  refine g_iinc (fun v3_2 => [some (vR 0 0), some (vI v1), some (vI v2_1), some (vI v3_2)]) dX6_allIn_35 ic_1 rfl rfl (fun _ => rfl) (Nat.le_of_ble_eq_true rfl) hf (fun v3_2 hf => ?_)
  refine r_goto (tgt := 4) dX6_allIn_38 rfl ?_
  exact hk4 _ _ _ hf
set_option maxRecDepth 100000 in
set_option maxHeartbeats 4000000 in
theorem ok_mX6_allIn_4 {zv : Int32} {zw : AW} {v1 : Int32} : ∀ (n : Nat) (v2 : Int32) (v3 : Int32) (w : AW), mX6_allIn_4 v1 n v2 v3 w = some (zv, zw) → RR true KX6_allIn (some (vI zv), zw) 4 [some (vR 0 0), some (vI v1), some (vI v2), some (vI v3)] [] w := by
  intro n
  induction n with
  | zero => intro v2 v3 w hf; cases hf
  | succ n ih =>
    intro v2 v3 w hf
    refine r_iload_n dX6_allIn_4 rfl rfl ?_
    refine r_aload_n dX6_allIn_5 rfl rfl ?_
    refine g_getI dX6_allIn_6 fl_RX6_7 fk_6_2 (cl_true_0) ?_
    refine g_icmp_ge (tgt := 41) dX6_allIn_9 rfl hf (fun _ hf => ?_) (fun _ hf => ?_)
    · refine r_iload_n dX6_allIn_41 rfl rfl ?_
      exact r_iret dX6_allIn_42 rfl (ret_I hf)
    · refine r_iload_n dX6_allIn_12 rfl rfl ?_
      refine r_aload_n dX6_allIn_13 rfl rfl ?_
      refine g_getA dX6_allIn_14 fl_RX6_120 fk_6_46 rfl (cl_true_0) ?_
      refine r_iload_n dX6_allIn_17 rfl rfl ?_
      refine g_iald dX6_allIn_18 aK_true_0_47 aL_true_0_47 hf (fun x_1 hf => ?_)
      refine r_iload_n dX6_allIn_19 rfl rfl ?_
      refine r_iconst dX6_allIn_20 ic_m1 ?_
      refine r_ixor dX6_allIn_21 ?_
      refine r_iand dX6_allIn_22 ?_
      refine g_if_ne (tgt := 32) dX6_allIn_23 rfl hf (fun _ hf => ?_) (fun _ hf => ?_)
      · refine r_iconst dX6_allIn_32 ic_0 ?_
        refine r_mask (bs := [true, true, false, true]) ?_
        exact ok_mX6_allIn_33 (fun v2 v3 w hf => ih v2 v3 w hf) hf
      · refine r_iconst dX6_allIn_26 ic_1 ?_
        refine r_iload_n dX6_allIn_27 rfl rfl ?_
        refine r_ishl dX6_allIn_28 ?_
        refine r_goto (tgt := 33) dX6_allIn_29 rfl ?_
        refine r_mask (bs := [true, true, false, true]) ?_
        exact ok_mX6_allIn_33 (fun v2 v3 w hf => ih v2 v3 w hf) hf
set_option maxRecDepth 100000 in
set_option maxHeartbeats 4000000 in
theorem ok_mX6_allIn {zv : Int32} {zw : AW} {v1 : Int32} {w : AW} (hf : mX6_allIn v1 w = some (zv, zw)) : RR true KX6_allIn (some (vI zv), zw) 0 [some (vR 0 0), some (vI v1), none, none] [] w := by
  refine r_iconst dX6_allIn_0 ic_0 ?_
  refine r_istore_n (ls2 := [some (vR 0 0), some (vI v1), some (vI 0), none]) dX6_allIn_1 rfl rfl rfl (Nat.le_of_ble_eq_true rfl) ?_
  refine r_iconst dX6_allIn_2 ic_0 ?_
  refine r_istore_n (ls2 := [some (vR 0 0), some (vI v1), some (vI 0), some (vI 0)]) dX6_allIn_3 rfl rfl rfl (Nat.le_of_ble_eq_true rfl) ?_
  exact ok_mX6_allIn_4 FU _ _ _ hf
theorem met_X6_allIn {zv : Int32} {zw : AW} {v1 : Int32} {w : AW} (hf : mX6_allIn v1 w = some (zv, zw)) : am_Met true KX6_allIn [vR 0 0, vI v1] w (some (vI zv), zw) := am_met mok_X6_allIn.1 (Nat.le_of_ble_eq_true rfl) (ok_mX6_allIn  hf)

/-! SeenWorldsModel.holding()I -/
noncomputable def mX6_holding_218 (k4 : Int32 → Int32 → AW → Option (Int32 × AW)) (v2 : Int32) (s0 : Int32) (w : AW) : Option (Int32 × AW) :=
  wr 90 w 0 38 v2 s0 fun w_1 =>
  nm (v2 + 1) fun v2_2 =>
  k4 s0 v2_2 w_1
noncomputable def mX6_holding_72 (k4 : Int32 → Int32 → AW → Option (Int32 × AW)) (v2 : Int32) (v3 : Int32) (v4 : Int32) (s0 : Int32) (w : AW) : Option (Int32 × AW) :=
  cl (mX6_isAtom v3 w) fun x_2 w_1 =>
  if x_2 = 0 then
    if v3 ≠ 84 then
      if v3 ≠ 70 then
        if v3 ≠ 33 then
          if v3 ≠ 91 then
            if v3 ≠ 123 then
              if v3 ≠ 38 then
                if v3 ≠ 124 then
                  cl (mX6_all w_1) fun x_4 w_3 =>
                  mX6_holding_218 k4 v2 ((x_4 &&& (v4 ^^^ (-1))) ||| s0) w_3
                else
                  mX6_holding_218 k4 v2 (v4 ||| s0) w_1
              else
                mX6_holding_218 k4 v2 (v4 &&& s0) w_1
            else
              cl (mX6_all w_1) fun x_6 w_5 =>
              cl (mX6_all w_5) fun x_8 w_7 =>
              cl (mX6_allIn (x_8 &&& (v4 ^^^ (-1))) w_7) fun x_10 w_9 =>
              mX6_holding_218 k4 v2 (x_6 &&& (x_10 ^^^ (-1))) w_9
          else
            cl (mX6_allIn v4 w_1) fun x_12 w_11 =>
            mX6_holding_218 k4 v2 x_12 w_11
        else
          cl (mX6_all w_1) fun x_14 w_13 =>
          mX6_holding_218 k4 v2 (x_14 &&& (v4 ^^^ (-1))) w_13
      else
        mX6_holding_218 k4 v2 0 w_1
    else
      cl (mX6_all w_1) fun x_16 w_15 =>
      mX6_holding_218 k4 v2 x_16 w_15
  else
    rd 4 (w_1.1 0 5) (v3 - 112) fun x_17 =>
    mX6_holding_218 k4 v2 x_17 w_1
noncomputable def mX6_holding_48 (k4 : Int32 → Int32 → AW → Option (Int32 × AW)) (v2 : Int32) (v3 : Int32) (s0 : Int32) (w : AW) : Option (Int32 × AW) :=
  cl (mX6_isJoin v3 w) fun x_2 w_1 =>
  if x_2 = 0 then
    mX6_holding_72 k4 v2 v3 s0 0 w_1
  else
    rd 90 (w_1.1 0 32) v2 fun x_3 =>
    rd 90 (w_1.1 0 38) x_3 fun x_4 =>
    mX6_holding_72 k4 v2 v3 s0 x_4 w_1
noncomputable def mX6_holding_33 (k4 : Int32 → Int32 → AW → Option (Int32 × AW)) (v2 : Int32) (v3 : Int32) (w : AW) : Option (Int32 × AW) :=
  rd 90 (w.1 0 31) v2 fun x_1 =>
  rd 90 (w.1 0 38) x_1 fun x_2 =>
  mX6_holding_48 k4 v2 v3 x_2 w
noncomputable def mX6_holding_4 : Nat → Int32 → Int32 → AW → Option (Int32 × AW)
  | 0, _, _, _ => none
  | n + 1, v1, v2, w =>
    if (w.1 0 0 26) ≤ v2 then
      some (v1, w)
    else
      rd 90 (w.1 0 30) v2 fun x_1 =>
      cl (mX6_isPrefix x_1 w) fun x_3 w_2 =>
      if x_3 ≠ 0 then
        mX6_holding_33 (mX6_holding_4 n) v2 x_1 w_2
      else
        cl (mX6_isJoin x_1 w_2) fun x_5 w_4 =>
        if x_5 = 0 then
          mX6_holding_48 (mX6_holding_4 n) v2 x_1 0 w_4
        else
          mX6_holding_33 (mX6_holding_4 n) v2 x_1 w_4
noncomputable def mX6_holding (w : AW) : Option (Int32 × AW) :=
  mX6_holding_4 FU 0 0 w
set_option maxRecDepth 100000 in
set_option maxHeartbeats 4000000 in
theorem ok_mX6_holding_218 {zv : Int32} {zw : AW} {k4 : Int32 → Int32 → AW → Option (Int32 × AW)} {v2 : Int32} {s0 : Int32} (hk4 : ∀ (v1 : Int32) (v2 : Int32)  w, k4 v1 v2 w = some (zv, zw) → RR true KX6_holding (some (vI zv), zw) 4 [some (vR 0 0), some (vI v1), some (vI v2), none, none, none] [] w) {w : AW} (hf : mX6_holding_218 k4 v2 s0 w = some (zv, zw)) : RR true KX6_holding (some (vI zv), zw) 218 [some (vR 0 0), none, some (vI v2), none, none, none] [vI s0] w := by
  refine r_istore_n (ls2 := [some (vR 0 0), some (vI s0), some (vI v2), none, none, none]) dX6_holding_218 rfl rfl rfl (Nat.le_of_ble_eq_true rfl) ?_
  refine r_aload_n dX6_holding_219 rfl rfl ?_
  refine g_getA dX6_holding_220 fl_RX6_98 fk_6_37 rfl (cl_true_0) ?_
  refine r_iload_n dX6_holding_223 rfl rfl ?_
  refine r_iload_n dX6_holding_224 rfl rfl ?_
  refine g_iast dX6_holding_225 aK_true_0_38 aL_true_0_38 hf (fun w_1 hf => ?_)
  refine g_iinc (fun v2_2 => [some (vR 0 0), some (vI s0), some (vI v2_2), none, none, none]) dX6_holding_226 ic_1 rfl rfl (fun _ => rfl) (Nat.le_of_ble_eq_true rfl) hf (fun v2_2 hf => ?_)
  refine r_goto (tgt := 4) dX6_holding_229 rfl ?_
  exact hk4 _ _ _ hf
set_option maxRecDepth 100000 in
set_option maxHeartbeats 4000000 in
theorem ok_mX6_holding_72 {zv : Int32} {zw : AW} {k4 : Int32 → Int32 → AW → Option (Int32 × AW)} {v2 : Int32} {v3 : Int32} {v4 : Int32} {s0 : Int32} (hk4 : ∀ (v1 : Int32) (v2 : Int32)  w, k4 v1 v2 w = some (zv, zw) → RR true KX6_holding (some (vI zv), zw) 4 [some (vR 0 0), some (vI v1), some (vI v2), none, none, none] [] w) {w : AW} (hf : mX6_holding_72 k4 v2 v3 v4 s0 w = some (zv, zw)) : RR true KX6_holding (some (vI zv), zw) 72 [some (vR 0 0), none, some (vI v2), some (vI v3), some (vI v4), none] [vI s0] w := by
  refine r_istore (ls2 := [some (vR 0 0), none, some (vI v2), some (vI v3), some (vI v4), some (vI s0)]) dX6_holding_72 rfl rfl (Nat.le_of_ble_eq_true rfl) ?_
  refine r_iload_n dX6_holding_74 rfl rfl ?_
  obtain ⟨x_2, w_1, hc, hf⟩ := cl_some hf
  refine g_cS (st := []) KX6_isAtom [vI v3] dX6_holding_75 e_RX6_185 mok_X6_isAtom mw_X6_isAtom ⟨Nat.le_of_ble_eq_true rfl, Nat.le_of_ble_eq_true rfl⟩ (met_X6_isAtom hc) rfl (Nat.le_of_ble_eq_true rfl) ?_
  clear hc
  refine g_if_eq (tgt := 93) dX6_holding_78 rfl hf (fun _ hf => ?_) (fun _ hf => ?_)
  · refine r_iload_n dX6_holding_93 rfl rfl ?_
    refine r_bipush dX6_holding_94 (bp_84) ?_
    refine g_icmp_ne (tgt := 106) dX6_holding_96 rfl hf (fun _ hf => ?_) (fun _ hf => ?_)
    · refine r_iload_n dX6_holding_106 rfl rfl ?_
      refine r_bipush dX6_holding_107 (bp_70) ?_
      refine g_icmp_ne (tgt := 116) dX6_holding_109 rfl hf (fun _ hf => ?_) (fun _ hf => ?_)
      · refine r_iload_n dX6_holding_116 rfl rfl ?_
        refine r_bipush dX6_holding_117 (bp_33) ?_
        refine g_icmp_ne (tgt := 134) dX6_holding_119 rfl hf (fun _ hf => ?_) (fun _ hf => ?_)
        · refine r_iload_n dX6_holding_134 rfl rfl ?_
          refine r_bipush dX6_holding_135 (bp_91) ?_
          refine g_icmp_ne (tgt := 149) dX6_holding_137 rfl hf (fun _ hf => ?_) (fun _ hf => ?_)
          · refine r_iload_n dX6_holding_149 rfl rfl ?_
            refine r_bipush dX6_holding_150 (bp_123) ?_
            refine g_icmp_ne (tgt := 178) dX6_holding_152 rfl hf (fun _ hf => ?_) (fun _ hf => ?_)
            · refine r_iload_n dX6_holding_178 rfl rfl ?_
              refine r_bipush dX6_holding_179 (bp_38) ?_
              refine g_icmp_ne (tgt := 192) dX6_holding_181 rfl hf (fun _ hf => ?_) (fun _ hf => ?_)
              · refine r_iload_n dX6_holding_192 rfl rfl ?_
                refine r_bipush dX6_holding_193 (bp_124) ?_
                refine g_icmp_ne (tgt := 206) dX6_holding_195 rfl hf (fun _ hf => ?_) (fun _ hf => ?_)
                · refine r_aload_n dX6_holding_206 rfl rfl ?_
                  obtain ⟨x_4, w_3, hc, hf⟩ := cl_some hf
                  refine g_cV (st := []) KX6_all [] dX6_holding_207 e_RX6_143 (cl_true_0) (rfl : vwCl[6]? = _) rfl mok_X6_all mw_X6_all ⟨Nat.le_of_ble_eq_true rfl, Nat.le_of_ble_eq_true rfl⟩ (met_X6_all hc) rfl (Nat.le_of_ble_eq_true rfl) ?_
                  clear hc
                  refine r_iload dX6_holding_210 rfl ?_
                  refine r_iconst dX6_holding_212 ic_m1 ?_
                  refine r_ixor dX6_holding_213 ?_
                  refine r_iand dX6_holding_214 ?_
                  refine r_iload dX6_holding_215 rfl ?_
                  refine r_ior dX6_holding_217 ?_
                  refine r_mask (bs := [true, false, true, false, false, false]) ?_
                  exact ok_mX6_holding_218 hk4 hf
                · refine r_iload dX6_holding_198 rfl ?_
                  refine r_iload dX6_holding_200 rfl ?_
                  refine r_ior dX6_holding_202 ?_
                  refine r_goto (tgt := 218) dX6_holding_203 rfl ?_
                  refine r_mask (bs := [true, false, true, false, false, false]) ?_
                  exact ok_mX6_holding_218 hk4 hf
              · refine r_iload dX6_holding_184 rfl ?_
                refine r_iload dX6_holding_186 rfl ?_
                refine r_iand dX6_holding_188 ?_
                refine r_goto (tgt := 218) dX6_holding_189 rfl ?_
                refine r_mask (bs := [true, false, true, false, false, false]) ?_
                exact ok_mX6_holding_218 hk4 hf
            · refine r_aload_n dX6_holding_155 rfl rfl ?_
              obtain ⟨x_6, w_5, hc, hf⟩ := cl_some hf
              refine g_cV (st := []) KX6_all [] dX6_holding_156 e_RX6_143 (cl_true_0) (rfl : vwCl[6]? = _) rfl mok_X6_all mw_X6_all ⟨Nat.le_of_ble_eq_true rfl, Nat.le_of_ble_eq_true rfl⟩ (met_X6_all hc) rfl (Nat.le_of_ble_eq_true rfl) ?_
              clear hc
              refine r_aload_n dX6_holding_159 rfl rfl ?_
              refine r_aload_n dX6_holding_160 rfl rfl ?_
              obtain ⟨x_8, w_7, hc, hf⟩ := cl_some hf
              refine g_cV (st := [vR 0 0, vI x_6]) KX6_all [] dX6_holding_161 e_RX6_143 (cl_true_0) (rfl : vwCl[6]? = _) rfl mok_X6_all mw_X6_all ⟨Nat.le_of_ble_eq_true rfl, Nat.le_of_ble_eq_true rfl⟩ (met_X6_all hc) rfl (Nat.le_of_ble_eq_true rfl) ?_
              clear hc
              refine r_iload dX6_holding_164 rfl ?_
              refine r_iconst dX6_holding_166 ic_m1 ?_
              refine r_ixor dX6_holding_167 ?_
              refine r_iand dX6_holding_168 ?_
              obtain ⟨x_10, w_9, hc, hf⟩ := cl_some hf
              refine g_cV (st := [vI x_6]) KX6_allIn [vI (x_8 &&& (v4 ^^^ (-1)))] dX6_holding_169 e_RX6_231 (cl_true_0) (rfl : vwCl[6]? = _) rfl mok_X6_allIn mw_X6_allIn ⟨Nat.le_of_ble_eq_true rfl, Nat.le_of_ble_eq_true rfl⟩ (met_X6_allIn hc) rfl (Nat.le_of_ble_eq_true rfl) ?_
              clear hc
              refine r_iconst dX6_holding_172 ic_m1 ?_
              refine r_ixor dX6_holding_173 ?_
              refine r_iand dX6_holding_174 ?_
              refine r_goto (tgt := 218) dX6_holding_175 rfl ?_
              refine r_mask (bs := [true, false, true, false, false, false]) ?_
              exact ok_mX6_holding_218 hk4 hf
          · refine r_aload_n dX6_holding_140 rfl rfl ?_
            refine r_iload dX6_holding_141 rfl ?_
            obtain ⟨x_12, w_11, hc, hf⟩ := cl_some hf
            refine g_cV (st := []) KX6_allIn [vI v4] dX6_holding_143 e_RX6_231 (cl_true_0) (rfl : vwCl[6]? = _) rfl mok_X6_allIn mw_X6_allIn ⟨Nat.le_of_ble_eq_true rfl, Nat.le_of_ble_eq_true rfl⟩ (met_X6_allIn hc) rfl (Nat.le_of_ble_eq_true rfl) ?_
            clear hc
            refine r_goto (tgt := 218) dX6_holding_146 rfl ?_
            refine r_mask (bs := [true, false, true, false, false, false]) ?_
            exact ok_mX6_holding_218 hk4 hf
        · refine r_aload_n dX6_holding_122 rfl rfl ?_
          obtain ⟨x_14, w_13, hc, hf⟩ := cl_some hf
          refine g_cV (st := []) KX6_all [] dX6_holding_123 e_RX6_143 (cl_true_0) (rfl : vwCl[6]? = _) rfl mok_X6_all mw_X6_all ⟨Nat.le_of_ble_eq_true rfl, Nat.le_of_ble_eq_true rfl⟩ (met_X6_all hc) rfl (Nat.le_of_ble_eq_true rfl) ?_
          clear hc
          refine r_iload dX6_holding_126 rfl ?_
          refine r_iconst dX6_holding_128 ic_m1 ?_
          refine r_ixor dX6_holding_129 ?_
          refine r_iand dX6_holding_130 ?_
          refine r_goto (tgt := 218) dX6_holding_131 rfl ?_
          refine r_mask (bs := [true, false, true, false, false, false]) ?_
          exact ok_mX6_holding_218 hk4 hf
      · refine r_iconst dX6_holding_112 ic_0 ?_
        refine r_goto (tgt := 218) dX6_holding_113 rfl ?_
        refine r_mask (bs := [true, false, true, false, false, false]) ?_
        exact ok_mX6_holding_218 hk4 hf
    · refine r_aload_n dX6_holding_99 rfl rfl ?_
      obtain ⟨x_16, w_15, hc, hf⟩ := cl_some hf
      refine g_cV (st := []) KX6_all [] dX6_holding_100 e_RX6_143 (cl_true_0) (rfl : vwCl[6]? = _) rfl mok_X6_all mw_X6_all ⟨Nat.le_of_ble_eq_true rfl, Nat.le_of_ble_eq_true rfl⟩ (met_X6_all hc) rfl (Nat.le_of_ble_eq_true rfl) ?_
      clear hc
      refine r_goto (tgt := 218) dX6_holding_103 rfl ?_
      refine r_mask (bs := [true, false, true, false, false, false]) ?_
      exact ok_mX6_holding_218 hk4 hf
  · refine r_aload_n dX6_holding_81 rfl rfl ?_
    refine g_getA dX6_holding_82 fl_RX6_17 fk_6_4 rfl (cl_true_0) ?_
    refine r_iload_n dX6_holding_85 rfl rfl ?_
    refine r_bipush dX6_holding_86 (bp_112) ?_
    refine r_isub dX6_holding_88 ?_
    refine g_iald dX6_holding_89 aK_true_0_5 aL_true_0_5 hf (fun x_17 hf => ?_)
    refine r_goto (tgt := 218) dX6_holding_90 rfl ?_
    refine r_mask (bs := [true, false, true, false, false, false]) ?_
    exact ok_mX6_holding_218 hk4 hf
set_option maxRecDepth 100000 in
set_option maxHeartbeats 4000000 in
theorem ok_mX6_holding_48 {zv : Int32} {zw : AW} {k4 : Int32 → Int32 → AW → Option (Int32 × AW)} {v2 : Int32} {v3 : Int32} {s0 : Int32} (hk4 : ∀ (v1 : Int32) (v2 : Int32)  w, k4 v1 v2 w = some (zv, zw) → RR true KX6_holding (some (vI zv), zw) 4 [some (vR 0 0), some (vI v1), some (vI v2), none, none, none] [] w) {w : AW} (hf : mX6_holding_48 k4 v2 v3 s0 w = some (zv, zw)) : RR true KX6_holding (some (vI zv), zw) 48 [some (vR 0 0), none, some (vI v2), some (vI v3), none, none] [vI s0] w := by
  refine r_istore (ls2 := [some (vR 0 0), none, some (vI v2), some (vI v3), some (vI s0), none]) dX6_holding_48 rfl rfl (Nat.le_of_ble_eq_true rfl) ?_
  refine r_iload_n dX6_holding_50 rfl rfl ?_
  obtain ⟨x_2, w_1, hc, hf⟩ := cl_some hf
  refine g_cS (st := []) KX6_isJoin [vI v3] dX6_holding_51 e_RX6_192 mok_X6_isJoin mw_X6_isJoin ⟨Nat.le_of_ble_eq_true rfl, Nat.le_of_ble_eq_true rfl⟩ (met_X6_isJoin hc) rfl (Nat.le_of_ble_eq_true rfl) ?_
  clear hc
  refine g_if_eq (tgt := 71) dX6_holding_54 rfl hf (fun _ hf => ?_) (fun _ hf => ?_)
  · refine r_iconst dX6_holding_71 ic_0 ?_
    exact ok_mX6_holding_72 hk4 hf
  · refine r_aload_n dX6_holding_57 rfl rfl ?_
    refine g_getA dX6_holding_58 fl_RX6_98 fk_6_37 rfl (cl_true_0) ?_
    refine r_aload_n dX6_holding_61 rfl rfl ?_
    refine g_getA dX6_holding_62 fl_RX6_83 fk_6_31 rfl (cl_true_0) ?_
    refine r_iload_n dX6_holding_65 rfl rfl ?_
    refine g_iald dX6_holding_66 aK_true_0_32 aL_true_0_32 hf (fun x_3 hf => ?_)
    refine g_iald dX6_holding_67 aK_true_0_38 aL_true_0_38 hf (fun x_4 hf => ?_)
    refine r_goto (tgt := 72) dX6_holding_68 rfl ?_
    exact ok_mX6_holding_72 hk4 hf
set_option maxRecDepth 100000 in
set_option maxHeartbeats 4000000 in
theorem ok_mX6_holding_33 {zv : Int32} {zw : AW} {k4 : Int32 → Int32 → AW → Option (Int32 × AW)} {v2 : Int32} {v3 : Int32} (hk4 : ∀ (v1 : Int32) (v2 : Int32)  w, k4 v1 v2 w = some (zv, zw) → RR true KX6_holding (some (vI zv), zw) 4 [some (vR 0 0), some (vI v1), some (vI v2), none, none, none] [] w) {w : AW} (hf : mX6_holding_33 k4 v2 v3 w = some (zv, zw)) : RR true KX6_holding (some (vI zv), zw) 33 [some (vR 0 0), none, some (vI v2), some (vI v3), none, none] [] w := by
  refine r_aload_n dX6_holding_33 rfl rfl ?_
  refine g_getA dX6_holding_34 fl_RX6_98 fk_6_37 rfl (cl_true_0) ?_
  refine r_aload_n dX6_holding_37 rfl rfl ?_
  refine g_getA dX6_holding_38 fl_RX6_80 fk_6_30 rfl (cl_true_0) ?_
  refine r_iload_n dX6_holding_41 rfl rfl ?_
  refine g_iald dX6_holding_42 aK_true_0_31 aL_true_0_31 hf (fun x_1 hf => ?_)
  refine g_iald dX6_holding_43 aK_true_0_38 aL_true_0_38 hf (fun x_2 hf => ?_)
  refine r_goto (tgt := 48) dX6_holding_44 rfl ?_
  exact ok_mX6_holding_48 hk4 hf
set_option maxRecDepth 100000 in
set_option maxHeartbeats 4000000 in
theorem ok_mX6_holding_4 {zv : Int32} {zw : AW} : ∀ (n : Nat) (v1 : Int32) (v2 : Int32) (w : AW), mX6_holding_4 n v1 v2 w = some (zv, zw) → RR true KX6_holding (some (vI zv), zw) 4 [some (vR 0 0), some (vI v1), some (vI v2), none, none, none] [] w := by
  intro n
  induction n with
  | zero => intro v1 v2 w hf; cases hf
  | succ n ih =>
    intro v1 v2 w hf
    refine r_iload_n dX6_holding_4 rfl rfl ?_
    refine r_aload_n dX6_holding_5 rfl rfl ?_
    refine g_getI dX6_holding_6 fl_RX6_202 fk_6_26 (cl_true_0) ?_
    refine g_icmp_ge (tgt := 232) dX6_holding_9 rfl hf (fun _ hf => ?_) (fun _ hf => ?_)
    · refine r_iload_n dX6_holding_232 rfl rfl ?_
      exact r_iret dX6_holding_233 rfl (ret_I hf)
    · refine r_aload_n dX6_holding_12 rfl rfl ?_
      refine g_getA dX6_holding_13 fl_RX6_77 fk_6_29 rfl (cl_true_0) ?_
      refine r_iload_n dX6_holding_16 rfl rfl ?_
      refine g_iald dX6_holding_17 aK_true_0_30 aL_true_0_30 hf (fun x_1 hf => ?_)
      refine r_istore_n (ls2 := [some (vR 0 0), some (vI v1), some (vI v2), some (vI x_1), none, none]) dX6_holding_18 rfl rfl rfl (Nat.le_of_ble_eq_true rfl) ?_
      refine r_iload_n dX6_holding_19 rfl rfl ?_
      obtain ⟨x_3, w_2, hc, hf⟩ := cl_some hf
      refine g_cS (st := []) KX6_isPrefix [vI x_1] dX6_holding_20 e_RX6_182 mok_X6_isPrefix mw_X6_isPrefix ⟨Nat.le_of_ble_eq_true rfl, Nat.le_of_ble_eq_true rfl⟩ (met_X6_isPrefix hc) rfl (Nat.le_of_ble_eq_true rfl) ?_
      clear hc
      refine g_if_ne (tgt := 33) dX6_holding_23 rfl hf (fun _ hf => ?_) (fun _ hf => ?_)
      · refine r_mask (bs := [true, false, true, true, false, false]) ?_
        exact ok_mX6_holding_33 (fun v1 v2 w hf => ih v1 v2 w hf) hf
      · refine r_iload_n dX6_holding_26 rfl rfl ?_
        obtain ⟨x_5, w_4, hc, hf⟩ := cl_some hf
        refine g_cS (st := []) KX6_isJoin [vI x_1] dX6_holding_27 e_RX6_192 mok_X6_isJoin mw_X6_isJoin ⟨Nat.le_of_ble_eq_true rfl, Nat.le_of_ble_eq_true rfl⟩ (met_X6_isJoin hc) rfl (Nat.le_of_ble_eq_true rfl) ?_
        clear hc
        refine g_if_eq (tgt := 47) dX6_holding_30 rfl hf (fun _ hf => ?_) (fun _ hf => ?_)
        · refine r_iconst dX6_holding_47 ic_0 ?_
          refine r_mask (bs := [true, false, true, true, false, false]) ?_
          exact ok_mX6_holding_48 (fun v1 v2 w hf => ih v1 v2 w hf) hf
        · refine r_mask (bs := [true, false, true, true, false, false]) ?_
          exact ok_mX6_holding_33 (fun v1 v2 w hf => ih v1 v2 w hf) hf
set_option maxRecDepth 100000 in
set_option maxHeartbeats 4000000 in
theorem ok_mX6_holding {zv : Int32} {zw : AW} {w : AW} (hf : mX6_holding w = some (zv, zw)) : RR true KX6_holding (some (vI zv), zw) 0 [some (vR 0 0), none, none, none, none, none] [] w := by
  refine r_iconst dX6_holding_0 ic_0 ?_
  refine r_istore_n (ls2 := [some (vR 0 0), some (vI 0), none, none, none, none]) dX6_holding_1 rfl rfl rfl (Nat.le_of_ble_eq_true rfl) ?_
  refine r_iconst dX6_holding_2 ic_0 ?_
  refine r_istore_n (ls2 := [some (vR 0 0), some (vI 0), some (vI 0), none, none, none]) dX6_holding_3 rfl rfl rfl (Nat.le_of_ble_eq_true rfl) ?_
  exact ok_mX6_holding_4 FU _ _ _ hf
theorem met_X6_holding {zv : Int32} {zw : AW} {w : AW} (hf : mX6_holding w = some (zv, zw)) : am_Met true KX6_holding [vR 0 0] w (some (vI zv), zw) := am_met mok_X6_holding.1 (Nat.le_of_ble_eq_true rfl) (ok_mX6_holding  hf)

/-! SeenWorldsModel.holds(II)I -/
noncomputable def mX6_holds (v1 : Int32) (v2 : Int32) (w : AW) : Option (Int32 × AW) :=
  pu w 0 0 0 fun w_1 =>
  cl (mX6_isSentence v1 w_1) fun x_3 w_2 =>
  if x_3 = 0 then
    some ((-1), w_2)
  else
    cl (mX6_isSort v2 w_2) fun x_5 w_4 =>
    if x_5 ≠ 0 then
      cl (mX6_works v1 w_4) fun x_7 w_6 =>
      cl (mX6_looks v2 w_6) fun x_9 w_8 =>
      cl (mX6_holding w_8) fun x_11 w_10 =>
      some (x_11, w_10)
    else
      some ((-1), w_4)
set_option maxRecDepth 100000 in
set_option maxHeartbeats 4000000 in
theorem ok_mX6_holds {zv : Int32} {zw : AW} {v1 : Int32} {v2 : Int32} {w : AW} (hf : mX6_holds v1 v2 w = some (zv, zw)) : RR true KX6_holds (some (vI zv), zw) 0 [some (vR 0 0), some (vI v1), some (vI v2)] [] w := by
  refine r_aload_n dX6_holds_0 rfl rfl ?_
  refine r_iconst dX6_holds_1 ic_0 ?_
  refine g_putI dX6_holds_2 fl_RX6_132 fk_6_0 (cl_true_0) hf (fun w_1 hf => ?_)
  refine r_iload_n dX6_holds_5 rfl rfl ?_
  obtain ⟨x_3, w_2, hc, hf⟩ := cl_some hf
  refine g_cS (st := []) KX6_isSentence [vI v1] dX6_holds_6 e_RX6_195 mok_X6_isSentence mw_X6_isSentence ⟨Nat.le_of_ble_eq_true rfl, Nat.le_of_ble_eq_true rfl⟩ (met_X6_isSentence hc) rfl (Nat.le_of_ble_eq_true rfl) ?_
  clear hc
  refine g_if_eq (tgt := 19) dX6_holds_9 rfl hf (fun _ hf => ?_) (fun _ hf => ?_)
  · refine r_iconst dX6_holds_19 ic_m1 ?_
    exact r_iret dX6_holds_20 rfl (ret_I hf)
  · refine r_iload_n dX6_holds_12 rfl rfl ?_
    obtain ⟨x_5, w_4, hc, hf⟩ := cl_some hf
    refine g_cS (st := []) KX6_isSort [vI v2] dX6_holds_13 e_RX6_151 mok_X6_isSort mw_X6_isSort ⟨Nat.le_of_ble_eq_true rfl, Nat.le_of_ble_eq_true rfl⟩ (met_X6_isSort hc) rfl (Nat.le_of_ble_eq_true rfl) ?_
    clear hc
    refine g_if_ne (tgt := 21) dX6_holds_16 rfl hf (fun _ hf => ?_) (fun _ hf => ?_)
    · refine r_aload_n dX6_holds_21 rfl rfl ?_
      refine r_iload_n dX6_holds_22 rfl rfl ?_
      obtain ⟨x_7, w_6, hc, hf⟩ := cl_some hf
      refine g_cVv (st := []) KX6_works [vI v1] dX6_holds_23 e_RX6_215 (cl_true_0) (rfl : vwCl[6]? = _) rfl mok_X6_works mw_X6_works ⟨Nat.le_of_ble_eq_true rfl, Nat.le_of_ble_eq_true rfl⟩ (met_X6_works hc) rfl (Nat.le_of_ble_eq_true rfl) ?_
      clear hc
      refine r_aload_n dX6_holds_26 rfl rfl ?_
      refine r_iload_n dX6_holds_27 rfl rfl ?_
      obtain ⟨x_9, w_8, hc, hf⟩ := cl_some hf
      refine g_cVv (st := []) KX6_looks [vI v2] dX6_holds_28 e_RX6_234 (cl_true_0) (rfl : vwCl[6]? = _) rfl mok_X6_looks mw_X6_looks ⟨Nat.le_of_ble_eq_true rfl, Nat.le_of_ble_eq_true rfl⟩ (met_X6_looks hc) rfl (Nat.le_of_ble_eq_true rfl) ?_
      clear hc
      refine r_aload_n dX6_holds_31 rfl rfl ?_
      obtain ⟨x_11, w_10, hc, hf⟩ := cl_some hf
      refine g_cV (st := []) KX6_holding [] dX6_holds_32 e_RX6_237 (cl_true_0) (rfl : vwCl[6]? = _) rfl mok_X6_holding mw_X6_holding ⟨Nat.le_of_ble_eq_true rfl, Nat.le_of_ble_eq_true rfl⟩ (met_X6_holding hc) rfl (Nat.le_of_ble_eq_true rfl) ?_
      clear hc
      exact r_iret dX6_holds_35 rfl (ret_I hf)
    · refine r_iconst dX6_holds_19 ic_m1 ?_
      exact r_iret dX6_holds_20 rfl (ret_I hf)
theorem met_X6_holds {zv : Int32} {zw : AW} {v1 : Int32} {v2 : Int32} {w : AW} (hf : mX6_holds v1 v2 w = some (zv, zw)) : am_Met true KX6_holds [vR 0 0, vI v1, vI v2] w (some (vI zv), zw) := am_met mok_X6_holds.1 (Nat.le_of_ble_eq_true rfl) (ok_mX6_holds  hf)

/-! SeenWorldsModel.sure(II)I -/
noncomputable def mX6_sure_178 (k118 : Int32 → Int32 → AW → Option (Int32 × AW)) (k139 : Int32 → Int32 → AW → Option (Int32 × AW)) (v3 : Int32) (v4 : Int32) (v5 : Int32) (v6 : Int32) (v7 : Int32) (v8 : Int32) (v10 : Int32) (v11 : Int32) (v12 : Int32) (w : AW) : Option (Int32 × AW) :=
  nm (v12 + 1) fun v12_1 =>
  k139 v11 v12_1 w
noncomputable def mX6_sure_200 (k118 : Int32 → Int32 → AW → Option (Int32 × AW)) (v3 : Int32) (v4 : Int32) (v5 : Int32) (v6 : Int32) (v7 : Int32) (v8 : Int32) (v10 : Int32) (s0 : Int32) (w : AW) : Option (Int32 × AW) :=
  nm (v10 + 1) fun v10_1 =>
  k118 s0 v10_1 w
noncomputable def mX6_sure_139 (k118 : Int32 → Int32 → AW → Option (Int32 × AW)) (v3 : Int32) (v4 : Int32) (v5 : Int32) (v6 : Int32) (v7 : Int32) (v8 : Int32) (v10 : Int32) : Nat → Int32 → Int32 → AW → Option (Int32 × AW)
  | 0, _, _, _ => none
  | n + 1, v11, v12, w =>
    if 4 ≤ v12 then
      cl (mX6_holding w) fun x_2 w_1 =>
      cl (mX6_all w_1) fun x_4 w_3 =>
      if x_2 ≠ x_4 then
        mX6_sure_200 k118 v3 v4 v5 v6 v7 v8 v10 0 w_3
      else
        mX6_sure_200 k118 v3 v4 v5 v6 v7 v8 v10 1 w_3
    else
      if ((v3 >>> (v12 &&& 31)) &&& 1) ≠ 1 then
        mX6_sure_178 k118 (mX6_sure_139 k118 v3 v4 v5 v6 v7 v8 v10 n) v3 v4 v5 v6 v7 v8 v10 v11 v12 w
      else
        cl (mX6_all w) fun x_6 w_5 =>
        wr 4 w_5 0 5 v12 (v11 &&& x_6) fun w_7 =>
        nm (v11 >>> ((w_7.1 0 0 2) &&& 31)) fun v11_8 =>
        mX6_sure_178 k118 (mX6_sure_139 k118 v3 v4 v5 v6 v7 v8 v10 n) v3 v4 v5 v6 v7 v8 v10 v11_8 v12 w_7
noncomputable def mX6_sure_208 (v5 : Int32) (v6 : Int32) (v7 : Int32) (v8 : Int32) (v9 : Int32) (w : AW) : Option (Int32 × AW) :=
  wr 4 w 0 5 0 v5 fun w_1 =>
  wr 4 w_1 0 5 1 v6 fun w_2 =>
  wr 4 w_2 0 5 2 v7 fun w_3 =>
  wr 4 w_3 0 5 3 v8 fun w_4 =>
  if v9 = 0 then
    some (0, w_4)
  else
    some (1, w_4)
noncomputable def mX6_sure_118 (v3 : Int32) (v4 : Int32) (v5 : Int32) (v6 : Int32) (v7 : Int32) (v8 : Int32) : Nat → Int32 → Int32 → AW → Option (Int32 × AW)
  | 0, _, _, _ => none
  | n + 1, v9, v10, w =>
    if (1 <<< (v4 &&& 31)) ≤ v10 then
      mX6_sure_208 v5 v6 v7 v8 v9 w
    else
      if v9 = 0 then
        mX6_sure_208 v5 v6 v7 v8 v9 w
      else
        mX6_sure_139 (mX6_sure_118 v3 v4 v5 v6 v7 v8 n) v3 v4 v5 v6 v7 v8 v10 FU v10 0 w
noncomputable def mX6_sure_37 (v2 : Int32) (v3 : Int32) : Nat → Int32 → Int32 → AW → Option (Int32 × AW)
  | 0, _, _, _ => none
  | n + 1, v4, v5, w =>
    if 4 ≤ v5 then
      if v4 ≤ 12 then
        cl (mX6_looks v2 w) fun x_2 w_1 =>
        rd 4 (w_1.1 0 5) 0 fun x_3 =>
        rd 4 (w_1.1 0 5) 1 fun x_4 =>
        rd 4 (w_1.1 0 5) 2 fun x_5 =>
        rd 4 (w_1.1 0 5) 3 fun x_6 =>
        mX6_sure_118 v3 v4 x_3 x_4 x_5 x_6 FU 1 0 w_1
      else
        some ((-2), w)
    else
      nm (v4 + (((v3 >>> (v5 &&& 31)) &&& 1) * (w.1 0 0 2))) fun v4_7 =>
      nm (v5 + 1) fun v5_8 =>
      mX6_sure_37 v2 v3 n v4_7 v5_8 w
noncomputable def mX6_sure (v1 : Int32) (v2 : Int32) (w : AW) : Option (Int32 × AW) :=
  pu w 0 0 0 fun w_1 =>
  cl (mX6_isSentence v1 w_1) fun x_3 w_2 =>
  if x_3 = 0 then
    some ((-1), w_2)
  else
    cl (mX6_isSort v2 w_2) fun x_5 w_4 =>
    if x_5 ≠ 0 then
      cl (mX6_works v1 w_4) fun x_7 w_6 =>
      cl (mX6_atomsOf w_6) fun x_9 w_8 =>
      mX6_sure_37 v2 x_9 FU 0 0 w_8
    else
      some ((-1), w_4)
set_option maxRecDepth 100000 in
set_option maxHeartbeats 4000000 in
theorem ok_mX6_sure_178 {zv : Int32} {zw : AW} {k118 : Int32 → Int32 → AW → Option (Int32 × AW)} {k139 : Int32 → Int32 → AW → Option (Int32 × AW)} {v3 : Int32} {v4 : Int32} {v5 : Int32} {v6 : Int32} {v7 : Int32} {v8 : Int32} {v10 : Int32} {v11 : Int32} {v12 : Int32} (hk118 : ∀ (v9 : Int32) (v10 : Int32)  w, k118 v9 v10 w = some (zv, zw) → RR true KX6_sure (some (vI zv), zw) 118 [some (vR 0 0), none, none, some (vI v3), some (vI v4), some (vI v5), some (vI v6), some (vI v7), some (vI v8), some (vI v9), some (vI v10), none, none] [] w) (hk139 : ∀ (v11 : Int32) (v12 : Int32)  w, k139 v11 v12 w = some (zv, zw) → RR true KX6_sure (some (vI zv), zw) 139 [some (vR 0 0), none, none, some (vI v3), some (vI v4), some (vI v5), some (vI v6), some (vI v7), some (vI v8), none, some (vI v10), some (vI v11), some (vI v12)] [] w) {w : AW} (hf : mX6_sure_178 k118 k139 v3 v4 v5 v6 v7 v8 v10 v11 v12 w = some (zv, zw)) : RR true KX6_sure (some (vI zv), zw) 178 [some (vR 0 0), none, none, some (vI v3), some (vI v4), some (vI v5), some (vI v6), some (vI v7), some (vI v8), none, some (vI v10), some (vI v11), some (vI v12)] [] w := by
  refine g_iinc (fun v12_1 => [some (vR 0 0), none, none, some (vI v3), some (vI v4), some (vI v5), some (vI v6), some (vI v7), some (vI v8), none, some (vI v10), some (vI v11), some (vI v12_1)]) dX6_sure_178 ic_1 rfl rfl (fun _ => rfl) (Nat.le_of_ble_eq_true rfl) hf (fun v12_1 hf => ?_)
  refine r_goto (tgt := 139) dX6_sure_181 rfl ?_
  exact hk139 _ _ _ hf
set_option maxRecDepth 100000 in
set_option maxHeartbeats 4000000 in
theorem ok_mX6_sure_200 {zv : Int32} {zw : AW} {k118 : Int32 → Int32 → AW → Option (Int32 × AW)} {v3 : Int32} {v4 : Int32} {v5 : Int32} {v6 : Int32} {v7 : Int32} {v8 : Int32} {v10 : Int32} {s0 : Int32} (hk118 : ∀ (v9 : Int32) (v10 : Int32)  w, k118 v9 v10 w = some (zv, zw) → RR true KX6_sure (some (vI zv), zw) 118 [some (vR 0 0), none, none, some (vI v3), some (vI v4), some (vI v5), some (vI v6), some (vI v7), some (vI v8), some (vI v9), some (vI v10), none, none] [] w) {w : AW} (hf : mX6_sure_200 k118 v3 v4 v5 v6 v7 v8 v10 s0 w = some (zv, zw)) : RR true KX6_sure (some (vI zv), zw) 200 [some (vR 0 0), none, none, some (vI v3), some (vI v4), some (vI v5), some (vI v6), some (vI v7), some (vI v8), none, some (vI v10), none, none] [vI s0] w := by
  refine r_istore (ls2 := [some (vR 0 0), none, none, some (vI v3), some (vI v4), some (vI v5), some (vI v6), some (vI v7), some (vI v8), some (vI s0), some (vI v10), none, none]) dX6_sure_200 rfl rfl (Nat.le_of_ble_eq_true rfl) ?_
  refine g_iinc (fun v10_1 => [some (vR 0 0), none, none, some (vI v3), some (vI v4), some (vI v5), some (vI v6), some (vI v7), some (vI v8), some (vI s0), some (vI v10_1), none, none]) dX6_sure_202 ic_1 rfl rfl (fun _ => rfl) (Nat.le_of_ble_eq_true rfl) hf (fun v10_1 hf => ?_)
  refine r_goto (tgt := 118) dX6_sure_205 rfl ?_
  exact hk118 _ _ _ hf
set_option maxRecDepth 100000 in
set_option maxHeartbeats 4000000 in
theorem ok_mX6_sure_139 {zv : Int32} {zw : AW} {k118 : Int32 → Int32 → AW → Option (Int32 × AW)} {v3 : Int32} {v4 : Int32} {v5 : Int32} {v6 : Int32} {v7 : Int32} {v8 : Int32} {v10 : Int32} (hk118 : ∀ (v9 : Int32) (v10 : Int32)  w, k118 v9 v10 w = some (zv, zw) → RR true KX6_sure (some (vI zv), zw) 118 [some (vR 0 0), none, none, some (vI v3), some (vI v4), some (vI v5), some (vI v6), some (vI v7), some (vI v8), some (vI v9), some (vI v10), none, none] [] w) : ∀ (n : Nat) (v11 : Int32) (v12 : Int32) (w : AW), mX6_sure_139 k118 v3 v4 v5 v6 v7 v8 v10 n v11 v12 w = some (zv, zw) → RR true KX6_sure (some (vI zv), zw) 139 [some (vR 0 0), none, none, some (vI v3), some (vI v4), some (vI v5), some (vI v6), some (vI v7), some (vI v8), none, some (vI v10), some (vI v11), some (vI v12)] [] w := by
  intro n
  induction n with
  | zero => intro v11 v12 w hf; cases hf
  | succ n ih =>
    intro v11 v12 w hf
    refine r_iload dX6_sure_139 rfl ?_
    refine r_iconst dX6_sure_141 ic_4 ?_
    refine g_icmp_ge (tgt := 184) dX6_sure_142 rfl hf (fun _ hf => ?_) (fun _ hf => ?_)
    · refine r_aload_n dX6_sure_184 rfl rfl ?_
      obtain ⟨x_2, w_1, hc, hf⟩ := cl_some hf
      refine g_cV (st := []) KX6_holding [] dX6_sure_185 e_RX6_237 (cl_true_0) (rfl : vwCl[6]? = _) rfl mok_X6_holding mw_X6_holding ⟨Nat.le_of_ble_eq_true rfl, Nat.le_of_ble_eq_true rfl⟩ (met_X6_holding hc) rfl (Nat.le_of_ble_eq_true rfl) ?_
      clear hc
      refine r_aload_n dX6_sure_188 rfl rfl ?_
      obtain ⟨x_4, w_3, hc, hf⟩ := cl_some hf
      refine g_cV (st := [vI x_2]) KX6_all [] dX6_sure_189 e_RX6_143 (cl_true_0) (rfl : vwCl[6]? = _) rfl mok_X6_all mw_X6_all ⟨Nat.le_of_ble_eq_true rfl, Nat.le_of_ble_eq_true rfl⟩ (met_X6_all hc) rfl (Nat.le_of_ble_eq_true rfl) ?_
      clear hc
      refine g_icmp_ne (tgt := 199) dX6_sure_192 rfl hf (fun _ hf => ?_) (fun _ hf => ?_)
      · refine r_iconst dX6_sure_199 ic_0 ?_
        refine r_mask (bs := [true, false, false, true, true, true, true, true, true, false, true, false, false]) ?_
        exact ok_mX6_sure_200 hk118 hf
      · refine r_iconst dX6_sure_195 ic_1 ?_
        refine r_goto (tgt := 200) dX6_sure_196 rfl ?_
        refine r_mask (bs := [true, false, false, true, true, true, true, true, true, false, true, false, false]) ?_
        exact ok_mX6_sure_200 hk118 hf
    · refine r_iload_n dX6_sure_145 rfl rfl ?_
      refine r_iload dX6_sure_146 rfl ?_
      refine r_ishr dX6_sure_148 ?_
      refine r_iconst dX6_sure_149 ic_1 ?_
      refine r_iand dX6_sure_150 ?_
      refine r_iconst dX6_sure_151 ic_1 ?_
      refine g_icmp_ne (tgt := 178) dX6_sure_152 rfl hf (fun _ hf => ?_) (fun _ hf => ?_)
      · exact ok_mX6_sure_178 hk118 (fun v11 v12 w hf => ih v11 v12 w hf) hf
      · refine r_aload_n dX6_sure_155 rfl rfl ?_
        refine g_getA dX6_sure_156 fl_RX6_17 fk_6_4 rfl (cl_true_0) ?_
        refine r_iload dX6_sure_159 rfl ?_
        refine r_iload dX6_sure_161 rfl ?_
        refine r_aload_n dX6_sure_163 rfl rfl ?_
        obtain ⟨x_6, w_5, hc, hf⟩ := cl_some hf
        refine g_cV (st := [vI v11, vI v12, vR 0 5]) KX6_all [] dX6_sure_164 e_RX6_143 (cl_true_0) (rfl : vwCl[6]? = _) rfl mok_X6_all mw_X6_all ⟨Nat.le_of_ble_eq_true rfl, Nat.le_of_ble_eq_true rfl⟩ (met_X6_all hc) rfl (Nat.le_of_ble_eq_true rfl) ?_
        clear hc
        refine r_iand dX6_sure_167 ?_
        refine g_iast dX6_sure_168 aK_true_0_5 aL_true_0_5 hf (fun w_7 hf => ?_)
        refine r_iload dX6_sure_169 rfl ?_
        refine r_aload_n dX6_sure_171 rfl rfl ?_
        refine g_getI dX6_sure_172 fl_RX6_7 fk_6_2 (cl_true_0) ?_
        refine r_ishr dX6_sure_175 ?_
        refine g_istore (fun v11_8 => [some (vR 0 0), none, none, some (vI v3), some (vI v4), some (vI v5), some (vI v6), some (vI v7), some (vI v8), none, some (vI v10), some (vI v11_8), some (vI v12)]) dX6_sure_176 rfl (fun _ => rfl) (Nat.le_of_ble_eq_true rfl) hf (fun v11_8 hf => ?_)
        exact ok_mX6_sure_178 hk118 (fun v11 v12 w hf => ih v11 v12 w hf) hf
set_option maxRecDepth 100000 in
set_option maxHeartbeats 4000000 in
theorem ok_mX6_sure_208 {zv : Int32} {zw : AW} {v5 : Int32} {v6 : Int32} {v7 : Int32} {v8 : Int32} {v9 : Int32} {w : AW} (hf : mX6_sure_208 v5 v6 v7 v8 v9 w = some (zv, zw)) : RR true KX6_sure (some (vI zv), zw) 208 [some (vR 0 0), none, none, none, none, some (vI v5), some (vI v6), some (vI v7), some (vI v8), some (vI v9), none, none, none] [] w := by
  refine r_aload_n dX6_sure_208 rfl rfl ?_
  refine g_getA dX6_sure_209 fl_RX6_17 fk_6_4 rfl (cl_true_0) ?_
  refine r_iconst dX6_sure_212 ic_0 ?_
  refine r_iload dX6_sure_213 rfl ?_
  refine g_iast dX6_sure_215 aK_true_0_5 aL_true_0_5 hf (fun w_1 hf => ?_)
  refine r_aload_n dX6_sure_216 rfl rfl ?_
  refine g_getA dX6_sure_217 fl_RX6_17 fk_6_4 rfl (cl_true_0) ?_
  refine r_iconst dX6_sure_220 ic_1 ?_
  refine r_iload dX6_sure_221 rfl ?_
  refine g_iast dX6_sure_223 aK_true_0_5 aL_true_0_5 hf (fun w_2 hf => ?_)
  refine r_aload_n dX6_sure_224 rfl rfl ?_
  refine g_getA dX6_sure_225 fl_RX6_17 fk_6_4 rfl (cl_true_0) ?_
  refine r_iconst dX6_sure_228 ic_2 ?_
  refine r_iload dX6_sure_229 rfl ?_
  refine g_iast dX6_sure_231 aK_true_0_5 aL_true_0_5 hf (fun w_3 hf => ?_)
  refine r_aload_n dX6_sure_232 rfl rfl ?_
  refine g_getA dX6_sure_233 fl_RX6_17 fk_6_4 rfl (cl_true_0) ?_
  refine r_iconst dX6_sure_236 ic_3 ?_
  refine r_iload dX6_sure_237 rfl ?_
  refine g_iast dX6_sure_239 aK_true_0_5 aL_true_0_5 hf (fun w_4 hf => ?_)
  refine r_iload dX6_sure_240 rfl ?_
  refine g_if_eq (tgt := 249) dX6_sure_242 rfl hf (fun _ hf => ?_) (fun _ hf => ?_)
  · refine r_iconst dX6_sure_249 ic_0 ?_
    exact r_iret dX6_sure_250 rfl (ret_I hf)
  · refine r_iconst dX6_sure_245 ic_1 ?_
    refine r_goto (tgt := 250) dX6_sure_246 rfl ?_
    exact r_iret dX6_sure_250 rfl (ret_I hf)
set_option maxRecDepth 100000 in
set_option maxHeartbeats 4000000 in
theorem ok_mX6_sure_118 {zv : Int32} {zw : AW} {v3 : Int32} {v4 : Int32} {v5 : Int32} {v6 : Int32} {v7 : Int32} {v8 : Int32} : ∀ (n : Nat) (v9 : Int32) (v10 : Int32) (w : AW), mX6_sure_118 v3 v4 v5 v6 v7 v8 n v9 v10 w = some (zv, zw) → RR true KX6_sure (some (vI zv), zw) 118 [some (vR 0 0), none, none, some (vI v3), some (vI v4), some (vI v5), some (vI v6), some (vI v7), some (vI v8), some (vI v9), some (vI v10), none, none] [] w := by
  intro n
  induction n with
  | zero => intro v9 v10 w hf; cases hf
  | succ n ih =>
    intro v9 v10 w hf
    refine r_iload dX6_sure_118 rfl ?_
    refine r_iconst dX6_sure_120 ic_1 ?_
    refine r_iload dX6_sure_121 rfl ?_
    refine r_ishl dX6_sure_123 ?_
    refine g_icmp_ge (tgt := 208) dX6_sure_124 rfl hf (fun _ hf => ?_) (fun _ hf => ?_)
    · refine r_mask (bs := [true, false, false, false, false, true, true, true, true, true, false, false, false]) ?_
      exact ok_mX6_sure_208 hf
    · refine r_iload dX6_sure_127 rfl ?_
      refine g_if_eq (tgt := 208) dX6_sure_129 rfl hf (fun _ hf => ?_) (fun _ hf => ?_)
      · refine r_mask (bs := [true, false, false, false, false, true, true, true, true, true, false, false, false]) ?_
        exact ok_mX6_sure_208 hf
      · refine r_iload dX6_sure_132 rfl ?_
        refine r_istore (ls2 := [some (vR 0 0), none, none, some (vI v3), some (vI v4), some (vI v5), some (vI v6), some (vI v7), some (vI v8), some (vI v9), some (vI v10), some (vI v10), none]) dX6_sure_134 rfl rfl (Nat.le_of_ble_eq_true rfl) ?_
        refine r_iconst dX6_sure_136 ic_0 ?_
        refine r_istore (ls2 := [some (vR 0 0), none, none, some (vI v3), some (vI v4), some (vI v5), some (vI v6), some (vI v7), some (vI v8), some (vI v9), some (vI v10), some (vI v10), some (vI 0)]) dX6_sure_137 rfl rfl (Nat.le_of_ble_eq_true rfl) ?_
        refine r_mask (bs := [true, false, false, true, true, true, true, true, true, false, true, true, true]) ?_
        exact ok_mX6_sure_139 (fun v9 v10 w hf => ih v9 v10 w hf) FU _ _ _ hf
set_option maxRecDepth 100000 in
set_option maxHeartbeats 4000000 in
theorem ok_mX6_sure_37 {zv : Int32} {zw : AW} {v2 : Int32} {v3 : Int32} : ∀ (n : Nat) (v4 : Int32) (v5 : Int32) (w : AW), mX6_sure_37 v2 v3 n v4 v5 w = some (zv, zw) → RR true KX6_sure (some (vI zv), zw) 37 [some (vR 0 0), none, some (vI v2), some (vI v3), some (vI v4), some (vI v5), none, none, none, none, none, none, none] [] w := by
  intro n
  induction n with
  | zero => intro v4 v5 w hf; cases hf
  | succ n ih =>
    intro v4 v5 w hf
    refine r_iload dX6_sure_37 rfl ?_
    refine r_iconst dX6_sure_39 ic_4 ?_
    refine g_icmp_ge (tgt := 65) dX6_sure_40 rfl hf (fun _ hf => ?_) (fun _ hf => ?_)
    · refine r_iload dX6_sure_65 rfl ?_
      refine r_bipush dX6_sure_67 (bp_12) ?_
      refine g_icmp_le (tgt := 75) dX6_sure_69 rfl hf (fun _ hf => ?_) (fun _ hf => ?_)
      · refine r_aload_n dX6_sure_75 rfl rfl ?_
        refine r_iload_n dX6_sure_76 rfl rfl ?_
        obtain ⟨x_2, w_1, hc, hf⟩ := cl_some hf
        refine g_cVv (st := []) KX6_looks [vI v2] dX6_sure_77 e_RX6_234 (cl_true_0) (rfl : vwCl[6]? = _) rfl mok_X6_looks mw_X6_looks ⟨Nat.le_of_ble_eq_true rfl, Nat.le_of_ble_eq_true rfl⟩ (met_X6_looks hc) rfl (Nat.le_of_ble_eq_true rfl) ?_
        clear hc
        refine r_aload_n dX6_sure_80 rfl rfl ?_
        refine g_getA dX6_sure_81 fl_RX6_17 fk_6_4 rfl (cl_true_0) ?_
        refine r_iconst dX6_sure_84 ic_0 ?_
        refine g_iald dX6_sure_85 aK_true_0_5 aL_true_0_5 hf (fun x_3 hf => ?_)
        refine r_istore (ls2 := [some (vR 0 0), none, some (vI v2), some (vI v3), some (vI v4), some (vI x_3), none, none, none, none, none, none, none]) dX6_sure_86 rfl rfl (Nat.le_of_ble_eq_true rfl) ?_
        refine r_aload_n dX6_sure_88 rfl rfl ?_
        refine g_getA dX6_sure_89 fl_RX6_17 fk_6_4 rfl (cl_true_0) ?_
        refine r_iconst dX6_sure_92 ic_1 ?_
        refine g_iald dX6_sure_93 aK_true_0_5 aL_true_0_5 hf (fun x_4 hf => ?_)
        refine r_istore (ls2 := [some (vR 0 0), none, some (vI v2), some (vI v3), some (vI v4), some (vI x_3), some (vI x_4), none, none, none, none, none, none]) dX6_sure_94 rfl rfl (Nat.le_of_ble_eq_true rfl) ?_
        refine r_aload_n dX6_sure_96 rfl rfl ?_
        refine g_getA dX6_sure_97 fl_RX6_17 fk_6_4 rfl (cl_true_0) ?_
        refine r_iconst dX6_sure_100 ic_2 ?_
        refine g_iald dX6_sure_101 aK_true_0_5 aL_true_0_5 hf (fun x_5 hf => ?_)
        refine r_istore (ls2 := [some (vR 0 0), none, some (vI v2), some (vI v3), some (vI v4), some (vI x_3), some (vI x_4), some (vI x_5), none, none, none, none, none]) dX6_sure_102 rfl rfl (Nat.le_of_ble_eq_true rfl) ?_
        refine r_aload_n dX6_sure_104 rfl rfl ?_
        refine g_getA dX6_sure_105 fl_RX6_17 fk_6_4 rfl (cl_true_0) ?_
        refine r_iconst dX6_sure_108 ic_3 ?_
        refine g_iald dX6_sure_109 aK_true_0_5 aL_true_0_5 hf (fun x_6 hf => ?_)
        refine r_istore (ls2 := [some (vR 0 0), none, some (vI v2), some (vI v3), some (vI v4), some (vI x_3), some (vI x_4), some (vI x_5), some (vI x_6), none, none, none, none]) dX6_sure_110 rfl rfl (Nat.le_of_ble_eq_true rfl) ?_
        refine r_iconst dX6_sure_112 ic_1 ?_
        refine r_istore (ls2 := [some (vR 0 0), none, some (vI v2), some (vI v3), some (vI v4), some (vI x_3), some (vI x_4), some (vI x_5), some (vI x_6), some (vI 1), none, none, none]) dX6_sure_113 rfl rfl (Nat.le_of_ble_eq_true rfl) ?_
        refine r_iconst dX6_sure_115 ic_0 ?_
        refine r_istore (ls2 := [some (vR 0 0), none, some (vI v2), some (vI v3), some (vI v4), some (vI x_3), some (vI x_4), some (vI x_5), some (vI x_6), some (vI 1), some (vI 0), none, none]) dX6_sure_116 rfl rfl (Nat.le_of_ble_eq_true rfl) ?_
        refine r_mask (bs := [true, false, false, true, true, true, true, true, true, true, true, false, false]) ?_
        exact ok_mX6_sure_118 FU _ _ _ hf
      · refine r_bipush dX6_sure_72 (bp_m2) ?_
        exact r_iret dX6_sure_74 rfl (ret_I hf)
    · refine r_iload dX6_sure_43 rfl ?_
      refine r_iload_n dX6_sure_45 rfl rfl ?_
      refine r_iload dX6_sure_46 rfl ?_
      refine r_ishr dX6_sure_48 ?_
      refine r_iconst dX6_sure_49 ic_1 ?_
      refine r_iand dX6_sure_50 ?_
      refine r_aload_n dX6_sure_51 rfl rfl ?_
      refine g_getI dX6_sure_52 fl_RX6_7 fk_6_2 (cl_true_0) ?_
      refine r_imul dX6_sure_55 ?_
      refine r_iadd dX6_sure_56 ?_
      refine g_istore (fun v4_7 => [some (vR 0 0), none, some (vI v2), some (vI v3), some (vI v4_7), some (vI v5), none, none, none, none, none, none, none]) dX6_sure_57 rfl (fun _ => rfl) (Nat.le_of_ble_eq_true rfl) hf (fun v4_7 hf => ?_)
      refine g_iinc (fun v5_8 => [some (vR 0 0), none, some (vI v2), some (vI v3), some (vI v4_7), some (vI v5_8), none, none, none, none, none, none, none]) dX6_sure_59 ic_1 rfl rfl (fun _ => rfl) (Nat.le_of_ble_eq_true rfl) hf (fun v5_8 hf => ?_)
      refine r_goto (tgt := 37) dX6_sure_62 rfl ?_
      exact ih _ _ _ hf
set_option maxRecDepth 100000 in
set_option maxHeartbeats 4000000 in
theorem ok_mX6_sure {zv : Int32} {zw : AW} {v1 : Int32} {v2 : Int32} {w : AW} (hf : mX6_sure v1 v2 w = some (zv, zw)) : RR true KX6_sure (some (vI zv), zw) 0 [some (vR 0 0), some (vI v1), some (vI v2), none, none, none, none, none, none, none, none, none, none] [] w := by
  refine r_aload_n dX6_sure_0 rfl rfl ?_
  refine r_iconst dX6_sure_1 ic_0 ?_
  refine g_putI dX6_sure_2 fl_RX6_132 fk_6_0 (cl_true_0) hf (fun w_1 hf => ?_)
  refine r_iload_n dX6_sure_5 rfl rfl ?_
  obtain ⟨x_3, w_2, hc, hf⟩ := cl_some hf
  refine g_cS (st := []) KX6_isSentence [vI v1] dX6_sure_6 e_RX6_195 mok_X6_isSentence mw_X6_isSentence ⟨Nat.le_of_ble_eq_true rfl, Nat.le_of_ble_eq_true rfl⟩ (met_X6_isSentence hc) rfl (Nat.le_of_ble_eq_true rfl) ?_
  clear hc
  refine g_if_eq (tgt := 19) dX6_sure_9 rfl hf (fun _ hf => ?_) (fun _ hf => ?_)
  · refine r_iconst dX6_sure_19 ic_m1 ?_
    exact r_iret dX6_sure_20 rfl (ret_I hf)
  · refine r_iload_n dX6_sure_12 rfl rfl ?_
    obtain ⟨x_5, w_4, hc, hf⟩ := cl_some hf
    refine g_cS (st := []) KX6_isSort [vI v2] dX6_sure_13 e_RX6_151 mok_X6_isSort mw_X6_isSort ⟨Nat.le_of_ble_eq_true rfl, Nat.le_of_ble_eq_true rfl⟩ (met_X6_isSort hc) rfl (Nat.le_of_ble_eq_true rfl) ?_
    clear hc
    refine g_if_ne (tgt := 21) dX6_sure_16 rfl hf (fun _ hf => ?_) (fun _ hf => ?_)
    · refine r_aload_n dX6_sure_21 rfl rfl ?_
      refine r_iload_n dX6_sure_22 rfl rfl ?_
      obtain ⟨x_7, w_6, hc, hf⟩ := cl_some hf
      refine g_cVv (st := []) KX6_works [vI v1] dX6_sure_23 e_RX6_215 (cl_true_0) (rfl : vwCl[6]? = _) rfl mok_X6_works mw_X6_works ⟨Nat.le_of_ble_eq_true rfl, Nat.le_of_ble_eq_true rfl⟩ (met_X6_works hc) rfl (Nat.le_of_ble_eq_true rfl) ?_
      clear hc
      refine r_aload_n dX6_sure_26 rfl rfl ?_
      obtain ⟨x_9, w_8, hc, hf⟩ := cl_some hf
      refine g_cV (st := []) KX6_atomsOf [] dX6_sure_27 e_RX6_218 (cl_true_0) (rfl : vwCl[6]? = _) rfl mok_X6_atomsOf mw_X6_atomsOf ⟨Nat.le_of_ble_eq_true rfl, Nat.le_of_ble_eq_true rfl⟩ (met_X6_atomsOf hc) rfl (Nat.le_of_ble_eq_true rfl) ?_
      clear hc
      refine r_istore_n (ls2 := [some (vR 0 0), some (vI v1), some (vI v2), some (vI x_9), none, none, none, none, none, none, none, none, none]) dX6_sure_30 rfl rfl rfl (Nat.le_of_ble_eq_true rfl) ?_
      refine r_iconst dX6_sure_31 ic_0 ?_
      refine r_istore (ls2 := [some (vR 0 0), some (vI v1), some (vI v2), some (vI x_9), some (vI 0), none, none, none, none, none, none, none, none]) dX6_sure_32 rfl rfl (Nat.le_of_ble_eq_true rfl) ?_
      refine r_iconst dX6_sure_34 ic_0 ?_
      refine r_istore (ls2 := [some (vR 0 0), some (vI v1), some (vI v2), some (vI x_9), some (vI 0), some (vI 0), none, none, none, none, none, none, none]) dX6_sure_35 rfl rfl (Nat.le_of_ble_eq_true rfl) ?_
      refine r_mask (bs := [true, false, true, true, true, true, false, false, false, false, false, false, false]) ?_
      exact ok_mX6_sure_37 FU _ _ _ hf
    · refine r_iconst dX6_sure_19 ic_m1 ?_
      exact r_iret dX6_sure_20 rfl (ret_I hf)
theorem met_X6_sure {zv : Int32} {zw : AW} {v1 : Int32} {v2 : Int32} {w : AW} (hf : mX6_sure v1 v2 w = some (zv, zw)) : am_Met true KX6_sure [vR 0 0, vI v1, vI v2] w (some (vI zv), zw) := am_met mok_X6_sure.1 (Nat.le_of_ble_eq_true rfl) (ok_mX6_sure  hf)
