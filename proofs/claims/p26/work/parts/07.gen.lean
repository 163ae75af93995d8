/-! SeenWorlds$Net.size()I -/
noncomputable def mX0_size (w : AW) : Option (Int32 × AW) :=
  some (w.1 1 0 2, w)
set_option maxRecDepth 100000 in
set_option maxHeartbeats 4000000 in
theorem ok_mX0_size {zv : Int32} {zw : AW} {w : AW} (hf : mX0_size w = some (zv, zw)) : RR false KX0_size (some (vI zv), zw) 0 [some (vR 1 0)] [] w := by
  refine r_aload_n dX0_size_0 rfl rfl ?_
  refine g_getI dX0_size_1 fl_RX0_18 fk_0_2 (cl_false_1) ?_
  exact r_iret dX0_size_4 rfl (ret_I hf)
theorem met_X0_size {zv : Int32} {zw : AW} {w : AW} (hf : mX0_size w = some (zv, zw)) : am_Met false KX0_size [vR 1 0] w (some (vI zv), zw) := am_met mok_X0_size.1 (Nat.le_of_ble_eq_true rfl) (ok_mX0_size  hf)

/-! SeenWorlds$Net.all()I -/
noncomputable def mX0_all (w : AW) : Option (Int32 × AW) :=
  some ((1 <<< ((w.1 1 0 2) &&& 31)) - 1, w)
set_option maxRecDepth 100000 in
set_option maxHeartbeats 4000000 in
theorem ok_mX0_all {zv : Int32} {zw : AW} {w : AW} (hf : mX0_all w = some (zv, zw)) : RR false KX0_all (some (vI zv), zw) 0 [some (vR 1 0)] [] w := by
  refine r_iconst dX0_all_0 ic_1 ?_
  refine r_aload_n dX0_all_1 rfl rfl ?_
  refine g_getI dX0_all_2 fl_RX0_18 fk_0_2 (cl_false_1) ?_
  refine r_ishl dX0_all_5 ?_
  refine r_iconst dX0_all_6 ic_1 ?_
  refine r_isub dX0_all_7 ?_
  exact r_iret dX0_all_8 rfl (ret_I hf)
theorem met_X0_all {zv : Int32} {zw : AW} {w : AW} (hf : mX0_all w = some (zv, zw)) : am_Met false KX0_all [vR 1 0] w (some (vI zv), zw) := am_met mok_X0_all.1 (Nat.le_of_ble_eq_true rfl) (ok_mX0_all  hf)

/-! SeenWorlds$Net.has(I)Z -/
noncomputable def mX0_has (v1 : Int32) (w : AW) : Option (Int32 × AW) :=
  if v1 < 0 then
    some (0, w)
  else
    if (w.1 1 0 2) ≤ v1 then
      some (0, w)
    else
      some (1, w)
set_option maxRecDepth 100000 in
set_option maxHeartbeats 4000000 in
theorem ok_mX0_has {zv : Int32} {zw : AW} {v1 : Int32} {w : AW} (hf : mX0_has v1 w = some (zv, zw)) : RR false KX0_has (some (vI zv), zw) 0 [some (vR 1 0), some (vI v1)] [] w := by
  refine r_iload_n dX0_has_0 rfl rfl ?_
  refine g_if_lt (tgt := 16) dX0_has_1 rfl hf (fun _ hf => ?_) (fun _ hf => ?_)
  · refine r_iconst dX0_has_16 ic_0 ?_
    exact r_zret dX0_has_17 rfl nar_0 (ret_I hf)
  · refine r_iload_n dX0_has_4 rfl rfl ?_
    refine r_aload_n dX0_has_5 rfl rfl ?_
    refine g_getI dX0_has_6 fl_RX0_18 fk_0_2 (cl_false_1) ?_
    refine g_icmp_ge (tgt := 16) dX0_has_9 rfl hf (fun _ hf => ?_) (fun _ hf => ?_)
    · refine r_iconst dX0_has_16 ic_0 ?_
      exact r_zret dX0_has_17 rfl nar_0 (ret_I hf)
    · refine r_iconst dX0_has_12 ic_1 ?_
      refine r_goto (tgt := 17) dX0_has_13 rfl ?_
      exact r_zret dX0_has_17 rfl nar_1 (ret_I hf)
theorem met_X0_has {zv : Int32} {zw : AW} {v1 : Int32} {w : AW} (hf : mX0_has v1 w = some (zv, zw)) : am_Met false KX0_has [vR 1 0, vI v1] w (some (vI zv), zw) := am_met mok_X0_has.1 (Nat.le_of_ble_eq_true rfl) (ok_mX0_has  hf)

/-! SeenWorlds$Net.atoms()[I -/
noncomputable def mX0_atoms (w : AW) : Option (Unit × AW) :=
  some ((), w)
set_option maxRecDepth 100000 in
set_option maxHeartbeats 4000000 in
theorem ok_mX0_atoms {zv : Unit} {zw : AW} {w : AW} (hf : mX0_atoms w = some (zv, zw)) : RR false KX0_atoms (some (vR 1 2), zw) 0 [some (vR 1 0)] [] w := by
  refine r_aload_n dX0_atoms_0 rfl rfl ?_
  refine g_getA dX0_atoms_1 fl_RX0_15 fk_0_1 rfl (cl_false_1) ?_
  exact r_aret (q := some (1, 2)) dX0_atoms_4 rfl (Or.inr ⟨_, rfl⟩) (ret_U hf)
theorem met_X0_atoms {zv : Unit} {zw : AW} {w : AW} (hf : mX0_atoms w = some (zv, zw)) : am_Met false KX0_atoms [vR 1 0] w (some (vR 1 2), zw) := am_met mok_X0_atoms.1 (Nat.le_of_ble_eq_true rfl) (ok_mX0_atoms  hf)

/-! SeenWorlds.put([III)V -/
noncomputable def mX5_put (ro0 ra0 : Nat) (v1 : Int32) (v2 : Int32) (w : AW) : Option (Unit × AW) :=
  if v1 < 0 then
    some ((), w)
  else
    if (Int32.ofNat (am_aL false ro0 ra0)) ≤ v1 then
      some ((), w)
    else
      wr (am_aL false ro0 ra0) w ro0 ra0 v1 v2 fun w_1 =>
      some ((), w_1)
set_option maxRecDepth 100000 in
set_option maxHeartbeats 4000000 in
theorem ok_mX5_put {zv : Unit} {zw : AW} {ro0 ra0 : Nat} {v1 : Int32} {v2 : Int32} (hr0 : am_aK false ro0 ra0 = 2) {w : AW} (hf : mX5_put ro0 ra0 v1 v2 w = some (zv, zw)) : RR false KX5_put (none, zw) 0 [some (vR ro0 ra0), some (vI v1), some (vI v2)] [] w := by
  refine r_iload_n dX5_put_0 rfl rfl ?_
  refine g_if_lt (tgt := 14) dX5_put_1 rfl hf (fun _ hf => ?_) (fun _ hf => ?_)
  · exact r_vret dX5_put_14 rfl (ret_U hf)
  · refine r_iload_n dX5_put_4 rfl rfl ?_
    refine r_aload_n dX5_put_5 rfl rfl ?_
    refine g_alenG dX5_put_6 (am_iaW hr0) ?_
    refine g_icmp_ge (tgt := 14) dX5_put_7 rfl hf (fun _ hf => ?_) (fun _ hf => ?_)
    · exact r_vret dX5_put_14 rfl (ret_U hf)
    · refine r_aload_n dX5_put_10 rfl rfl ?_
      refine r_iload_n dX5_put_11 rfl rfl ?_
      refine r_iload_n dX5_put_12 rfl rfl ?_
      refine g_iast dX5_put_13 hr0 rfl hf (fun w_1 hf => ?_)
      exact r_vret dX5_put_14 rfl (ret_U hf)
theorem met_X5_put {zv : Unit} {zw : AW} {ro0 ra0 : Nat} {v1 : Int32} {v2 : Int32} (hr0 : am_aK false ro0 ra0 = 2) {w : AW} (hf : mX5_put ro0 ra0 v1 v2 w = some (zv, zw)) : am_Met false KX5_put [vR ro0 ra0, vI v1, vI v2] w (none, zw) := am_met mok_X5_put.1 (Nat.le_of_ble_eq_true rfl) (ok_mX5_put hr0 hf)

/-! SeenWorlds$Net.begin(I)V -/
noncomputable def mX0_begin_30 : Nat → Int32 → AW → Option (Unit × AW)
  | 0, _, _ => none
  | n + 1, v2, w =>
    if 4 ≤ v2 then
      some ((), w)
    else
      cl (mX5_put 1 2 v2 0 w) fun x_2 w_1 =>
      nm (v2 + 1) fun v2_3 =>
      mX0_begin_30 n v2_3 w_1
noncomputable def mX0_begin_7 : Nat → Int32 → AW → Option (Unit × AW)
  | 0, _, _ => none
  | n + 1, v2, w =>
    if 8 ≤ v2 then
      mX0_begin_30 FU 0 w
    else
      cl (mX5_put 1 1 v2 0 w) fun x_2 w_1 =>
      nm (v2 + 1) fun v2_3 =>
      mX0_begin_7 n v2_3 w_1
noncomputable def mX0_begin (v1 : Int32) (w : AW) : Option (Unit × AW) :=
  pu w 1 2 v1 fun w_1 =>
  mX0_begin_7 FU 0 w_1
set_option maxRecDepth 100000 in
set_option maxHeartbeats 4000000 in
theorem ok_mX0_begin_30 {zv : Unit} {zw : AW} : ∀ (n : Nat) (v2 : Int32) (w : AW), mX0_begin_30 n v2 w = some (zv, zw) → RR false KX0_begin (none, zw) 30 [some (vR 1 0), none, some (vI v2)] [] w := by
  intro n
  induction n with
  | zero => intro v2 w hf; cases hf
  | succ n ih =>
    intro v2 w hf
    refine r_iload_n dX0_begin_30 rfl rfl ?_
    refine r_iconst dX0_begin_31 ic_4 ?_
    refine g_icmp_ge (tgt := 50) dX0_begin_32 rfl hf (fun _ hf => ?_) (fun _ hf => ?_)
    · exact r_vret dX0_begin_50 rfl (ret_U hf)
    · refine r_aload_n dX0_begin_35 rfl rfl ?_
      refine g_getA dX0_begin_36 fl_RX0_15 fk_0_1 rfl (cl_false_1) ?_
      refine r_iload_n dX0_begin_39 rfl rfl ?_
      refine r_iconst dX0_begin_40 ic_0 ?_
      obtain ⟨x_2, w_1, hc, hf⟩ := cl_some hf
      refine g_cNv (st := []) KX5_put [vR 1 2, vI v2, vI 0] dX0_begin_41 e_RX0_22 mok_X5_put mw_X5_put ⟨Nat.le_of_ble_eq_true rfl, Nat.le_of_ble_eq_true rfl⟩ (met_X5_put aK_false_1_2 hc) rfl (Nat.le_of_ble_eq_true rfl) ?_
      clear hc
      refine g_iinc (fun v2_3 => [some (vR 1 0), none, some (vI v2_3)]) dX0_begin_44 ic_1 rfl rfl (fun _ => rfl) (Nat.le_of_ble_eq_true rfl) hf (fun v2_3 hf => ?_)
      refine r_goto (tgt := 30) dX0_begin_47 rfl ?_
      exact ih _ _ hf
set_option maxRecDepth 100000 in
set_option maxHeartbeats 4000000 in
theorem ok_mX0_begin_7 {zv : Unit} {zw : AW} : ∀ (n : Nat) (v2 : Int32) (w : AW), mX0_begin_7 n v2 w = some (zv, zw) → RR false KX0_begin (none, zw) 7 [some (vR 1 0), none, some (vI v2)] [] w := by
  intro n
  induction n with
  | zero => intro v2 w hf; cases hf
  | succ n ih =>
    intro v2 w hf
    refine r_iload_n dX0_begin_7 rfl rfl ?_
    refine r_bipush dX0_begin_8 (bp_8) ?_
    refine g_icmp_ge (tgt := 28) dX0_begin_10 rfl hf (fun _ hf => ?_) (fun _ hf => ?_)
    · refine r_iconst dX0_begin_28 ic_0 ?_
      refine r_istore_n (ls2 := [some (vR 1 0), none, some (vI 0)]) dX0_begin_29 rfl rfl rfl (Nat.le_of_ble_eq_true rfl) ?_
      exact ok_mX0_begin_30 FU _ _ hf
    · refine r_aload_n dX0_begin_13 rfl rfl ?_
      refine g_getA dX0_begin_14 fl_RX0_9 fk_0_0 rfl (cl_false_1) ?_
      refine r_iload_n dX0_begin_17 rfl rfl ?_
      refine r_iconst dX0_begin_18 ic_0 ?_
      obtain ⟨x_2, w_1, hc, hf⟩ := cl_some hf
      refine g_cNv (st := []) KX5_put [vR 1 1, vI v2, vI 0] dX0_begin_19 e_RX0_22 mok_X5_put mw_X5_put ⟨Nat.le_of_ble_eq_true rfl, Nat.le_of_ble_eq_true rfl⟩ (met_X5_put aK_false_1_1 hc) rfl (Nat.le_of_ble_eq_true rfl) ?_
      clear hc
      refine g_iinc (fun v2_3 => [some (vR 1 0), none, some (vI v2_3)]) dX0_begin_22 ic_1 rfl rfl (fun _ => rfl) (Nat.le_of_ble_eq_true rfl) hf (fun v2_3 hf => ?_)
      refine r_goto (tgt := 7) dX0_begin_25 rfl ?_
      exact ih _ _ hf
set_option maxRecDepth 100000 in
set_option maxHeartbeats 4000000 in
theorem ok_mX0_begin {zv : Unit} {zw : AW} {v1 : Int32} {w : AW} (hf : mX0_begin v1 w = some (zv, zw)) : RR false KX0_begin (none, zw) 0 [some (vR 1 0), some (vI v1), none] [] w := by
  refine r_aload_n dX0_begin_0 rfl rfl ?_
  refine r_iload_n dX0_begin_1 rfl rfl ?_
  refine g_putI dX0_begin_2 fl_RX0_18 fk_0_2 (cl_false_1) hf (fun w_1 hf => ?_)
  refine r_iconst dX0_begin_5 ic_0 ?_
  refine r_istore_n (ls2 := [some (vR 1 0), some (vI v1), some (vI 0)]) dX0_begin_6 rfl rfl rfl (Nat.le_of_ble_eq_true rfl) ?_
  refine r_mask (bs := [true, false, true]) ?_
  exact ok_mX0_begin_7 FU _ _ hf
theorem met_X0_begin {zv : Unit} {zw : AW} {v1 : Int32} {w : AW} (hf : mX0_begin v1 w = some (zv, zw)) : am_Met false KX0_begin [vR 1 0, vI v1] w (none, zw) := am_met mok_X0_begin.1 (Nat.le_of_ble_eq_true rfl) (ok_mX0_begin  hf)

/-! SeenWorlds.at([II)I -/
noncomputable def mX5_at (ro0 ra0 : Nat) (v1 : Int32) (w : AW) : Option (Int32 × AW) :=
  if v1 < 0 then
    some (0, w)
  else
    if (Int32.ofNat (am_aL false ro0 ra0)) ≤ v1 then
      some (0, w)
    else
      rd (am_aL false ro0 ra0) (w.1 ro0 ra0) v1 fun x_1 =>
      some (x_1, w)
set_option maxRecDepth 100000 in
set_option maxHeartbeats 4000000 in
theorem ok_mX5_at {zv : Int32} {zw : AW} {ro0 ra0 : Nat} {v1 : Int32} (hr0 : am_ia false ro0 ra0) {w : AW} (hf : mX5_at ro0 ra0 v1 w = some (zv, zw)) : RR false KX5_at (some (vI zv), zw) 0 [some (vR ro0 ra0), some (vI v1)] [] w := by
  refine r_iload_n dX5_at_0 rfl rfl ?_
  refine g_if_lt (tgt := 16) dX5_at_1 rfl hf (fun _ hf => ?_) (fun _ hf => ?_)
  · refine r_iconst dX5_at_16 ic_0 ?_
    exact r_iret dX5_at_17 rfl (ret_I hf)
  · refine r_iload_n dX5_at_4 rfl rfl ?_
    refine r_aload_n dX5_at_5 rfl rfl ?_
    refine g_alenG dX5_at_6 hr0 ?_
    refine g_icmp_ge (tgt := 16) dX5_at_7 rfl hf (fun _ hf => ?_) (fun _ hf => ?_)
    · refine r_iconst dX5_at_16 ic_0 ?_
      exact r_iret dX5_at_17 rfl (ret_I hf)
    · refine r_aload_n dX5_at_10 rfl rfl ?_
      refine r_iload_n dX5_at_11 rfl rfl ?_
      refine g_ialdG dX5_at_12 hr0 rfl hf (fun x_1 hf => ?_)
      refine r_goto (tgt := 17) dX5_at_13 rfl ?_
      exact r_iret dX5_at_17 rfl (ret_I hf)
theorem met_X5_at {zv : Int32} {zw : AW} {ro0 ra0 : Nat} {v1 : Int32} (hr0 : am_ia false ro0 ra0) {w : AW} (hf : mX5_at ro0 ra0 v1 w = some (zv, zw)) : am_Met false KX5_at [vR ro0 ra0, vI v1] w (some (vI zv), zw) := am_met mok_X5_at.1 (Nat.le_of_ble_eq_true rfl) (ok_mX5_at hr0 hf)

/-! SeenWorlds$Net.let(III)V -/
noncomputable def mX0_let (v1 : Int32) (v2 : Int32) (v3 : Int32) (w : AW) : Option (Unit × AW) :=
  cl (mX5_at 1 1 v1 w) fun x_2 w_1 =>
  cl (mX5_put 1 1 v1 ((x_2 &&& ((1 <<< (v2 &&& 31)) ^^^ (-1))) ||| (v3 <<< (v2 &&& 31))) w_1) fun x_4 w_3 =>
  some ((), w_3)
set_option maxRecDepth 100000 in
set_option maxHeartbeats 4000000 in
theorem ok_mX0_let {zv : Unit} {zw : AW} {v1 : Int32} {v2 : Int32} {v3 : Int32} {w : AW} (hf : mX0_let v1 v2 v3 w = some (zv, zw)) : RR false KX0_let (none, zw) 0 [some (vR 1 0), some (vI v1), some (vI v2), some (vI v3)] [] w := by
  refine r_aload_n dX0_let_0 rfl rfl ?_
  refine g_getA dX0_let_1 fl_RX0_9 fk_0_0 rfl (cl_false_1) ?_
  refine r_iload_n dX0_let_4 rfl rfl ?_
  refine r_aload_n dX0_let_5 rfl rfl ?_
  refine g_getA dX0_let_6 fl_RX0_9 fk_0_0 rfl (cl_false_1) ?_
  refine r_iload_n dX0_let_9 rfl rfl ?_
  obtain ⟨x_2, w_1, hc, hf⟩ := cl_some hf
  refine g_cN (st := [vI v1, vR 1 1]) KX5_at [vR 1 1, vI v1] dX0_let_10 e_RX0_26 mok_X5_at mw_X5_at ⟨Nat.le_of_ble_eq_true rfl, Nat.le_of_ble_eq_true rfl⟩ (met_X5_at (am_iaW aK_false_1_1) hc) rfl (Nat.le_of_ble_eq_true rfl) ?_
  clear hc
  refine r_iconst dX0_let_13 ic_1 ?_
  refine r_iload_n dX0_let_14 rfl rfl ?_
  refine r_ishl dX0_let_15 ?_
  refine r_iconst dX0_let_16 ic_m1 ?_
  refine r_ixor dX0_let_17 ?_
  refine r_iand dX0_let_18 ?_
  refine r_iload_n dX0_let_19 rfl rfl ?_
  refine r_iload_n dX0_let_20 rfl rfl ?_
  refine r_ishl dX0_let_21 ?_
  refine r_ior dX0_let_22 ?_
  obtain ⟨x_4, w_3, hc, hf⟩ := cl_some hf
  refine g_cNv (st := []) KX5_put [vR 1 1, vI v1, vI ((x_2 &&& ((1 <<< (v2 &&& 31)) ^^^ (-1))) ||| (v3 <<< (v2 &&& 31)))] dX0_let_23 e_RX0_22 mok_X5_put mw_X5_put ⟨Nat.le_of_ble_eq_true rfl, Nat.le_of_ble_eq_true rfl⟩ (met_X5_put aK_false_1_1 hc) rfl (Nat.le_of_ble_eq_true rfl) ?_
  clear hc
  exact r_vret dX0_let_26 rfl (ret_U hf)
theorem met_X0_let {zv : Unit} {zw : AW} {v1 : Int32} {v2 : Int32} {v3 : Int32} {w : AW} (hf : mX0_let v1 v2 v3 w = some (zv, zw)) : am_Met false KX0_let [vR 1 0, vI v1, vI v2, vI v3] w (none, zw) := am_met mok_X0_let.1 (Nat.le_of_ble_eq_true rfl) (ok_mX0_let  hf)

/-! java/lang/Integer.bitCount(I)I -/
noncomputable def mJ6_bitCount_0f7a4 (v0 : Int32) (w : AW) : Option (Int32 × AW) :=
  nm (v0 - (((v0.toUInt32 >>> ((1 : Int32).toUInt32 &&& Int32.toUInt32 31)).toInt32) &&& (1431655765 : Int32))) fun v0_1 =>
  nm ((v0_1 &&& (858993459 : Int32)) + (((v0_1.toUInt32 >>> ((2 : Int32).toUInt32 &&& Int32.toUInt32 31)).toInt32) &&& (858993459 : Int32))) fun v0_2 =>
  nm ((v0_2 + ((v0_2.toUInt32 >>> ((4 : Int32).toUInt32 &&& Int32.toUInt32 31)).toInt32)) &&& (252645135 : Int32)) fun v0_3 =>
  nm (v0_3 + ((v0_3.toUInt32 >>> ((8 : Int32).toUInt32 &&& Int32.toUInt32 31)).toInt32)) fun v0_4 =>
  nm (v0_4 + ((v0_4.toUInt32 >>> ((16 : Int32).toUInt32 &&& Int32.toUInt32 31)).toInt32)) fun v0_5 =>
  some (v0_5 &&& 63, w)
set_option maxRecDepth 100000 in
set_option maxHeartbeats 4000000 in
theorem ok_mJ6_bitCount_0f7a4 {zv : Int32} {zw : AW} {v0 : Int32} {w : AW} (hf : mJ6_bitCount_0f7a4 v0 w = some (zv, zw)) : RR false KJ6_bitCount_0f7a4 (some (vI zv), zw) 0 [some (vI v0)] [] w := by
  refine r_iload_n dJ6_bitCount_0f7a4_0 rfl rfl ?_
  refine r_iload_n dJ6_bitCount_0f7a4_1 rfl rfl ?_
  refine r_iconst dJ6_bitCount_0f7a4_2 ic_1 ?_
  refine r_iushr dJ6_bitCount_0f7a4_3 ?_
  refine r_ldcw (x := 1431655765) dJ6_bitCount_0f7a4_4 (am_mem (i := 363) rfl rfl) ?_
  refine r_iand dJ6_bitCount_0f7a4_7 ?_
  refine r_isub dJ6_bitCount_0f7a4_8 ?_
  refine g_istore_n (fun v0_1 => [some (vI v0_1)]) dJ6_bitCount_0f7a4_9 rfl rfl (fun _ => rfl) (Nat.le_of_ble_eq_true rfl) hf (fun v0_1 hf => ?_)
  refine r_iload_n dJ6_bitCount_0f7a4_10 rfl rfl ?_
  refine r_ldcw (x := 858993459) dJ6_bitCount_0f7a4_11 (am_mem (i := 364) rfl rfl) ?_
  refine r_iand dJ6_bitCount_0f7a4_14 ?_
  refine r_iload_n dJ6_bitCount_0f7a4_15 rfl rfl ?_
  refine r_iconst dJ6_bitCount_0f7a4_16 ic_2 ?_
  refine r_iushr dJ6_bitCount_0f7a4_17 ?_
  refine r_ldcw (x := 858993459) dJ6_bitCount_0f7a4_18 (am_mem (i := 364) rfl rfl) ?_
  refine r_iand dJ6_bitCount_0f7a4_21 ?_
  refine r_iadd dJ6_bitCount_0f7a4_22 ?_
  refine g_istore_n (fun v0_2 => [some (vI v0_2)]) dJ6_bitCount_0f7a4_23 rfl rfl (fun _ => rfl) (Nat.le_of_ble_eq_true rfl) hf (fun v0_2 hf => ?_)
  refine r_iload_n dJ6_bitCount_0f7a4_24 rfl rfl ?_
  refine r_iload_n dJ6_bitCount_0f7a4_25 rfl rfl ?_
  refine r_iconst dJ6_bitCount_0f7a4_26 ic_4 ?_
  refine r_iushr dJ6_bitCount_0f7a4_27 ?_
  refine r_iadd dJ6_bitCount_0f7a4_28 ?_
  refine r_ldcw (x := 252645135) dJ6_bitCount_0f7a4_29 (am_mem (i := 365) rfl rfl) ?_
  refine r_iand dJ6_bitCount_0f7a4_32 ?_
  refine g_istore_n (fun v0_3 => [some (vI v0_3)]) dJ6_bitCount_0f7a4_33 rfl rfl (fun _ => rfl) (Nat.le_of_ble_eq_true rfl) hf (fun v0_3 hf => ?_)
  refine r_iload_n dJ6_bitCount_0f7a4_34 rfl rfl ?_
  refine r_iload_n dJ6_bitCount_0f7a4_35 rfl rfl ?_
  refine r_bipush dJ6_bitCount_0f7a4_36 (bp_8) ?_
  refine r_iushr dJ6_bitCount_0f7a4_38 ?_
  refine r_iadd dJ6_bitCount_0f7a4_39 ?_
  refine g_istore_n (fun v0_4 => [some (vI v0_4)]) dJ6_bitCount_0f7a4_40 rfl rfl (fun _ => rfl) (Nat.le_of_ble_eq_true rfl) hf (fun v0_4 hf => ?_)
  refine r_iload_n dJ6_bitCount_0f7a4_41 rfl rfl ?_
  refine r_iload_n dJ6_bitCount_0f7a4_42 rfl rfl ?_
  refine r_bipush dJ6_bitCount_0f7a4_43 (bp_16) ?_
  refine r_iushr dJ6_bitCount_0f7a4_45 ?_
  refine r_iadd dJ6_bitCount_0f7a4_46 ?_
  refine g_istore_n (fun v0_5 => [some (vI v0_5)]) dJ6_bitCount_0f7a4_47 rfl rfl (fun _ => rfl) (Nat.le_of_ble_eq_true rfl) hf (fun v0_5 hf => ?_)
  refine r_iload_n dJ6_bitCount_0f7a4_48 rfl rfl ?_
  refine r_bipush dJ6_bitCount_0f7a4_49 (bp_63) ?_
  refine r_iand dJ6_bitCount_0f7a4_51 ?_
  exact r_iret dJ6_bitCount_0f7a4_52 rfl (ret_I hf)
theorem met_J6_bitCount_0f7a4 {zv : Int32} {zw : AW} {v0 : Int32} {w : AW} (hf : mJ6_bitCount_0f7a4 v0 w = some (zv, zw)) : am_Met false KJ6_bitCount_0f7a4 [vI v0] w (some (vI zv), zw) := am_met mok_J6_bitCount_0f7a4.1 (Nat.le_of_ble_eq_true rfl) (ok_mJ6_bitCount_0f7a4  hf)

/-! SeenWorlds$Net.pairs()I -/
noncomputable def mX0_pairs_4 : Nat → Int32 → Int32 → AW → Option (Int32 × AW)
  | 0, _, _, _ => none
  | n + 1, v1, v2, w =>
    if (w.1 1 0 2) ≤ v2 then
      some (v1, w)
    else
      cl (mX5_at 1 1 v2 w) fun x_2 w_1 =>
      cl (mJ6_bitCount_0f7a4 x_2 w_1) fun x_4 w_3 =>
      nm (v1 + x_4) fun v1_5 =>
      nm (v2 + 1) fun v2_6 =>
      mX0_pairs_4 n v1_5 v2_6 w_3
noncomputable def mX0_pairs (w : AW) : Option (Int32 × AW) :=
  mX0_pairs_4 FU 0 0 w
set_option maxRecDepth 100000 in
set_option maxHeartbeats 4000000 in
theorem ok_mX0_pairs_4 {zv : Int32} {zw : AW} : ∀ (n : Nat) (v1 : Int32) (v2 : Int32) (w : AW), mX0_pairs_4 n v1 v2 w = some (zv, zw) → RR false KX0_pairs (some (vI zv), zw) 4 [some (vR 1 0), some (vI v1), some (vI v2)] [] w := by
  intro n
  induction n with
  | zero => intro v1 v2 w hf; cases hf
  | succ n ih =>
    intro v1 v2 w hf
    refine r_iload_n dX0_pairs_4 rfl rfl ?_
    refine r_aload_n dX0_pairs_5 rfl rfl ?_
    refine g_getI dX0_pairs_6 fl_RX0_18 fk_0_2 (cl_false_1) ?_
    refine g_icmp_ge (tgt := 32) dX0_pairs_9 rfl hf (fun _ hf => ?_) (fun _ hf => ?_)
    · refine r_iload_n dX0_pairs_32 rfl rfl ?_
      exact r_iret dX0_pairs_33 rfl (ret_I hf)
    · refine r_iload_n dX0_pairs_12 rfl rfl ?_
      refine r_aload_n dX0_pairs_13 rfl rfl ?_
      refine g_getA dX0_pairs_14 fl_RX0_9 fk_0_0 rfl (cl_false_1) ?_
      refine r_iload_n dX0_pairs_17 rfl rfl ?_
      obtain ⟨x_2, w_1, hc, hf⟩ := cl_some hf
      refine g_cN (st := [vI v1]) KX5_at [vR 1 1, vI v2] dX0_pairs_18 e_RX0_26 mok_X5_at mw_X5_at ⟨Nat.le_of_ble_eq_true rfl, Nat.le_of_ble_eq_true rfl⟩ (met_X5_at (am_iaW aK_false_1_1) hc) rfl (Nat.le_of_ble_eq_true rfl) ?_
      clear hc
      obtain ⟨x_4, w_3, hc, hf⟩ := cl_some hf
      refine g_cS (st := [vI v1]) KJ6_bitCount_0f7a4 [vI x_2] dX0_pairs_21 e_RX0_30 mok_J6_bitCount_0f7a4 mw_J6_bitCount_0f7a4 ⟨Nat.le_of_ble_eq_true rfl, Nat.le_of_ble_eq_true rfl⟩ (met_J6_bitCount_0f7a4 hc) rfl (Nat.le_of_ble_eq_true rfl) ?_
      clear hc
      refine r_iadd dX0_pairs_24 ?_
      refine g_istore_n (fun v1_5 => [some (vR 1 0), some (vI v1_5), some (vI v2)]) dX0_pairs_25 rfl rfl (fun _ => rfl) (Nat.le_of_ble_eq_true rfl) hf (fun v1_5 hf => ?_)
      refine g_iinc (fun v2_6 => [some (vR 1 0), some (vI v1_5), some (vI v2_6)]) dX0_pairs_26 ic_1 rfl rfl (fun _ => rfl) (Nat.le_of_ble_eq_true rfl) hf (fun v2_6 hf => ?_)
      refine r_goto (tgt := 4) dX0_pairs_29 rfl ?_
      exact ih _ _ _ hf
set_option maxRecDepth 100000 in
set_option maxHeartbeats 4000000 in
theorem ok_mX0_pairs {zv : Int32} {zw : AW} {w : AW} (hf : mX0_pairs w = some (zv, zw)) : RR false KX0_pairs (some (vI zv), zw) 0 [some (vR 1 0), none, none] [] w := by
  refine r_iconst dX0_pairs_0 ic_0 ?_
  refine r_istore_n (ls2 := [some (vR 1 0), some (vI 0), none]) dX0_pairs_1 rfl rfl rfl (Nat.le_of_ble_eq_true rfl) ?_
  refine r_iconst dX0_pairs_2 ic_0 ?_
  refine r_istore_n (ls2 := [some (vR 1 0), some (vI 0), some (vI 0)]) dX0_pairs_3 rfl rfl rfl (Nat.le_of_ble_eq_true rfl) ?_
  exact ok_mX0_pairs_4 FU _ _ _ hf
theorem met_X0_pairs {zv : Int32} {zw : AW} {w : AW} (hf : mX0_pairs w = some (zv, zw)) : am_Met false KX0_pairs [vR 1 0] w (some (vI zv), zw) := am_met mok_X0_pairs.1 (Nat.le_of_ble_eq_true rfl) (ok_mX0_pairs  hf)

/-! SeenWorlds.bit(II)I -/
noncomputable def mX5_bit (v0 : Int32) (v1 : Int32) (w : AW) : Option (Int32 × AW) :=
  some (((v0.toUInt32 >>> (v1.toUInt32 &&& Int32.toUInt32 31)).toInt32) &&& 1, w)
set_option maxRecDepth 100000 in
set_option maxHeartbeats 4000000 in
theorem ok_mX5_bit {zv : Int32} {zw : AW} {v0 : Int32} {v1 : Int32} {w : AW} (hf : mX5_bit v0 v1 w = some (zv, zw)) : RR false KX5_bit (some (vI zv), zw) 0 [some (vI v0), some (vI v1)] [] w := by
  refine r_iload_n dX5_bit_0 rfl rfl ?_
  refine r_iload_n dX5_bit_1 rfl rfl ?_
  refine r_iushr dX5_bit_2 ?_
  refine r_iconst dX5_bit_3 ic_1 ?_
  refine r_iand dX5_bit_4 ?_
  exact r_iret dX5_bit_5 rfl (ret_I hf)
theorem met_X5_bit {zv : Int32} {zw : AW} {v0 : Int32} {v1 : Int32} {w : AW} (hf : mX5_bit v0 v1 w = some (zv, zw)) : am_Met false KX5_bit [vI v0, vI v1] w (some (vI zv), zw) := am_met mok_X5_bit.1 (Nat.le_of_ble_eq_true rfl) (ok_mX5_bit  hf)

/-! SeenWorlds$Net.stepFrom(I)I -/
noncomputable def mX0_stepFrom_32 (k4 : Int32 → Int32 → AW → Option (Int32 × AW)) (v1 : Int32) (v2 : Int32) (v3 : Int32) (w : AW) : Option (Int32 × AW) :=
  nm (v3 + 1) fun v3_1 =>
  k4 v2 v3_1 w
noncomputable def mX0_stepFrom_4 (v1 : Int32) : Nat → Int32 → Int32 → AW → Option (Int32 × AW)
  | 0, _, _, _ => none
  | n + 1, v2, v3, w =>
    if (w.1 1 0 2) ≤ v3 then
      some (v2, w)
    else
      cl (mX5_bit v1 v3 w) fun x_2 w_1 =>
      if x_2 ≠ 1 then
        mX0_stepFrom_32 (mX0_stepFrom_4 v1 n) v1 v2 v3 w_1
      else
        cl (mX5_at 1 1 v3 w_1) fun x_4 w_3 =>
        nm (v2 ||| x_4) fun v2_5 =>
        mX0_stepFrom_32 (mX0_stepFrom_4 v1 n) v1 v2_5 v3 w_3
noncomputable def mX0_stepFrom (v1 : Int32) (w : AW) : Option (Int32 × AW) :=
  mX0_stepFrom_4 v1 FU 0 0 w
set_option maxRecDepth 100000 in
set_option maxHeartbeats 4000000 in
theorem ok_mX0_stepFrom_32 {zv : Int32} {zw : AW} {k4 : Int32 → Int32 → AW → Option (Int32 × AW)} {v1 : Int32} {v2 : Int32} {v3 : Int32} (hk4 : ∀ (v2 : Int32) (v3 : Int32)  w, k4 v2 v3 w = some (zv, zw) → RR false KX0_stepFrom (some (vI zv), zw) 4 [some (vR 1 0), some (vI v1), some (vI v2), some (vI v3)] [] w) {w : AW} (hf : mX0_stepFrom_32 k4 v1 v2 v3 w = some (zv, zw)) : RR false KX0_stepFrom (some (vI zv), zw) 32 [some (vR 1 0), some (vI v1), some (vI v2), some (vI v3)] [] w := by
  refine g_iinc (fun v3_1 => [some (vR 1 0), some (vI v1), some (vI v2), some (vI v3_1)]) dX0_stepFrom_32 ic_1 rfl rfl (fun _ => rfl) (Nat.le_of_ble_eq_true rfl) hf (fun v3_1 hf => ?_)
  refine r_goto (tgt := 4) dX0_stepFrom_35 rfl ?_
  exact hk4 _ _ _ hf
set_option maxRecDepth 100000 in
set_option maxHeartbeats 4000000 in
theorem ok_mX0_stepFrom_4 {zv : Int32} {zw : AW} {v1 : Int32} : ∀ (n : Nat) (v2 : Int32) (v3 : Int32) (w : AW), mX0_stepFrom_4 v1 n v2 v3 w = some (zv, zw) → RR false KX0_stepFrom (some (vI zv), zw) 4 [some (vR 1 0), some (vI v1), some (vI v2), some (vI v3)] [] w := by
  intro n
  induction n with
  | zero => intro v2 v3 w hf; cases hf
  | succ n ih =>
    intro v2 v3 w hf
    refine r_iload_n dX0_stepFrom_4 rfl rfl ?_
    refine r_aload_n dX0_stepFrom_5 rfl rfl ?_
    refine g_getI dX0_stepFrom_6 fl_RX0_18 fk_0_2 (cl_false_1) ?_
    refine g_icmp_ge (tgt := 38) dX0_stepFrom_9 rfl hf (fun _ hf => ?_) (fun _ hf => ?_)
    · refine r_iload_n dX0_stepFrom_38 rfl rfl ?_
      exact r_iret dX0_stepFrom_39 rfl (ret_I hf)
    · refine r_iload_n dX0_stepFrom_12 rfl rfl ?_
      refine r_iload_n dX0_stepFrom_13 rfl rfl ?_
      obtain ⟨x_2, w_1, hc, hf⟩ := cl_some hf
      refine g_cN (st := []) KX5_bit [vI v1, vI v3] dX0_stepFrom_14 e_RX0_42 mok_X5_bit mw_X5_bit ⟨Nat.le_of_ble_eq_true rfl, Nat.le_of_ble_eq_true rfl⟩ (met_X5_bit hc) rfl (Nat.le_of_ble_eq_true rfl) ?_
      clear hc
      refine r_iconst dX0_stepFrom_17 ic_1 ?_
      refine g_icmp_ne (tgt := 32) dX0_stepFrom_18 rfl hf (fun _ hf => ?_) (fun _ hf => ?_)
      · exact ok_mX0_stepFrom_32 (fun v2 v3 w hf => ih v2 v3 w hf) hf
      · refine r_iload_n dX0_stepFrom_21 rfl rfl ?_
        refine r_aload_n dX0_stepFrom_22 rfl rfl ?_
        refine g_getA dX0_stepFrom_23 fl_RX0_9 fk_0_0 rfl (cl_false_1) ?_
        refine r_iload_n dX0_stepFrom_26 rfl rfl ?_
        obtain ⟨x_4, w_3, hc, hf⟩ := cl_some hf
        refine g_cN (st := [vI v2]) KX5_at [vR 1 1, vI v3] dX0_stepFrom_27 e_RX0_26 mok_X5_at mw_X5_at ⟨Nat.le_of_ble_eq_true rfl, Nat.le_of_ble_eq_true rfl⟩ (met_X5_at (am_iaW aK_false_1_1) hc) rfl (Nat.le_of_ble_eq_true rfl) ?_
        clear hc
        refine r_ior dX0_stepFrom_30 ?_
        refine g_istore_n (fun v2_5 => [some (vR 1 0), some (vI v1), some (vI v2_5), some (vI v3)]) dX0_stepFrom_31 rfl rfl (fun _ => rfl) (Nat.le_of_ble_eq_true rfl) hf (fun v2_5 hf => ?_)
        exact ok_mX0_stepFrom_32 (fun v2 v3 w hf => ih v2 v3 w hf) hf
set_option maxRecDepth 100000 in
set_option maxHeartbeats 4000000 in
theorem ok_mX0_stepFrom {zv : Int32} {zw : AW} {v1 : Int32} {w : AW} (hf : mX0_stepFrom v1 w = some (zv, zw)) : RR false KX0_stepFrom (some (vI zv), zw) 0 [some (vR 1 0), some (vI v1), none, none] [] w := by
  refine r_iconst dX0_stepFrom_0 ic_0 ?_
  refine r_istore_n (ls2 := [some (vR 1 0), some (vI v1), some (vI 0), none]) dX0_stepFrom_1 rfl rfl rfl (Nat.le_of_ble_eq_true rfl) ?_
  refine r_iconst dX0_stepFrom_2 ic_0 ?_
  refine r_istore_n (ls2 := [some (vR 1 0), some (vI v1), some (vI 0), some (vI 0)]) dX0_stepFrom_3 rfl rfl rfl (Nat.le_of_ble_eq_true rfl) ?_
  exact ok_mX0_stepFrom_4 FU _ _ _ hf
theorem met_X0_stepFrom {zv : Int32} {zw : AW} {v1 : Int32} {w : AW} (hf : mX0_stepFrom v1 w = some (zv, zw)) : am_Met false KX0_stepFrom [vR 1 0, vI v1] w (some (vI zv), zw) := am_met mok_X0_stepFrom.1 (Nat.le_of_ble_eq_true rfl) (ok_mX0_stepFrom  hf)

/-! SeenWorlds$Net.farFrom(I)I -/
noncomputable def mX0_farFrom_4 : Nat → Int32 → Int32 → AW → Option (Int32 × AW)
  | 0, _, _, _ => none
  | n + 1, v2, v3, w =>
    if (w.1 1 0 2) ≤ v3 then
      some (v2, w)
    else
      cl (mX0_stepFrom v2 w) fun x_2 w_1 =>
      nm (v2 ||| x_2) fun v2_3 =>
      nm (v3 + 1) fun v3_4 =>
      mX0_farFrom_4 n v2_3 v3_4 w_1
noncomputable def mX0_farFrom (v1 : Int32) (w : AW) : Option (Int32 × AW) :=
  mX0_farFrom_4 FU v1 0 w
set_option maxRecDepth 100000 in
set_option maxHeartbeats 4000000 in
theorem ok_mX0_farFrom_4 {zv : Int32} {zw : AW} : ∀ (n : Nat) (v2 : Int32) (v3 : Int32) (w : AW), mX0_farFrom_4 n v2 v3 w = some (zv, zw) → RR false KX0_farFrom (some (vI zv), zw) 4 [some (vR 1 0), none, some (vI v2), some (vI v3)] [] w := by
  intro n
  induction n with
  | zero => intro v2 v3 w hf; cases hf
  | succ n ih =>
    intro v2 v3 w hf
    refine r_iload_n dX0_farFrom_4 rfl rfl ?_
    refine r_aload_n dX0_farFrom_5 rfl rfl ?_
    refine g_getI dX0_farFrom_6 fl_RX0_18 fk_0_2 (cl_false_1) ?_
    refine g_icmp_ge (tgt := 26) dX0_farFrom_9 rfl hf (fun _ hf => ?_) (fun _ hf => ?_)
    · refine r_iload_n dX0_farFrom_26 rfl rfl ?_
      exact r_iret dX0_farFrom_27 rfl (ret_I hf)
    · refine r_iload_n dX0_farFrom_12 rfl rfl ?_
      refine r_aload_n dX0_farFrom_13 rfl rfl ?_
      refine r_iload_n dX0_farFrom_14 rfl rfl ?_
      obtain ⟨x_2, w_1, hc, hf⟩ := cl_some hf
      refine g_cV (st := [vI v2]) KX0_stepFrom [vI v2] dX0_farFrom_15 e_RX0_46 (cl_false_1) (rfl : vwCl[0]? = _) rfl mok_X0_stepFrom mw_X0_stepFrom ⟨Nat.le_of_ble_eq_true rfl, Nat.le_of_ble_eq_true rfl⟩ (met_X0_stepFrom hc) rfl (Nat.le_of_ble_eq_true rfl) ?_
      clear hc
      refine r_ior dX0_farFrom_18 ?_
      refine g_istore_n (fun v2_3 => [some (vR 1 0), none, some (vI v2_3), some (vI v3)]) dX0_farFrom_19 rfl rfl (fun _ => rfl) (Nat.le_of_ble_eq_true rfl) hf (fun v2_3 hf => ?_)
      refine g_iinc (fun v3_4 => [some (vR 1 0), none, some (vI v2_3), some (vI v3_4)]) dX0_farFrom_20 ic_1 rfl rfl (fun _ => rfl) (Nat.le_of_ble_eq_true rfl) hf (fun v3_4 hf => ?_)
      refine r_goto (tgt := 4) dX0_farFrom_23 rfl ?_
      exact ih _ _ _ hf
set_option maxRecDepth 100000 in
set_option maxHeartbeats 4000000 in
theorem ok_mX0_farFrom {zv : Int32} {zw : AW} {v1 : Int32} {w : AW} (hf : mX0_farFrom v1 w = some (zv, zw)) : RR false KX0_farFrom (some (vI zv), zw) 0 [some (vR 1 0), some (vI v1), none, none] [] w := by
  refine r_iload_n dX0_farFrom_0 rfl rfl ?_
  refine r_istore_n (ls2 := [some (vR 1 0), some (vI v1), some (vI v1), none]) dX0_farFrom_1 rfl rfl rfl (Nat.le_of_ble_eq_true rfl) ?_
  refine r_iconst dX0_farFrom_2 ic_0 ?_
  refine r_istore_n (ls2 := [some (vR 1 0), some (vI v1), some (vI v1), some (vI 0)]) dX0_farFrom_3 rfl rfl rfl (Nat.le_of_ble_eq_true rfl) ?_
  refine r_mask (bs := [true, false, true, true]) ?_
  exact ok_mX0_farFrom_4 FU _ _ _ hf
theorem met_X0_farFrom {zv : Int32} {zw : AW} {v1 : Int32} {w : AW} (hf : mX0_farFrom v1 w = some (zv, zw)) : am_Met false KX0_farFrom [vR 1 0, vI v1] w (some (vI zv), zw) := am_met mok_X0_farFrom.1 (Nat.le_of_ble_eq_true rfl) (ok_mX0_farFrom  hf)

/-! SeenWorlds$Net.stepInto(I)I -/
noncomputable def mX0_stepInto_31 (k4 : Int32 → Int32 → AW → Option (Int32 × AW)) (v1 : Int32) (v2 : Int32) (v3 : Int32) (w : AW) : Option (Int32 × AW) :=
  nm (v3 + 1) fun v3_1 =>
  k4 v2 v3_1 w
noncomputable def mX0_stepInto_4 (v1 : Int32) : Nat → Int32 → Int32 → AW → Option (Int32 × AW)
  | 0, _, _, _ => none
  | n + 1, v2, v3, w =>
    if (w.1 1 0 2) ≤ v3 then
      some (v2, w)
    else
      cl (mX5_at 1 1 v3 w) fun x_2 w_1 =>
      if (x_2 &&& v1) = 0 then
        mX0_stepInto_31 (mX0_stepInto_4 v1 n) v1 v2 v3 w_1
      else
        nm (v2 ||| (1 <<< (v3 &&& 31))) fun v2_3 =>
        mX0_stepInto_31 (mX0_stepInto_4 v1 n) v1 v2_3 v3 w_1
noncomputable def mX0_stepInto (v1 : Int32) (w : AW) : Option (Int32 × AW) :=
  mX0_stepInto_4 v1 FU 0 0 w
set_option maxRecDepth 100000 in
set_option maxHeartbeats 4000000 in
theorem ok_mX0_stepInto_31 {zv : Int32} {zw : AW} {k4 : Int32 → Int32 → AW → Option (Int32 × AW)} {v1 : Int32} {v2 : Int32} {v3 : Int32} (hk4 : ∀ (v2 : Int32) (v3 : Int32)  w, k4 v2 v3 w = some (zv, zw) → RR false KX0_stepInto (some (vI zv), zw) 4 [some (vR 1 0), some (vI v1), some (vI v2), some (vI v3)] [] w) {w : AW} (hf : mX0_stepInto_31 k4 v1 v2 v3 w = some (zv, zw)) : RR false KX0_stepInto (some (vI zv), zw) 31 [some (vR 1 0), some (vI v1), some (vI v2), some (vI v3)] [] w := by
  refine g_iinc (fun v3_1 => [some (vR 1 0), some (vI v1), some (vI v2), some (vI v3_1)]) dX0_stepInto_31 ic_1 rfl rfl (fun _ => rfl) (Nat.le_of_ble_eq_true rfl) hf (fun v3_1 hf => ?_)
  refine r_goto (tgt := 4) dX0_stepInto_34 rfl ?_
  exact hk4 _ _ _ hf
set_option maxRecDepth 100000 in
set_option maxHeartbeats 4000000 in
theorem ok_mX0_stepInto_4 {zv : Int32} {zw : AW} {v1 : Int32} : ∀ (n : Nat) (v2 : Int32) (v3 : Int32) (w : AW), mX0_stepInto_4 v1 n v2 v3 w = some (zv, zw) → RR false KX0_stepInto (some (vI zv), zw) 4 [some (vR 1 0), some (vI v1), some (vI v2), some (vI v3)] [] w := by
  intro n
  induction n with
  | zero => intro v2 v3 w hf; cases hf
  | succ n ih =>
    intro v2 v3 w hf
    refine r_iload_n dX0_stepInto_4 rfl rfl ?_
    refine r_aload_n dX0_stepInto_5 rfl rfl ?_
    refine g_getI dX0_stepInto_6 fl_RX0_18 fk_0_2 (cl_false_1) ?_
    refine g_icmp_ge (tgt := 37) dX0_stepInto_9 rfl hf (fun _ hf => ?_) (fun _ hf => ?_)
    · refine r_iload_n dX0_stepInto_37 rfl rfl ?_
      exact r_iret dX0_stepInto_38 rfl (ret_I hf)
    · refine r_aload_n dX0_stepInto_12 rfl rfl ?_
      refine g_getA dX0_stepInto_13 fl_RX0_9 fk_0_0 rfl (cl_false_1) ?_
      refine r_iload_n dX0_stepInto_16 rfl rfl ?_
      obtain ⟨x_2, w_1, hc, hf⟩ := cl_some hf
      refine g_cN (st := []) KX5_at [vR 1 1, vI v3] dX0_stepInto_17 e_RX0_26 mok_X5_at mw_X5_at ⟨Nat.le_of_ble_eq_true rfl, Nat.le_of_ble_eq_true rfl⟩ (met_X5_at (am_iaW aK_false_1_1) hc) rfl (Nat.le_of_ble_eq_true rfl) ?_
      clear hc
      refine r_iload_n dX0_stepInto_20 rfl rfl ?_
      refine r_iand dX0_stepInto_21 ?_
      refine g_if_eq (tgt := 31) dX0_stepInto_22 rfl hf (fun _ hf => ?_) (fun _ hf => ?_)
      · exact ok_mX0_stepInto_31 (fun v2 v3 w hf => ih v2 v3 w hf) hf
      · refine r_iload_n dX0_stepInto_25 rfl rfl ?_
        refine r_iconst dX0_stepInto_26 ic_1 ?_
        refine r_iload_n dX0_stepInto_27 rfl rfl ?_
        refine r_ishl dX0_stepInto_28 ?_
        refine r_ior dX0_stepInto_29 ?_
        refine g_istore_n (fun v2_3 => [some (vR 1 0), some (vI v1), some (vI v2_3), some (vI v3)]) dX0_stepInto_30 rfl rfl (fun _ => rfl) (Nat.le_of_ble_eq_true rfl) hf (fun v2_3 hf => ?_)
        exact ok_mX0_stepInto_31 (fun v2 v3 w hf => ih v2 v3 w hf) hf
set_option maxRecDepth 100000 in
set_option maxHeartbeats 4000000 in
theorem ok_mX0_stepInto {zv : Int32} {zw : AW} {v1 : Int32} {w : AW} (hf : mX0_stepInto v1 w = some (zv, zw)) : RR false KX0_stepInto (some (vI zv), zw) 0 [some (vR 1 0), some (vI v1), none, none] [] w := by
  refine r_iconst dX0_stepInto_0 ic_0 ?_
  refine r_istore_n (ls2 := [some (vR 1 0), some (vI v1), some (vI 0), none]) dX0_stepInto_1 rfl rfl rfl (Nat.le_of_ble_eq_true rfl) ?_
  refine r_iconst dX0_stepInto_2 ic_0 ?_
  refine r_istore_n (ls2 := [some (vR 1 0), some (vI v1), some (vI 0), some (vI 0)]) dX0_stepInto_3 rfl rfl rfl (Nat.le_of_ble_eq_true rfl) ?_
  exact ok_mX0_stepInto_4 FU _ _ _ hf
theorem met_X0_stepInto {zv : Int32} {zw : AW} {v1 : Int32} {w : AW} (hf : mX0_stepInto v1 w = some (zv, zw)) : am_Met false KX0_stepInto [vR 1 0, vI v1] w (some (vI zv), zw) := am_met mok_X0_stepInto.1 (Nat.le_of_ble_eq_true rfl) (ok_mX0_stepInto  hf)

/-! SeenWorlds$Net.bothWaysFrom(I)I -/
noncomputable def mX0_bothWaysFrom_4 : Nat → Int32 → Int32 → AW → Option (Int32 × AW)
  | 0, _, _, _ => none
  | n + 1, v2, v3, w =>
    if (w.1 1 0 2) ≤ v3 then
      some (v2, w)
    else
      cl (mX0_stepFrom v2 w) fun x_2 w_1 =>
      cl (mX0_stepInto v2 w_1) fun x_4 w_3 =>
      nm (v2 ||| (x_2 ||| x_4)) fun v2_5 =>
      nm (v3 + 1) fun v3_6 =>
      mX0_bothWaysFrom_4 n v2_5 v3_6 w_3
noncomputable def mX0_bothWaysFrom (v1 : Int32) (w : AW) : Option (Int32 × AW) :=
  mX0_bothWaysFrom_4 FU v1 0 w
set_option maxRecDepth 100000 in
set_option maxHeartbeats 4000000 in
theorem ok_mX0_bothWaysFrom_4 {zv : Int32} {zw : AW} : ∀ (n : Nat) (v2 : Int32) (v3 : Int32) (w : AW), mX0_bothWaysFrom_4 n v2 v3 w = some (zv, zw) → RR false KX0_bothWaysFrom (some (vI zv), zw) 4 [some (vR 1 0), none, some (vI v2), some (vI v3)] [] w := by
  intro n
  induction n with
  | zero => intro v2 v3 w hf; cases hf
  | succ n ih =>
    intro v2 v3 w hf
    refine r_iload_n dX0_bothWaysFrom_4 rfl rfl ?_
    refine r_aload_n dX0_bothWaysFrom_5 rfl rfl ?_
    refine g_getI dX0_bothWaysFrom_6 fl_RX0_18 fk_0_2 (cl_false_1) ?_
    refine g_icmp_ge (tgt := 32) dX0_bothWaysFrom_9 rfl hf (fun _ hf => ?_) (fun _ hf => ?_)
    · refine r_iload_n dX0_bothWaysFrom_32 rfl rfl ?_
      exact r_iret dX0_bothWaysFrom_33 rfl (ret_I hf)
    · refine r_iload_n dX0_bothWaysFrom_12 rfl rfl ?_
      refine r_aload_n dX0_bothWaysFrom_13 rfl rfl ?_
      refine r_iload_n dX0_bothWaysFrom_14 rfl rfl ?_
      obtain ⟨x_2, w_1, hc, hf⟩ := cl_some hf
      refine g_cV (st := [vI v2]) KX0_stepFrom [vI v2] dX0_bothWaysFrom_15 e_RX0_46 (cl_false_1) (rfl : vwCl[0]? = _) rfl mok_X0_stepFrom mw_X0_stepFrom ⟨Nat.le_of_ble_eq_true rfl, Nat.le_of_ble_eq_true rfl⟩ (met_X0_stepFrom hc) rfl (Nat.le_of_ble_eq_true rfl) ?_
      clear hc
      refine r_aload_n dX0_bothWaysFrom_18 rfl rfl ?_
      refine r_iload_n dX0_bothWaysFrom_19 rfl rfl ?_
      obtain ⟨x_4, w_3, hc, hf⟩ := cl_some hf
      refine g_cV (st := [vI x_2, vI v2]) KX0_stepInto [vI v2] dX0_bothWaysFrom_20 e_RX0_49 (cl_false_1) (rfl : vwCl[0]? = _) rfl mok_X0_stepInto mw_X0_stepInto ⟨Nat.le_of_ble_eq_true rfl, Nat.le_of_ble_eq_true rfl⟩ (met_X0_stepInto hc) rfl (Nat.le_of_ble_eq_true rfl) ?_
      clear hc
      refine r_ior dX0_bothWaysFrom_23 ?_
      refine r_ior dX0_bothWaysFrom_24 ?_
      refine g_istore_n (fun v2_5 => [some (vR 1 0), none, some (vI v2_5), some (vI v3)]) dX0_bothWaysFrom_25 rfl rfl (fun _ => rfl) (Nat.le_of_ble_eq_true rfl) hf (fun v2_5 hf => ?_)
      refine g_iinc (fun v3_6 => [some (vR 1 0), none, some (vI v2_5), some (vI v3_6)]) dX0_bothWaysFrom_26 ic_1 rfl rfl (fun _ => rfl) (Nat.le_of_ble_eq_true rfl) hf (fun v3_6 hf => ?_)
      refine r_goto (tgt := 4) dX0_bothWaysFrom_29 rfl ?_
      exact ih _ _ _ hf
set_option maxRecDepth 100000 in
set_option maxHeartbeats 4000000 in
theorem ok_mX0_bothWaysFrom {zv : Int32} {zw : AW} {v1 : Int32} {w : AW} (hf : mX0_bothWaysFrom v1 w = some (zv, zw)) : RR false KX0_bothWaysFrom (some (vI zv), zw) 0 [some (vR 1 0), some (vI v1), none, none] [] w := by
  refine r_iload_n dX0_bothWaysFrom_0 rfl rfl ?_
  refine r_istore_n (ls2 := [some (vR 1 0), some (vI v1), some (vI v1), none]) dX0_bothWaysFrom_1 rfl rfl rfl (Nat.le_of_ble_eq_true rfl) ?_
  refine r_iconst dX0_bothWaysFrom_2 ic_0 ?_
  refine r_istore_n (ls2 := [some (vR 1 0), some (vI v1), some (vI v1), some (vI 0)]) dX0_bothWaysFrom_3 rfl rfl rfl (Nat.le_of_ble_eq_true rfl) ?_
  refine r_mask (bs := [true, false, true, true]) ?_
  exact ok_mX0_bothWaysFrom_4 FU _ _ _ hf
theorem met_X0_bothWaysFrom {zv : Int32} {zw : AW} {v1 : Int32} {w : AW} (hf : mX0_bothWaysFrom v1 w = some (zv, zw)) : am_Met false KX0_bothWaysFrom [vR 1 0, vI v1] w (some (vI zv), zw) := am_met mok_X0_bothWaysFrom.1 (Nat.le_of_ble_eq_true rfl) (ok_mX0_bothWaysFrom  hf)

/-! SeenWorlds$Net.seenBy(II)I -/
noncomputable def mX0_seenBy (v1 : Int32) (v2 : Int32) (w : AW) : Option (Int32 × AW) :=
  if v1 = 0 then
    cl (mX5_at 1 1 v2 w) fun x_2 w_1 =>
    some (x_2, w_1)
  else if v1 = 1 then
    cl (mX5_at 1 1 v2 w) fun x_4 w_3 =>
    some (x_4 ||| (1 <<< (v2 &&& 31)), w_3)
  else if v1 = 2 then
    cl (mX0_farFrom (1 <<< (v2 &&& 31)) w) fun x_6 w_5 =>
    some (x_6, w_5)
  else 
    cl (mX0_bothWaysFrom (1 <<< (v2 &&& 31)) w) fun x_8 w_7 =>
    some (x_8, w_7)
set_option maxRecDepth 100000 in
set_option maxHeartbeats 4000000 in
theorem ok_mX0_seenBy {zv : Int32} {zw : AW} {v1 : Int32} {v2 : Int32} {w : AW} (hf : mX0_seenBy v1 v2 w = some (zv, zw)) : RR false KX0_seenBy (some (vI zv), zw) 0 [some (vR 1 0), some (vI v1), some (vI v2)] [] w := by
  refine r_iload_n dX0_seenBy_0 rfl rfl ?_
  rcases Classical.em (v1 = 0) with c0 | c0
  · replace hf := br_pos c0 hf
    refine g_tabC (off := 27) (tgt := 28) c0 dX0_seenBy_1 (by decide) rfl ?_
    refine r_aload_n dX0_seenBy_28 rfl rfl ?_
    refine g_getA dX0_seenBy_29 fl_RX0_9 fk_0_0 rfl (cl_false_1) ?_
    refine r_iload_n dX0_seenBy_32 rfl rfl ?_
    obtain ⟨x_2, w_1, hc, hf⟩ := cl_some hf
    refine g_cN (st := []) KX5_at [vR 1 1, vI v2] dX0_seenBy_33 e_RX0_26 mok_X5_at mw_X5_at ⟨Nat.le_of_ble_eq_true rfl, Nat.le_of_ble_eq_true rfl⟩ (met_X5_at (am_iaW aK_false_1_1) hc) rfl (Nat.le_of_ble_eq_true rfl) ?_
    clear hc
    exact r_iret dX0_seenBy_36 rfl (ret_I hf)
  replace hf := br_neg c0 hf
  rcases Classical.em (v1 = 1) with c1 | c1
  · replace hf := br_pos c1 hf
    refine g_tabC (off := 36) (tgt := 37) c1 dX0_seenBy_1 (by decide) rfl ?_
    refine r_aload_n dX0_seenBy_37 rfl rfl ?_
    refine g_getA dX0_seenBy_38 fl_RX0_9 fk_0_0 rfl (cl_false_1) ?_
    refine r_iload_n dX0_seenBy_41 rfl rfl ?_
    obtain ⟨x_4, w_3, hc, hf⟩ := cl_some hf
    refine g_cN (st := []) KX5_at [vR 1 1, vI v2] dX0_seenBy_42 e_RX0_26 mok_X5_at mw_X5_at ⟨Nat.le_of_ble_eq_true rfl, Nat.le_of_ble_eq_true rfl⟩ (met_X5_at (am_iaW aK_false_1_1) hc) rfl (Nat.le_of_ble_eq_true rfl) ?_
    clear hc
    refine r_iconst dX0_seenBy_45 ic_1 ?_
    refine r_iload_n dX0_seenBy_46 rfl rfl ?_
    refine r_ishl dX0_seenBy_47 ?_
    refine r_ior dX0_seenBy_48 ?_
    exact r_iret dX0_seenBy_49 rfl (ret_I hf)
  replace hf := br_neg c1 hf
  rcases Classical.em (v1 = 2) with c2 | c2
  · replace hf := br_pos c2 hf
    refine g_tabC (off := 49) (tgt := 50) c2 dX0_seenBy_1 (by decide) rfl ?_
    refine r_aload_n dX0_seenBy_50 rfl rfl ?_
    refine r_iconst dX0_seenBy_51 ic_1 ?_
    refine r_iload_n dX0_seenBy_52 rfl rfl ?_
    refine r_ishl dX0_seenBy_53 ?_
    obtain ⟨x_6, w_5, hc, hf⟩ := cl_some hf
    refine g_cV (st := []) KX0_farFrom [vI (1 <<< (v2 &&& 31))] dX0_seenBy_54 e_RX0_36 (cl_false_1) (rfl : vwCl[0]? = _) rfl mok_X0_farFrom mw_X0_farFrom ⟨Nat.le_of_ble_eq_true rfl, Nat.le_of_ble_eq_true rfl⟩ (met_X0_farFrom hc) rfl (Nat.le_of_ble_eq_true rfl) ?_
    clear hc
    exact r_iret dX0_seenBy_57 rfl (ret_I hf)
  replace hf := br_neg c2 hf
  refine g_tabD (tgt := 58) 3 (by decide) (fun j hj => by
    rcases (show j = 0 ∨ j = 1 ∨ j = 2 by omega) with rfl | rfl | rfl
    · exact am_neI c0 (by decide)
    · exact am_neI c1 (by decide)
    · exact am_neI c2 (by decide)) dX0_seenBy_1 rfl ?_
  refine r_aload_n dX0_seenBy_58 rfl rfl ?_
  refine r_iconst dX0_seenBy_59 ic_1 ?_
  refine r_iload_n dX0_seenBy_60 rfl rfl ?_
  refine r_ishl dX0_seenBy_61 ?_
  obtain ⟨x_8, w_7, hc, hf⟩ := cl_some hf
  refine g_cV (st := []) KX0_bothWaysFrom [vI (1 <<< (v2 &&& 31))] dX0_seenBy_62 e_RX0_39 (cl_false_1) (rfl : vwCl[0]? = _) rfl mok_X0_bothWaysFrom mw_X0_bothWaysFrom ⟨Nat.le_of_ble_eq_true rfl, Nat.le_of_ble_eq_true rfl⟩ (met_X0_bothWaysFrom hc) rfl (Nat.le_of_ble_eq_true rfl) ?_
  clear hc
  exact r_iret dX0_seenBy_65 rfl (ret_I hf)
theorem met_X0_seenBy {zv : Int32} {zw : AW} {v1 : Int32} {v2 : Int32} {w : AW} (hf : mX0_seenBy v1 v2 w = some (zv, zw)) : am_Met false KX0_seenBy [vR 1 0, vI v1, vI v2] w (some (vI zv), zw) := am_met mok_X0_seenBy.1 (Nat.le_of_ble_eq_true rfl) (ok_mX0_seenBy  hf)

/-! SeenWorlds.within(II)Z -/
noncomputable def mX5_within (v0 : Int32) (v1 : Int32) (w : AW) : Option (Int32 × AW) :=
  if (v0 &&& (v1 ^^^ (-1))) ≠ 0 then
    some (0, w)
  else
    some (1, w)
set_option maxRecDepth 100000 in
set_option maxHeartbeats 4000000 in
theorem ok_mX5_within {zv : Int32} {zw : AW} {v0 : Int32} {v1 : Int32} {w : AW} (hf : mX5_within v0 v1 w = some (zv, zw)) : RR false KX5_within (some (vI zv), zw) 0 [some (vI v0), some (vI v1)] [] w := by
  refine r_iload_n dX5_within_0 rfl rfl ?_
  refine r_iload_n dX5_within_1 rfl rfl ?_
  refine r_iconst dX5_within_2 ic_m1 ?_
  refine r_ixor dX5_within_3 ?_
  refine r_iand dX5_within_4 ?_
  refine g_if_ne (tgt := 12) dX5_within_5 rfl hf (fun _ hf => ?_) (fun _ hf => ?_)
  · refine r_iconst dX5_within_12 ic_0 ?_
    exact r_zret dX5_within_13 rfl nar_0 (ret_I hf)
  · refine r_iconst dX5_within_8 ic_1 ?_
    refine r_goto (tgt := 13) dX5_within_9 rfl ?_
    exact r_zret dX5_within_13 rfl nar_1 (ret_I hf)
theorem met_X5_within {zv : Int32} {zw : AW} {v0 : Int32} {v1 : Int32} {w : AW} (hf : mX5_within v0 v1 w = some (zv, zw)) : am_Met false KX5_within [vI v0, vI v1] w (some (vI zv), zw) := am_met mok_X5_within.1 (Nat.le_of_ble_eq_true rfl) (ok_mX5_within  hf)

/-! SeenWorlds$Net.allSeeEachOther(I)Z -/
noncomputable def mX0_allSeeEachOther_36 (k2 : Int32 → AW → Option (Int32 × AW)) (v1 : Int32) (v2 : Int32) (w : AW) : Option (Int32 × AW) :=
  nm (v2 + 1) fun v2_1 =>
  k2 v2_1 w
noncomputable def mX0_allSeeEachOther_2 (v1 : Int32) : Nat → Int32 → AW → Option (Int32 × AW)
  | 0, _, _ => none
  | n + 1, v2, w =>
    if (w.1 1 0 2) ≤ v2 then
      some (1, w)
    else
      cl (mX5_bit v1 v2 w) fun x_2 w_1 =>
      if x_2 ≠ 1 then
        mX0_allSeeEachOther_36 (mX0_allSeeEachOther_2 v1 n) v1 v2 w_1
      else
        cl (mX5_at 1 1 v2 w_1) fun x_4 w_3 =>
        cl (mX5_within v1 x_4 w_3) fun x_6 w_5 =>
        if x_6 ≠ 0 then
          mX0_allSeeEachOther_36 (mX0_allSeeEachOther_2 v1 n) v1 v2 w_5
        else
          some (0, w_5)
noncomputable def mX0_allSeeEachOther (v1 : Int32) (w : AW) : Option (Int32 × AW) :=
  mX0_allSeeEachOther_2 v1 FU 0 w
set_option maxRecDepth 100000 in
set_option maxHeartbeats 4000000 in
theorem ok_mX0_allSeeEachOther_36 {zv : Int32} {zw : AW} {k2 : Int32 → AW → Option (Int32 × AW)} {v1 : Int32} {v2 : Int32} (hk2 : ∀ (v2 : Int32)  w, k2 v2 w = some (zv, zw) → RR false KX0_allSeeEachOther (some (vI zv), zw) 2 [some (vR 1 0), some (vI v1), some (vI v2)] [] w) {w : AW} (hf : mX0_allSeeEachOther_36 k2 v1 v2 w = some (zv, zw)) : RR false KX0_allSeeEachOther (some (vI zv), zw) 36 [some (vR 1 0), some (vI v1), some (vI v2)] [] w := by
  refine g_iinc (fun v2_1 => [some (vR 1 0), some (vI v1), some (vI v2_1)]) dX0_allSeeEachOther_36 ic_1 rfl rfl (fun _ => rfl) (Nat.le_of_ble_eq_true rfl) hf (fun v2_1 hf => ?_)
  refine r_goto (tgt := 2) dX0_allSeeEachOther_39 rfl ?_
  exact hk2 _ _ hf
set_option maxRecDepth 100000 in
set_option maxHeartbeats 4000000 in
theorem ok_mX0_allSeeEachOther_2 {zv : Int32} {zw : AW} {v1 : Int32} : ∀ (n : Nat) (v2 : Int32) (w : AW), mX0_allSeeEachOther_2 v1 n v2 w = some (zv, zw) → RR false KX0_allSeeEachOther (some (vI zv), zw) 2 [some (vR 1 0), some (vI v1), some (vI v2)] [] w := by
  intro n
  induction n with
  | zero => intro v2 w hf; cases hf
  | succ n ih =>
    intro v2 w hf
    refine r_iload_n dX0_allSeeEachOther_2 rfl rfl ?_
    refine r_aload_n dX0_allSeeEachOther_3 rfl rfl ?_
    refine g_getI dX0_allSeeEachOther_4 fl_RX0_18 fk_0_2 (cl_false_1) ?_
    refine g_icmp_ge (tgt := 42) dX0_allSeeEachOther_7 rfl hf (fun _ hf => ?_) (fun _ hf => ?_)
    · refine r_iconst dX0_allSeeEachOther_42 ic_1 ?_
      exact r_zret dX0_allSeeEachOther_43 rfl nar_1 (ret_I hf)
    · refine r_iload_n dX0_allSeeEachOther_10 rfl rfl ?_
      refine r_iload_n dX0_allSeeEachOther_11 rfl rfl ?_
      obtain ⟨x_2, w_1, hc, hf⟩ := cl_some hf
      refine g_cN (st := []) KX5_bit [vI v1, vI v2] dX0_allSeeEachOther_12 e_RX0_42 mok_X5_bit mw_X5_bit ⟨Nat.le_of_ble_eq_true rfl, Nat.le_of_ble_eq_true rfl⟩ (met_X5_bit hc) rfl (Nat.le_of_ble_eq_true rfl) ?_
      clear hc
      refine r_iconst dX0_allSeeEachOther_15 ic_1 ?_
      refine g_icmp_ne (tgt := 36) dX0_allSeeEachOther_16 rfl hf (fun _ hf => ?_) (fun _ hf => ?_)
      · exact ok_mX0_allSeeEachOther_36 (fun v2 w hf => ih v2 w hf) hf
      · refine r_iload_n dX0_allSeeEachOther_19 rfl rfl ?_
        refine r_aload_n dX0_allSeeEachOther_20 rfl rfl ?_
        refine g_getA dX0_allSeeEachOther_21 fl_RX0_9 fk_0_0 rfl (cl_false_1) ?_
        refine r_iload_n dX0_allSeeEachOther_24 rfl rfl ?_
        obtain ⟨x_4, w_3, hc, hf⟩ := cl_some hf
        refine g_cN (st := [vI v1]) KX5_at [vR 1 1, vI v2] dX0_allSeeEachOther_25 e_RX0_26 mok_X5_at mw_X5_at ⟨Nat.le_of_ble_eq_true rfl, Nat.le_of_ble_eq_true rfl⟩ (met_X5_at (am_iaW aK_false_1_1) hc) rfl (Nat.le_of_ble_eq_true rfl) ?_
        clear hc
        obtain ⟨x_6, w_5, hc, hf⟩ := cl_some hf
        refine g_cN (st := []) KX5_within [vI v1, vI x_4] dX0_allSeeEachOther_28 e_RX0_52 mok_X5_within mw_X5_within ⟨Nat.le_of_ble_eq_true rfl, Nat.le_of_ble_eq_true rfl⟩ (met_X5_within hc) rfl (Nat.le_of_ble_eq_true rfl) ?_
        clear hc
        refine g_if_ne (tgt := 36) dX0_allSeeEachOther_31 rfl hf (fun _ hf => ?_) (fun _ hf => ?_)
        · exact ok_mX0_allSeeEachOther_36 (fun v2 w hf => ih v2 w hf) hf
        · refine r_iconst dX0_allSeeEachOther_34 ic_0 ?_
          exact r_zret dX0_allSeeEachOther_35 rfl nar_0 (ret_I hf)
set_option maxRecDepth 100000 in
set_option maxHeartbeats 4000000 in
theorem ok_mX0_allSeeEachOther {zv : Int32} {zw : AW} {v1 : Int32} {w : AW} (hf : mX0_allSeeEachOther v1 w = some (zv, zw)) : RR false KX0_allSeeEachOther (some (vI zv), zw) 0 [some (vR 1 0), some (vI v1), none] [] w := by
  refine r_iconst dX0_allSeeEachOther_0 ic_0 ?_
  refine r_istore_n (ls2 := [some (vR 1 0), some (vI v1), some (vI 0)]) dX0_allSeeEachOther_1 rfl rfl rfl (Nat.le_of_ble_eq_true rfl) ?_
  exact ok_mX0_allSeeEachOther_2 FU _ _ hf
theorem met_X0_allSeeEachOther {zv : Int32} {zw : AW} {v1 : Int32} {w : AW} (hf : mX0_allSeeEachOther v1 w = some (zv, zw)) : am_Met false KX0_allSeeEachOther [vR 1 0, vI v1] w (some (vI zv), zw) := am_met mok_X0_allSeeEachOther.1 (Nat.le_of_ble_eq_true rfl) (ok_mX0_allSeeEachOther  hf)

/-! SeenWorlds$Net.kinds()I -/
noncomputable def mX0_kinds_106 (k5 : Int32 → Int32 → AW → Option (Int32 × AW)) (v1 : Int32) (v2 : Int32) (w : AW) : Option (Int32 × AW) :=
  nm (v2 + 1) fun v2_1 =>
  k5 v1 v2_1 w
noncomputable def mX0_kinds_93 (k5 : Int32 → Int32 → AW → Option (Int32 × AW)) (v1 : Int32) (v2 : Int32) (v3 : Int32) (w : AW) : Option (Int32 × AW) :=
  cl (mJ6_bitCount_0f7a4 v3 w) fun x_2 w_1 =>
  if x_2 ≤ 1 then
    mX0_kinds_106 k5 v1 v2 w_1
  else
    nm (v1 &&& (-33)) fun v1_3 =>
    mX0_kinds_106 k5 v1_3 v2 w_1
noncomputable def mX0_kinds_80 (k5 : Int32 → Int32 → AW → Option (Int32 × AW)) (v1 : Int32) (v2 : Int32) (v3 : Int32) (w : AW) : Option (Int32 × AW) :=
  cl (mX0_allSeeEachOther v3 w) fun x_2 w_1 =>
  if x_2 ≠ 0 then
    mX0_kinds_93 k5 v1 v2 v3 w_1
  else
    nm (v1 &&& (-17)) fun v1_3 =>
    mX0_kinds_93 k5 v1_3 v2 v3 w_1
noncomputable def mX0_kinds_71 (k5 : Int32 → Int32 → AW → Option (Int32 × AW)) (v1 : Int32) (v2 : Int32) (v3 : Int32) (w : AW) : Option (Int32 × AW) :=
  if v3 ≠ 0 then
    mX0_kinds_80 k5 v1 v2 v3 w
  else
    nm (v1 &&& (-9)) fun v1_1 =>
    mX0_kinds_80 k5 v1_1 v2 v3 w
noncomputable def mX0_kinds_54 (k5 : Int32 → Int32 → AW → Option (Int32 × AW)) (v1 : Int32) (v2 : Int32) (v3 : Int32) (w : AW) : Option (Int32 × AW) :=
  cl (mX0_stepFrom v3 w) fun x_2 w_1 =>
  cl (mX5_within x_2 v3 w_1) fun x_4 w_3 =>
  if x_4 ≠ 0 then
    mX0_kinds_71 k5 v1 v2 v3 w_3
  else
    nm (v1 &&& (-5)) fun v1_5 =>
    mX0_kinds_71 k5 v1_5 v2 v3 w_3
noncomputable def mX0_kinds_35 (k5 : Int32 → Int32 → AW → Option (Int32 × AW)) (v1 : Int32) (v2 : Int32) (v3 : Int32) (w : AW) : Option (Int32 × AW) :=
  cl (mX0_stepInto (1 <<< (v2 &&& 31)) w) fun x_2 w_1 =>
  cl (mX5_within v3 x_2 w_1) fun x_4 w_3 =>
  if x_4 ≠ 0 then
    mX0_kinds_54 k5 v1 v2 v3 w_3
  else
    nm (v1 &&& (-3)) fun v1_5 =>
    mX0_kinds_54 k5 v1_5 v2 v3 w_3
noncomputable def mX0_kinds_5 : Nat → Int32 → Int32 → AW → Option (Int32 × AW)
  | 0, _, _, _ => none
  | n + 1, v1, v2, w =>
    if (w.1 1 0 2) ≤ v2 then
      some (v1, w)
    else
      cl (mX5_at 1 1 v2 w) fun x_2 w_1 =>
      cl (mX5_bit x_2 v2 w_1) fun x_4 w_3 =>
      if x_4 ≠ 0 then
        mX0_kinds_35 (mX0_kinds_5 n) v1 v2 x_2 w_3
      else
        nm (v1 &&& (-2)) fun v1_5 =>
        mX0_kinds_35 (mX0_kinds_5 n) v1_5 v2 x_2 w_3
noncomputable def mX0_kinds (w : AW) : Option (Int32 × AW) :=
  mX0_kinds_5 FU 63 0 w
set_option maxRecDepth 100000 in
set_option maxHeartbeats 4000000 in
theorem ok_mX0_kinds_106 {zv : Int32} {zw : AW} {k5 : Int32 → Int32 → AW → Option (Int32 × AW)} {v1 : Int32} {v2 : Int32} (hk5 : ∀ (v1 : Int32) (v2 : Int32)  w, k5 v1 v2 w = some (zv, zw) → RR false KX0_kinds (some (vI zv), zw) 5 [some (vR 1 0), some (vI v1), some (vI v2), none] [] w) {w : AW} (hf : mX0_kinds_106 k5 v1 v2 w = some (zv, zw)) : RR false KX0_kinds (some (vI zv), zw) 106 [some (vR 1 0), some (vI v1), some (vI v2), none] [] w := by
  refine g_iinc (fun v2_1 => [some (vR 1 0), some (vI v1), some (vI v2_1), none]) dX0_kinds_106 ic_1 rfl rfl (fun _ => rfl) (Nat.le_of_ble_eq_true rfl) hf (fun v2_1 hf => ?_)
  refine r_goto (tgt := 5) dX0_kinds_109 rfl ?_
  exact hk5 _ _ _ hf
set_option maxRecDepth 100000 in
set_option maxHeartbeats 4000000 in
theorem ok_mX0_kinds_93 {zv : Int32} {zw : AW} {k5 : Int32 → Int32 → AW → Option (Int32 × AW)} {v1 : Int32} {v2 : Int32} {v3 : Int32} (hk5 : ∀ (v1 : Int32) (v2 : Int32)  w, k5 v1 v2 w = some (zv, zw) → RR false KX0_kinds (some (vI zv), zw) 5 [some (vR 1 0), some (vI v1), some (vI v2), none] [] w) {w : AW} (hf : mX0_kinds_93 k5 v1 v2 v3 w = some (zv, zw)) : RR false KX0_kinds (some (vI zv), zw) 93 [some (vR 1 0), some (vI v1), some (vI v2), some (vI v3)] [] w := by
  refine r_iload_n dX0_kinds_93 rfl rfl ?_
  obtain ⟨x_2, w_1, hc, hf⟩ := cl_some hf
  refine g_cS (st := []) KJ6_bitCount_0f7a4 [vI v3] dX0_kinds_94 e_RX0_30 mok_J6_bitCount_0f7a4 mw_J6_bitCount_0f7a4 ⟨Nat.le_of_ble_eq_true rfl, Nat.le_of_ble_eq_true rfl⟩ (met_J6_bitCount_0f7a4 hc) rfl (Nat.le_of_ble_eq_true rfl) ?_
  clear hc
  refine r_iconst dX0_kinds_97 ic_1 ?_
  refine g_icmp_le (tgt := 106) dX0_kinds_98 rfl hf (fun _ hf => ?_) (fun _ hf => ?_)
  · refine r_mask (bs := [true, true, true, false]) ?_
    exact ok_mX0_kinds_106 hk5 hf
  · refine r_iload_n dX0_kinds_101 rfl rfl ?_
    refine r_bipush dX0_kinds_102 (bp_m33) ?_
    refine r_iand dX0_kinds_104 ?_
    refine g_istore_n (fun v1_3 => [some (vR 1 0), some (vI v1_3), some (vI v2), some (vI v3)]) dX0_kinds_105 rfl rfl (fun _ => rfl) (Nat.le_of_ble_eq_true rfl) hf (fun v1_3 hf => ?_)
    refine r_mask (bs := [true, true, true, false]) ?_
    exact ok_mX0_kinds_106 hk5 hf
set_option maxRecDepth 100000 in
set_option maxHeartbeats 4000000 in
theorem ok_mX0_kinds_80 {zv : Int32} {zw : AW} {k5 : Int32 → Int32 → AW → Option (Int32 × AW)} {v1 : Int32} {v2 : Int32} {v3 : Int32} (hk5 : ∀ (v1 : Int32) (v2 : Int32)  w, k5 v1 v2 w = some (zv, zw) → RR false KX0_kinds (some (vI zv), zw) 5 [some (vR 1 0), some (vI v1), some (vI v2), none] [] w) {w : AW} (hf : mX0_kinds_80 k5 v1 v2 v3 w = some (zv, zw)) : RR false KX0_kinds (some (vI zv), zw) 80 [some (vR 1 0), some (vI v1), some (vI v2), some (vI v3)] [] w := by
  refine r_aload_n dX0_kinds_80 rfl rfl ?_
  refine r_iload_n dX0_kinds_81 rfl rfl ?_
  obtain ⟨x_2, w_1, hc, hf⟩ := cl_some hf
  refine g_cV (st := []) KX0_allSeeEachOther [vI v3] dX0_kinds_82 e_RX0_56 (cl_false_1) (rfl : vwCl[0]? = _) rfl mok_X0_allSeeEachOther mw_X0_allSeeEachOther ⟨Nat.le_of_ble_eq_true rfl, Nat.le_of_ble_eq_true rfl⟩ (met_X0_allSeeEachOther hc) rfl (Nat.le_of_ble_eq_true rfl) ?_
  clear hc
  refine g_if_ne (tgt := 93) dX0_kinds_85 rfl hf (fun _ hf => ?_) (fun _ hf => ?_)
  · exact ok_mX0_kinds_93 hk5 hf
  · refine r_iload_n dX0_kinds_88 rfl rfl ?_
    refine r_bipush dX0_kinds_89 (bp_m17) ?_
    refine r_iand dX0_kinds_91 ?_
    refine g_istore_n (fun v1_3 => [some (vR 1 0), some (vI v1_3), some (vI v2), some (vI v3)]) dX0_kinds_92 rfl rfl (fun _ => rfl) (Nat.le_of_ble_eq_true rfl) hf (fun v1_3 hf => ?_)
    exact ok_mX0_kinds_93 hk5 hf
set_option maxRecDepth 100000 in
set_option maxHeartbeats 4000000 in
theorem ok_mX0_kinds_71 {zv : Int32} {zw : AW} {k5 : Int32 → Int32 → AW → Option (Int32 × AW)} {v1 : Int32} {v2 : Int32} {v3 : Int32} (hk5 : ∀ (v1 : Int32) (v2 : Int32)  w, k5 v1 v2 w = some (zv, zw) → RR false KX0_kinds (some (vI zv), zw) 5 [some (vR 1 0), some (vI v1), some (vI v2), none] [] w) {w : AW} (hf : mX0_kinds_71 k5 v1 v2 v3 w = some (zv, zw)) : RR false KX0_kinds (some (vI zv), zw) 71 [some (vR 1 0), some (vI v1), some (vI v2), some (vI v3)] [] w := by
  refine r_iload_n dX0_kinds_71 rfl rfl ?_
  refine g_if_ne (tgt := 80) dX0_kinds_72 rfl hf (fun _ hf => ?_) (fun _ hf => ?_)
  · exact ok_mX0_kinds_80 hk5 hf
  · refine r_iload_n dX0_kinds_75 rfl rfl ?_
    refine r_bipush dX0_kinds_76 (bp_m9) ?_
    refine r_iand dX0_kinds_78 ?_
    refine g_istore_n (fun v1_1 => [some (vR 1 0), some (vI v1_1), some (vI v2), some (vI v3)]) dX0_kinds_79 rfl rfl (fun _ => rfl) (Nat.le_of_ble_eq_true rfl) hf (fun v1_1 hf => ?_)
    exact ok_mX0_kinds_80 hk5 hf
set_option maxRecDepth 100000 in
set_option maxHeartbeats 4000000 in
theorem ok_mX0_kinds_54 {zv : Int32} {zw : AW} {k5 : Int32 → Int32 → AW → Option (Int32 × AW)} {v1 : Int32} {v2 : Int32} {v3 : Int32} (hk5 : ∀ (v1 : Int32) (v2 : Int32)  w, k5 v1 v2 w = some (zv, zw) → RR false KX0_kinds (some (vI zv), zw) 5 [some (vR 1 0), some (vI v1), some (vI v2), none] [] w) {w : AW} (hf : mX0_kinds_54 k5 v1 v2 v3 w = some (zv, zw)) : RR false KX0_kinds (some (vI zv), zw) 54 [some (vR 1 0), some (vI v1), some (vI v2), some (vI v3)] [] w := by
  refine r_aload_n dX0_kinds_54 rfl rfl ?_
  refine r_iload_n dX0_kinds_55 rfl rfl ?_
  obtain ⟨x_2, w_1, hc, hf⟩ := cl_some hf
  refine g_cV (st := []) KX0_stepFrom [vI v3] dX0_kinds_56 e_RX0_46 (cl_false_1) (rfl : vwCl[0]? = _) rfl mok_X0_stepFrom mw_X0_stepFrom ⟨Nat.le_of_ble_eq_true rfl, Nat.le_of_ble_eq_true rfl⟩ (met_X0_stepFrom hc) rfl (Nat.le_of_ble_eq_true rfl) ?_
  clear hc
  refine r_iload_n dX0_kinds_59 rfl rfl ?_
  obtain ⟨x_4, w_3, hc, hf⟩ := cl_some hf
  refine g_cN (st := []) KX5_within [vI x_2, vI v3] dX0_kinds_60 e_RX0_52 mok_X5_within mw_X5_within ⟨Nat.le_of_ble_eq_true rfl, Nat.le_of_ble_eq_true rfl⟩ (met_X5_within hc) rfl (Nat.le_of_ble_eq_true rfl) ?_
  clear hc
  refine g_if_ne (tgt := 71) dX0_kinds_63 rfl hf (fun _ hf => ?_) (fun _ hf => ?_)
  · exact ok_mX0_kinds_71 hk5 hf
  · refine r_iload_n dX0_kinds_66 rfl rfl ?_
    refine r_bipush dX0_kinds_67 (bp_m5) ?_
    refine r_iand dX0_kinds_69 ?_
    refine g_istore_n (fun v1_5 => [some (vR 1 0), some (vI v1_5), some (vI v2), some (vI v3)]) dX0_kinds_70 rfl rfl (fun _ => rfl) (Nat.le_of_ble_eq_true rfl) hf (fun v1_5 hf => ?_)
    exact ok_mX0_kinds_71 hk5 hf
set_option maxRecDepth 100000 in
set_option maxHeartbeats 4000000 in
theorem ok_mX0_kinds_35 {zv : Int32} {zw : AW} {k5 : Int32 → Int32 → AW → Option (Int32 × AW)} {v1 : Int32} {v2 : Int32} {v3 : Int32} (hk5 : ∀ (v1 : Int32) (v2 : Int32)  w, k5 v1 v2 w = some (zv, zw) → RR false KX0_kinds (some (vI zv), zw) 5 [some (vR 1 0), some (vI v1), some (vI v2), none] [] w) {w : AW} (hf : mX0_kinds_35 k5 v1 v2 v3 w = some (zv, zw)) : RR false KX0_kinds (some (vI zv), zw) 35 [some (vR 1 0), some (vI v1), some (vI v2), some (vI v3)] [] w := by
  refine r_iload_n dX0_kinds_35 rfl rfl ?_
  refine r_aload_n dX0_kinds_36 rfl rfl ?_
  refine r_iconst dX0_kinds_37 ic_1 ?_
  refine r_iload_n dX0_kinds_38 rfl rfl ?_
  refine r_ishl dX0_kinds_39 ?_
  obtain ⟨x_2, w_1, hc, hf⟩ := cl_some hf
  refine g_cV (st := [vI v3]) KX0_stepInto [vI (1 <<< (v2 &&& 31))] dX0_kinds_40 e_RX0_49 (cl_false_1) (rfl : vwCl[0]? = _) rfl mok_X0_stepInto mw_X0_stepInto ⟨Nat.le_of_ble_eq_true rfl, Nat.le_of_ble_eq_true rfl⟩ (met_X0_stepInto hc) rfl (Nat.le_of_ble_eq_true rfl) ?_
  clear hc
  obtain ⟨x_4, w_3, hc, hf⟩ := cl_some hf
  refine g_cN (st := []) KX5_within [vI v3, vI x_2] dX0_kinds_43 e_RX0_52 mok_X5_within mw_X5_within ⟨Nat.le_of_ble_eq_true rfl, Nat.le_of_ble_eq_true rfl⟩ (met_X5_within hc) rfl (Nat.le_of_ble_eq_true rfl) ?_
  clear hc
  refine g_if_ne (tgt := 54) dX0_kinds_46 rfl hf (fun _ hf => ?_) (fun _ hf => ?_)
  · exact ok_mX0_kinds_54 hk5 hf
  · refine r_iload_n dX0_kinds_49 rfl rfl ?_
    refine r_bipush dX0_kinds_50 (bp_m3) ?_
    refine r_iand dX0_kinds_52 ?_
    refine g_istore_n (fun v1_5 => [some (vR 1 0), some (vI v1_5), some (vI v2), some (vI v3)]) dX0_kinds_53 rfl rfl (fun _ => rfl) (Nat.le_of_ble_eq_true rfl) hf (fun v1_5 hf => ?_)
    exact ok_mX0_kinds_54 hk5 hf
set_option maxRecDepth 100000 in
set_option maxHeartbeats 4000000 in
theorem ok_mX0_kinds_5 {zv : Int32} {zw : AW} : ∀ (n : Nat) (v1 : Int32) (v2 : Int32) (w : AW), mX0_kinds_5 n v1 v2 w = some (zv, zw) → RR false KX0_kinds (some (vI zv), zw) 5 [some (vR 1 0), some (vI v1), some (vI v2), none] [] w := by
  intro n
  induction n with
  | zero => intro v1 v2 w hf; cases hf
  | succ n ih =>
    intro v1 v2 w hf
    refine r_iload_n dX0_kinds_5 rfl rfl ?_
    refine r_aload_n dX0_kinds_6 rfl rfl ?_
    refine g_getI dX0_kinds_7 fl_RX0_18 fk_0_2 (cl_false_1) ?_
    refine g_icmp_ge (tgt := 112) dX0_kinds_10 rfl hf (fun _ hf => ?_) (fun _ hf => ?_)
    · refine r_iload_n dX0_kinds_112 rfl rfl ?_
      exact r_iret dX0_kinds_113 rfl (ret_I hf)
    · refine r_aload_n dX0_kinds_13 rfl rfl ?_
      refine g_getA dX0_kinds_14 fl_RX0_9 fk_0_0 rfl (cl_false_1) ?_
      refine r_iload_n dX0_kinds_17 rfl rfl ?_
      obtain ⟨x_2, w_1, hc, hf⟩ := cl_some hf
      refine g_cN (st := []) KX5_at [vR 1 1, vI v2] dX0_kinds_18 e_RX0_26 mok_X5_at mw_X5_at ⟨Nat.le_of_ble_eq_true rfl, Nat.le_of_ble_eq_true rfl⟩ (met_X5_at (am_iaW aK_false_1_1) hc) rfl (Nat.le_of_ble_eq_true rfl) ?_
      clear hc
      refine r_istore_n (ls2 := [some (vR 1 0), some (vI v1), some (vI v2), some (vI x_2)]) dX0_kinds_21 rfl rfl rfl (Nat.le_of_ble_eq_true rfl) ?_
      refine r_iload_n dX0_kinds_22 rfl rfl ?_
      refine r_iload_n dX0_kinds_23 rfl rfl ?_
      obtain ⟨x_4, w_3, hc, hf⟩ := cl_some hf
      refine g_cN (st := []) KX5_bit [vI x_2, vI v2] dX0_kinds_24 e_RX0_42 mok_X5_bit mw_X5_bit ⟨Nat.le_of_ble_eq_true rfl, Nat.le_of_ble_eq_true rfl⟩ (met_X5_bit hc) rfl (Nat.le_of_ble_eq_true rfl) ?_
      clear hc
      refine g_if_ne (tgt := 35) dX0_kinds_27 rfl hf (fun _ hf => ?_) (fun _ hf => ?_)
      · exact ok_mX0_kinds_35 (fun v1 v2 w hf => ih v1 v2 w hf) hf
      · refine r_iload_n dX0_kinds_30 rfl rfl ?_
        refine r_bipush dX0_kinds_31 (bp_m2) ?_
        refine r_iand dX0_kinds_33 ?_
        refine g_istore_n (fun v1_5 => [some (vR 1 0), some (vI v1_5), some (vI v2), some (vI x_2)]) dX0_kinds_34 rfl rfl (fun _ => rfl) (Nat.le_of_ble_eq_true rfl) hf (fun v1_5 hf => ?_)
        exact ok_mX0_kinds_35 (fun v1 v2 w hf => ih v1 v2 w hf) hf
set_option maxRecDepth 100000 in
set_option maxHeartbeats 4000000 in
theorem ok_mX0_kinds {zv : Int32} {zw : AW} {w : AW} (hf : mX0_kinds w = some (zv, zw)) : RR false KX0_kinds (some (vI zv), zw) 0 [some (vR 1 0), none, none, none] [] w := by
  refine r_bipush dX0_kinds_0 (bp_63) ?_
  refine r_istore_n (ls2 := [some (vR 1 0), some (vI 63), none, none]) dX0_kinds_2 rfl rfl rfl (Nat.le_of_ble_eq_true rfl) ?_
  refine r_iconst dX0_kinds_3 ic_0 ?_
  refine r_istore_n (ls2 := [some (vR 1 0), some (vI 63), some (vI 0), none]) dX0_kinds_4 rfl rfl rfl (Nat.le_of_ble_eq_true rfl) ?_
  exact ok_mX0_kinds_5 FU _ _ _ hf
theorem met_X0_kinds {zv : Int32} {zw : AW} {w : AW} (hf : mX0_kinds w = some (zv, zw)) : am_Met false KX0_kinds [vR 1 0] w (some (vI zv), zw) := am_met mok_X0_kinds.1 (Nat.le_of_ble_eq_true rfl) (ok_mX0_kinds  hf)

/-! SeenWorlds$Net.isGrowing()Z -/
noncomputable def mX0_isGrowing_2 : Nat → Int32 → AW → Option (Int32 × AW)
  | 0, _, _ => none
  | n + 1, v1, w =>
    if 4 ≤ v1 then
      some (1, w)
    else
      cl (mX5_at 1 2 v1 w) fun x_2 w_1 =>
      cl (mX0_stepFrom x_2 w_1) fun x_4 w_3 =>
      cl (mX5_at 1 2 v1 w_3) fun x_6 w_5 =>
      cl (mX5_within x_4 x_6 w_5) fun x_8 w_7 =>
      if x_8 ≠ 0 then
        nm (v1 + 1) fun v1_9 =>
        mX0_isGrowing_2 n v1_9 w_7
      else
        some (0, w_7)
noncomputable def mX0_isGrowing (w : AW) : Option (Int32 × AW) :=
  mX0_isGrowing_2 FU 0 w
set_option maxRecDepth 100000 in
set_option maxHeartbeats 4000000 in
theorem ok_mX0_isGrowing_2 {zv : Int32} {zw : AW} : ∀ (n : Nat) (v1 : Int32) (w : AW), mX0_isGrowing_2 n v1 w = some (zv, zw) → RR false KX0_isGrowing (some (vI zv), zw) 2 [some (vR 1 0), some (vI v1)] [] w := by
  intro n
  induction n with
  | zero => intro v1 w hf; cases hf
  | succ n ih =>
    intro v1 w hf
    refine r_iload_n dX0_isGrowing_2 rfl rfl ?_
    refine r_iconst dX0_isGrowing_3 ic_4 ?_
    refine g_icmp_ge (tgt := 41) dX0_isGrowing_4 rfl hf (fun _ hf => ?_) (fun _ hf => ?_)
    · refine r_iconst dX0_isGrowing_41 ic_1 ?_
      exact r_zret dX0_isGrowing_42 rfl nar_1 (ret_I hf)
    · refine r_aload_n dX0_isGrowing_7 rfl rfl ?_
      refine r_aload_n dX0_isGrowing_8 rfl rfl ?_
      refine g_getA dX0_isGrowing_9 fl_RX0_15 fk_0_1 rfl (cl_false_1) ?_
      refine r_iload_n dX0_isGrowing_12 rfl rfl ?_
      obtain ⟨x_2, w_1, hc, hf⟩ := cl_some hf
      refine g_cN (st := [vR 1 0]) KX5_at [vR 1 2, vI v1] dX0_isGrowing_13 e_RX0_26 mok_X5_at mw_X5_at ⟨Nat.le_of_ble_eq_true rfl, Nat.le_of_ble_eq_true rfl⟩ (met_X5_at (am_iaW aK_false_1_2) hc) rfl (Nat.le_of_ble_eq_true rfl) ?_
      clear hc
      obtain ⟨x_4, w_3, hc, hf⟩ := cl_some hf
      refine g_cV (st := []) KX0_stepFrom [vI x_2] dX0_isGrowing_16 e_RX0_46 (cl_false_1) (rfl : vwCl[0]? = _) rfl mok_X0_stepFrom mw_X0_stepFrom ⟨Nat.le_of_ble_eq_true rfl, Nat.le_of_ble_eq_true rfl⟩ (met_X0_stepFrom hc) rfl (Nat.le_of_ble_eq_true rfl) ?_
      clear hc
      refine r_aload_n dX0_isGrowing_19 rfl rfl ?_
      refine g_getA dX0_isGrowing_20 fl_RX0_15 fk_0_1 rfl (cl_false_1) ?_
      refine r_iload_n dX0_isGrowing_23 rfl rfl ?_
      obtain ⟨x_6, w_5, hc, hf⟩ := cl_some hf
      refine g_cN (st := [vI x_4]) KX5_at [vR 1 2, vI v1] dX0_isGrowing_24 e_RX0_26 mok_X5_at mw_X5_at ⟨Nat.le_of_ble_eq_true rfl, Nat.le_of_ble_eq_true rfl⟩ (met_X5_at (am_iaW aK_false_1_2) hc) rfl (Nat.le_of_ble_eq_true rfl) ?_
      clear hc
      obtain ⟨x_8, w_7, hc, hf⟩ := cl_some hf
      refine g_cN (st := []) KX5_within [vI x_4, vI x_6] dX0_isGrowing_27 e_RX0_52 mok_X5_within mw_X5_within ⟨Nat.le_of_ble_eq_true rfl, Nat.le_of_ble_eq_true rfl⟩ (met_X5_within hc) rfl (Nat.le_of_ble_eq_true rfl) ?_
      clear hc
      refine g_if_ne (tgt := 35) dX0_isGrowing_30 rfl hf (fun _ hf => ?_) (fun _ hf => ?_)
      · refine g_iinc (fun v1_9 => [some (vR 1 0), some (vI v1_9)]) dX0_isGrowing_35 ic_1 rfl rfl (fun _ => rfl) (Nat.le_of_ble_eq_true rfl) hf (fun v1_9 hf => ?_)
        refine r_goto (tgt := 2) dX0_isGrowing_38 rfl ?_
        exact ih _ _ hf
      · refine r_iconst dX0_isGrowing_33 ic_0 ?_
        exact r_zret dX0_isGrowing_34 rfl nar_0 (ret_I hf)
set_option maxRecDepth 100000 in
set_option maxHeartbeats 4000000 in
theorem ok_mX0_isGrowing {zv : Int32} {zw : AW} {w : AW} (hf : mX0_isGrowing w = some (zv, zw)) : RR false KX0_isGrowing (some (vI zv), zw) 0 [some (vR 1 0), none] [] w := by
  refine r_iconst dX0_isGrowing_0 ic_0 ?_
  refine r_istore_n (ls2 := [some (vR 1 0), some (vI 0)]) dX0_isGrowing_1 rfl rfl rfl (Nat.le_of_ble_eq_true rfl) ?_
  exact ok_mX0_isGrowing_2 FU _ _ hf
theorem met_X0_isGrowing {zv : Int32} {zw : AW} {w : AW} (hf : mX0_isGrowing w = some (zv, zw)) : am_Met false KX0_isGrowing [vR 1 0] w (some (vI zv), zw) := am_met mok_X0_isGrowing.1 (Nat.le_of_ble_eq_true rfl) (ok_mX0_isGrowing  hf)

/-! SeenWorlds$Net.allLeadInto(I)I -/
noncomputable def mX0_allLeadInto_37 (k4 : Int32 → Int32 → AW → Option (Int32 × AW)) (v1 : Int32) (v2 : Int32) (v3 : Int32) (w : AW) : Option (Int32 × AW) :=
  nm (v3 + 1) fun v3_1 =>
  k4 v2 v3_1 w
noncomputable def mX0_allLeadInto_4 (v1 : Int32) : Nat → Int32 → Int32 → AW → Option (Int32 × AW)
  | 0, _, _, _ => none
  | n + 1, v2, v3, w =>
    if (w.1 1 0 2) ≤ v3 then
      some (v2, w)
    else
      cl (mX5_at 1 1 v3 w) fun x_2 w_1 =>
      cl (mX0_farFrom x_2 w_1) fun x_4 w_3 =>
      cl (mX5_within x_4 v1 w_3) fun x_6 w_5 =>
      if x_6 = 0 then
        mX0_allLeadInto_37 (mX0_allLeadInto_4 v1 n) v1 v2 v3 w_5
      else
        nm (v2 ||| (1 <<< (v3 &&& 31))) fun v2_7 =>
        mX0_allLeadInto_37 (mX0_allLeadInto_4 v1 n) v1 v2_7 v3 w_5
noncomputable def mX0_allLeadInto (v1 : Int32) (w : AW) : Option (Int32 × AW) :=
  mX0_allLeadInto_4 v1 FU 0 0 w
set_option maxRecDepth 100000 in
set_option maxHeartbeats 4000000 in
theorem ok_mX0_allLeadInto_37 {zv : Int32} {zw : AW} {k4 : Int32 → Int32 → AW → Option (Int32 × AW)} {v1 : Int32} {v2 : Int32} {v3 : Int32} (hk4 : ∀ (v2 : Int32) (v3 : Int32)  w, k4 v2 v3 w = some (zv, zw) → RR false KX0_allLeadInto (some (vI zv), zw) 4 [some (vR 1 0), some (vI v1), some (vI v2), some (vI v3)] [] w) {w : AW} (hf : mX0_allLeadInto_37 k4 v1 v2 v3 w = some (zv, zw)) : RR false KX0_allLeadInto (some (vI zv), zw) 37 [some (vR 1 0), some (vI v1), some (vI v2), some (vI v3)] [] w := by
  refine g_iinc (fun v3_1 => [some (vR 1 0), some (vI v1), some (vI v2), some (vI v3_1)]) dX0_allLeadInto_37 ic_1 rfl rfl (fun _ => rfl) (Nat.le_of_ble_eq_true rfl) hf (fun v3_1 hf => ?_)
  refine r_goto (tgt := 4) dX0_allLeadInto_40 rfl ?_
  exact hk4 _ _ _ hf
set_option maxRecDepth 100000 in
set_option maxHeartbeats 4000000 in
theorem ok_mX0_allLeadInto_4 {zv : Int32} {zw : AW} {v1 : Int32} : ∀ (n : Nat) (v2 : Int32) (v3 : Int32) (w : AW), mX0_allLeadInto_4 v1 n v2 v3 w = some (zv, zw) → RR false KX0_allLeadInto (some (vI zv), zw) 4 [some (vR 1 0), some (vI v1), some (vI v2), some (vI v3)] [] w := by
  intro n
  induction n with
  | zero => intro v2 v3 w hf; cases hf
  | succ n ih =>
    intro v2 v3 w hf
    refine r_iload_n dX0_allLeadInto_4 rfl rfl ?_
    refine r_aload_n dX0_allLeadInto_5 rfl rfl ?_
    refine g_getI dX0_allLeadInto_6 fl_RX0_18 fk_0_2 (cl_false_1) ?_
    refine g_icmp_ge (tgt := 43) dX0_allLeadInto_9 rfl hf (fun _ hf => ?_) (fun _ hf => ?_)
    · refine r_iload_n dX0_allLeadInto_43 rfl rfl ?_
      exact r_iret dX0_allLeadInto_44 rfl (ret_I hf)
    · refine r_aload_n dX0_allLeadInto_12 rfl rfl ?_
      refine r_aload_n dX0_allLeadInto_13 rfl rfl ?_
      refine g_getA dX0_allLeadInto_14 fl_RX0_9 fk_0_0 rfl (cl_false_1) ?_
      refine r_iload_n dX0_allLeadInto_17 rfl rfl ?_
      obtain ⟨x_2, w_1, hc, hf⟩ := cl_some hf
      refine g_cN (st := [vR 1 0]) KX5_at [vR 1 1, vI v3] dX0_allLeadInto_18 e_RX0_26 mok_X5_at mw_X5_at ⟨Nat.le_of_ble_eq_true rfl, Nat.le_of_ble_eq_true rfl⟩ (met_X5_at (am_iaW aK_false_1_1) hc) rfl (Nat.le_of_ble_eq_true rfl) ?_
      clear hc
      obtain ⟨x_4, w_3, hc, hf⟩ := cl_some hf
      refine g_cV (st := []) KX0_farFrom [vI x_2] dX0_allLeadInto_21 e_RX0_36 (cl_false_1) (rfl : vwCl[0]? = _) rfl mok_X0_farFrom mw_X0_farFrom ⟨Nat.le_of_ble_eq_true rfl, Nat.le_of_ble_eq_true rfl⟩ (met_X0_farFrom hc) rfl (Nat.le_of_ble_eq_true rfl) ?_
      clear hc
      refine r_iload_n dX0_allLeadInto_24 rfl rfl ?_
      obtain ⟨x_6, w_5, hc, hf⟩ := cl_some hf
      refine g_cN (st := []) KX5_within [vI x_4, vI v1] dX0_allLeadInto_25 e_RX0_52 mok_X5_within mw_X5_within ⟨Nat.le_of_ble_eq_true rfl, Nat.le_of_ble_eq_true rfl⟩ (met_X5_within hc) rfl (Nat.le_of_ble_eq_true rfl) ?_
      clear hc
      refine g_if_eq (tgt := 37) dX0_allLeadInto_28 rfl hf (fun _ hf => ?_) (fun _ hf => ?_)
      · exact ok_mX0_allLeadInto_37 (fun v2 v3 w hf => ih v2 v3 w hf) hf
      · refine r_iload_n dX0_allLeadInto_31 rfl rfl ?_
        refine r_iconst dX0_allLeadInto_32 ic_1 ?_
        refine r_iload_n dX0_allLeadInto_33 rfl rfl ?_
        refine r_ishl dX0_allLeadInto_34 ?_
        refine r_ior dX0_allLeadInto_35 ?_
        refine g_istore_n (fun v2_7 => [some (vR 1 0), some (vI v1), some (vI v2_7), some (vI v3)]) dX0_allLeadInto_36 rfl rfl (fun _ => rfl) (Nat.le_of_ble_eq_true rfl) hf (fun v2_7 hf => ?_)
        exact ok_mX0_allLeadInto_37 (fun v2 v3 w hf => ih v2 v3 w hf) hf
set_option maxRecDepth 100000 in
set_option maxHeartbeats 4000000 in
theorem ok_mX0_allLeadInto {zv : Int32} {zw : AW} {v1 : Int32} {w : AW} (hf : mX0_allLeadInto v1 w = some (zv, zw)) : RR false KX0_allLeadInto (some (vI zv), zw) 0 [some (vR 1 0), some (vI v1), none, none] [] w := by
  refine r_iconst dX0_allLeadInto_0 ic_0 ?_
  refine r_istore_n (ls2 := [some (vR 1 0), some (vI v1), some (vI 0), none]) dX0_allLeadInto_1 rfl rfl rfl (Nat.le_of_ble_eq_true rfl) ?_
  refine r_iconst dX0_allLeadInto_2 ic_0 ?_
  refine r_istore_n (ls2 := [some (vR 1 0), some (vI v1), some (vI 0), some (vI 0)]) dX0_allLeadInto_3 rfl rfl rfl (Nat.le_of_ble_eq_true rfl) ?_
  exact ok_mX0_allLeadInto_4 FU _ _ _ hf
theorem met_X0_allLeadInto {zv : Int32} {zw : AW} {v1 : Int32} {w : AW} (hf : mX0_allLeadInto v1 w = some (zv, zw)) : am_Met false KX0_allLeadInto [vR 1 0, vI v1] w (some (vI zv), zw) := am_met mok_X0_allLeadInto.1 (Nat.le_of_ble_eq_true rfl) (ok_mX0_allLeadInto  hf)

/-! SeenWorlds$Net.stepsOutOf(II)I -/
noncomputable def mX0_stepsOutOf_7 (v1 : Int32) : Nat → Int32 → Int32 → AW → Option (Int32 × AW)
  | 0, _, _, _ => none
  | n + 1, v3, v4, w =>
    if (w.1 1 0 2) ≤ v4 then
      some ((-9), w)
    else
      cl (mX5_within v3 v1 w) fun x_2 w_1 =>
      if x_2 ≠ 0 then
        cl (mX0_stepFrom v3 w_1) fun x_4 w_3 =>
        nm (v3 ||| x_4) fun v3_5 =>
        nm (v4 + 1) fun v4_6 =>
        mX0_stepsOutOf_7 v1 n v3_5 v4_6 w_3
      else
        some (v4, w_1)
noncomputable def mX0_stepsOutOf (v1 : Int32) (v2 : Int32) (w : AW) : Option (Int32 × AW) :=
  nm (1 <<< (v2 &&& 31)) fun v3_1 =>
  mX0_stepsOutOf_7 v1 FU v3_1 0 w
set_option maxRecDepth 100000 in
set_option maxHeartbeats 4000000 in
theorem ok_mX0_stepsOutOf_7 {zv : Int32} {zw : AW} {v1 : Int32} : ∀ (n : Nat) (v3 : Int32) (v4 : Int32) (w : AW), mX0_stepsOutOf_7 v1 n v3 v4 w = some (zv, zw) → RR false KX0_stepsOutOf (some (vI zv), zw) 7 [some (vR 1 0), some (vI v1), none, some (vI v3), some (vI v4)] [] w := by
  intro n
  induction n with
  | zero => intro v3 v4 w hf; cases hf
  | succ n ih =>
    intro v3 v4 w hf
    refine r_iload dX0_stepsOutOf_7 rfl ?_
    refine r_aload_n dX0_stepsOutOf_9 rfl rfl ?_
    refine g_getI dX0_stepsOutOf_10 fl_RX0_18 fk_0_2 (cl_false_1) ?_
    refine g_icmp_ge (tgt := 41) dX0_stepsOutOf_13 rfl hf (fun _ hf => ?_) (fun _ hf => ?_)
    · refine r_bipush dX0_stepsOutOf_41 (bp_m9) ?_
      exact r_iret dX0_stepsOutOf_43 rfl (ret_I hf)
    · refine r_iload_n dX0_stepsOutOf_16 rfl rfl ?_
      refine r_iload_n dX0_stepsOutOf_17 rfl rfl ?_
      obtain ⟨x_2, w_1, hc, hf⟩ := cl_some hf
      refine g_cN (st := []) KX5_within [vI v3, vI v1] dX0_stepsOutOf_18 e_RX0_52 mok_X5_within mw_X5_within ⟨Nat.le_of_ble_eq_true rfl, Nat.le_of_ble_eq_true rfl⟩ (met_X5_within hc) rfl (Nat.le_of_ble_eq_true rfl) ?_
      clear hc
      refine g_if_ne (tgt := 27) dX0_stepsOutOf_21 rfl hf (fun _ hf => ?_) (fun _ hf => ?_)
      · refine r_iload_n dX0_stepsOutOf_27 rfl rfl ?_
        refine r_aload_n dX0_stepsOutOf_28 rfl rfl ?_
        refine r_iload_n dX0_stepsOutOf_29 rfl rfl ?_
        obtain ⟨x_4, w_3, hc, hf⟩ := cl_some hf
        refine g_cV (st := [vI v3]) KX0_stepFrom [vI v3] dX0_stepsOutOf_30 e_RX0_46 (cl_false_1) (rfl : vwCl[0]? = _) rfl mok_X0_stepFrom mw_X0_stepFrom ⟨Nat.le_of_ble_eq_true rfl, Nat.le_of_ble_eq_true rfl⟩ (met_X0_stepFrom hc) rfl (Nat.le_of_ble_eq_true rfl) ?_
        clear hc
        refine r_ior dX0_stepsOutOf_33 ?_
        refine g_istore_n (fun v3_5 => [some (vR 1 0), some (vI v1), none, some (vI v3_5), some (vI v4)]) dX0_stepsOutOf_34 rfl rfl (fun _ => rfl) (Nat.le_of_ble_eq_true rfl) hf (fun v3_5 hf => ?_)
        refine g_iinc (fun v4_6 => [some (vR 1 0), some (vI v1), none, some (vI v3_5), some (vI v4_6)]) dX0_stepsOutOf_35 ic_1 rfl rfl (fun _ => rfl) (Nat.le_of_ble_eq_true rfl) hf (fun v4_6 hf => ?_)
        refine r_goto (tgt := 7) dX0_stepsOutOf_38 rfl ?_
        exact ih _ _ _ hf
      · refine r_iload dX0_stepsOutOf_24 rfl ?_
        exact r_iret dX0_stepsOutOf_26 rfl (ret_I hf)
set_option maxRecDepth 100000 in
set_option maxHeartbeats 4000000 in
theorem ok_mX0_stepsOutOf {zv : Int32} {zw : AW} {v1 : Int32} {v2 : Int32} {w : AW} (hf : mX0_stepsOutOf v1 v2 w = some (zv, zw)) : RR false KX0_stepsOutOf (some (vI zv), zw) 0 [some (vR 1 0), some (vI v1), some (vI v2), none, none] [] w := by
  refine r_iconst dX0_stepsOutOf_0 ic_1 ?_
  refine r_iload_n dX0_stepsOutOf_1 rfl rfl ?_
  refine r_ishl dX0_stepsOutOf_2 ?_
  refine g_istore_n (fun v3_1 => [some (vR 1 0), some (vI v1), some (vI v2), some (vI v3_1), none]) dX0_stepsOutOf_3 rfl rfl (fun _ => rfl) (Nat.le_of_ble_eq_true rfl) hf (fun v3_1 hf => ?_)
  refine r_iconst dX0_stepsOutOf_4 ic_0 ?_
  refine r_istore (ls2 := [some (vR 1 0), some (vI v1), some (vI v2), some (vI v3_1), some (vI 0)]) dX0_stepsOutOf_5 rfl rfl (Nat.le_of_ble_eq_true rfl) ?_
  refine r_mask (bs := [true, true, false, true, true]) ?_
  exact ok_mX0_stepsOutOf_7 FU _ _ _ hf
theorem met_X0_stepsOutOf {zv : Int32} {zw : AW} {v1 : Int32} {v2 : Int32} {w : AW} (hf : mX0_stepsOutOf v1 v2 w = some (zv, zw)) : am_Met false KX0_stepsOutOf [vR 1 0, vI v1, vI v2] w (some (vI zv), zw) := am_met mok_X0_stepsOutOf.1 (Nat.le_of_ble_eq_true rfl) (ok_mX0_stepsOutOf  hf)

/-! SeenWorlds$Net.closedUp(II)I -/
noncomputable def mX0_closedUp_44 (k8 : Int32 → Int32 → Int32 → AW → Option (Int32 × AW)) (v1 : Int32) (v2 : Int32) (v3 : Int32) (v4 : Int32) (v5 : Int32) (w : AW) : Option (Int32 × AW) :=
  nm (v5 + 1) fun v5_1 =>
  k8 v3 v4 v5_1 w
noncomputable def mX0_closedUp_8 (v1 : Int32) (v2 : Int32) : Nat → Int32 → Int32 → Int32 → AW → Option (Int32 × AW)
  | 0, _, _, _, _ => none
  | n + 1, v3, v4, v5, w =>
    if (w.1 1 0 2) ≤ v5 then
      some (v3, w)
    else
      cl (mX5_bit v2 v5 w) fun x_2 w_1 =>
      if x_2 ≠ 0 then
        cl (mX5_bit v1 v5 w_1) fun x_4 w_3 =>
        nm (v3 ||| (x_4 <<< (v4 &&& 31))) fun v3_5 =>
        nm (v4 + 1) fun v4_6 =>
        mX0_closedUp_44 (mX0_closedUp_8 v1 v2 n) v1 v2 v3_5 v4_6 v5 w_3
      else
        mX0_closedUp_44 (mX0_closedUp_8 v1 v2 n) v1 v2 v3 v4 v5 w_1
noncomputable def mX0_closedUp (v1 : Int32) (v2 : Int32) (w : AW) : Option (Int32 × AW) :=
  mX0_closedUp_8 v1 v2 FU 0 0 0 w
set_option maxRecDepth 100000 in
set_option maxHeartbeats 4000000 in
theorem ok_mX0_closedUp_44 {zv : Int32} {zw : AW} {k8 : Int32 → Int32 → Int32 → AW → Option (Int32 × AW)} {v1 : Int32} {v2 : Int32} {v3 : Int32} {v4 : Int32} {v5 : Int32} (hk8 : ∀ (v3 : Int32) (v4 : Int32) (v5 : Int32)  w, k8 v3 v4 v5 w = some (zv, zw) → RR false KX0_closedUp (some (vI zv), zw) 8 [some (vR 1 0), some (vI v1), some (vI v2), some (vI v3), some (vI v4), some (vI v5)] [] w) {w : AW} (hf : mX0_closedUp_44 k8 v1 v2 v3 v4 v5 w = some (zv, zw)) : RR false KX0_closedUp (some (vI zv), zw) 44 [some (vR 1 0), some (vI v1), some (vI v2), some (vI v3), some (vI v4), some (vI v5)] [] w := by
  refine g_iinc (fun v5_1 => [some (vR 1 0), some (vI v1), some (vI v2), some (vI v3), some (vI v4), some (vI v5_1)]) dX0_closedUp_44 ic_1 rfl rfl (fun _ => rfl) (Nat.le_of_ble_eq_true rfl) hf (fun v5_1 hf => ?_)
  refine r_goto (tgt := 8) dX0_closedUp_47 rfl ?_
  exact hk8 _ _ _ _ hf
set_option maxRecDepth 100000 in
set_option maxHeartbeats 4000000 in
theorem ok_mX0_closedUp_8 {zv : Int32} {zw : AW} {v1 : Int32} {v2 : Int32} : ∀ (n : Nat) (v3 : Int32) (v4 : Int32) (v5 : Int32) (w : AW), mX0_closedUp_8 v1 v2 n v3 v4 v5 w = some (zv, zw) → RR false KX0_closedUp (some (vI zv), zw) 8 [some (vR 1 0), some (vI v1), some (vI v2), some (vI v3), some (vI v4), some (vI v5)] [] w := by
  intro n
  induction n with
  | zero => intro v3 v4 v5 w hf; cases hf
  | succ n ih =>
    intro v3 v4 v5 w hf
    refine r_iload dX0_closedUp_8 rfl ?_
    refine r_aload_n dX0_closedUp_10 rfl rfl ?_
    refine g_getI dX0_closedUp_11 fl_RX0_18 fk_0_2 (cl_false_1) ?_
    refine g_icmp_ge (tgt := 50) dX0_closedUp_14 rfl hf (fun _ hf => ?_) (fun _ hf => ?_)
    · refine r_iload_n dX0_closedUp_50 rfl rfl ?_
      exact r_iret dX0_closedUp_51 rfl (ret_I hf)
    · refine r_iload_n dX0_closedUp_17 rfl rfl ?_
      refine r_iload dX0_closedUp_18 rfl ?_
      obtain ⟨x_2, w_1, hc, hf⟩ := cl_some hf
      refine g_cN (st := []) KX5_bit [vI v2, vI v5] dX0_closedUp_20 e_RX0_42 mok_X5_bit mw_X5_bit ⟨Nat.le_of_ble_eq_true rfl, Nat.le_of_ble_eq_true rfl⟩ (met_X5_bit hc) rfl (Nat.le_of_ble_eq_true rfl) ?_
      clear hc
      refine g_if_ne (tgt := 29) dX0_closedUp_23 rfl hf (fun _ hf => ?_) (fun _ hf => ?_)
      · refine r_iload_n dX0_closedUp_29 rfl rfl ?_
        refine r_iload_n dX0_closedUp_30 rfl rfl ?_
        refine r_iload dX0_closedUp_31 rfl ?_
        obtain ⟨x_4, w_3, hc, hf⟩ := cl_some hf
        refine g_cN (st := [vI v3]) KX5_bit [vI v1, vI v5] dX0_closedUp_33 e_RX0_42 mok_X5_bit mw_X5_bit ⟨Nat.le_of_ble_eq_true rfl, Nat.le_of_ble_eq_true rfl⟩ (met_X5_bit hc) rfl (Nat.le_of_ble_eq_true rfl) ?_
        clear hc
        refine r_iload dX0_closedUp_36 rfl ?_
        refine r_ishl dX0_closedUp_38 ?_
        refine r_ior dX0_closedUp_39 ?_
        refine g_istore_n (fun v3_5 => [some (vR 1 0), some (vI v1), some (vI v2), some (vI v3_5), some (vI v4), some (vI v5)]) dX0_closedUp_40 rfl rfl (fun _ => rfl) (Nat.le_of_ble_eq_true rfl) hf (fun v3_5 hf => ?_)
        refine g_iinc (fun v4_6 => [some (vR 1 0), some (vI v1), some (vI v2), some (vI v3_5), some (vI v4_6), some (vI v5)]) dX0_closedUp_41 ic_1 rfl rfl (fun _ => rfl) (Nat.le_of_ble_eq_true rfl) hf (fun v4_6 hf => ?_)
        exact ok_mX0_closedUp_44 (fun v3 v4 v5 w hf => ih v3 v4 v5 w hf) hf
      · refine r_goto (tgt := 44) dX0_closedUp_26 rfl ?_
        exact ok_mX0_closedUp_44 (fun v3 v4 v5 w hf => ih v3 v4 v5 w hf) hf
set_option maxRecDepth 100000 in
set_option maxHeartbeats 4000000 in
theorem ok_mX0_closedUp {zv : Int32} {zw : AW} {v1 : Int32} {v2 : Int32} {w : AW} (hf : mX0_closedUp v1 v2 w = some (zv, zw)) : RR false KX0_closedUp (some (vI zv), zw) 0 [some (vR 1 0), some (vI v1), some (vI v2), none, none, none] [] w := by
  refine r_iconst dX0_closedUp_0 ic_0 ?_
  refine r_istore_n (ls2 := [some (vR 1 0), some (vI v1), some (vI v2), some (vI 0), none, none]) dX0_closedUp_1 rfl rfl rfl (Nat.le_of_ble_eq_true rfl) ?_
  refine r_iconst dX0_closedUp_2 ic_0 ?_
  refine r_istore (ls2 := [some (vR 1 0), some (vI v1), some (vI v2), some (vI 0), some (vI 0), none]) dX0_closedUp_3 rfl rfl (Nat.le_of_ble_eq_true rfl) ?_
  refine r_iconst dX0_closedUp_5 ic_0 ?_
  refine r_istore (ls2 := [some (vR 1 0), some (vI v1), some (vI v2), some (vI 0), some (vI 0), some (vI 0)]) dX0_closedUp_6 rfl rfl (Nat.le_of_ble_eq_true rfl) ?_
  exact ok_mX0_closedUp_8 FU _ _ _ _ hf
theorem met_X0_closedUp {zv : Int32} {zw : AW} {v1 : Int32} {v2 : Int32} {w : AW} (hf : mX0_closedUp v1 v2 w = some (zv, zw)) : am_Met false KX0_closedUp [vR 1 0, vI v1, vI v2] w (some (vI zv), zw) := am_met mok_X0_closedUp.1 (Nat.le_of_ble_eq_true rfl) (ok_mX0_closedUp  hf)

/-! SeenWorlds$Net.keep(I)V -/
noncomputable def mX0_keep_47 (k4 : Int32 → Int32 → AW → Option (Unit × AW)) (v1 : Int32) (v2 : Int32) (v3 : Int32) (w : AW) : Option (Unit × AW) :=
  nm (v3 + 1) fun v3_1 =>
  k4 v2 v3_1 w
noncomputable def mX0_keep_80 (v1 : Int32) (v2 : Int32) : Nat → Int32 → AW → Option (Unit × AW)
  | 0, _, _ => none
  | n + 1, v3, w =>
    if 4 ≤ v3 then
      pu w 1 2 v2 fun w_1 =>
      some ((), w_1)
    else
      cl (mX5_at 1 2 v3 w) fun x_3 w_2 =>
      cl (mX0_closedUp x_3 v1 w_2) fun x_5 w_4 =>
      cl (mX5_put 1 2 v3 x_5 w_4) fun x_7 w_6 =>
      nm (v3 + 1) fun v3_8 =>
      mX0_keep_80 v1 v2 n v3_8 w_6
noncomputable def mX0_keep_55 (v1 : Int32) (v2 : Int32) : Nat → Int32 → AW → Option (Unit × AW)
  | 0, _, _ => none
  | n + 1, v3, w =>
    if (w.1 1 0 2) ≤ v3 then
      mX0_keep_80 v1 v2 FU 0 w
    else
      cl (mX5_put 1 1 v3 0 w) fun x_2 w_1 =>
      nm (v3 + 1) fun v3_3 =>
      mX0_keep_55 v1 v2 n v3_3 w_1
noncomputable def mX0_keep_4 (v1 : Int32) : Nat → Int32 → Int32 → AW → Option (Unit × AW)
  | 0, _, _, _ => none
  | n + 1, v2, v3, w =>
    if (w.1 1 0 2) ≤ v3 then
      mX0_keep_55 v1 v2 FU v2 w
    else
      cl (mX5_bit v1 v3 w) fun x_2 w_1 =>
      if x_2 ≠ 0 then
        cl (mX5_at 1 1 v3 w_1) fun x_4 w_3 =>
        cl (mX0_closedUp x_4 v1 w_3) fun x_6 w_5 =>
        cl (mX5_put 1 1 v2 x_6 w_5) fun x_8 w_7 =>
        nm (v2 + 1) fun v2_9 =>
        mX0_keep_47 (mX0_keep_4 v1 n) v1 v2_9 v3 w_7
      else
        mX0_keep_47 (mX0_keep_4 v1 n) v1 v2 v3 w_1
noncomputable def mX0_keep (v1 : Int32) (w : AW) : Option (Unit × AW) :=
  mX0_keep_4 v1 FU 0 0 w
set_option maxRecDepth 100000 in
set_option maxHeartbeats 4000000 in
theorem ok_mX0_keep_47 {zv : Unit} {zw : AW} {k4 : Int32 → Int32 → AW → Option (Unit × AW)} {v1 : Int32} {v2 : Int32} {v3 : Int32} (hk4 : ∀ (v2 : Int32) (v3 : Int32)  w, k4 v2 v3 w = some (zv, zw) → RR false KX0_keep (none, zw) 4 [some (vR 1 0), some (vI v1), some (vI v2), some (vI v3)] [] w) {w : AW} (hf : mX0_keep_47 k4 v1 v2 v3 w = some (zv, zw)) : RR false KX0_keep (none, zw) 47 [some (vR 1 0), some (vI v1), some (vI v2), some (vI v3)] [] w := by
  refine g_iinc (fun v3_1 => [some (vR 1 0), some (vI v1), some (vI v2), some (vI v3_1)]) dX0_keep_47 ic_1 rfl rfl (fun _ => rfl) (Nat.le_of_ble_eq_true rfl) hf (fun v3_1 hf => ?_)
  refine r_goto (tgt := 4) dX0_keep_50 rfl ?_
  exact hk4 _ _ _ hf
set_option maxRecDepth 100000 in
set_option maxHeartbeats 4000000 in
theorem ok_mX0_keep_80 {zv : Unit} {zw : AW} {v1 : Int32} {v2 : Int32} : ∀ (n : Nat) (v3 : Int32) (w : AW), mX0_keep_80 v1 v2 n v3 w = some (zv, zw) → RR false KX0_keep (none, zw) 80 [some (vR 1 0), some (vI v1), some (vI v2), some (vI v3)] [] w := by
  intro n
  induction n with
  | zero => intro v3 w hf; cases hf
  | succ n ih =>
    intro v3 w hf
    refine r_iload_n dX0_keep_80 rfl rfl ?_
    refine r_iconst dX0_keep_81 ic_4 ?_
    refine g_icmp_ge (tgt := 112) dX0_keep_82 rfl hf (fun _ hf => ?_) (fun _ hf => ?_)
    · refine r_aload_n dX0_keep_112 rfl rfl ?_
      refine r_iload_n dX0_keep_113 rfl rfl ?_
      refine g_putI dX0_keep_114 fl_RX0_18 fk_0_2 (cl_false_1) hf (fun w_1 hf => ?_)
      exact r_vret dX0_keep_117 rfl (ret_U hf)
    · refine r_aload_n dX0_keep_85 rfl rfl ?_
      refine g_getA dX0_keep_86 fl_RX0_15 fk_0_1 rfl (cl_false_1) ?_
      refine r_iload_n dX0_keep_89 rfl rfl ?_
      refine r_aload_n dX0_keep_90 rfl rfl ?_
      refine r_aload_n dX0_keep_91 rfl rfl ?_
      refine g_getA dX0_keep_92 fl_RX0_15 fk_0_1 rfl (cl_false_1) ?_
      refine r_iload_n dX0_keep_95 rfl rfl ?_
      obtain ⟨x_3, w_2, hc, hf⟩ := cl_some hf
      refine g_cN (st := [vR 1 0, vI v3, vR 1 2]) KX5_at [vR 1 2, vI v3] dX0_keep_96 e_RX0_26 mok_X5_at mw_X5_at ⟨Nat.le_of_ble_eq_true rfl, Nat.le_of_ble_eq_true rfl⟩ (met_X5_at (am_iaW aK_false_1_2) hc) rfl (Nat.le_of_ble_eq_true rfl) ?_
      clear hc
      refine r_iload_n dX0_keep_99 rfl rfl ?_
      obtain ⟨x_5, w_4, hc, hf⟩ := cl_some hf
      refine g_cV (st := [vI v3, vR 1 2]) KX0_closedUp [vI x_3, vI v1] dX0_keep_100 e_RX0_60 (cl_false_1) (rfl : vwCl[0]? = _) rfl mok_X0_closedUp mw_X0_closedUp ⟨Nat.le_of_ble_eq_true rfl, Nat.le_of_ble_eq_true rfl⟩ (met_X0_closedUp hc) rfl (Nat.le_of_ble_eq_true rfl) ?_
      clear hc
      obtain ⟨x_7, w_6, hc, hf⟩ := cl_some hf
      refine g_cNv (st := []) KX5_put [vR 1 2, vI v3, vI x_5] dX0_keep_103 e_RX0_22 mok_X5_put mw_X5_put ⟨Nat.le_of_ble_eq_true rfl, Nat.le_of_ble_eq_true rfl⟩ (met_X5_put aK_false_1_2 hc) rfl (Nat.le_of_ble_eq_true rfl) ?_
      clear hc
      refine g_iinc (fun v3_8 => [some (vR 1 0), some (vI v1), some (vI v2), some (vI v3_8)]) dX0_keep_106 ic_1 rfl rfl (fun _ => rfl) (Nat.le_of_ble_eq_true rfl) hf (fun v3_8 hf => ?_)
      refine r_goto (tgt := 80) dX0_keep_109 rfl ?_
      exact ih _ _ hf
set_option maxRecDepth 100000 in
set_option maxHeartbeats 4000000 in
theorem ok_mX0_keep_55 {zv : Unit} {zw : AW} {v1 : Int32} {v2 : Int32} : ∀ (n : Nat) (v3 : Int32) (w : AW), mX0_keep_55 v1 v2 n v3 w = some (zv, zw) → RR false KX0_keep (none, zw) 55 [some (vR 1 0), some (vI v1), some (vI v2), some (vI v3)] [] w := by
  intro n
  induction n with
  | zero => intro v3 w hf; cases hf
  | succ n ih =>
    intro v3 w hf
    refine r_iload_n dX0_keep_55 rfl rfl ?_
    refine r_aload_n dX0_keep_56 rfl rfl ?_
    refine g_getI dX0_keep_57 fl_RX0_18 fk_0_2 (cl_false_1) ?_
    refine g_icmp_ge (tgt := 78) dX0_keep_60 rfl hf (fun _ hf => ?_) (fun _ hf => ?_)
    · refine r_iconst dX0_keep_78 ic_0 ?_
      refine r_istore_n (ls2 := [some (vR 1 0), some (vI v1), some (vI v2), some (vI 0)]) dX0_keep_79 rfl rfl rfl (Nat.le_of_ble_eq_true rfl) ?_
      exact ok_mX0_keep_80 FU _ _ hf
    · refine r_aload_n dX0_keep_63 rfl rfl ?_
      refine g_getA dX0_keep_64 fl_RX0_9 fk_0_0 rfl (cl_false_1) ?_
      refine r_iload_n dX0_keep_67 rfl rfl ?_
      refine r_iconst dX0_keep_68 ic_0 ?_
      obtain ⟨x_2, w_1, hc, hf⟩ := cl_some hf
      refine g_cNv (st := []) KX5_put [vR 1 1, vI v3, vI 0] dX0_keep_69 e_RX0_22 mok_X5_put mw_X5_put ⟨Nat.le_of_ble_eq_true rfl, Nat.le_of_ble_eq_true rfl⟩ (met_X5_put aK_false_1_1 hc) rfl (Nat.le_of_ble_eq_true rfl) ?_
      clear hc
      refine g_iinc (fun v3_3 => [some (vR 1 0), some (vI v1), some (vI v2), some (vI v3_3)]) dX0_keep_72 ic_1 rfl rfl (fun _ => rfl) (Nat.le_of_ble_eq_true rfl) hf (fun v3_3 hf => ?_)
      refine r_goto (tgt := 55) dX0_keep_75 rfl ?_
      exact ih _ _ hf
set_option maxRecDepth 100000 in
set_option maxHeartbeats 4000000 in
theorem ok_mX0_keep_4 {zv : Unit} {zw : AW} {v1 : Int32} : ∀ (n : Nat) (v2 : Int32) (v3 : Int32) (w : AW), mX0_keep_4 v1 n v2 v3 w = some (zv, zw) → RR false KX0_keep (none, zw) 4 [some (vR 1 0), some (vI v1), some (vI v2), some (vI v3)] [] w := by
  intro n
  induction n with
  | zero => intro v2 v3 w hf; cases hf
  | succ n ih =>
    intro v2 v3 w hf
    refine r_iload_n dX0_keep_4 rfl rfl ?_
    refine r_aload_n dX0_keep_5 rfl rfl ?_
    refine g_getI dX0_keep_6 fl_RX0_18 fk_0_2 (cl_false_1) ?_
    refine g_icmp_ge (tgt := 53) dX0_keep_9 rfl hf (fun _ hf => ?_) (fun _ hf => ?_)
    · refine r_iload_n dX0_keep_53 rfl rfl ?_
      refine r_istore_n (ls2 := [some (vR 1 0), some (vI v1), some (vI v2), some (vI v2)]) dX0_keep_54 rfl rfl rfl (Nat.le_of_ble_eq_true rfl) ?_
      exact ok_mX0_keep_55 FU _ _ hf
    · refine r_iload_n dX0_keep_12 rfl rfl ?_
      refine r_iload_n dX0_keep_13 rfl rfl ?_
      obtain ⟨x_2, w_1, hc, hf⟩ := cl_some hf
      refine g_cN (st := []) KX5_bit [vI v1, vI v3] dX0_keep_14 e_RX0_42 mok_X5_bit mw_X5_bit ⟨Nat.le_of_ble_eq_true rfl, Nat.le_of_ble_eq_true rfl⟩ (met_X5_bit hc) rfl (Nat.le_of_ble_eq_true rfl) ?_
      clear hc
      refine g_if_ne (tgt := 23) dX0_keep_17 rfl hf (fun _ hf => ?_) (fun _ hf => ?_)
      · refine r_aload_n dX0_keep_23 rfl rfl ?_
        refine g_getA dX0_keep_24 fl_RX0_9 fk_0_0 rfl (cl_false_1) ?_
        refine r_iload_n dX0_keep_27 rfl rfl ?_
        refine r_aload_n dX0_keep_28 rfl rfl ?_
        refine r_aload_n dX0_keep_29 rfl rfl ?_
        refine g_getA dX0_keep_30 fl_RX0_9 fk_0_0 rfl (cl_false_1) ?_
        refine r_iload_n dX0_keep_33 rfl rfl ?_
        obtain ⟨x_4, w_3, hc, hf⟩ := cl_some hf
        refine g_cN (st := [vR 1 0, vI v2, vR 1 1]) KX5_at [vR 1 1, vI v3] dX0_keep_34 e_RX0_26 mok_X5_at mw_X5_at ⟨Nat.le_of_ble_eq_true rfl, Nat.le_of_ble_eq_true rfl⟩ (met_X5_at (am_iaW aK_false_1_1) hc) rfl (Nat.le_of_ble_eq_true rfl) ?_
        clear hc
        refine r_iload_n dX0_keep_37 rfl rfl ?_
        obtain ⟨x_6, w_5, hc, hf⟩ := cl_some hf
        refine g_cV (st := [vI v2, vR 1 1]) KX0_closedUp [vI x_4, vI v1] dX0_keep_38 e_RX0_60 (cl_false_1) (rfl : vwCl[0]? = _) rfl mok_X0_closedUp mw_X0_closedUp ⟨Nat.le_of_ble_eq_true rfl, Nat.le_of_ble_eq_true rfl⟩ (met_X0_closedUp hc) rfl (Nat.le_of_ble_eq_true rfl) ?_
        clear hc
        obtain ⟨x_8, w_7, hc, hf⟩ := cl_some hf
        refine g_cNv (st := []) KX5_put [vR 1 1, vI v2, vI x_6] dX0_keep_41 e_RX0_22 mok_X5_put mw_X5_put ⟨Nat.le_of_ble_eq_true rfl, Nat.le_of_ble_eq_true rfl⟩ (met_X5_put aK_false_1_1 hc) rfl (Nat.le_of_ble_eq_true rfl) ?_
        clear hc
        refine g_iinc (fun v2_9 => [some (vR 1 0), some (vI v1), some (vI v2_9), some (vI v3)]) dX0_keep_44 ic_1 rfl rfl (fun _ => rfl) (Nat.le_of_ble_eq_true rfl) hf (fun v2_9 hf => ?_)
        exact ok_mX0_keep_47 (fun v2 v3 w hf => ih v2 v3 w hf) hf
      · refine r_goto (tgt := 47) dX0_keep_20 rfl ?_
        exact ok_mX0_keep_47 (fun v2 v3 w hf => ih v2 v3 w hf) hf
set_option maxRecDepth 100000 in
set_option maxHeartbeats 4000000 in
theorem ok_mX0_keep {zv : Unit} {zw : AW} {v1 : Int32} {w : AW} (hf : mX0_keep v1 w = some (zv, zw)) : RR false KX0_keep (none, zw) 0 [some (vR 1 0), some (vI v1), none, none] [] w := by
  refine r_iconst dX0_keep_0 ic_0 ?_
  refine r_istore_n (ls2 := [some (vR 1 0), some (vI v1), some (vI 0), none]) dX0_keep_1 rfl rfl rfl (Nat.le_of_ble_eq_true rfl) ?_
  refine r_iconst dX0_keep_2 ic_0 ?_
  refine r_istore_n (ls2 := [some (vR 1 0), some (vI v1), some (vI 0), some (vI 0)]) dX0_keep_3 rfl rfl rfl (Nat.le_of_ble_eq_true rfl) ?_
  exact ok_mX0_keep_4 FU _ _ _ hf
theorem met_X0_keep {zv : Unit} {zw : AW} {v1 : Int32} {w : AW} (hf : mX0_keep v1 w = some (zv, zw)) : am_Met false KX0_keep [vR 1 0, vI v1] w (none, zw) := am_met mok_X0_keep.1 (Nat.le_of_ble_eq_true rfl) (ok_mX0_keep  hf)

/-! SeenWorlds$Sentence.begin()V -/
noncomputable def mX2_begin (o0 : Nat) (w : AW) : Option (Unit × AW) :=
  pu w o0 5 0 fun w_1 =>
  pu w_1 o0 6 0 fun w_2 =>
  some ((), w_2)
set_option maxRecDepth 100000 in
set_option maxHeartbeats 4000000 in
theorem ok_mX2_begin {zv : Unit} {zw : AW} {o0 : Nat} (ho0 : am_cls false o0 = 2) {w : AW} (hf : mX2_begin o0 w = some (zv, zw)) : RR false KX2_begin (none, zw) 0 [some (vR o0 0)] [] w := by
  refine r_aload_n dX2_begin_0 rfl rfl ?_
  refine r_iconst dX2_begin_1 ic_0 ?_
  refine g_putI dX2_begin_2 fl_RX2_9 fk_2_5 ho0 hf (fun w_1 hf => ?_)
  refine r_aload_n dX2_begin_5 rfl rfl ?_
  refine r_iconst dX2_begin_6 ic_0 ?_
  refine g_putI dX2_begin_7 fl_RX2_15 fk_2_6 ho0 hf (fun w_2 hf => ?_)
  exact r_vret dX2_begin_10 rfl (ret_U hf)
theorem met_X2_begin {zv : Unit} {zw : AW} {o0 : Nat} (ho0 : am_cls false o0 = 2) {w : AW} (hf : mX2_begin o0 w = some (zv, zw)) : am_Met false KX2_begin [vR o0 0] w (none, zw) := am_met mok_X2_begin.1 (Nat.le_of_ble_eq_true rfl) (ok_mX2_begin ho0 hf)

/-! SeenWorlds$Sentence.signs()I -/
noncomputable def mX2_signs (o0 : Nat) (w : AW) : Option (Int32 × AW) :=
  some (w.1 o0 0 6, w)
set_option maxRecDepth 100000 in
set_option maxHeartbeats 4000000 in
theorem ok_mX2_signs {zv : Int32} {zw : AW} {o0 : Nat} (ho0 : am_cls false o0 = 2) {w : AW} (hf : mX2_signs o0 w = some (zv, zw)) : RR false KX2_signs (some (vI zv), zw) 0 [some (vR o0 0)] [] w := by
  refine r_aload_n dX2_signs_0 rfl rfl ?_
  refine g_getI dX2_signs_1 fl_RX2_15 fk_2_6 ho0 ?_
  exact r_iret dX2_signs_4 rfl (ret_I hf)
theorem met_X2_signs {zv : Int32} {zw : AW} {o0 : Nat} (ho0 : am_cls false o0 = 2) {w : AW} (hf : mX2_signs o0 w = some (zv, zw)) : am_Met false KX2_signs [vR o0 0] w (some (vI zv), zw) := am_met mok_X2_signs.1 (Nat.le_of_ble_eq_true rfl) (ok_mX2_signs ho0 hf)

/-! SeenWorlds$Sentence.countSign()V -/
noncomputable def mX2_countSign (o0 : Nat) (w : AW) : Option (Unit × AW) :=
  pu w o0 6 ((w.1 o0 0 6) + 1) fun w_1 =>
  some ((), w_1)
set_option maxRecDepth 100000 in
set_option maxHeartbeats 4000000 in
theorem ok_mX2_countSign {zv : Unit} {zw : AW} {o0 : Nat} (ho0 : am_cls false o0 = 2) {w : AW} (hf : mX2_countSign o0 w = some (zv, zw)) : RR false KX2_countSign (none, zw) 0 [some (vR o0 0)] [] w := by
  refine r_aload_n dX2_countSign_0 rfl rfl ?_
  refine r_dup dX2_countSign_1 rfl ?_
  refine g_getI dX2_countSign_2 fl_RX2_15 fk_2_6 ho0 ?_
  refine r_iconst dX2_countSign_5 ic_1 ?_
  refine r_iadd dX2_countSign_6 ?_
  refine g_putI dX2_countSign_7 fl_RX2_15 fk_2_6 ho0 hf (fun w_1 hf => ?_)
  exact r_vret dX2_countSign_10 rfl (ret_U hf)
theorem met_X2_countSign {zv : Unit} {zw : AW} {o0 : Nat} (ho0 : am_cls false o0 = 2) {w : AW} (hf : mX2_countSign o0 w = some (zv, zw)) : am_Met false KX2_countSign [vR o0 0] w (none, zw) := am_met mok_X2_countSign.1 (Nat.le_of_ble_eq_true rfl) (ok_mX2_countSign ho0 hf)

/-! SeenWorlds.isAtom(I)Z -/
noncomputable def mX5_isAtom (v0 : Int32) (w : AW) : Option (Int32 × AW) :=
  if v0 < 112 then
    some (0, w)
  else
    if 115 < v0 then
      some (0, w)
    else
      some (1, w)
set_option maxRecDepth 100000 in
set_option maxHeartbeats 4000000 in
theorem ok_mX5_isAtom {zv : Int32} {zw : AW} {v0 : Int32} {w : AW} (hf : mX5_isAtom v0 w = some (zv, zw)) : RR false KX5_isAtom (some (vI zv), zw) 0 [some (vI v0)] [] w := by
  refine r_iload_n dX5_isAtom_0 rfl rfl ?_
  refine r_bipush dX5_isAtom_1 (bp_112) ?_
  refine g_icmp_lt (tgt := 16) dX5_isAtom_3 rfl hf (fun _ hf => ?_) (fun _ hf => ?_)
  · refine r_iconst dX5_isAtom_16 ic_0 ?_
    exact r_zret dX5_isAtom_17 rfl nar_0 (ret_I hf)
  · refine r_iload_n dX5_isAtom_6 rfl rfl ?_
    refine r_bipush dX5_isAtom_7 (bp_115) ?_
    refine g_icmp_gt (tgt := 16) dX5_isAtom_9 rfl hf (fun _ hf => ?_) (fun _ hf => ?_)
    · refine r_iconst dX5_isAtom_16 ic_0 ?_
      exact r_zret dX5_isAtom_17 rfl nar_0 (ret_I hf)
    · refine r_iconst dX5_isAtom_12 ic_1 ?_
      refine r_goto (tgt := 17) dX5_isAtom_13 rfl ?_
      exact r_zret dX5_isAtom_17 rfl nar_1 (ret_I hf)
theorem met_X5_isAtom {zv : Int32} {zw : AW} {v0 : Int32} {w : AW} (hf : mX5_isAtom v0 w = some (zv, zw)) : am_Met false KX5_isAtom [vI v0] w (some (vI zv), zw) := am_met mok_X5_isAtom.1 (Nat.le_of_ble_eq_true rfl) (ok_mX5_isAtom  hf)

/-! SeenWorlds.isModal(I)Z -/
noncomputable def mX5_isModal_12 (w : AW) : Option (Int32 × AW) :=
  some (1, w)
noncomputable def mX5_isModal (v0 : Int32) (w : AW) : Option (Int32 × AW) :=
  if v0 = 91 then
    mX5_isModal_12 w
  else
    if v0 ≠ 123 then
      some (0, w)
    else
      mX5_isModal_12 w
set_option maxRecDepth 100000 in
set_option maxHeartbeats 4000000 in
theorem ok_mX5_isModal_12 {zv : Int32} {zw : AW} {w : AW} (hf : mX5_isModal_12 w = some (zv, zw)) : RR false KX5_isModal (some (vI zv), zw) 12 [none] [] w := by
  refine r_iconst dX5_isModal_12 ic_1 ?_
  refine r_goto (tgt := 17) dX5_isModal_13 rfl ?_
  exact r_zret dX5_isModal_17 rfl nar_1 (ret_I hf)
set_option maxRecDepth 100000 in
set_option maxHeartbeats 4000000 in
theorem ok_mX5_isModal {zv : Int32} {zw : AW} {v0 : Int32} {w : AW} (hf : mX5_isModal v0 w = some (zv, zw)) : RR false KX5_isModal (some (vI zv), zw) 0 [some (vI v0)] [] w := by
  refine r_iload_n dX5_isModal_0 rfl rfl ?_
  refine r_bipush dX5_isModal_1 (bp_91) ?_
  refine g_icmp_eq (tgt := 12) dX5_isModal_3 rfl hf (fun _ hf => ?_) (fun _ hf => ?_)
  · refine r_mask (bs := [false]) ?_
    exact ok_mX5_isModal_12 hf
  · refine r_iload_n dX5_isModal_6 rfl rfl ?_
    refine r_bipush dX5_isModal_7 (bp_123) ?_
    refine g_icmp_ne (tgt := 16) dX5_isModal_9 rfl hf (fun _ hf => ?_) (fun _ hf => ?_)
    · refine r_iconst dX5_isModal_16 ic_0 ?_
      exact r_zret dX5_isModal_17 rfl nar_0 (ret_I hf)
    · refine r_mask (bs := [false]) ?_
      exact ok_mX5_isModal_12 hf
theorem met_X5_isModal {zv : Int32} {zw : AW} {v0 : Int32} {w : AW} (hf : mX5_isModal v0 w = some (zv, zw)) : am_Met false KX5_isModal [vI v0] w (some (vI zv), zw) := am_met mok_X5_isModal.1 (Nat.le_of_ble_eq_true rfl) (ok_mX5_isModal  hf)

/-! SeenWorlds.whether(Z)I -/
noncomputable def mX5_whether (v0 : Int32) (w : AW) : Option (Int32 × AW) :=
  if v0 = 0 then
    some (0, w)
  else
    some (1, w)
set_option maxRecDepth 100000 in
set_option maxHeartbeats 4000000 in
theorem ok_mX5_whether {zv : Int32} {zw : AW} {v0 : Int32} {w : AW} (hf : mX5_whether v0 w = some (zv, zw)) : RR false KX5_whether (some (vI zv), zw) 0 [some (vI v0)] [] w := by
  refine r_iload_n dX5_whether_0 rfl rfl ?_
  refine g_if_eq (tgt := 8) dX5_whether_1 rfl hf (fun _ hf => ?_) (fun _ hf => ?_)
  · refine r_iconst dX5_whether_8 ic_0 ?_
    exact r_iret dX5_whether_9 rfl (ret_I hf)
  · refine r_iconst dX5_whether_4 ic_1 ?_
    refine r_goto (tgt := 9) dX5_whether_5 rfl ?_
    exact r_iret dX5_whether_9 rfl (ret_I hf)
theorem met_X5_whether {zv : Int32} {zw : AW} {v0 : Int32} {w : AW} (hf : mX5_whether v0 w = some (zv, zw)) : am_Met false KX5_whether [vI v0] w (some (vI zv), zw) := am_met mok_X5_whether.1 (Nat.le_of_ble_eq_true rfl) (ok_mX5_whether  hf)

/-! SeenWorlds$Sentence.part(IIII)I -/
noncomputable def mX2_part_54 (k3 : Int32 → AW → Option (Int32 × AW)) (o0 : Nat) (v1 : Int32) (v2 : Int32) (v3 : Int32) (v4 : Int32) (v5 : Int32) (w : AW) : Option (Int32 × AW) :=
  nm (v5 + 1) fun v5_1 =>
  k3 v5_1 w
noncomputable def mX2_part_169 (o0 : Nat) (w : AW) : Option (Int32 × AW) :=
  some ((w.1 o0 0 5) - 1, w)
noncomputable def mX2_part_3 (o0 : Nat) (v1 : Int32) (v2 : Int32) (v3 : Int32) (v4 : Int32) : Nat → Int32 → AW → Option (Int32 × AW)
  | 0, _, _ => none
  | n + 1, v5, w =>
    if (w.1 o0 0 5) ≤ v5 then
      if (Int32.ofNat (am_aL false o0 1)) ≤ (w.1 o0 0 5) then
        mX2_part_169 o0 w
      else
        cl (mX5_put o0 1 (w.1 o0 0 5) v1 w) fun x_2 w_1 =>
        cl (mX5_put o0 2 (w_1.1 o0 0 5) v2 w_1) fun x_4 w_3 =>
        cl (mX5_put o0 3 (w_3.1 o0 0 5) v3 w_3) fun x_6 w_5 =>
        cl (mX5_put o0 4 (w_5.1 o0 0 5) v4 w_5) fun x_8 w_7 =>
        cl (mX5_at o0 5 v2 w_7) fun x_10 w_9 =>
        cl (mX5_at o0 5 v3 w_9) fun x_12 w_11 =>
        cl (mX5_isModal v1 w_11) fun x_14 w_13 =>
        cl (mX5_whether x_14 w_13) fun x_16 w_15 =>
        cl (mX5_put o0 5 (w_7.1 o0 0 5) ((if x_10 < x_12 then x_12 else x_10) + x_16) w_15) fun x_18 w_17 =>
        pu w_17 o0 5 ((w_17.1 o0 0 5) + 1) fun w_19 =>
        mX2_part_169 o0 w_19
    else
      cl (mX5_at o0 1 v5 w) fun x_21 w_20 =>
      if x_21 ≠ v1 then
        mX2_part_54 (mX2_part_3 o0 v1 v2 v3 v4 n) o0 v1 v2 v3 v4 v5 w_20
      else
        cl (mX5_at o0 2 v5 w_20) fun x_23 w_22 =>
        if x_23 ≠ v2 then
          mX2_part_54 (mX2_part_3 o0 v1 v2 v3 v4 n) o0 v1 v2 v3 v4 v5 w_22
        else
          cl (mX5_at o0 3 v5 w_22) fun x_25 w_24 =>
          if x_25 ≠ v3 then
            mX2_part_54 (mX2_part_3 o0 v1 v2 v3 v4 n) o0 v1 v2 v3 v4 v5 w_24
          else
            some (v5, w_24)
noncomputable def mX2_part (o0 : Nat) (v1 : Int32) (v2 : Int32) (v3 : Int32) (v4 : Int32) (w : AW) : Option (Int32 × AW) :=
  mX2_part_3 o0 v1 v2 v3 v4 FU 0 w
set_option maxRecDepth 100000 in
set_option maxHeartbeats 4000000 in
theorem ok_mX2_part_54 {zv : Int32} {zw : AW} {k3 : Int32 → AW → Option (Int32 × AW)} {o0 : Nat} {v1 : Int32} {v2 : Int32} {v3 : Int32} {v4 : Int32} {v5 : Int32} (hk3 : ∀ (v5 : Int32)  w, k3 v5 w = some (zv, zw) → RR false KX2_part (some (vI zv), zw) 3 [some (vR o0 0), some (vI v1), some (vI v2), some (vI v3), some (vI v4), some (vI v5)] [] w) (ho0 : am_cls false o0 = 2) {w : AW} (hf : mX2_part_54 k3 o0 v1 v2 v3 v4 v5 w = some (zv, zw)) : RR false KX2_part (some (vI zv), zw) 54 [some (vR o0 0), some (vI v1), some (vI v2), some (vI v3), some (vI v4), some (vI v5)] [] w := by
  refine g_iinc (fun v5_1 => [some (vR o0 0), some (vI v1), some (vI v2), some (vI v3), some (vI v4), some (vI v5_1)]) dX2_part_54 ic_1 rfl rfl (fun _ => rfl) (Nat.le_of_ble_eq_true rfl) hf (fun v5_1 hf => ?_)
  refine r_goto (tgt := 3) dX2_part_57 rfl ?_
  exact hk3 _ _ hf
set_option maxRecDepth 100000 in
set_option maxHeartbeats 4000000 in
theorem ok_mX2_part_169 {zv : Int32} {zw : AW} {o0 : Nat} (ho0 : am_cls false o0 = 2) {w : AW} (hf : mX2_part_169 o0 w = some (zv, zw)) : RR false KX2_part (some (vI zv), zw) 169 [some (vR o0 0), none, none, none, none, none] [] w := by
  refine r_aload_n dX2_part_169 rfl rfl ?_
  refine g_getI dX2_part_170 fl_RX2_9 fk_2_5 ho0 ?_
  refine r_iconst dX2_part_173 ic_1 ?_
  refine r_isub dX2_part_174 ?_
  exact r_iret dX2_part_175 rfl (ret_I hf)
set_option maxRecDepth 100000 in
set_option maxHeartbeats 4000000 in
theorem ok_mX2_part_3 {zv : Int32} {zw : AW} {o0 : Nat} {v1 : Int32} {v2 : Int32} {v3 : Int32} {v4 : Int32} (ho0 : am_cls false o0 = 2) : ∀ (n : Nat) (v5 : Int32) (w : AW), mX2_part_3 o0 v1 v2 v3 v4 n v5 w = some (zv, zw) → RR false KX2_part (some (vI zv), zw) 3 [some (vR o0 0), some (vI v1), some (vI v2), some (vI v3), some (vI v4), some (vI v5)] [] w := by
  intro n
  induction n with
  | zero => intro v5 w hf; cases hf
  | succ n ih =>
    intro v5 w hf
    refine r_iload dX2_part_3 rfl ?_
    refine r_aload_n dX2_part_5 rfl rfl ?_
    refine g_getI dX2_part_6 fl_RX2_9 fk_2_5 ho0 ?_
    refine g_icmp_ge (tgt := 60) dX2_part_9 rfl hf (fun _ hf => ?_) (fun _ hf => ?_)
    · refine r_aload_n dX2_part_60 rfl rfl ?_
      refine g_getI dX2_part_61 fl_RX2_9 fk_2_5 ho0 ?_
      refine r_aload_n dX2_part_64 rfl rfl ?_
      refine g_getA dX2_part_65 fl_RX2_24 fk_2_0 rfl ho0 ?_
      refine g_alenG dX2_part_68 (am_iaW (am_aKs ho0 0 rfl)) ?_
      refine g_icmp_ge (tgt := 169) dX2_part_69 rfl hf (fun _ hf => ?_) (fun _ hf => ?_)
      · refine r_mask (bs := [true, false, false, false, false, false]) ?_
        exact ok_mX2_part_169 ho0 hf
      · refine r_aload_n dX2_part_72 rfl rfl ?_
        refine g_getA dX2_part_73 fl_RX2_24 fk_2_0 rfl ho0 ?_
        refine r_aload_n dX2_part_76 rfl rfl ?_
        refine g_getI dX2_part_77 fl_RX2_9 fk_2_5 ho0 ?_
        refine r_iload_n dX2_part_80 rfl rfl ?_
        obtain ⟨x_2, w_1, hc, hf⟩ := cl_some hf
        refine g_cNv (st := []) KX5_put [vR o0 1, vI (w.1 o0 0 5), vI v1] dX2_part_81 e_RX2_52 mok_X5_put mw_X5_put ⟨Nat.le_of_ble_eq_true rfl, Nat.le_of_ble_eq_true rfl⟩ (met_X5_put (am_aKs ho0 0 rfl) hc) rfl (Nat.le_of_ble_eq_true rfl) ?_
        clear hc
        refine r_aload_n dX2_part_84 rfl rfl ?_
        refine g_getA dX2_part_85 fl_RX2_28 fk_2_1 rfl ho0 ?_
        refine r_aload_n dX2_part_88 rfl rfl ?_
        refine g_getI dX2_part_89 fl_RX2_9 fk_2_5 ho0 ?_
        refine r_iload_n dX2_part_92 rfl rfl ?_
        obtain ⟨x_4, w_3, hc, hf⟩ := cl_some hf
        refine g_cNv (st := []) KX5_put [vR o0 2, vI (w_1.1 o0 0 5), vI v2] dX2_part_93 e_RX2_52 mok_X5_put mw_X5_put ⟨Nat.le_of_ble_eq_true rfl, Nat.le_of_ble_eq_true rfl⟩ (met_X5_put (am_aKs ho0 1 rfl) hc) rfl (Nat.le_of_ble_eq_true rfl) ?_
        clear hc
        refine r_aload_n dX2_part_96 rfl rfl ?_
        refine g_getA dX2_part_97 fl_RX2_31 fk_2_2 rfl ho0 ?_
        refine r_aload_n dX2_part_100 rfl rfl ?_
        refine g_getI dX2_part_101 fl_RX2_9 fk_2_5 ho0 ?_
        refine r_iload_n dX2_part_104 rfl rfl ?_
        obtain ⟨x_6, w_5, hc, hf⟩ := cl_some hf
        refine g_cNv (st := []) KX5_put [vR o0 3, vI (w_3.1 o0 0 5), vI v3] dX2_part_105 e_RX2_52 mok_X5_put mw_X5_put ⟨Nat.le_of_ble_eq_true rfl, Nat.le_of_ble_eq_true rfl⟩ (met_X5_put (am_aKs ho0 2 rfl) hc) rfl (Nat.le_of_ble_eq_true rfl) ?_
        clear hc
        refine r_aload_n dX2_part_108 rfl rfl ?_
        refine g_getA dX2_part_109 fl_RX2_34 fk_2_3 rfl ho0 ?_
        refine r_aload_n dX2_part_112 rfl rfl ?_
        refine g_getI dX2_part_113 fl_RX2_9 fk_2_5 ho0 ?_
        refine r_iload dX2_part_116 rfl ?_
        obtain ⟨x_8, w_7, hc, hf⟩ := cl_some hf
        refine g_cNv (st := []) KX5_put [vR o0 4, vI (w_5.1 o0 0 5), vI v4] dX2_part_118 e_RX2_52 mok_X5_put mw_X5_put ⟨Nat.le_of_ble_eq_true rfl, Nat.le_of_ble_eq_true rfl⟩ (met_X5_put (am_aKs ho0 3 rfl) hc) rfl (Nat.le_of_ble_eq_true rfl) ?_
        clear hc
        refine r_aload_n dX2_part_121 rfl rfl ?_
        refine g_getA dX2_part_122 fl_RX2_37 fk_2_4 rfl ho0 ?_
        refine r_aload_n dX2_part_125 rfl rfl ?_
        refine g_getI dX2_part_126 fl_RX2_9 fk_2_5 ho0 ?_
        refine r_aload_n dX2_part_129 rfl rfl ?_
        refine g_getA dX2_part_130 fl_RX2_37 fk_2_4 rfl ho0 ?_
        refine r_iload_n dX2_part_133 rfl rfl ?_
        obtain ⟨x_10, w_9, hc, hf⟩ := cl_some hf
        refine g_cN (st := [vI (w_7.1 o0 0 5), vR o0 5]) KX5_at [vR o0 5, vI v2] dX2_part_134 e_RX2_40 mok_X5_at mw_X5_at ⟨Nat.le_of_ble_eq_true rfl, Nat.le_of_ble_eq_true rfl⟩ (met_X5_at (am_iaW (am_aKs ho0 4 rfl)) hc) rfl (Nat.le_of_ble_eq_true rfl) ?_
        clear hc
        refine r_aload_n dX2_part_137 rfl rfl ?_
        refine g_getA dX2_part_138 fl_RX2_37 fk_2_4 rfl ho0 ?_
        refine r_iload_n dX2_part_141 rfl rfl ?_
        obtain ⟨x_12, w_11, hc, hf⟩ := cl_some hf
        refine g_cN (st := [vI x_10, vI (w_7.1 o0 0 5), vR o0 5]) KX5_at [vR o0 5, vI v3] dX2_part_142 e_RX2_40 mok_X5_at mw_X5_at ⟨Nat.le_of_ble_eq_true rfl, Nat.le_of_ble_eq_true rfl⟩ (met_X5_at (am_iaW (am_aKs ho0 4 rfl)) hc) rfl (Nat.le_of_ble_eq_true rfl) ?_
        clear hc
        refine r_mmax dX2_part_145 (am_c6 (i := 14) rfl rfl) mm_max ⟨Nat.le_of_ble_eq_true rfl, Nat.le_of_ble_eq_true rfl⟩ ?_
        refine r_iload_n dX2_part_148 rfl rfl ?_
        obtain ⟨x_14, w_13, hc, hf⟩ := cl_some hf
        refine g_cN (st := [vI (if x_10 < x_12 then x_12 else x_10), vI (w_7.1 o0 0 5), vR o0 5]) KX5_isModal [vI v1] dX2_part_149 e_RX2_56 mok_X5_isModal mw_X5_isModal ⟨Nat.le_of_ble_eq_true rfl, Nat.le_of_ble_eq_true rfl⟩ (met_X5_isModal hc) rfl (Nat.le_of_ble_eq_true rfl) ?_
        clear hc
        obtain ⟨x_16, w_15, hc, hf⟩ := cl_some hf
        refine g_cN (st := [vI (if x_10 < x_12 then x_12 else x_10), vI (w_7.1 o0 0 5), vR o0 5]) KX5_whether [vI x_14] dX2_part_152 e_RX2_59 mok_X5_whether mw_X5_whether ⟨Nat.le_of_ble_eq_true rfl, Nat.le_of_ble_eq_true rfl⟩ (met_X5_whether hc) rfl (Nat.le_of_ble_eq_true rfl) ?_
        clear hc
        refine r_iadd dX2_part_155 ?_
        obtain ⟨x_18, w_17, hc, hf⟩ := cl_some hf
        refine g_cNv (st := []) KX5_put [vR o0 5, vI (w_7.1 o0 0 5), vI ((if x_10 < x_12 then x_12 else x_10) + x_16)] dX2_part_156 e_RX2_52 mok_X5_put mw_X5_put ⟨Nat.le_of_ble_eq_true rfl, Nat.le_of_ble_eq_true rfl⟩ (met_X5_put (am_aKs ho0 4 rfl) hc) rfl (Nat.le_of_ble_eq_true rfl) ?_
        clear hc
        refine r_aload_n dX2_part_159 rfl rfl ?_
        refine r_dup dX2_part_160 rfl ?_
        refine g_getI dX2_part_161 fl_RX2_9 fk_2_5 ho0 ?_
        refine r_iconst dX2_part_164 ic_1 ?_
        refine r_iadd dX2_part_165 ?_
        refine g_putI dX2_part_166 fl_RX2_9 fk_2_5 ho0 hf (fun w_19 hf => ?_)
        refine r_mask (bs := [true, false, false, false, false, false]) ?_
        exact ok_mX2_part_169 ho0 hf
    · refine r_aload_n dX2_part_12 rfl rfl ?_
      refine g_getA dX2_part_13 fl_RX2_24 fk_2_0 rfl ho0 ?_
      refine r_iload dX2_part_16 rfl ?_
      obtain ⟨x_21, w_20, hc, hf⟩ := cl_some hf
      refine g_cN (st := []) KX5_at [vR o0 1, vI v5] dX2_part_18 e_RX2_40 mok_X5_at mw_X5_at ⟨Nat.le_of_ble_eq_true rfl, Nat.le_of_ble_eq_true rfl⟩ (met_X5_at (am_iaW (am_aKs ho0 0 rfl)) hc) rfl (Nat.le_of_ble_eq_true rfl) ?_
      clear hc
      refine r_iload_n dX2_part_21 rfl rfl ?_
      refine g_icmp_ne (tgt := 54) dX2_part_22 rfl hf (fun _ hf => ?_) (fun _ hf => ?_)
      · exact ok_mX2_part_54 (fun v5 w hf => ih v5 w hf) ho0 hf
      · refine r_aload_n dX2_part_25 rfl rfl ?_
        refine g_getA dX2_part_26 fl_RX2_28 fk_2_1 rfl ho0 ?_
        refine r_iload dX2_part_29 rfl ?_
        obtain ⟨x_23, w_22, hc, hf⟩ := cl_some hf
        refine g_cN (st := []) KX5_at [vR o0 2, vI v5] dX2_part_31 e_RX2_40 mok_X5_at mw_X5_at ⟨Nat.le_of_ble_eq_true rfl, Nat.le_of_ble_eq_true rfl⟩ (met_X5_at (am_iaW (am_aKs ho0 1 rfl)) hc) rfl (Nat.le_of_ble_eq_true rfl) ?_
        clear hc
        refine r_iload_n dX2_part_34 rfl rfl ?_
        refine g_icmp_ne (tgt := 54) dX2_part_35 rfl hf (fun _ hf => ?_) (fun _ hf => ?_)
        · exact ok_mX2_part_54 (fun v5 w hf => ih v5 w hf) ho0 hf
        · refine r_aload_n dX2_part_38 rfl rfl ?_
          refine g_getA dX2_part_39 fl_RX2_31 fk_2_2 rfl ho0 ?_
          refine r_iload dX2_part_42 rfl ?_
          obtain ⟨x_25, w_24, hc, hf⟩ := cl_some hf
          refine g_cN (st := []) KX5_at [vR o0 3, vI v5] dX2_part_44 e_RX2_40 mok_X5_at mw_X5_at ⟨Nat.le_of_ble_eq_true rfl, Nat.le_of_ble_eq_true rfl⟩ (met_X5_at (am_iaW (am_aKs ho0 2 rfl)) hc) rfl (Nat.le_of_ble_eq_true rfl) ?_
          clear hc
          refine r_iload_n dX2_part_47 rfl rfl ?_
          refine g_icmp_ne (tgt := 54) dX2_part_48 rfl hf (fun _ hf => ?_) (fun _ hf => ?_)
          · exact ok_mX2_part_54 (fun v5 w hf => ih v5 w hf) ho0 hf
          · refine r_iload dX2_part_51 rfl ?_
            exact r_iret dX2_part_53 rfl (ret_I hf)
set_option maxRecDepth 100000 in
set_option maxHeartbeats 4000000 in
theorem ok_mX2_part {zv : Int32} {zw : AW} {o0 : Nat} {v1 : Int32} {v2 : Int32} {v3 : Int32} {v4 : Int32} (ho0 : am_cls false o0 = 2) {w : AW} (hf : mX2_part o0 v1 v2 v3 v4 w = some (zv, zw)) : RR false KX2_part (some (vI zv), zw) 0 [some (vR o0 0), some (vI v1), some (vI v2), some (vI v3), some (vI v4), none] [] w := by
  refine r_iconst dX2_part_0 ic_0 ?_
  refine r_istore (ls2 := [some (vR o0 0), some (vI v1), some (vI v2), some (vI v3), some (vI v4), some (vI 0)]) dX2_part_1 rfl rfl (Nat.le_of_ble_eq_true rfl) ?_
  exact ok_mX2_part_3 ho0 FU _ _ hf
theorem met_X2_part {zv : Int32} {zw : AW} {o0 : Nat} {v1 : Int32} {v2 : Int32} {v3 : Int32} {v4 : Int32} (ho0 : am_cls false o0 = 2) {w : AW} (hf : mX2_part o0 v1 v2 v3 v4 w = some (zv, zw)) : am_Met false KX2_part [vR o0 0, vI v1, vI v2, vI v3, vI v4] w (some (vI zv), zw) := am_met mok_X2_part.1 (Nat.le_of_ble_eq_true rfl) (ok_mX2_part ho0 hf)

/-! SeenWorlds.isPrefix(I)Z -/
noncomputable def mX5_isPrefix_13 (w : AW) : Option (Int32 × AW) :=
  some (1, w)
noncomputable def mX5_isPrefix (v0 : Int32) (w : AW) : Option (Int32 × AW) :=
  if v0 = 33 then
    mX5_isPrefix_13 w
  else
    cl (mX5_isModal v0 w) fun x_2 w_1 =>
    if x_2 = 0 then
      some (0, w_1)
    else
      mX5_isPrefix_13 w_1
set_option maxRecDepth 100000 in
set_option maxHeartbeats 4000000 in
theorem ok_mX5_isPrefix_13 {zv : Int32} {zw : AW} {w : AW} (hf : mX5_isPrefix_13 w = some (zv, zw)) : RR false KX5_isPrefix (some (vI zv), zw) 13 [none] [] w := by
  refine r_iconst dX5_isPrefix_13 ic_1 ?_
  refine r_goto (tgt := 18) dX5_isPrefix_14 rfl ?_
  exact r_zret dX5_isPrefix_18 rfl nar_1 (ret_I hf)
set_option maxRecDepth 100000 in
set_option maxHeartbeats 4000000 in
theorem ok_mX5_isPrefix {zv : Int32} {zw : AW} {v0 : Int32} {w : AW} (hf : mX5_isPrefix v0 w = some (zv, zw)) : RR false KX5_isPrefix (some (vI zv), zw) 0 [some (vI v0)] [] w := by
  refine r_iload_n dX5_isPrefix_0 rfl rfl ?_
  refine r_bipush dX5_isPrefix_1 (bp_33) ?_
  refine g_icmp_eq (tgt := 13) dX5_isPrefix_3 rfl hf (fun _ hf => ?_) (fun _ hf => ?_)
  · refine r_mask (bs := [false]) ?_
    exact ok_mX5_isPrefix_13 hf
  · refine r_iload_n dX5_isPrefix_6 rfl rfl ?_
    obtain ⟨x_2, w_1, hc, hf⟩ := cl_some hf
    refine g_cS (st := []) KX5_isModal [vI v0] dX5_isPrefix_7 e_RX5_226 mok_X5_isModal mw_X5_isModal ⟨Nat.le_of_ble_eq_true rfl, Nat.le_of_ble_eq_true rfl⟩ (met_X5_isModal hc) rfl (Nat.le_of_ble_eq_true rfl) ?_
    clear hc
    refine g_if_eq (tgt := 17) dX5_isPrefix_10 rfl hf (fun _ hf => ?_) (fun _ hf => ?_)
    · refine r_iconst dX5_isPrefix_17 ic_0 ?_
      exact r_zret dX5_isPrefix_18 rfl nar_0 (ret_I hf)
    · refine r_mask (bs := [false]) ?_
      exact ok_mX5_isPrefix_13 hf
theorem met_X5_isPrefix {zv : Int32} {zw : AW} {v0 : Int32} {w : AW} (hf : mX5_isPrefix v0 w = some (zv, zw)) : am_Met false KX5_isPrefix [vI v0] w (some (vI zv), zw) := am_met mok_X5_isPrefix.1 (Nat.le_of_ble_eq_true rfl) (ok_mX5_isPrefix  hf)

/-! SeenWorlds$Reader.end(ILSeenWorlds$Sentence;)V -/
noncomputable def mX1_end_70 (v3 : Int32) (w : AW) : Option (Unit × AW) :=
  if (w.1 3 0 4) ≠ 0 then
    cl (mX5_at 3 3 ((w.1 3 0 4) - 1) w) fun x_2 w_1 =>
    if x_2 ≠ (-1) then
      cl (mX5_put 3 4 ((w_1.1 3 0 4) - 1) v3 w_1) fun x_4 w_3 =>
      pu w_3 3 5 2 fun w_5 =>
      some ((), w_5)
    else
      cl (mX5_put 3 3 ((w_1.1 3 0 4) - 1) v3 w_1) fun x_7 w_6 =>
      pu w_6 3 5 1 fun w_8 =>
      some ((), w_8)
  else
    pu w 3 5 3 fun w_9 =>
    some ((), w_9)
noncomputable def mX1_end_2 (o2 : Nat) : Nat → Int32 → AW → Option (Unit × AW)
  | 0, _, _ => none
  | n + 1, v3, w =>
    if (w.1 3 0 4) ≤ 0 then
      mX1_end_70 v3 w
    else
      cl (mX5_at 3 1 ((w.1 3 0 4) - 1) w) fun x_2 w_1 =>
      cl (mX5_isPrefix x_2 w_1) fun x_4 w_3 =>
      if x_4 = 0 then
        mX1_end_70 v3 w_3
      else
        pu w_3 3 4 ((w_3.1 3 0 4) - 1) fun w_5 =>
        cl (mX5_at 3 1 (w_5.1 3 0 4) w_5) fun x_7 w_6 =>
        cl (mX5_at 3 2 (w_6.1 3 0 4) w_6) fun x_9 w_8 =>
        cl (mX2_part o2 x_7 v3 (-1) x_9 w_8) fun x_11 w_10 =>
        mX1_end_2 o2 n x_11 w_10
noncomputable def mX1_end (v1 : Int32) (o2 : Nat) (w : AW) : Option (Unit × AW) :=
  mX1_end_2 o2 FU v1 w
set_option maxRecDepth 100000 in
set_option maxHeartbeats 4000000 in
theorem ok_mX1_end_70 {zv : Unit} {zw : AW} {v3 : Int32} {w : AW} (hf : mX1_end_70 v3 w = some (zv, zw)) : RR false KX1_end (none, zw) 70 [some (vR 3 0), none, none, some (vI v3)] [] w := by
  refine r_aload_n dX1_end_70 rfl rfl ?_
  refine g_getI dX1_end_71 fl_RX1_24 fk_1_4 (cl_false_3) ?_
  refine g_if_ne (tgt := 85) dX1_end_74 rfl hf (fun _ hf => ?_) (fun _ hf => ?_)
  · refine r_aload_n dX1_end_85 rfl rfl ?_
    refine g_getA dX1_end_86 fl_RX1_18 fk_1_2 rfl (cl_false_3) ?_
    refine r_aload_n dX1_end_89 rfl rfl ?_
    refine g_getI dX1_end_90 fl_RX1_24 fk_1_4 (cl_false_3) ?_
    refine r_iconst dX1_end_93 ic_1 ?_
    refine r_isub dX1_end_94 ?_
    obtain ⟨x_2, w_1, hc, hf⟩ := cl_some hf
    refine g_cN (st := []) KX5_at [vR 3 3, vI ((w.1 3 0 4) - 1)] dX1_end_95 e_RX1_36 mok_X5_at mw_X5_at ⟨Nat.le_of_ble_eq_true rfl, Nat.le_of_ble_eq_true rfl⟩ (met_X5_at (am_iaW aK_false_3_3) hc) rfl (Nat.le_of_ble_eq_true rfl) ?_
    clear hc
    refine r_iconst dX1_end_98 ic_m1 ?_
    refine g_icmp_ne (tgt := 124) dX1_end_99 rfl hf (fun _ hf => ?_) (fun _ hf => ?_)
    · refine r_aload_n dX1_end_124 rfl rfl ?_
      refine g_getA dX1_end_125 fl_RX1_21 fk_1_3 rfl (cl_false_3) ?_
      refine r_aload_n dX1_end_128 rfl rfl ?_
      refine g_getI dX1_end_129 fl_RX1_24 fk_1_4 (cl_false_3) ?_
      refine r_iconst dX1_end_132 ic_1 ?_
      refine r_isub dX1_end_133 ?_
      refine r_iload_n dX1_end_134 rfl rfl ?_
      obtain ⟨x_4, w_3, hc, hf⟩ := cl_some hf
      refine g_cNv (st := []) KX5_put [vR 3 4, vI ((w_1.1 3 0 4) - 1), vI v3] dX1_end_135 e_RX1_76 mok_X5_put mw_X5_put ⟨Nat.le_of_ble_eq_true rfl, Nat.le_of_ble_eq_true rfl⟩ (met_X5_put aK_false_3_4 hc) rfl (Nat.le_of_ble_eq_true rfl) ?_
      clear hc
      refine r_aload_n dX1_end_138 rfl rfl ?_
      refine r_iconst dX1_end_139 ic_2 ?_
      refine g_putI dX1_end_140 fl_RX1_28 fk_1_5 (cl_false_3) hf (fun w_5 hf => ?_)
      exact r_vret dX1_end_143 rfl (ret_U hf)
    · refine r_aload_n dX1_end_102 rfl rfl ?_
      refine g_getA dX1_end_103 fl_RX1_18 fk_1_2 rfl (cl_false_3) ?_
      refine r_aload_n dX1_end_106 rfl rfl ?_
      refine g_getI dX1_end_107 fl_RX1_24 fk_1_4 (cl_false_3) ?_
      refine r_iconst dX1_end_110 ic_1 ?_
      refine r_isub dX1_end_111 ?_
      refine r_iload_n dX1_end_112 rfl rfl ?_
      obtain ⟨x_7, w_6, hc, hf⟩ := cl_some hf
      refine g_cNv (st := []) KX5_put [vR 3 3, vI ((w_1.1 3 0 4) - 1), vI v3] dX1_end_113 e_RX1_76 mok_X5_put mw_X5_put ⟨Nat.le_of_ble_eq_true rfl, Nat.le_of_ble_eq_true rfl⟩ (met_X5_put aK_false_3_3 hc) rfl (Nat.le_of_ble_eq_true rfl) ?_
      clear hc
      refine r_aload_n dX1_end_116 rfl rfl ?_
      refine r_iconst dX1_end_117 ic_1 ?_
      refine g_putI dX1_end_118 fl_RX1_28 fk_1_5 (cl_false_3) hf (fun w_8 hf => ?_)
      refine r_goto (tgt := 143) dX1_end_121 rfl ?_
      exact r_vret dX1_end_143 rfl (ret_U hf)
  · refine r_aload_n dX1_end_77 rfl rfl ?_
    refine r_iconst dX1_end_78 ic_3 ?_
    refine g_putI dX1_end_79 fl_RX1_28 fk_1_5 (cl_false_3) hf (fun w_9 hf => ?_)
    refine r_goto (tgt := 143) dX1_end_82 rfl ?_
    exact r_vret dX1_end_143 rfl (ret_U hf)
set_option maxRecDepth 100000 in
set_option maxHeartbeats 4000000 in
theorem ok_mX1_end_2 {zv : Unit} {zw : AW} {o2 : Nat} (ho2 : am_cls false o2 = 2) : ∀ (n : Nat) (v3 : Int32) (w : AW), mX1_end_2 o2 n v3 w = some (zv, zw) → RR false KX1_end (none, zw) 2 [some (vR 3 0), none, some (vR o2 0), some (vI v3)] [] w := by
  intro n
  induction n with
  | zero => intro v3 w hf; cases hf
  | succ n ih =>
    intro v3 w hf
    refine r_aload_n dX1_end_2 rfl rfl ?_
    refine g_getI dX1_end_3 fl_RX1_24 fk_1_4 (cl_false_3) ?_
    refine g_if_le (tgt := 70) dX1_end_6 rfl hf (fun _ hf => ?_) (fun _ hf => ?_)
    · refine r_mask (bs := [true, false, false, true]) ?_
      exact ok_mX1_end_70 hf
    · refine r_aload_n dX1_end_9 rfl rfl ?_
      refine g_getA dX1_end_10 fl_RX1_9 fk_1_0 rfl (cl_false_3) ?_
      refine r_aload_n dX1_end_13 rfl rfl ?_
      refine g_getI dX1_end_14 fl_RX1_24 fk_1_4 (cl_false_3) ?_
      refine r_iconst dX1_end_17 ic_1 ?_
      refine r_isub dX1_end_18 ?_
      obtain ⟨x_2, w_1, hc, hf⟩ := cl_some hf
      refine g_cN (st := []) KX5_at [vR 3 1, vI ((w.1 3 0 4) - 1)] dX1_end_19 e_RX1_36 mok_X5_at mw_X5_at ⟨Nat.le_of_ble_eq_true rfl, Nat.le_of_ble_eq_true rfl⟩ (met_X5_at (am_iaW aK_false_3_1) hc) rfl (Nat.le_of_ble_eq_true rfl) ?_
      clear hc
      obtain ⟨x_4, w_3, hc, hf⟩ := cl_some hf
      refine g_cN (st := []) KX5_isPrefix [vI x_2] dX1_end_22 e_RX1_73 mok_X5_isPrefix mw_X5_isPrefix ⟨Nat.le_of_ble_eq_true rfl, Nat.le_of_ble_eq_true rfl⟩ (met_X5_isPrefix hc) rfl (Nat.le_of_ble_eq_true rfl) ?_
      clear hc
      refine g_if_eq (tgt := 70) dX1_end_25 rfl hf (fun _ hf => ?_) (fun _ hf => ?_)
      · refine r_mask (bs := [true, false, false, true]) ?_
        exact ok_mX1_end_70 hf
      · refine r_aload_n dX1_end_28 rfl rfl ?_
        refine r_dup dX1_end_29 rfl ?_
        refine g_getI dX1_end_30 fl_RX1_24 fk_1_4 (cl_false_3) ?_
        refine r_iconst dX1_end_33 ic_1 ?_
        refine r_isub dX1_end_34 ?_
        refine g_putI dX1_end_35 fl_RX1_24 fk_1_4 (cl_false_3) hf (fun w_5 hf => ?_)
        refine r_aload_n dX1_end_38 rfl rfl ?_
        refine r_aload_n dX1_end_39 rfl rfl ?_
        refine g_getA dX1_end_40 fl_RX1_9 fk_1_0 rfl (cl_false_3) ?_
        refine r_aload_n dX1_end_43 rfl rfl ?_
        refine g_getI dX1_end_44 fl_RX1_24 fk_1_4 (cl_false_3) ?_
        obtain ⟨x_7, w_6, hc, hf⟩ := cl_some hf
        refine g_cN (st := [vR o2 0]) KX5_at [vR 3 1, vI (w_5.1 3 0 4)] dX1_end_47 e_RX1_36 mok_X5_at mw_X5_at ⟨Nat.le_of_ble_eq_true rfl, Nat.le_of_ble_eq_true rfl⟩ (met_X5_at (am_iaW aK_false_3_1) hc) rfl (Nat.le_of_ble_eq_true rfl) ?_
        clear hc
        refine r_iload_n dX1_end_50 rfl rfl ?_
        refine r_iconst dX1_end_51 ic_m1 ?_
        refine r_aload_n dX1_end_52 rfl rfl ?_
        refine g_getA dX1_end_53 fl_RX1_15 fk_1_1 rfl (cl_false_3) ?_
        refine r_aload_n dX1_end_56 rfl rfl ?_
        refine g_getI dX1_end_57 fl_RX1_24 fk_1_4 (cl_false_3) ?_
        obtain ⟨x_9, w_8, hc, hf⟩ := cl_some hf
        refine g_cN (st := [vI (-1), vI v3, vI x_7, vR o2 0]) KX5_at [vR 3 2, vI (w_6.1 3 0 4)] dX1_end_60 e_RX1_36 mok_X5_at mw_X5_at ⟨Nat.le_of_ble_eq_true rfl, Nat.le_of_ble_eq_true rfl⟩ (met_X5_at (am_iaW aK_false_3_2) hc) rfl (Nat.le_of_ble_eq_true rfl) ?_
        clear hc
        obtain ⟨x_11, w_10, hc, hf⟩ := cl_some hf
        refine g_cV (st := []) KX2_part [vI x_7, vI v3, vI (-1), vI x_9] dX1_end_63 e_RX1_65 ho2 (rfl : vwCl[2]? = _) rfl mok_X2_part mw_X2_part ⟨Nat.le_of_ble_eq_true rfl, Nat.le_of_ble_eq_true rfl⟩ (met_X2_part ho2 hc) rfl (Nat.le_of_ble_eq_true rfl) ?_
        clear hc
        refine r_istore_n (ls2 := [some (vR 3 0), none, some (vR o2 0), some (vI x_11)]) dX1_end_66 rfl rfl rfl (Nat.le_of_ble_eq_true rfl) ?_
        refine r_goto (tgt := 2) dX1_end_67 rfl ?_
        exact ih _ _ hf
set_option maxRecDepth 100000 in
set_option maxHeartbeats 4000000 in
theorem ok_mX1_end {zv : Unit} {zw : AW} {v1 : Int32} {o2 : Nat} (ho2 : am_cls false o2 = 2) {w : AW} (hf : mX1_end v1 o2 w = some (zv, zw)) : RR false KX1_end (none, zw) 0 [some (vR 3 0), some (vI v1), some (vR o2 0), none] [] w := by
  refine r_iload_n dX1_end_0 rfl rfl ?_
  refine r_istore_n (ls2 := [some (vR 3 0), some (vI v1), some (vR o2 0), some (vI v1)]) dX1_end_1 rfl rfl rfl (Nat.le_of_ble_eq_true rfl) ?_
  refine r_mask (bs := [true, false, true, true]) ?_
  exact ok_mX1_end_2 ho2 FU _ _ hf
theorem met_X1_end {zv : Unit} {zw : AW} {v1 : Int32} {o2 : Nat} (ho2 : am_cls false o2 = 2) {w : AW} (hf : mX1_end v1 o2 w = some (zv, zw)) : am_Met false KX1_end [vR 3 0, vI v1, vR o2 0] w (none, zw) := am_met mok_X1_end.1 (Nat.le_of_ble_eq_true rfl) (ok_mX1_end ho2 hf)

/-! SeenWorlds$Reader.takesOne(IILSeenWorlds$Sentence;)Z -/
noncomputable def mX1_takesOne_19 (v1 : Int32) (v2 : Int32) (o3 : Nat) (w : AW) : Option (Int32 × AW) :=
  cl (mX2_part o3 v1 (-1) (-1) v2 w) fun x_2 w_1 =>
  cl (mX1_end x_2 o3 w_1) fun x_4 w_3 =>
  some (1, w_3)
noncomputable def mX1_takesOne_47 (v1 : Int32) (v2 : Int32) (w : AW) : Option (Int32 × AW) :=
  if (w.1 3 0 4) < 20 then
    cl (mX5_put 3 1 (w.1 3 0 4) v1 w) fun x_2 w_1 =>
    cl (mX5_put 3 2 (w_1.1 3 0 4) v2 w_1) fun x_4 w_3 =>
    cl (mX5_put 3 3 (w_3.1 3 0 4) (-1) w_3) fun x_6 w_5 =>
    pu w_5 3 4 ((w_5.1 3 0 4) + 1) fun w_7 =>
    some (1, w_7)
  else
    some (0, w)
noncomputable def mX1_takesOne (v1 : Int32) (v2 : Int32) (o3 : Nat) (w : AW) : Option (Int32 × AW) :=
  cl (mX5_isAtom v1 w) fun x_2 w_1 =>
  if x_2 ≠ 0 then
    mX1_takesOne_19 v1 v2 o3 w_1
  else
    if v1 = 84 then
      mX1_takesOne_19 v1 v2 o3 w_1
    else
      if v1 ≠ 70 then
        if v1 = 40 then
          mX1_takesOne_47 v1 v2 w_1
        else
          cl (mX5_isPrefix v1 w_1) fun x_4 w_3 =>
          if x_4 = 0 then
            some (0, w_3)
          else
            mX1_takesOne_47 v1 v2 w_3
      else
        mX1_takesOne_19 v1 v2 o3 w_1
set_option maxRecDepth 100000 in
set_option maxHeartbeats 4000000 in
theorem ok_mX1_takesOne_19 {zv : Int32} {zw : AW} {v1 : Int32} {v2 : Int32} {o3 : Nat} (ho3 : am_cls false o3 = 2) {w : AW} (hf : mX1_takesOne_19 v1 v2 o3 w = some (zv, zw)) : RR false KX1_takesOne (some (vI zv), zw) 19 [some (vR 3 0), some (vI v1), some (vI v2), some (vR o3 0)] [] w := by
  refine r_aload_n dX1_takesOne_19 rfl rfl ?_
  refine r_aload_n dX1_takesOne_20 rfl rfl ?_
  refine r_iload_n dX1_takesOne_21 rfl rfl ?_
  refine r_iconst dX1_takesOne_22 ic_m1 ?_
  refine r_iconst dX1_takesOne_23 ic_m1 ?_
  refine r_iload_n dX1_takesOne_24 rfl rfl ?_
  obtain ⟨x_2, w_1, hc, hf⟩ := cl_some hf
  refine g_cV (st := [vR 3 0]) KX2_part [vI v1, vI (-1), vI (-1), vI v2] dX1_takesOne_25 e_RX1_65 ho3 (rfl : vwCl[2]? = _) rfl mok_X2_part mw_X2_part ⟨Nat.le_of_ble_eq_true rfl, Nat.le_of_ble_eq_true rfl⟩ (met_X2_part ho3 hc) rfl (Nat.le_of_ble_eq_true rfl) ?_
  clear hc
  refine r_aload_n dX1_takesOne_28 rfl rfl ?_
  obtain ⟨x_4, w_3, hc, hf⟩ := cl_some hf
  refine g_cVv (st := []) KX1_end [vI x_2, vR o3 0] dX1_takesOne_29 e_RX1_69 (cl_false_3) (rfl : vwCl[1]? = _) rfl mok_X1_end mw_X1_end ⟨Nat.le_of_ble_eq_true rfl, Nat.le_of_ble_eq_true rfl⟩ (met_X1_end ho3 hc) rfl (Nat.le_of_ble_eq_true rfl) ?_
  clear hc
  refine r_iconst dX1_takesOne_32 ic_1 ?_
  exact r_zret dX1_takesOne_33 rfl nar_1 (ret_I hf)
set_option maxRecDepth 100000 in
set_option maxHeartbeats 4000000 in
theorem ok_mX1_takesOne_47 {zv : Int32} {zw : AW} {v1 : Int32} {v2 : Int32} {w : AW} (hf : mX1_takesOne_47 v1 v2 w = some (zv, zw)) : RR false KX1_takesOne (some (vI zv), zw) 47 [some (vR 3 0), some (vI v1), some (vI v2), none] [] w := by
  refine r_aload_n dX1_takesOne_47 rfl rfl ?_
  refine g_getI dX1_takesOne_48 fl_RX1_24 fk_1_4 (cl_false_3) ?_
  refine r_bipush dX1_takesOne_51 (bp_20) ?_
  refine g_icmp_lt (tgt := 58) dX1_takesOne_53 rfl hf (fun _ hf => ?_) (fun _ hf => ?_)
  · refine r_aload_n dX1_takesOne_58 rfl rfl ?_
    refine g_getA dX1_takesOne_59 fl_RX1_9 fk_1_0 rfl (cl_false_3) ?_
    refine r_aload_n dX1_takesOne_62 rfl rfl ?_
    refine g_getI dX1_takesOne_63 fl_RX1_24 fk_1_4 (cl_false_3) ?_
    refine r_iload_n dX1_takesOne_66 rfl rfl ?_
    obtain ⟨x_2, w_1, hc, hf⟩ := cl_some hf
    refine g_cNv (st := []) KX5_put [vR 3 1, vI (w.1 3 0 4), vI v1] dX1_takesOne_67 e_RX1_76 mok_X5_put mw_X5_put ⟨Nat.le_of_ble_eq_true rfl, Nat.le_of_ble_eq_true rfl⟩ (met_X5_put aK_false_3_1 hc) rfl (Nat.le_of_ble_eq_true rfl) ?_
    clear hc
    refine r_aload_n dX1_takesOne_70 rfl rfl ?_
    refine g_getA dX1_takesOne_71 fl_RX1_15 fk_1_1 rfl (cl_false_3) ?_
    refine r_aload_n dX1_takesOne_74 rfl rfl ?_
    refine g_getI dX1_takesOne_75 fl_RX1_24 fk_1_4 (cl_false_3) ?_
    refine r_iload_n dX1_takesOne_78 rfl rfl ?_
    obtain ⟨x_4, w_3, hc, hf⟩ := cl_some hf
    refine g_cNv (st := []) KX5_put [vR 3 2, vI (w_1.1 3 0 4), vI v2] dX1_takesOne_79 e_RX1_76 mok_X5_put mw_X5_put ⟨Nat.le_of_ble_eq_true rfl, Nat.le_of_ble_eq_true rfl⟩ (met_X5_put aK_false_3_2 hc) rfl (Nat.le_of_ble_eq_true rfl) ?_
    clear hc
    refine r_aload_n dX1_takesOne_82 rfl rfl ?_
    refine g_getA dX1_takesOne_83 fl_RX1_18 fk_1_2 rfl (cl_false_3) ?_
    refine r_aload_n dX1_takesOne_86 rfl rfl ?_
    refine g_getI dX1_takesOne_87 fl_RX1_24 fk_1_4 (cl_false_3) ?_
    refine r_iconst dX1_takesOne_90 ic_m1 ?_
    obtain ⟨x_6, w_5, hc, hf⟩ := cl_some hf
    refine g_cNv (st := []) KX5_put [vR 3 3, vI (w_3.1 3 0 4), vI (-1)] dX1_takesOne_91 e_RX1_76 mok_X5_put mw_X5_put ⟨Nat.le_of_ble_eq_true rfl, Nat.le_of_ble_eq_true rfl⟩ (met_X5_put aK_false_3_3 hc) rfl (Nat.le_of_ble_eq_true rfl) ?_
    clear hc
    refine r_aload_n dX1_takesOne_94 rfl rfl ?_
    refine r_dup dX1_takesOne_95 rfl ?_
    refine g_getI dX1_takesOne_96 fl_RX1_24 fk_1_4 (cl_false_3) ?_
    refine r_iconst dX1_takesOne_99 ic_1 ?_
    refine r_iadd dX1_takesOne_100 ?_
    refine g_putI dX1_takesOne_101 fl_RX1_24 fk_1_4 (cl_false_3) hf (fun w_7 hf => ?_)
    refine r_iconst dX1_takesOne_104 ic_1 ?_
    exact r_zret dX1_takesOne_105 rfl nar_1 (ret_I hf)
  · refine r_iconst dX1_takesOne_56 ic_0 ?_
    exact r_zret dX1_takesOne_57 rfl nar_0 (ret_I hf)
set_option maxRecDepth 100000 in
set_option maxHeartbeats 4000000 in
theorem ok_mX1_takesOne {zv : Int32} {zw : AW} {v1 : Int32} {v2 : Int32} {o3 : Nat} (ho3 : am_cls false o3 = 2) {w : AW} (hf : mX1_takesOne v1 v2 o3 w = some (zv, zw)) : RR false KX1_takesOne (some (vI zv), zw) 0 [some (vR 3 0), some (vI v1), some (vI v2), some (vR o3 0)] [] w := by
  refine r_iload_n dX1_takesOne_0 rfl rfl ?_
  obtain ⟨x_2, w_1, hc, hf⟩ := cl_some hf
  refine g_cN (st := []) KX5_isAtom [vI v1] dX1_takesOne_1 e_RX1_62 mok_X5_isAtom mw_X5_isAtom ⟨Nat.le_of_ble_eq_true rfl, Nat.le_of_ble_eq_true rfl⟩ (met_X5_isAtom hc) rfl (Nat.le_of_ble_eq_true rfl) ?_
  clear hc
  refine g_if_ne (tgt := 19) dX1_takesOne_4 rfl hf (fun _ hf => ?_) (fun _ hf => ?_)
  · exact ok_mX1_takesOne_19 ho3 hf
  · refine r_iload_n dX1_takesOne_7 rfl rfl ?_
    refine r_bipush dX1_takesOne_8 (bp_84) ?_
    refine g_icmp_eq (tgt := 19) dX1_takesOne_10 rfl hf (fun _ hf => ?_) (fun _ hf => ?_)
    · exact ok_mX1_takesOne_19 ho3 hf
    · refine r_iload_n dX1_takesOne_13 rfl rfl ?_
      refine r_bipush dX1_takesOne_14 (bp_70) ?_
      refine g_icmp_ne (tgt := 34) dX1_takesOne_16 rfl hf (fun _ hf => ?_) (fun _ hf => ?_)
      · refine r_iload_n dX1_takesOne_34 rfl rfl ?_
        refine r_bipush dX1_takesOne_35 (bp_40) ?_
        refine g_icmp_eq (tgt := 47) dX1_takesOne_37 rfl hf (fun _ hf => ?_) (fun _ hf => ?_)
        · refine r_mask (bs := [true, true, true, false]) ?_
          exact ok_mX1_takesOne_47 hf
        · refine r_iload_n dX1_takesOne_40 rfl rfl ?_
          obtain ⟨x_4, w_3, hc, hf⟩ := cl_some hf
          refine g_cN (st := []) KX5_isPrefix [vI v1] dX1_takesOne_41 e_RX1_73 mok_X5_isPrefix mw_X5_isPrefix ⟨Nat.le_of_ble_eq_true rfl, Nat.le_of_ble_eq_true rfl⟩ (met_X5_isPrefix hc) rfl (Nat.le_of_ble_eq_true rfl) ?_
          clear hc
          refine g_if_eq (tgt := 56) dX1_takesOne_44 rfl hf (fun _ hf => ?_) (fun _ hf => ?_)
          · refine r_iconst dX1_takesOne_56 ic_0 ?_
            exact r_zret dX1_takesOne_57 rfl nar_0 (ret_I hf)
          · refine r_mask (bs := [true, true, true, false]) ?_
            exact ok_mX1_takesOne_47 hf
      · exact ok_mX1_takesOne_19 ho3 hf
theorem met_X1_takesOne {zv : Int32} {zw : AW} {v1 : Int32} {v2 : Int32} {o3 : Nat} (ho3 : am_cls false o3 = 2) {w : AW} (hf : mX1_takesOne v1 v2 o3 w = some (zv, zw)) : am_Met false KX1_takesOne [vR 3 0, vI v1, vI v2, vR o3 0] w (some (vI zv), zw) := am_met mok_X1_takesOne.1 (Nat.le_of_ble_eq_true rfl) (ok_mX1_takesOne ho3 hf)

/-! SeenWorlds.isBetween(I)Z -/
noncomputable def mX5_isBetween_18 (w : AW) : Option (Int32 × AW) :=
  some (1, w)
noncomputable def mX5_isBetween (v0 : Int32) (w : AW) : Option (Int32 × AW) :=
  if v0 = 38 then
    mX5_isBetween_18 w
  else
    if v0 = 124 then
      mX5_isBetween_18 w
    else
      if v0 ≠ 62 then
        some (0, w)
      else
        mX5_isBetween_18 w
set_option maxRecDepth 100000 in
set_option maxHeartbeats 4000000 in
theorem ok_mX5_isBetween_18 {zv : Int32} {zw : AW} {w : AW} (hf : mX5_isBetween_18 w = some (zv, zw)) : RR false KX5_isBetween (some (vI zv), zw) 18 [none] [] w := by
  refine r_iconst dX5_isBetween_18 ic_1 ?_
  refine r_goto (tgt := 23) dX5_isBetween_19 rfl ?_
  exact r_zret dX5_isBetween_23 rfl nar_1 (ret_I hf)
set_option maxRecDepth 100000 in
set_option maxHeartbeats 4000000 in
theorem ok_mX5_isBetween {zv : Int32} {zw : AW} {v0 : Int32} {w : AW} (hf : mX5_isBetween v0 w = some (zv, zw)) : RR false KX5_isBetween (some (vI zv), zw) 0 [some (vI v0)] [] w := by
  refine r_iload_n dX5_isBetween_0 rfl rfl ?_
  refine r_bipush dX5_isBetween_1 (bp_38) ?_
  refine g_icmp_eq (tgt := 18) dX5_isBetween_3 rfl hf (fun _ hf => ?_) (fun _ hf => ?_)
  · refine r_mask (bs := [false]) ?_
    exact ok_mX5_isBetween_18 hf
  · refine r_iload_n dX5_isBetween_6 rfl rfl ?_
    refine r_bipush dX5_isBetween_7 (bp_124) ?_
    refine g_icmp_eq (tgt := 18) dX5_isBetween_9 rfl hf (fun _ hf => ?_) (fun _ hf => ?_)
    · refine r_mask (bs := [false]) ?_
      exact ok_mX5_isBetween_18 hf
    · refine r_iload_n dX5_isBetween_12 rfl rfl ?_
      refine r_bipush dX5_isBetween_13 (bp_62) ?_
      refine g_icmp_ne (tgt := 22) dX5_isBetween_15 rfl hf (fun _ hf => ?_) (fun _ hf => ?_)
      · refine r_iconst dX5_isBetween_22 ic_0 ?_
        exact r_zret dX5_isBetween_23 rfl nar_0 (ret_I hf)
      · refine r_mask (bs := [false]) ?_
        exact ok_mX5_isBetween_18 hf
theorem met_X5_isBetween {zv : Int32} {zw : AW} {v0 : Int32} {w : AW} (hf : mX5_isBetween v0 w = some (zv, zw)) : am_Met false KX5_isBetween [vI v0] w (some (vI zv), zw) := am_met mok_X5_isBetween.1 (Nat.le_of_ble_eq_true rfl) (ok_mX5_isBetween  hf)

/-! SeenWorlds$Reader.takesBetween(I)Z -/
noncomputable def mX1_takesBetween (v1 : Int32) (w : AW) : Option (Int32 × AW) :=
  cl (mX5_isBetween v1 w) fun x_2 w_1 =>
  if x_2 ≠ 0 then
    cl (mX5_put 3 1 ((w_1.1 3 0 4) - 1) v1 w_1) fun x_4 w_3 =>
    pu w_3 3 5 0 fun w_5 =>
    some (1, w_5)
  else
    some (0, w_1)
set_option maxRecDepth 100000 in
set_option maxHeartbeats 4000000 in
theorem ok_mX1_takesBetween {zv : Int32} {zw : AW} {v1 : Int32} {w : AW} (hf : mX1_takesBetween v1 w = some (zv, zw)) : RR false KX1_takesBetween (some (vI zv), zw) 0 [some (vR 3 0), some (vI v1)] [] w := by
  refine r_iload_n dX1_takesBetween_0 rfl rfl ?_
  obtain ⟨x_2, w_1, hc, hf⟩ := cl_some hf
  refine g_cN (st := []) KX5_isBetween [vI v1] dX1_takesBetween_1 e_RX1_80 mok_X5_isBetween mw_X5_isBetween ⟨Nat.le_of_ble_eq_true rfl, Nat.le_of_ble_eq_true rfl⟩ (met_X5_isBetween hc) rfl (Nat.le_of_ble_eq_true rfl) ?_
  clear hc
  refine g_if_ne (tgt := 9) dX1_takesBetween_4 rfl hf (fun _ hf => ?_) (fun _ hf => ?_)
  · refine r_aload_n dX1_takesBetween_9 rfl rfl ?_
    refine g_getA dX1_takesBetween_10 fl_RX1_9 fk_1_0 rfl (cl_false_3) ?_
    refine r_aload_n dX1_takesBetween_13 rfl rfl ?_
    refine g_getI dX1_takesBetween_14 fl_RX1_24 fk_1_4 (cl_false_3) ?_
    refine r_iconst dX1_takesBetween_17 ic_1 ?_
    refine r_isub dX1_takesBetween_18 ?_
    refine r_iload_n dX1_takesBetween_19 rfl rfl ?_
    obtain ⟨x_4, w_3, hc, hf⟩ := cl_some hf
    refine g_cNv (st := []) KX5_put [vR 3 1, vI ((w_1.1 3 0 4) - 1), vI v1] dX1_takesBetween_20 e_RX1_76 mok_X5_put mw_X5_put ⟨Nat.le_of_ble_eq_true rfl, Nat.le_of_ble_eq_true rfl⟩ (met_X5_put aK_false_3_1 hc) rfl (Nat.le_of_ble_eq_true rfl) ?_
    clear hc
    refine r_aload_n dX1_takesBetween_23 rfl rfl ?_
    refine r_iconst dX1_takesBetween_24 ic_0 ?_
    refine g_putI dX1_takesBetween_25 fl_RX1_28 fk_1_5 (cl_false_3) hf (fun w_5 hf => ?_)
    refine r_iconst dX1_takesBetween_28 ic_1 ?_
    exact r_zret dX1_takesBetween_29 rfl nar_1 (ret_I hf)
  · refine r_iconst dX1_takesBetween_7 ic_0 ?_
    exact r_zret dX1_takesBetween_8 rfl nar_0 (ret_I hf)
theorem met_X1_takesBetween {zv : Int32} {zw : AW} {v1 : Int32} {w : AW} (hf : mX1_takesBetween v1 w = some (zv, zw)) : am_Met false KX1_takesBetween [vR 3 0, vI v1] w (some (vI zv), zw) := am_met mok_X1_takesBetween.1 (Nat.le_of_ble_eq_true rfl) (ok_mX1_takesBetween  hf)

/-! SeenWorlds$Reader.takesClosing(ILSeenWorlds$Sentence;)Z -/
noncomputable def mX1_takesClosing (v1 : Int32) (o2 : Nat) (w : AW) : Option (Int32 × AW) :=
  if v1 = 41 then
    pu w 3 4 ((w.1 3 0 4) - 1) fun w_1 =>
    cl (mX5_at 3 1 (w_1.1 3 0 4) w_1) fun x_3 w_2 =>
    cl (mX5_at 3 3 (w_2.1 3 0 4) w_2) fun x_5 w_4 =>
    cl (mX5_at 3 4 (w_4.1 3 0 4) w_4) fun x_7 w_6 =>
    cl (mX5_at 3 2 (w_6.1 3 0 4) w_6) fun x_9 w_8 =>
    cl (mX2_part o2 x_3 x_5 x_7 x_9 w_8) fun x_11 w_10 =>
    cl (mX1_end x_11 o2 w_10) fun x_13 w_12 =>
    some (1, w_12)
  else
    some (0, w)
set_option maxRecDepth 100000 in
set_option maxHeartbeats 4000000 in
theorem ok_mX1_takesClosing {zv : Int32} {zw : AW} {v1 : Int32} {o2 : Nat} (ho2 : am_cls false o2 = 2) {w : AW} (hf : mX1_takesClosing v1 o2 w = some (zv, zw)) : RR false KX1_takesClosing (some (vI zv), zw) 0 [some (vR 3 0), some (vI v1), some (vR o2 0)] [] w := by
  refine r_iload_n dX1_takesClosing_0 rfl rfl ?_
  refine r_bipush dX1_takesClosing_1 (bp_41) ?_
  refine g_icmp_eq (tgt := 8) dX1_takesClosing_3 rfl hf (fun _ hf => ?_) (fun _ hf => ?_)
  · refine r_aload_n dX1_takesClosing_8 rfl rfl ?_
    refine r_dup dX1_takesClosing_9 rfl ?_
    refine g_getI dX1_takesClosing_10 fl_RX1_24 fk_1_4 (cl_false_3) ?_
    refine r_iconst dX1_takesClosing_13 ic_1 ?_
    refine r_isub dX1_takesClosing_14 ?_
    refine g_putI dX1_takesClosing_15 fl_RX1_24 fk_1_4 (cl_false_3) hf (fun w_1 hf => ?_)
    refine r_aload_n dX1_takesClosing_18 rfl rfl ?_
    refine r_aload_n dX1_takesClosing_19 rfl rfl ?_
    refine r_aload_n dX1_takesClosing_20 rfl rfl ?_
    refine g_getA dX1_takesClosing_21 fl_RX1_9 fk_1_0 rfl (cl_false_3) ?_
    refine r_aload_n dX1_takesClosing_24 rfl rfl ?_
    refine g_getI dX1_takesClosing_25 fl_RX1_24 fk_1_4 (cl_false_3) ?_
    obtain ⟨x_3, w_2, hc, hf⟩ := cl_some hf
    refine g_cN (st := [vR o2 0, vR 3 0]) KX5_at [vR 3 1, vI (w_1.1 3 0 4)] dX1_takesClosing_28 e_RX1_36 mok_X5_at mw_X5_at ⟨Nat.le_of_ble_eq_true rfl, Nat.le_of_ble_eq_true rfl⟩ (met_X5_at (am_iaW aK_false_3_1) hc) rfl (Nat.le_of_ble_eq_true rfl) ?_
    clear hc
    refine r_aload_n dX1_takesClosing_31 rfl rfl ?_
    refine g_getA dX1_takesClosing_32 fl_RX1_18 fk_1_2 rfl (cl_false_3) ?_
    refine r_aload_n dX1_takesClosing_35 rfl rfl ?_
    refine g_getI dX1_takesClosing_36 fl_RX1_24 fk_1_4 (cl_false_3) ?_
    obtain ⟨x_5, w_4, hc, hf⟩ := cl_some hf
    refine g_cN (st := [vI x_3, vR o2 0, vR 3 0]) KX5_at [vR 3 3, vI (w_2.1 3 0 4)] dX1_takesClosing_39 e_RX1_36 mok_X5_at mw_X5_at ⟨Nat.le_of_ble_eq_true rfl, Nat.le_of_ble_eq_true rfl⟩ (met_X5_at (am_iaW aK_false_3_3) hc) rfl (Nat.le_of_ble_eq_true rfl) ?_
    clear hc
    refine r_aload_n dX1_takesClosing_42 rfl rfl ?_
    refine g_getA dX1_takesClosing_43 fl_RX1_21 fk_1_3 rfl (cl_false_3) ?_
    refine r_aload_n dX1_takesClosing_46 rfl rfl ?_
    refine g_getI dX1_takesClosing_47 fl_RX1_24 fk_1_4 (cl_false_3) ?_
    obtain ⟨x_7, w_6, hc, hf⟩ := cl_some hf
    refine g_cN (st := [vI x_5, vI x_3, vR o2 0, vR 3 0]) KX5_at [vR 3 4, vI (w_4.1 3 0 4)] dX1_takesClosing_50 e_RX1_36 mok_X5_at mw_X5_at ⟨Nat.le_of_ble_eq_true rfl, Nat.le_of_ble_eq_true rfl⟩ (met_X5_at (am_iaW aK_false_3_4) hc) rfl (Nat.le_of_ble_eq_true rfl) ?_
    clear hc
    refine r_aload_n dX1_takesClosing_53 rfl rfl ?_
    refine g_getA dX1_takesClosing_54 fl_RX1_15 fk_1_1 rfl (cl_false_3) ?_
    refine r_aload_n dX1_takesClosing_57 rfl rfl ?_
    refine g_getI dX1_takesClosing_58 fl_RX1_24 fk_1_4 (cl_false_3) ?_
    obtain ⟨x_9, w_8, hc, hf⟩ := cl_some hf
    refine g_cN (st := [vI x_7, vI x_5, vI x_3, vR o2 0, vR 3 0]) KX5_at [vR 3 2, vI (w_6.1 3 0 4)] dX1_takesClosing_61 e_RX1_36 mok_X5_at mw_X5_at ⟨Nat.le_of_ble_eq_true rfl, Nat.le_of_ble_eq_true rfl⟩ (met_X5_at (am_iaW aK_false_3_2) hc) rfl (Nat.le_of_ble_eq_true rfl) ?_
    clear hc
    obtain ⟨x_11, w_10, hc, hf⟩ := cl_some hf
    refine g_cV (st := [vR 3 0]) KX2_part [vI x_3, vI x_5, vI x_7, vI x_9] dX1_takesClosing_64 e_RX1_65 ho2 (rfl : vwCl[2]? = _) rfl mok_X2_part mw_X2_part ⟨Nat.le_of_ble_eq_true rfl, Nat.le_of_ble_eq_true rfl⟩ (met_X2_part ho2 hc) rfl (Nat.le_of_ble_eq_true rfl) ?_
    clear hc
    refine r_aload_n dX1_takesClosing_67 rfl rfl ?_
    obtain ⟨x_13, w_12, hc, hf⟩ := cl_some hf
    refine g_cVv (st := []) KX1_end [vI x_11, vR o2 0] dX1_takesClosing_68 e_RX1_69 (cl_false_3) (rfl : vwCl[1]? = _) rfl mok_X1_end mw_X1_end ⟨Nat.le_of_ble_eq_true rfl, Nat.le_of_ble_eq_true rfl⟩ (met_X1_end ho2 hc) rfl (Nat.le_of_ble_eq_true rfl) ?_
    clear hc
    refine r_iconst dX1_takesClosing_71 ic_1 ?_
    exact r_zret dX1_takesClosing_72 rfl nar_1 (ret_I hf)
  · refine r_iconst dX1_takesClosing_6 ic_0 ?_
    exact r_zret dX1_takesClosing_7 rfl nar_0 (ret_I hf)
theorem met_X1_takesClosing {zv : Int32} {zw : AW} {v1 : Int32} {o2 : Nat} (ho2 : am_cls false o2 = 2) {w : AW} (hf : mX1_takesClosing v1 o2 w = some (zv, zw)) : am_Met false KX1_takesClosing [vR 3 0, vI v1, vR o2 0] w (some (vI zv), zw) := am_met mok_X1_takesClosing.1 (Nat.le_of_ble_eq_true rfl) (ok_mX1_takesClosing ho2 hf)

/-! SeenWorlds$Reader.takes(IILSeenWorlds$Sentence;)Z -/
noncomputable def mX1_takes_27 (v1 : Int32) (v2 : Int32) (o3 : Nat) (w : AW) : Option (Int32 × AW) :=
  if (w.1 3 0 5) = 0 then
    cl (mX1_takesOne v1 v2 o3 w) fun x_2 w_1 =>
    zr x_2 w_1
  else if (w.1 3 0 5) = 1 then
    cl (mX1_takesBetween v1 w) fun x_4 w_3 =>
    zr x_4 w_3
  else if (w.1 3 0 5) = 2 then
    cl (mX1_takesClosing v1 o3 w) fun x_6 w_5 =>
    zr x_6 w_5
  else 
    some (0, w)
noncomputable def mX1_takes (v1 : Int32) (v2 : Int32) (o3 : Nat) (w : AW) : Option (Int32 × AW) :=
  if v1 = 40 then
    mX1_takes_27 v1 v2 o3 w
  else
    if v1 = 41 then
      mX1_takes_27 v1 v2 o3 w
    else
      cl (mX2_signs o3 w) fun x_2 w_1 =>
      if x_2 < 40 then
        cl (mX2_countSign o3 w_1) fun x_4 w_3 =>
        mX1_takes_27 v1 v2 o3 w_3
      else
        some (0, w_1)
set_option maxRecDepth 100000 in
set_option maxHeartbeats 4000000 in
theorem ok_mX1_takes_27 {zv : Int32} {zw : AW} {v1 : Int32} {v2 : Int32} {o3 : Nat} (ho3 : am_cls false o3 = 2) {w : AW} (hf : mX1_takes_27 v1 v2 o3 w = some (zv, zw)) : RR false KX1_takes (some (vI zv), zw) 27 [some (vR 3 0), some (vI v1), some (vI v2), some (vR o3 0)] [] w := by
  refine r_aload_n dX1_takes_27 rfl rfl ?_
  refine g_getI dX1_takes_28 fl_RX1_28 fk_1_5 (cl_false_3) ?_
  rcases Classical.em ((w.1 3 0 5) = 0) with c0 | c0
  · replace hf := br_pos c0 hf
    refine g_tabC (off := 25) (tgt := 56) c0 dX1_takes_31 (by decide) rfl ?_
    refine r_aload_n dX1_takes_56 rfl rfl ?_
    refine r_iload_n dX1_takes_57 rfl rfl ?_
    refine r_iload_n dX1_takes_58 rfl rfl ?_
    refine r_aload_n dX1_takes_59 rfl rfl ?_
    obtain ⟨x_2, w_1, hc, hf⟩ := cl_some hf
    refine g_cV (st := []) KX1_takesOne [vI v1, vI v2, vR o3 0] dX1_takes_60 e_RX1_51 (cl_false_3) (rfl : vwCl[1]? = _) rfl mok_X1_takesOne mw_X1_takesOne ⟨Nat.le_of_ble_eq_true rfl, Nat.le_of_ble_eq_true rfl⟩ (met_X1_takesOne ho3 hc) rfl (Nat.le_of_ble_eq_true rfl) ?_
    clear hc
    exact g_zret dX1_takes_63 rfl hf
  replace hf := br_neg c0 hf
  rcases Classical.em ((w.1 3 0 5) = 1) with c1 | c1
  · replace hf := br_pos c1 hf
    refine g_tabC (off := 33) (tgt := 64) c1 dX1_takes_31 (by decide) rfl ?_
    refine r_aload_n dX1_takes_64 rfl rfl ?_
    refine r_iload_n dX1_takes_65 rfl rfl ?_
    obtain ⟨x_4, w_3, hc, hf⟩ := cl_some hf
    refine g_cV (st := []) KX1_takesBetween [vI v1] dX1_takes_66 e_RX1_54 (cl_false_3) (rfl : vwCl[1]? = _) rfl mok_X1_takesBetween mw_X1_takesBetween ⟨Nat.le_of_ble_eq_true rfl, Nat.le_of_ble_eq_true rfl⟩ (met_X1_takesBetween hc) rfl (Nat.le_of_ble_eq_true rfl) ?_
    clear hc
    exact g_zret dX1_takes_69 rfl hf
  replace hf := br_neg c1 hf
  rcases Classical.em ((w.1 3 0 5) = 2) with c2 | c2
  · replace hf := br_pos c2 hf
    refine g_tabC (off := 39) (tgt := 70) c2 dX1_takes_31 (by decide) rfl ?_
    refine r_aload_n dX1_takes_70 rfl rfl ?_
    refine r_iload_n dX1_takes_71 rfl rfl ?_
    refine r_aload_n dX1_takes_72 rfl rfl ?_
    obtain ⟨x_6, w_5, hc, hf⟩ := cl_some hf
    refine g_cV (st := []) KX1_takesClosing [vI v1, vR o3 0] dX1_takes_73 e_RX1_58 (cl_false_3) (rfl : vwCl[1]? = _) rfl mok_X1_takesClosing mw_X1_takesClosing ⟨Nat.le_of_ble_eq_true rfl, Nat.le_of_ble_eq_true rfl⟩ (met_X1_takesClosing ho3 hc) rfl (Nat.le_of_ble_eq_true rfl) ?_
    clear hc
    exact g_zret dX1_takes_76 rfl hf
  replace hf := br_neg c2 hf
  refine g_tabD (tgt := 77) 3 (by decide) (fun j hj => by
    rcases (show j = 0 ∨ j = 1 ∨ j = 2 by omega) with rfl | rfl | rfl
    · exact am_neI c0 (by decide)
    · exact am_neI c1 (by decide)
    · exact am_neI c2 (by decide)) dX1_takes_31 rfl ?_
  refine r_iconst dX1_takes_77 ic_0 ?_
  exact r_zret dX1_takes_78 rfl nar_0 (ret_I hf)
set_option maxRecDepth 100000 in
set_option maxHeartbeats 4000000 in
theorem ok_mX1_takes {zv : Int32} {zw : AW} {v1 : Int32} {v2 : Int32} {o3 : Nat} (ho3 : am_cls false o3 = 2) {w : AW} (hf : mX1_takes v1 v2 o3 w = some (zv, zw)) : RR false KX1_takes (some (vI zv), zw) 0 [some (vR 3 0), some (vI v1), some (vI v2), some (vR o3 0)] [] w := by
  refine r_iload_n dX1_takes_0 rfl rfl ?_
  refine r_bipush dX1_takes_1 (bp_40) ?_
  refine g_icmp_eq (tgt := 27) dX1_takes_3 rfl hf (fun _ hf => ?_) (fun _ hf => ?_)
  · exact ok_mX1_takes_27 ho3 hf
  · refine r_iload_n dX1_takes_6 rfl rfl ?_
    refine r_bipush dX1_takes_7 (bp_41) ?_
    refine g_icmp_eq (tgt := 27) dX1_takes_9 rfl hf (fun _ hf => ?_) (fun _ hf => ?_)
    · exact ok_mX1_takes_27 ho3 hf
    · refine r_aload_n dX1_takes_12 rfl rfl ?_
      obtain ⟨x_2, w_1, hc, hf⟩ := cl_some hf
      refine g_cV (st := []) KX2_signs [] dX1_takes_13 e_RX1_44 ho3 (rfl : vwCl[2]? = _) rfl mok_X2_signs mw_X2_signs ⟨Nat.le_of_ble_eq_true rfl, Nat.le_of_ble_eq_true rfl⟩ (met_X2_signs ho3 hc) rfl (Nat.le_of_ble_eq_true rfl) ?_
      clear hc
      refine r_bipush dX1_takes_16 (bp_40) ?_
      refine g_icmp_lt (tgt := 23) dX1_takes_18 rfl hf (fun _ hf => ?_) (fun _ hf => ?_)
      · refine r_aload_n dX1_takes_23 rfl rfl ?_
        obtain ⟨x_4, w_3, hc, hf⟩ := cl_some hf
        refine g_cVv (st := []) KX2_countSign [] dX1_takes_24 e_RX1_48 ho3 (rfl : vwCl[2]? = _) rfl mok_X2_countSign mw_X2_countSign ⟨Nat.le_of_ble_eq_true rfl, Nat.le_of_ble_eq_true rfl⟩ (met_X2_countSign ho3 hc) rfl (Nat.le_of_ble_eq_true rfl) ?_
        clear hc
        exact ok_mX1_takes_27 ho3 hf
      · refine r_iconst dX1_takes_21 ic_0 ?_
        exact r_zret dX1_takes_22 rfl nar_0 (ret_I hf)
theorem met_X1_takes {zv : Int32} {zw : AW} {v1 : Int32} {v2 : Int32} {o3 : Nat} (ho3 : am_cls false o3 = 2) {w : AW} (hf : mX1_takes v1 v2 o3 w = some (zv, zw)) : am_Met false KX1_takes [vR 3 0, vI v1, vI v2, vR o3 0] w (some (vI zv), zw) := am_met mok_X1_takes.1 (Nat.le_of_ble_eq_true rfl) (ok_mX1_takes ho3 hf)

/-! SeenWorlds$Reader.fault([IILSeenWorlds$Sentence;)I -/
noncomputable def mX1_fault_17 (ro1 : Nat) (ra1 : Nat) (v2 : Int32) (o3 : Nat) : Nat → Int32 → AW → Option (Int32 × AW)
  | 0, _, _ => none
  | n + 1, v4, w =>
    if v2 ≤ v4 then
      if (w.1 3 0 5) ≠ 3 then
        some (v2, w)
      else
        some ((-1), w)
    else
      cl (mX5_at ro1 ra1 v4 w) fun x_2 w_1 =>
      cl (mX1_takes x_2 v4 o3 w_1) fun x_4 w_3 =>
      if x_4 ≠ 0 then
        nm (v4 + 1) fun v4_5 =>
        mX1_fault_17 ro1 ra1 v2 o3 n v4_5 w_3
      else
        some (v4, w_3)
noncomputable def mX1_fault (ro1 ra1 : Nat) (v2 : Int32) (o3 : Nat) (w : AW) : Option (Int32 × AW) :=
  pu w 3 4 0 fun w_1 =>
  pu w_1 3 5 0 fun w_2 =>
  cl (mX2_begin o3 w_2) fun x_4 w_3 =>
  mX1_fault_17 ro1 ra1 v2 o3 FU 0 w_3
set_option maxRecDepth 100000 in
set_option maxHeartbeats 4000000 in
theorem ok_mX1_fault_17 {zv : Int32} {zw : AW} {ro1 : Nat} {ra1 : Nat} {v2 : Int32} {o3 : Nat} (hr1 : am_ia false ro1 ra1) (ho3 : am_cls false o3 = 2) : ∀ (n : Nat) (v4 : Int32) (w : AW), mX1_fault_17 ro1 ra1 v2 o3 n v4 w = some (zv, zw) → RR false KX1_fault (some (vI zv), zw) 17 [some (vR 3 0), some (vR ro1 ra1), some (vI v2), some (vR o3 0), some (vI v4)] [] w := by
  intro n
  induction n with
  | zero => intro v4 w hf; cases hf
  | succ n ih =>
    intro v4 w hf
    refine r_iload dX1_fault_17 rfl ?_
    refine r_iload_n dX1_fault_19 rfl rfl ?_
    refine g_icmp_ge (tgt := 48) dX1_fault_20 rfl hf (fun _ hf => ?_) (fun _ hf => ?_)
    · refine r_aload_n dX1_fault_48 rfl rfl ?_
      refine g_getI dX1_fault_49 fl_RX1_28 fk_1_5 (cl_false_3) ?_
      refine r_iconst dX1_fault_52 ic_3 ?_
      refine g_icmp_ne (tgt := 60) dX1_fault_53 rfl hf (fun _ hf => ?_) (fun _ hf => ?_)
      · refine r_iload_n dX1_fault_60 rfl rfl ?_
        exact r_iret dX1_fault_61 rfl (ret_I hf)
      · refine r_iconst dX1_fault_56 ic_m1 ?_
        refine r_goto (tgt := 61) dX1_fault_57 rfl ?_
        exact r_iret dX1_fault_61 rfl (ret_I hf)
    · refine r_aload_n dX1_fault_23 rfl rfl ?_
      refine r_aload_n dX1_fault_24 rfl rfl ?_
      refine r_iload dX1_fault_25 rfl ?_
      obtain ⟨x_2, w_1, hc, hf⟩ := cl_some hf
      refine g_cN (st := [vR 3 0]) KX5_at [vR ro1 ra1, vI v4] dX1_fault_27 e_RX1_36 mok_X5_at mw_X5_at ⟨Nat.le_of_ble_eq_true rfl, Nat.le_of_ble_eq_true rfl⟩ (met_X5_at hr1 hc) rfl (Nat.le_of_ble_eq_true rfl) ?_
      clear hc
      refine r_iload dX1_fault_30 rfl ?_
      refine r_aload_n dX1_fault_32 rfl rfl ?_
      obtain ⟨x_4, w_3, hc, hf⟩ := cl_some hf
      refine g_cV (st := []) KX1_takes [vI x_2, vI v4, vR o3 0] dX1_fault_33 e_RX1_40 (cl_false_3) (rfl : vwCl[1]? = _) rfl mok_X1_takes mw_X1_takes ⟨Nat.le_of_ble_eq_true rfl, Nat.le_of_ble_eq_true rfl⟩ (met_X1_takes ho3 hc) rfl (Nat.le_of_ble_eq_true rfl) ?_
      clear hc
      refine g_if_ne (tgt := 42) dX1_fault_36 rfl hf (fun _ hf => ?_) (fun _ hf => ?_)
      · refine g_iinc (fun v4_5 => [some (vR 3 0), some (vR ro1 ra1), some (vI v2), some (vR o3 0), some (vI v4_5)]) dX1_fault_42 ic_1 rfl rfl (fun _ => rfl) (Nat.le_of_ble_eq_true rfl) hf (fun v4_5 hf => ?_)
        refine r_goto (tgt := 17) dX1_fault_45 rfl ?_
        exact ih _ _ hf
      · refine r_iload dX1_fault_39 rfl ?_
        exact r_iret dX1_fault_41 rfl (ret_I hf)
set_option maxRecDepth 100000 in
set_option maxHeartbeats 4000000 in
theorem ok_mX1_fault {zv : Int32} {zw : AW} {ro1 ra1 : Nat} {v2 : Int32} {o3 : Nat} (hr1 : am_ia false ro1 ra1) (ho3 : am_cls false o3 = 2) {w : AW} (hf : mX1_fault ro1 ra1 v2 o3 w = some (zv, zw)) : RR false KX1_fault (some (vI zv), zw) 0 [some (vR 3 0), some (vR ro1 ra1), some (vI v2), some (vR o3 0), none] [] w := by
  refine r_aload_n dX1_fault_0 rfl rfl ?_
  refine r_iconst dX1_fault_1 ic_0 ?_
  refine g_putI dX1_fault_2 fl_RX1_24 fk_1_4 (cl_false_3) hf (fun w_1 hf => ?_)
  refine r_aload_n dX1_fault_5 rfl rfl ?_
  refine r_iconst dX1_fault_6 ic_0 ?_
  refine g_putI dX1_fault_7 fl_RX1_28 fk_1_5 (cl_false_3) hf (fun w_2 hf => ?_)
  refine r_aload_n dX1_fault_10 rfl rfl ?_
  obtain ⟨x_4, w_3, hc, hf⟩ := cl_some hf
  refine g_cVv (st := []) KX2_begin [] dX1_fault_11 e_RX1_31 ho3 (rfl : vwCl[2]? = _) rfl mok_X2_begin mw_X2_begin ⟨Nat.le_of_ble_eq_true rfl, Nat.le_of_ble_eq_true rfl⟩ (met_X2_begin ho3 hc) rfl (Nat.le_of_ble_eq_true rfl) ?_
  clear hc
  refine r_iconst dX1_fault_14 ic_0 ?_
  refine r_istore (ls2 := [some (vR 3 0), some (vR ro1 ra1), some (vI v2), some (vR o3 0), some (vI 0)]) dX1_fault_15 rfl rfl (Nat.le_of_ble_eq_true rfl) ?_
  exact ok_mX1_fault_17 hr1 ho3 FU _ _ hf
theorem met_X1_fault {zv : Int32} {zw : AW} {ro1 ra1 : Nat} {v2 : Int32} {o3 : Nat} (hr1 : am_ia false ro1 ra1) (ho3 : am_cls false o3 = 2) {w : AW} (hf : mX1_fault ro1 ra1 v2 o3 w = some (zv, zw)) : am_Met false KX1_fault [vR 3 0, vR ro1 ra1, vI v2, vR o3 0] w (some (vI zv), zw) := am_met mok_X1_fault.1 (Nat.le_of_ble_eq_true rfl) (ok_mX1_fault hr1 ho3 hf)

/-! SeenWorlds$Sentence.parts()I -/
noncomputable def mX2_parts (o0 : Nat) (w : AW) : Option (Int32 × AW) :=
  some (w.1 o0 0 5, w)
set_option maxRecDepth 100000 in
set_option maxHeartbeats 4000000 in
theorem ok_mX2_parts {zv : Int32} {zw : AW} {o0 : Nat} (ho0 : am_cls false o0 = 2) {w : AW} (hf : mX2_parts o0 w = some (zv, zw)) : RR false KX2_parts (some (vI zv), zw) 0 [some (vR o0 0)] [] w := by
  refine r_aload_n dX2_parts_0 rfl rfl ?_
  refine g_getI dX2_parts_1 fl_RX2_9 fk_2_5 ho0 ?_
  exact r_iret dX2_parts_4 rfl (ret_I hf)
theorem met_X2_parts {zv : Int32} {zw : AW} {o0 : Nat} (ho0 : am_cls false o0 = 2) {w : AW} (hf : mX2_parts o0 w = some (zv, zw)) : am_Met false KX2_parts [vR o0 0] w (some (vI zv), zw) := am_met mok_X2_parts.1 (Nat.le_of_ble_eq_true rfl) (ok_mX2_parts ho0 hf)

/-! SeenWorlds$Sentence.sign(I)I -/
noncomputable def mX2_sign (o0 : Nat) (v1 : Int32) (w : AW) : Option (Int32 × AW) :=
  cl (mX5_at o0 1 v1 w) fun x_2 w_1 =>
  some (x_2, w_1)
set_option maxRecDepth 100000 in
set_option maxHeartbeats 4000000 in
theorem ok_mX2_sign {zv : Int32} {zw : AW} {o0 : Nat} {v1 : Int32} (ho0 : am_cls false o0 = 2) {w : AW} (hf : mX2_sign o0 v1 w = some (zv, zw)) : RR false KX2_sign (some (vI zv), zw) 0 [some (vR o0 0), some (vI v1)] [] w := by
  refine r_aload_n dX2_sign_0 rfl rfl ?_
  refine g_getA dX2_sign_1 fl_RX2_24 fk_2_0 rfl ho0 ?_
  refine r_iload_n dX2_sign_4 rfl rfl ?_
  obtain ⟨x_2, w_1, hc, hf⟩ := cl_some hf
  refine g_cN (st := []) KX5_at [vR o0 1, vI v1] dX2_sign_5 e_RX2_40 mok_X5_at mw_X5_at ⟨Nat.le_of_ble_eq_true rfl, Nat.le_of_ble_eq_true rfl⟩ (met_X5_at (am_iaW (am_aKs ho0 0 rfl)) hc) rfl (Nat.le_of_ble_eq_true rfl) ?_
  clear hc
  exact r_iret dX2_sign_8 rfl (ret_I hf)
theorem met_X2_sign {zv : Int32} {zw : AW} {o0 : Nat} {v1 : Int32} (ho0 : am_cls false o0 = 2) {w : AW} (hf : mX2_sign o0 v1 w = some (zv, zw)) : am_Met false KX2_sign [vR o0 0, vI v1] w (some (vI zv), zw) := am_met mok_X2_sign.1 (Nat.le_of_ble_eq_true rfl) (ok_mX2_sign ho0 hf)

/-! SeenWorlds$Sentence.first(I)I -/
noncomputable def mX2_first (o0 : Nat) (v1 : Int32) (w : AW) : Option (Int32 × AW) :=
  cl (mX5_at o0 2 v1 w) fun x_2 w_1 =>
  some (x_2, w_1)
set_option maxRecDepth 100000 in
set_option maxHeartbeats 4000000 in
theorem ok_mX2_first {zv : Int32} {zw : AW} {o0 : Nat} {v1 : Int32} (ho0 : am_cls false o0 = 2) {w : AW} (hf : mX2_first o0 v1 w = some (zv, zw)) : RR false KX2_first (some (vI zv), zw) 0 [some (vR o0 0), some (vI v1)] [] w := by
  refine r_aload_n dX2_first_0 rfl rfl ?_
  refine g_getA dX2_first_1 fl_RX2_28 fk_2_1 rfl ho0 ?_
  refine r_iload_n dX2_first_4 rfl rfl ?_
  obtain ⟨x_2, w_1, hc, hf⟩ := cl_some hf
  refine g_cN (st := []) KX5_at [vR o0 2, vI v1] dX2_first_5 e_RX2_40 mok_X5_at mw_X5_at ⟨Nat.le_of_ble_eq_true rfl, Nat.le_of_ble_eq_true rfl⟩ (met_X5_at (am_iaW (am_aKs ho0 1 rfl)) hc) rfl (Nat.le_of_ble_eq_true rfl) ?_
  clear hc
  exact r_iret dX2_first_8 rfl (ret_I hf)
theorem met_X2_first {zv : Int32} {zw : AW} {o0 : Nat} {v1 : Int32} (ho0 : am_cls false o0 = 2) {w : AW} (hf : mX2_first o0 v1 w = some (zv, zw)) : am_Met false KX2_first [vR o0 0, vI v1] w (some (vI zv), zw) := am_met mok_X2_first.1 (Nat.le_of_ble_eq_true rfl) (ok_mX2_first ho0 hf)

/-! SeenWorlds$Sentence.second(I)I -/
noncomputable def mX2_second (o0 : Nat) (v1 : Int32) (w : AW) : Option (Int32 × AW) :=
  cl (mX5_at o0 3 v1 w) fun x_2 w_1 =>
  some (x_2, w_1)
set_option maxRecDepth 100000 in
set_option maxHeartbeats 4000000 in
theorem ok_mX2_second {zv : Int32} {zw : AW} {o0 : Nat} {v1 : Int32} (ho0 : am_cls false o0 = 2) {w : AW} (hf : mX2_second o0 v1 w = some (zv, zw)) : RR false KX2_second (some (vI zv), zw) 0 [some (vR o0 0), some (vI v1)] [] w := by
  refine r_aload_n dX2_second_0 rfl rfl ?_
  refine g_getA dX2_second_1 fl_RX2_31 fk_2_2 rfl ho0 ?_
  refine r_iload_n dX2_second_4 rfl rfl ?_
  obtain ⟨x_2, w_1, hc, hf⟩ := cl_some hf
  refine g_cN (st := []) KX5_at [vR o0 3, vI v1] dX2_second_5 e_RX2_40 mok_X5_at mw_X5_at ⟨Nat.le_of_ble_eq_true rfl, Nat.le_of_ble_eq_true rfl⟩ (met_X5_at (am_iaW (am_aKs ho0 2 rfl)) hc) rfl (Nat.le_of_ble_eq_true rfl) ?_
  clear hc
  exact r_iret dX2_second_8 rfl (ret_I hf)
theorem met_X2_second {zv : Int32} {zw : AW} {o0 : Nat} {v1 : Int32} (ho0 : am_cls false o0 = 2) {w : AW} (hf : mX2_second o0 v1 w = some (zv, zw)) : am_Met false KX2_second [vR o0 0, vI v1] w (some (vI zv), zw) := am_met mok_X2_second.1 (Nat.le_of_ble_eq_true rfl) (ok_mX2_second ho0 hf)

/-! SeenWorlds$Sentence.place(I)I -/
noncomputable def mX2_place (o0 : Nat) (v1 : Int32) (w : AW) : Option (Int32 × AW) :=
  cl (mX5_at o0 4 v1 w) fun x_2 w_1 =>
  some (x_2, w_1)
set_option maxRecDepth 100000 in
set_option maxHeartbeats 4000000 in
theorem ok_mX2_place {zv : Int32} {zw : AW} {o0 : Nat} {v1 : Int32} (ho0 : am_cls false o0 = 2) {w : AW} (hf : mX2_place o0 v1 w = some (zv, zw)) : RR false KX2_place (some (vI zv), zw) 0 [some (vR o0 0), some (vI v1)] [] w := by
  refine r_aload_n dX2_place_0 rfl rfl ?_
  refine g_getA dX2_place_1 fl_RX2_34 fk_2_3 rfl ho0 ?_
  refine r_iload_n dX2_place_4 rfl rfl ?_
  obtain ⟨x_2, w_1, hc, hf⟩ := cl_some hf
  refine g_cN (st := []) KX5_at [vR o0 4, vI v1] dX2_place_5 e_RX2_40 mok_X5_at mw_X5_at ⟨Nat.le_of_ble_eq_true rfl, Nat.le_of_ble_eq_true rfl⟩ (met_X5_at (am_iaW (am_aKs ho0 3 rfl)) hc) rfl (Nat.le_of_ble_eq_true rfl) ?_
  clear hc
  exact r_iret dX2_place_8 rfl (ret_I hf)
theorem met_X2_place {zv : Int32} {zw : AW} {o0 : Nat} {v1 : Int32} (ho0 : am_cls false o0 = 2) {w : AW} (hf : mX2_place o0 v1 w = some (zv, zw)) : am_Met false KX2_place [vR o0 0, vI v1] w (some (vI zv), zw) := am_met mok_X2_place.1 (Nat.le_of_ble_eq_true rfl) (ok_mX2_place ho0 hf)

/-! SeenWorlds$Sentence.depth()I -/
noncomputable def mX2_depth (o0 : Nat) (w : AW) : Option (Int32 × AW) :=
  cl (mX5_at o0 5 ((w.1 o0 0 5) - 1) w) fun x_2 w_1 =>
  some (x_2, w_1)
set_option maxRecDepth 100000 in
set_option maxHeartbeats 4000000 in
theorem ok_mX2_depth {zv : Int32} {zw : AW} {o0 : Nat} (ho0 : am_cls false o0 = 2) {w : AW} (hf : mX2_depth o0 w = some (zv, zw)) : RR false KX2_depth (some (vI zv), zw) 0 [some (vR o0 0)] [] w := by
  refine r_aload_n dX2_depth_0 rfl rfl ?_
  refine g_getA dX2_depth_1 fl_RX2_37 fk_2_4 rfl ho0 ?_
  refine r_aload_n dX2_depth_4 rfl rfl ?_
  refine g_getI dX2_depth_5 fl_RX2_9 fk_2_5 ho0 ?_
  refine r_iconst dX2_depth_8 ic_1 ?_
  refine r_isub dX2_depth_9 ?_
  obtain ⟨x_2, w_1, hc, hf⟩ := cl_some hf
  refine g_cN (st := []) KX5_at [vR o0 5, vI ((w.1 o0 0 5) - 1)] dX2_depth_10 e_RX2_40 mok_X5_at mw_X5_at ⟨Nat.le_of_ble_eq_true rfl, Nat.le_of_ble_eq_true rfl⟩ (met_X5_at (am_iaW (am_aKs ho0 4 rfl)) hc) rfl (Nat.le_of_ble_eq_true rfl) ?_
  clear hc
  exact r_iret dX2_depth_13 rfl (ret_I hf)
theorem met_X2_depth {zv : Int32} {zw : AW} {o0 : Nat} (ho0 : am_cls false o0 = 2) {w : AW} (hf : mX2_depth o0 w = some (zv, zw)) : am_Met false KX2_depth [vR o0 0] w (some (vI zv), zw) := am_met mok_X2_depth.1 (Nat.le_of_ble_eq_true rfl) (ok_mX2_depth ho0 hf)

/-! SeenWorlds$Sentence.isPlain()Z -/
noncomputable def mX2_isPlain (o0 : Nat) (w : AW) : Option (Int32 × AW) :=
  cl (mX2_depth o0 w) fun x_2 w_1 =>
  if x_2 ≠ 0 then
    some (0, w_1)
  else
    some (1, w_1)
set_option maxRecDepth 100000 in
set_option maxHeartbeats 4000000 in
theorem ok_mX2_isPlain {zv : Int32} {zw : AW} {o0 : Nat} (ho0 : am_cls false o0 = 2) {w : AW} (hf : mX2_isPlain o0 w = some (zv, zw)) : RR false KX2_isPlain (some (vI zv), zw) 0 [some (vR o0 0)] [] w := by
  refine r_aload_n dX2_isPlain_0 rfl rfl ?_
  obtain ⟨x_2, w_1, hc, hf⟩ := cl_some hf
  refine g_cV (st := []) KX2_depth [] dX2_isPlain_1 e_RX2_44 ho0 (rfl : vwCl[2]? = _) rfl mok_X2_depth mw_X2_depth ⟨Nat.le_of_ble_eq_true rfl, Nat.le_of_ble_eq_true rfl⟩ (met_X2_depth ho0 hc) rfl (Nat.le_of_ble_eq_true rfl) ?_
  clear hc
  refine g_if_ne (tgt := 11) dX2_isPlain_4 rfl hf (fun _ hf => ?_) (fun _ hf => ?_)
  · refine r_iconst dX2_isPlain_11 ic_0 ?_
    exact r_zret dX2_isPlain_12 rfl nar_0 (ret_I hf)
  · refine r_iconst dX2_isPlain_7 ic_1 ?_
    refine r_goto (tgt := 12) dX2_isPlain_8 rfl ?_
    exact r_zret dX2_isPlain_12 rfl nar_1 (ret_I hf)
theorem met_X2_isPlain {zv : Int32} {zw : AW} {o0 : Nat} (ho0 : am_cls false o0 = 2) {w : AW} (hf : mX2_isPlain o0 w = some (zv, zw)) : am_Met false KX2_isPlain [vR o0 0] w (some (vI zv), zw) := am_met mok_X2_isPlain.1 (Nat.le_of_ble_eq_true rfl) (ok_mX2_isPlain ho0 hf)

/-! SeenWorlds$Sentence.atoms()I -/
noncomputable def mX2_atoms_42 (k4 : Int32 → Int32 → AW → Option (Int32 × AW)) (o0 : Nat) (v1 : Int32) (v2 : Int32) (w : AW) : Option (Int32 × AW) :=
  nm (v2 + 1) fun v2_1 =>
  k4 v1 v2_1 w
noncomputable def mX2_atoms_4 (o0 : Nat) : Nat → Int32 → Int32 → AW → Option (Int32 × AW)
  | 0, _, _, _ => none
  | n + 1, v1, v2, w =>
    if (w.1 o0 0 5) ≤ v2 then
      some (v1, w)
    else
      cl (mX5_at o0 1 v2 w) fun x_2 w_1 =>
      cl (mX5_isAtom x_2 w_1) fun x_4 w_3 =>
      if x_4 = 0 then
        mX2_atoms_42 (mX2_atoms_4 o0 n) o0 v1 v2 w_3
      else
        cl (mX5_at o0 1 v2 w_3) fun x_6 w_5 =>
        nm (v1 ||| (1 <<< ((x_6 - 112) &&& 31))) fun v1_7 =>
        mX2_atoms_42 (mX2_atoms_4 o0 n) o0 v1_7 v2 w_5
noncomputable def mX2_atoms (o0 : Nat) (w : AW) : Option (Int32 × AW) :=
  mX2_atoms_4 o0 FU 0 0 w
set_option maxRecDepth 100000 in
set_option maxHeartbeats 4000000 in
theorem ok_mX2_atoms_42 {zv : Int32} {zw : AW} {k4 : Int32 → Int32 → AW → Option (Int32 × AW)} {o0 : Nat} {v1 : Int32} {v2 : Int32} (hk4 : ∀ (v1 : Int32) (v2 : Int32)  w, k4 v1 v2 w = some (zv, zw) → RR false KX2_atoms (some (vI zv), zw) 4 [some (vR o0 0), some (vI v1), some (vI v2)] [] w) (ho0 : am_cls false o0 = 2) {w : AW} (hf : mX2_atoms_42 k4 o0 v1 v2 w = some (zv, zw)) : RR false KX2_atoms (some (vI zv), zw) 42 [some (vR o0 0), some (vI v1), some (vI v2)] [] w := by
  refine g_iinc (fun v2_1 => [some (vR o0 0), some (vI v1), some (vI v2_1)]) dX2_atoms_42 ic_1 rfl rfl (fun _ => rfl) (Nat.le_of_ble_eq_true rfl) hf (fun v2_1 hf => ?_)
  refine r_goto (tgt := 4) dX2_atoms_45 rfl ?_
  exact hk4 _ _ _ hf
set_option maxRecDepth 100000 in
set_option maxHeartbeats 4000000 in
theorem ok_mX2_atoms_4 {zv : Int32} {zw : AW} {o0 : Nat} (ho0 : am_cls false o0 = 2) : ∀ (n : Nat) (v1 : Int32) (v2 : Int32) (w : AW), mX2_atoms_4 o0 n v1 v2 w = some (zv, zw) → RR false KX2_atoms (some (vI zv), zw) 4 [some (vR o0 0), some (vI v1), some (vI v2)] [] w := by
  intro n
  induction n with
  | zero => intro v1 v2 w hf; cases hf
  | succ n ih =>
    intro v1 v2 w hf
    refine r_iload_n dX2_atoms_4 rfl rfl ?_
    refine r_aload_n dX2_atoms_5 rfl rfl ?_
    refine g_getI dX2_atoms_6 fl_RX2_9 fk_2_5 ho0 ?_
    refine g_icmp_ge (tgt := 48) dX2_atoms_9 rfl hf (fun _ hf => ?_) (fun _ hf => ?_)
    · refine r_iload_n dX2_atoms_48 rfl rfl ?_
      exact r_iret dX2_atoms_49 rfl (ret_I hf)
    · refine r_aload_n dX2_atoms_12 rfl rfl ?_
      refine g_getA dX2_atoms_13 fl_RX2_24 fk_2_0 rfl ho0 ?_
      refine r_iload_n dX2_atoms_16 rfl rfl ?_
      obtain ⟨x_2, w_1, hc, hf⟩ := cl_some hf
      refine g_cN (st := []) KX5_at [vR o0 1, vI v2] dX2_atoms_17 e_RX2_40 mok_X5_at mw_X5_at ⟨Nat.le_of_ble_eq_true rfl, Nat.le_of_ble_eq_true rfl⟩ (met_X5_at (am_iaW (am_aKs ho0 0 rfl)) hc) rfl (Nat.le_of_ble_eq_true rfl) ?_
      clear hc
      obtain ⟨x_4, w_3, hc, hf⟩ := cl_some hf
      refine g_cN (st := []) KX5_isAtom [vI x_2] dX2_atoms_20 e_RX2_48 mok_X5_isAtom mw_X5_isAtom ⟨Nat.le_of_ble_eq_true rfl, Nat.le_of_ble_eq_true rfl⟩ (met_X5_isAtom hc) rfl (Nat.le_of_ble_eq_true rfl) ?_
      clear hc
      refine g_if_eq (tgt := 42) dX2_atoms_23 rfl hf (fun _ hf => ?_) (fun _ hf => ?_)
      · exact ok_mX2_atoms_42 (fun v1 v2 w hf => ih v1 v2 w hf) ho0 hf
      · refine r_iload_n dX2_atoms_26 rfl rfl ?_
        refine r_iconst dX2_atoms_27 ic_1 ?_
        refine r_aload_n dX2_atoms_28 rfl rfl ?_
        refine g_getA dX2_atoms_29 fl_RX2_24 fk_2_0 rfl ho0 ?_
        refine r_iload_n dX2_atoms_32 rfl rfl ?_
        obtain ⟨x_6, w_5, hc, hf⟩ := cl_some hf
        refine g_cN (st := [vI 1, vI v1]) KX5_at [vR o0 1, vI v2] dX2_atoms_33 e_RX2_40 mok_X5_at mw_X5_at ⟨Nat.le_of_ble_eq_true rfl, Nat.le_of_ble_eq_true rfl⟩ (met_X5_at (am_iaW (am_aKs ho0 0 rfl)) hc) rfl (Nat.le_of_ble_eq_true rfl) ?_
        clear hc
        refine r_bipush dX2_atoms_36 (bp_112) ?_
        refine r_isub dX2_atoms_38 ?_
        refine r_ishl dX2_atoms_39 ?_
        refine r_ior dX2_atoms_40 ?_
        refine g_istore_n (fun v1_7 => [some (vR o0 0), some (vI v1_7), some (vI v2)]) dX2_atoms_41 rfl rfl (fun _ => rfl) (Nat.le_of_ble_eq_true rfl) hf (fun v1_7 hf => ?_)
        exact ok_mX2_atoms_42 (fun v1 v2 w hf => ih v1 v2 w hf) ho0 hf
set_option maxRecDepth 100000 in
set_option maxHeartbeats 4000000 in
theorem ok_mX2_atoms {zv : Int32} {zw : AW} {o0 : Nat} (ho0 : am_cls false o0 = 2) {w : AW} (hf : mX2_atoms o0 w = some (zv, zw)) : RR false KX2_atoms (some (vI zv), zw) 0 [some (vR o0 0), none, none] [] w := by
  refine r_iconst dX2_atoms_0 ic_0 ?_
  refine r_istore_n (ls2 := [some (vR o0 0), some (vI 0), none]) dX2_atoms_1 rfl rfl rfl (Nat.le_of_ble_eq_true rfl) ?_
  refine r_iconst dX2_atoms_2 ic_0 ?_
  refine r_istore_n (ls2 := [some (vR o0 0), some (vI 0), some (vI 0)]) dX2_atoms_3 rfl rfl rfl (Nat.le_of_ble_eq_true rfl) ?_
  exact ok_mX2_atoms_4 ho0 FU _ _ _ hf
theorem met_X2_atoms {zv : Int32} {zw : AW} {o0 : Nat} (ho0 : am_cls false o0 = 2) {w : AW} (hf : mX2_atoms o0 w = some (zv, zw)) : am_Met false KX2_atoms [vR o0 0] w (some (vI zv), zw) := am_met mok_X2_atoms.1 (Nat.le_of_ble_eq_true rfl) (ok_mX2_atoms ho0 hf)

/-! SeenWorlds$Sentence.become(LSeenWorlds$Sentence;)V -/
noncomputable def mX2_become_26 (o0 : Nat) (o1 : Nat) : Nat → Int32 → AW → Option (Unit × AW)
  | 0, _, _ => none
  | n + 1, v2, w =>
    if (w.1 o0 0 5) ≤ v2 then
      some ((), w)
    else
      cl (mX5_at o1 1 v2 w) fun x_2 w_1 =>
      cl (mX5_put o0 1 v2 x_2 w_1) fun x_4 w_3 =>
      cl (mX5_at o1 2 v2 w_3) fun x_6 w_5 =>
      cl (mX5_put o0 2 v2 x_6 w_5) fun x_8 w_7 =>
      cl (mX5_at o1 3 v2 w_7) fun x_10 w_9 =>
      cl (mX5_put o0 3 v2 x_10 w_9) fun x_12 w_11 =>
      cl (mX5_at o1 4 v2 w_11) fun x_14 w_13 =>
      cl (mX5_put o0 4 v2 x_14 w_13) fun x_16 w_15 =>
      cl (mX5_at o1 5 v2 w_15) fun x_18 w_17 =>
      cl (mX5_put o0 5 v2 x_18 w_17) fun x_20 w_19 =>
      nm (v2 + 1) fun v2_21 =>
      mX2_become_26 o0 o1 n v2_21 w_19
noncomputable def mX2_become (o0 : Nat) (o1 : Nat) (w : AW) : Option (Unit × AW) :=
  pu w o0 5 (if (Int32.ofNat (am_aL false o0 1)) < (w.1 o1 0 5) then (Int32.ofNat (am_aL false o0 1)) else (w.1 o1 0 5)) fun w_1 =>
  pu w_1 o0 6 (w_1.1 o1 0 6) fun w_2 =>
  mX2_become_26 o0 o1 FU 0 w_2
set_option maxRecDepth 100000 in
set_option maxHeartbeats 4000000 in
theorem ok_mX2_become_26 {zv : Unit} {zw : AW} {o0 : Nat} {o1 : Nat} (ho0 : am_cls false o0 = 2) (ho1 : am_cls false o1 = 2) : ∀ (n : Nat) (v2 : Int32) (w : AW), mX2_become_26 o0 o1 n v2 w = some (zv, zw) → RR false KX2_become (none, zw) 26 [some (vR o0 0), some (vR o1 0), some (vI v2)] [] w := by
  intro n
  induction n with
  | zero => intro v2 w hf; cases hf
  | succ n ih =>
    intro v2 w hf
    refine r_iload_n dX2_become_26 rfl rfl ?_
    refine r_aload_n dX2_become_27 rfl rfl ?_
    refine g_getI dX2_become_28 fl_RX2_9 fk_2_5 ho0 ?_
    refine g_icmp_ge (tgt := 120) dX2_become_31 rfl hf (fun _ hf => ?_) (fun _ hf => ?_)
    · exact r_vret dX2_become_120 rfl (ret_U hf)
    · refine r_aload_n dX2_become_34 rfl rfl ?_
      refine g_getA dX2_become_35 fl_RX2_24 fk_2_0 rfl ho0 ?_
      refine r_iload_n dX2_become_38 rfl rfl ?_
      refine r_aload_n dX2_become_39 rfl rfl ?_
      refine g_getA dX2_become_40 fl_RX2_24 fk_2_0 rfl ho1 ?_
      refine r_iload_n dX2_become_43 rfl rfl ?_
      obtain ⟨x_2, w_1, hc, hf⟩ := cl_some hf
      refine g_cN (st := [vI v2, vR o0 1]) KX5_at [vR o1 1, vI v2] dX2_become_44 e_RX2_40 mok_X5_at mw_X5_at ⟨Nat.le_of_ble_eq_true rfl, Nat.le_of_ble_eq_true rfl⟩ (met_X5_at (am_iaW (am_aKs ho1 0 rfl)) hc) rfl (Nat.le_of_ble_eq_true rfl) ?_
      clear hc
      obtain ⟨x_4, w_3, hc, hf⟩ := cl_some hf
      refine g_cNv (st := []) KX5_put [vR o0 1, vI v2, vI x_2] dX2_become_47 e_RX2_52 mok_X5_put mw_X5_put ⟨Nat.le_of_ble_eq_true rfl, Nat.le_of_ble_eq_true rfl⟩ (met_X5_put (am_aKs ho0 0 rfl) hc) rfl (Nat.le_of_ble_eq_true rfl) ?_
      clear hc
      refine r_aload_n dX2_become_50 rfl rfl ?_
      refine g_getA dX2_become_51 fl_RX2_28 fk_2_1 rfl ho0 ?_
      refine r_iload_n dX2_become_54 rfl rfl ?_
      refine r_aload_n dX2_become_55 rfl rfl ?_
      refine g_getA dX2_become_56 fl_RX2_28 fk_2_1 rfl ho1 ?_
      refine r_iload_n dX2_become_59 rfl rfl ?_
      obtain ⟨x_6, w_5, hc, hf⟩ := cl_some hf
      refine g_cN (st := [vI v2, vR o0 2]) KX5_at [vR o1 2, vI v2] dX2_become_60 e_RX2_40 mok_X5_at mw_X5_at ⟨Nat.le_of_ble_eq_true rfl, Nat.le_of_ble_eq_true rfl⟩ (met_X5_at (am_iaW (am_aKs ho1 1 rfl)) hc) rfl (Nat.le_of_ble_eq_true rfl) ?_
      clear hc
      obtain ⟨x_8, w_7, hc, hf⟩ := cl_some hf
      refine g_cNv (st := []) KX5_put [vR o0 2, vI v2, vI x_6] dX2_become_63 e_RX2_52 mok_X5_put mw_X5_put ⟨Nat.le_of_ble_eq_true rfl, Nat.le_of_ble_eq_true rfl⟩ (met_X5_put (am_aKs ho0 1 rfl) hc) rfl (Nat.le_of_ble_eq_true rfl) ?_
      clear hc
      refine r_aload_n dX2_become_66 rfl rfl ?_
      refine g_getA dX2_become_67 fl_RX2_31 fk_2_2 rfl ho0 ?_
      refine r_iload_n dX2_become_70 rfl rfl ?_
      refine r_aload_n dX2_become_71 rfl rfl ?_
      refine g_getA dX2_become_72 fl_RX2_31 fk_2_2 rfl ho1 ?_
      refine r_iload_n dX2_become_75 rfl rfl ?_
      obtain ⟨x_10, w_9, hc, hf⟩ := cl_some hf
      refine g_cN (st := [vI v2, vR o0 3]) KX5_at [vR o1 3, vI v2] dX2_become_76 e_RX2_40 mok_X5_at mw_X5_at ⟨Nat.le_of_ble_eq_true rfl, Nat.le_of_ble_eq_true rfl⟩ (met_X5_at (am_iaW (am_aKs ho1 2 rfl)) hc) rfl (Nat.le_of_ble_eq_true rfl) ?_
      clear hc
      obtain ⟨x_12, w_11, hc, hf⟩ := cl_some hf
      refine g_cNv (st := []) KX5_put [vR o0 3, vI v2, vI x_10] dX2_become_79 e_RX2_52 mok_X5_put mw_X5_put ⟨Nat.le_of_ble_eq_true rfl, Nat.le_of_ble_eq_true rfl⟩ (met_X5_put (am_aKs ho0 2 rfl) hc) rfl (Nat.le_of_ble_eq_true rfl) ?_
      clear hc
      refine r_aload_n dX2_become_82 rfl rfl ?_
      refine g_getA dX2_become_83 fl_RX2_34 fk_2_3 rfl ho0 ?_
      refine r_iload_n dX2_become_86 rfl rfl ?_
      refine r_aload_n dX2_become_87 rfl rfl ?_
      refine g_getA dX2_become_88 fl_RX2_34 fk_2_3 rfl ho1 ?_
      refine r_iload_n dX2_become_91 rfl rfl ?_
      obtain ⟨x_14, w_13, hc, hf⟩ := cl_some hf
      refine g_cN (st := [vI v2, vR o0 4]) KX5_at [vR o1 4, vI v2] dX2_become_92 e_RX2_40 mok_X5_at mw_X5_at ⟨Nat.le_of_ble_eq_true rfl, Nat.le_of_ble_eq_true rfl⟩ (met_X5_at (am_iaW (am_aKs ho1 3 rfl)) hc) rfl (Nat.le_of_ble_eq_true rfl) ?_
      clear hc
      obtain ⟨x_16, w_15, hc, hf⟩ := cl_some hf
      refine g_cNv (st := []) KX5_put [vR o0 4, vI v2, vI x_14] dX2_become_95 e_RX2_52 mok_X5_put mw_X5_put ⟨Nat.le_of_ble_eq_true rfl, Nat.le_of_ble_eq_true rfl⟩ (met_X5_put (am_aKs ho0 3 rfl) hc) rfl (Nat.le_of_ble_eq_true rfl) ?_
      clear hc
      refine r_aload_n dX2_become_98 rfl rfl ?_
      refine g_getA dX2_become_99 fl_RX2_37 fk_2_4 rfl ho0 ?_
      refine r_iload_n dX2_become_102 rfl rfl ?_
      refine r_aload_n dX2_become_103 rfl rfl ?_
      refine g_getA dX2_become_104 fl_RX2_37 fk_2_4 rfl ho1 ?_
      refine r_iload_n dX2_become_107 rfl rfl ?_
      obtain ⟨x_18, w_17, hc, hf⟩ := cl_some hf
      refine g_cN (st := [vI v2, vR o0 5]) KX5_at [vR o1 5, vI v2] dX2_become_108 e_RX2_40 mok_X5_at mw_X5_at ⟨Nat.le_of_ble_eq_true rfl, Nat.le_of_ble_eq_true rfl⟩ (met_X5_at (am_iaW (am_aKs ho1 4 rfl)) hc) rfl (Nat.le_of_ble_eq_true rfl) ?_
      clear hc
      obtain ⟨x_20, w_19, hc, hf⟩ := cl_some hf
      refine g_cNv (st := []) KX5_put [vR o0 5, vI v2, vI x_18] dX2_become_111 e_RX2_52 mok_X5_put mw_X5_put ⟨Nat.le_of_ble_eq_true rfl, Nat.le_of_ble_eq_true rfl⟩ (met_X5_put (am_aKs ho0 4 rfl) hc) rfl (Nat.le_of_ble_eq_true rfl) ?_
      clear hc
      refine g_iinc (fun v2_21 => [some (vR o0 0), some (vR o1 0), some (vI v2_21)]) dX2_become_114 ic_1 rfl rfl (fun _ => rfl) (Nat.le_of_ble_eq_true rfl) hf (fun v2_21 hf => ?_)
      refine r_goto (tgt := 26) dX2_become_117 rfl ?_
      exact ih _ _ hf
set_option maxRecDepth 100000 in
set_option maxHeartbeats 4000000 in
theorem ok_mX2_become {zv : Unit} {zw : AW} {o0 : Nat} {o1 : Nat} (ho0 : am_cls false o0 = 2) (ho1 : am_cls false o1 = 2) {w : AW} (hf : mX2_become o0 o1 w = some (zv, zw)) : RR false KX2_become (none, zw) 0 [some (vR o0 0), some (vR o1 0), none] [] w := by
  refine r_aload_n dX2_become_0 rfl rfl ?_
  refine r_aload_n dX2_become_1 rfl rfl ?_
  refine g_getI dX2_become_2 fl_RX2_9 fk_2_5 ho1 ?_
  refine r_aload_n dX2_become_5 rfl rfl ?_
  refine g_getA dX2_become_6 fl_RX2_24 fk_2_0 rfl ho0 ?_
  refine g_alenG dX2_become_9 (am_iaW (am_aKs ho0 0 rfl)) ?_
  refine r_mmin dX2_become_10 (am_c13 (i := 30) rfl rfl) mm_min ⟨Nat.le_of_ble_eq_true rfl, Nat.le_of_ble_eq_true rfl⟩ ?_
  refine g_putI dX2_become_13 fl_RX2_9 fk_2_5 ho0 hf (fun w_1 hf => ?_)
  refine r_aload_n dX2_become_16 rfl rfl ?_
  refine r_aload_n dX2_become_17 rfl rfl ?_
  refine g_getI dX2_become_18 fl_RX2_15 fk_2_6 ho1 ?_
  refine g_putI dX2_become_21 fl_RX2_15 fk_2_6 ho0 hf (fun w_2 hf => ?_)
  refine r_iconst dX2_become_24 ic_0 ?_
  refine r_istore_n (ls2 := [some (vR o0 0), some (vR o1 0), some (vI 0)]) dX2_become_25 rfl rfl rfl (Nat.le_of_ble_eq_true rfl) ?_
  exact ok_mX2_become_26 ho0 ho1 FU _ _ hf
theorem met_X2_become {zv : Unit} {zw : AW} {o0 : Nat} {o1 : Nat} (ho0 : am_cls false o0 = 2) (ho1 : am_cls false o1 = 2) {w : AW} (hf : mX2_become o0 o1 w = some (zv, zw)) : am_Met false KX2_become [vR o0 0, vR o1 0] w (none, zw) := am_met mok_X2_become.1 (Nat.le_of_ble_eq_true rfl) (ok_mX2_become ho0 ho1 hf)

/-! SeenWorlds$Sentence.movedTo([II)I -/
noncomputable def mX2_movedTo (ro0 ra0 : Nat) (v1 : Int32) (w : AW) : Option (Int32 × AW) :=
  if v1 ≠ (-1) then
    cl (mX5_at ro0 ra0 v1 w) fun x_2 w_1 =>
    some (x_2, w_1)
  else
    some ((-1), w)
set_option maxRecDepth 100000 in
set_option maxHeartbeats 4000000 in
theorem ok_mX2_movedTo {zv : Int32} {zw : AW} {ro0 ra0 : Nat} {v1 : Int32} (hr0 : am_ia false ro0 ra0) {w : AW} (hf : mX2_movedTo ro0 ra0 v1 w = some (zv, zw)) : RR false KX2_movedTo (some (vI zv), zw) 0 [some (vR ro0 ra0), some (vI v1)] [] w := by
  refine r_iload_n dX2_movedTo_0 rfl rfl ?_
  refine r_iconst dX2_movedTo_1 ic_m1 ?_
  refine g_icmp_ne (tgt := 9) dX2_movedTo_2 rfl hf (fun _ hf => ?_) (fun _ hf => ?_)
  · refine r_aload_n dX2_movedTo_9 rfl rfl ?_
    refine r_iload_n dX2_movedTo_10 rfl rfl ?_
    obtain ⟨x_2, w_1, hc, hf⟩ := cl_some hf
    refine g_cN (st := []) KX5_at [vR ro0 ra0, vI v1] dX2_movedTo_11 e_RX2_40 mok_X5_at mw_X5_at ⟨Nat.le_of_ble_eq_true rfl, Nat.le_of_ble_eq_true rfl⟩ (met_X5_at hr0 hc) rfl (Nat.le_of_ble_eq_true rfl) ?_
    clear hc
    exact r_iret dX2_movedTo_14 rfl (ret_I hf)
  · refine r_iconst dX2_movedTo_5 ic_m1 ?_
    refine r_goto (tgt := 14) dX2_movedTo_6 rfl ?_
    exact r_iret dX2_movedTo_14 rfl (ret_I hf)
theorem met_X2_movedTo {zv : Int32} {zw : AW} {ro0 ra0 : Nat} {v1 : Int32} (hr0 : am_ia false ro0 ra0) {w : AW} (hf : mX2_movedTo ro0 ra0 v1 w = some (zv, zw)) : am_Met false KX2_movedTo [vR ro0 ra0, vI v1] w (some (vI zv), zw) := am_met mok_X2_movedTo.1 (Nat.le_of_ble_eq_true rfl) (ok_mX2_movedTo hr0 hf)

/-! SeenWorlds$Sentence.takeIn(LSeenWorlds$Sentence;[I)I -/
noncomputable def mX2_takeIn_2 (o0 : Nat) (o1 : Nat) (ro2 : Nat) (ra2 : Nat) : Nat → Int32 → AW → Option (Int32 × AW)
  | 0, _, _ => none
  | n + 1, v3, w =>
    if (w.1 o1 0 5) ≤ v3 then
      cl (mX5_at ro2 ra2 ((w.1 o1 0 5) - 1) w) fun x_2 w_1 =>
      some (x_2, w_1)
    else
      cl (mX5_at o1 2 v3 w) fun x_4 w_3 =>
      cl (mX2_movedTo ro2 ra2 x_4 w_3) fun x_6 w_5 =>
      cl (mX5_at o1 3 v3 w_5) fun x_8 w_7 =>
      cl (mX2_movedTo ro2 ra2 x_8 w_7) fun x_10 w_9 =>
      cl (mX5_at o1 1 v3 w_9) fun x_12 w_11 =>
      cl (mX5_at o1 4 v3 w_11) fun x_14 w_13 =>
      cl (mX2_part o0 x_12 x_6 x_10 x_14 w_13) fun x_16 w_15 =>
      cl (mX5_put ro2 ra2 v3 x_16 w_15) fun x_18 w_17 =>
      nm (v3 + 1) fun v3_19 =>
      mX2_takeIn_2 o0 o1 ro2 ra2 n v3_19 w_17
noncomputable def mX2_takeIn (o0 : Nat) (o1 : Nat) (ro2 ra2 : Nat) (w : AW) : Option (Int32 × AW) :=
  mX2_takeIn_2 o0 o1 ro2 ra2 FU 0 w
set_option maxRecDepth 100000 in
set_option maxHeartbeats 4000000 in
theorem ok_mX2_takeIn_2 {zv : Int32} {zw : AW} {o0 : Nat} {o1 : Nat} {ro2 : Nat} {ra2 : Nat} (ho0 : am_cls false o0 = 2) (ho1 : am_cls false o1 = 2) (hr2 : am_aK false ro2 ra2 = 2) : ∀ (n : Nat) (v3 : Int32) (w : AW), mX2_takeIn_2 o0 o1 ro2 ra2 n v3 w = some (zv, zw) → RR false KX2_takeIn (some (vI zv), zw) 2 [some (vR o0 0), some (vR o1 0), some (vR ro2 ra2), some (vI v3), none, none] [] w := by
  intro n
  induction n with
  | zero => intro v3 w hf; cases hf
  | succ n ih =>
    intro v3 w hf
    refine r_iload_n dX2_takeIn_2 rfl rfl ?_
    refine r_aload_n dX2_takeIn_3 rfl rfl ?_
    refine g_getI dX2_takeIn_4 fl_RX2_9 fk_2_5 ho1 ?_
    refine g_icmp_ge (tgt := 73) dX2_takeIn_7 rfl hf (fun _ hf => ?_) (fun _ hf => ?_)
    · refine r_aload_n dX2_takeIn_73 rfl rfl ?_
      refine r_aload_n dX2_takeIn_74 rfl rfl ?_
      refine g_getI dX2_takeIn_75 fl_RX2_9 fk_2_5 ho1 ?_
      refine r_iconst dX2_takeIn_78 ic_1 ?_
      refine r_isub dX2_takeIn_79 ?_
      obtain ⟨x_2, w_1, hc, hf⟩ := cl_some hf
      refine g_cN (st := []) KX5_at [vR ro2 ra2, vI ((w.1 o1 0 5) - 1)] dX2_takeIn_80 e_RX2_40 mok_X5_at mw_X5_at ⟨Nat.le_of_ble_eq_true rfl, Nat.le_of_ble_eq_true rfl⟩ (met_X5_at (am_iaW hr2) hc) rfl (Nat.le_of_ble_eq_true rfl) ?_
      clear hc
      exact r_iret dX2_takeIn_83 rfl (ret_I hf)
    · refine r_aload_n dX2_takeIn_10 rfl rfl ?_
      refine r_aload_n dX2_takeIn_11 rfl rfl ?_
      refine g_getA dX2_takeIn_12 fl_RX2_28 fk_2_1 rfl ho1 ?_
      refine r_iload_n dX2_takeIn_15 rfl rfl ?_
      obtain ⟨x_4, w_3, hc, hf⟩ := cl_some hf
      refine g_cN (st := [vR ro2 ra2]) KX5_at [vR o1 2, vI v3] dX2_takeIn_16 e_RX2_40 mok_X5_at mw_X5_at ⟨Nat.le_of_ble_eq_true rfl, Nat.le_of_ble_eq_true rfl⟩ (met_X5_at (am_iaW (am_aKs ho1 1 rfl)) hc) rfl (Nat.le_of_ble_eq_true rfl) ?_
      clear hc
      obtain ⟨x_6, w_5, hc, hf⟩ := cl_some hf
      refine g_cS (st := []) KX2_movedTo [vR ro2 ra2, vI x_4] dX2_takeIn_19 e_RX2_66 mok_X2_movedTo mw_X2_movedTo ⟨Nat.le_of_ble_eq_true rfl, Nat.le_of_ble_eq_true rfl⟩ (met_X2_movedTo (am_iaW hr2) hc) rfl (Nat.le_of_ble_eq_true rfl) ?_
      clear hc
      refine r_istore (ls2 := [some (vR o0 0), some (vR o1 0), some (vR ro2 ra2), some (vI v3), some (vI x_6), none]) dX2_takeIn_22 rfl rfl (Nat.le_of_ble_eq_true rfl) ?_
      refine r_aload_n dX2_takeIn_24 rfl rfl ?_
      refine r_aload_n dX2_takeIn_25 rfl rfl ?_
      refine g_getA dX2_takeIn_26 fl_RX2_31 fk_2_2 rfl ho1 ?_
      refine r_iload_n dX2_takeIn_29 rfl rfl ?_
      obtain ⟨x_8, w_7, hc, hf⟩ := cl_some hf
      refine g_cN (st := [vR ro2 ra2]) KX5_at [vR o1 3, vI v3] dX2_takeIn_30 e_RX2_40 mok_X5_at mw_X5_at ⟨Nat.le_of_ble_eq_true rfl, Nat.le_of_ble_eq_true rfl⟩ (met_X5_at (am_iaW (am_aKs ho1 2 rfl)) hc) rfl (Nat.le_of_ble_eq_true rfl) ?_
      clear hc
      obtain ⟨x_10, w_9, hc, hf⟩ := cl_some hf
      refine g_cS (st := []) KX2_movedTo [vR ro2 ra2, vI x_8] dX2_takeIn_33 e_RX2_66 mok_X2_movedTo mw_X2_movedTo ⟨Nat.le_of_ble_eq_true rfl, Nat.le_of_ble_eq_true rfl⟩ (met_X2_movedTo (am_iaW hr2) hc) rfl (Nat.le_of_ble_eq_true rfl) ?_
      clear hc
      refine r_istore (ls2 := [some (vR o0 0), some (vR o1 0), some (vR ro2 ra2), some (vI v3), some (vI x_6), some (vI x_10)]) dX2_takeIn_36 rfl rfl (Nat.le_of_ble_eq_true rfl) ?_
      refine r_aload_n dX2_takeIn_38 rfl rfl ?_
      refine r_iload_n dX2_takeIn_39 rfl rfl ?_
      refine r_aload_n dX2_takeIn_40 rfl rfl ?_
      refine r_aload_n dX2_takeIn_41 rfl rfl ?_
      refine g_getA dX2_takeIn_42 fl_RX2_24 fk_2_0 rfl ho1 ?_
      refine r_iload_n dX2_takeIn_45 rfl rfl ?_
      obtain ⟨x_12, w_11, hc, hf⟩ := cl_some hf
      refine g_cN (st := [vR o0 0, vI v3, vR ro2 ra2]) KX5_at [vR o1 1, vI v3] dX2_takeIn_46 e_RX2_40 mok_X5_at mw_X5_at ⟨Nat.le_of_ble_eq_true rfl, Nat.le_of_ble_eq_true rfl⟩ (met_X5_at (am_iaW (am_aKs ho1 0 rfl)) hc) rfl (Nat.le_of_ble_eq_true rfl) ?_
      clear hc
      refine r_iload dX2_takeIn_49 rfl ?_
      refine r_iload dX2_takeIn_51 rfl ?_
      refine r_aload_n dX2_takeIn_53 rfl rfl ?_
      refine g_getA dX2_takeIn_54 fl_RX2_34 fk_2_3 rfl ho1 ?_
      refine r_iload_n dX2_takeIn_57 rfl rfl ?_
      obtain ⟨x_14, w_13, hc, hf⟩ := cl_some hf
      refine g_cN (st := [vI x_10, vI x_6, vI x_12, vR o0 0, vI v3, vR ro2 ra2]) KX5_at [vR o1 4, vI v3] dX2_takeIn_58 e_RX2_40 mok_X5_at mw_X5_at ⟨Nat.le_of_ble_eq_true rfl, Nat.le_of_ble_eq_true rfl⟩ (met_X5_at (am_iaW (am_aKs ho1 3 rfl)) hc) rfl (Nat.le_of_ble_eq_true rfl) ?_
      clear hc
      obtain ⟨x_16, w_15, hc, hf⟩ := cl_some hf
      refine g_cV (st := [vI v3, vR ro2 ra2]) KX2_part [vI x_12, vI x_6, vI x_10, vI x_14] dX2_takeIn_61 e_RX2_69 ho0 (rfl : vwCl[2]? = _) rfl mok_X2_part mw_X2_part ⟨Nat.le_of_ble_eq_true rfl, Nat.le_of_ble_eq_true rfl⟩ (met_X2_part ho0 hc) rfl (Nat.le_of_ble_eq_true rfl) ?_
      clear hc
      obtain ⟨x_18, w_17, hc, hf⟩ := cl_some hf
      refine g_cNv (st := []) KX5_put [vR ro2 ra2, vI v3, vI x_16] dX2_takeIn_64 e_RX2_52 mok_X5_put mw_X5_put ⟨Nat.le_of_ble_eq_true rfl, Nat.le_of_ble_eq_true rfl⟩ (met_X5_put hr2 hc) rfl (Nat.le_of_ble_eq_true rfl) ?_
      clear hc
      refine g_iinc (fun v3_19 => [some (vR o0 0), some (vR o1 0), some (vR ro2 ra2), some (vI v3_19), some (vI x_6), some (vI x_10)]) dX2_takeIn_67 ic_1 rfl rfl (fun _ => rfl) (Nat.le_of_ble_eq_true rfl) hf (fun v3_19 hf => ?_)
      refine r_goto (tgt := 2) dX2_takeIn_70 rfl ?_
      refine r_mask (bs := [true, true, true, true, false, false]) ?_
      exact ih _ _ hf
set_option maxRecDepth 100000 in
set_option maxHeartbeats 4000000 in
theorem ok_mX2_takeIn {zv : Int32} {zw : AW} {o0 : Nat} {o1 : Nat} {ro2 ra2 : Nat} (ho0 : am_cls false o0 = 2) (ho1 : am_cls false o1 = 2) (hr2 : am_aK false ro2 ra2 = 2) {w : AW} (hf : mX2_takeIn o0 o1 ro2 ra2 w = some (zv, zw)) : RR false KX2_takeIn (some (vI zv), zw) 0 [some (vR o0 0), some (vR o1 0), some (vR ro2 ra2), none, none, none] [] w := by
  refine r_iconst dX2_takeIn_0 ic_0 ?_
  refine r_istore_n (ls2 := [some (vR o0 0), some (vR o1 0), some (vR ro2 ra2), some (vI 0), none, none]) dX2_takeIn_1 rfl rfl rfl (Nat.le_of_ble_eq_true rfl) ?_
  exact ok_mX2_takeIn_2 ho0 ho1 hr2 FU _ _ hf
theorem met_X2_takeIn {zv : Int32} {zw : AW} {o0 : Nat} {o1 : Nat} {ro2 ra2 : Nat} (ho0 : am_cls false o0 = 2) (ho1 : am_cls false o1 = 2) (hr2 : am_aK false ro2 ra2 = 2) {w : AW} (hf : mX2_takeIn o0 o1 ro2 ra2 w = some (zv, zw)) : am_Met false KX2_takeIn [vR o0 0, vR o1 0, vR ro2 ra2] w (some (vI zv), zw) := am_met mok_X2_takeIn.1 (Nat.le_of_ble_eq_true rfl) (ok_mX2_takeIn ho0 ho1 hr2 hf)
