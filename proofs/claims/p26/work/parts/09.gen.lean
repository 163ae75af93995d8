/-! SeenWorlds.isWhether(I)Z -/
noncomputable def mX5_isWhether_9 (w : AW) : Option (Int32 × AW) :=
  some (1, w)
noncomputable def mX5_isWhether (v0 : Int32) (w : AW) : Option (Int32 × AW) :=
  if v0 = 0 then
    mX5_isWhether_9 w
  else
    if v0 ≠ 1 then
      some (0, w)
    else
      mX5_isWhether_9 w
set_option maxRecDepth 100000 in
set_option maxHeartbeats 4000000 in
theorem ok_mX5_isWhether_9 {zv : Int32} {zw : AW} {w : AW} (hf : mX5_isWhether_9 w = some (zv, zw)) : RR false KX5_isWhether (some (vI zv), zw) 9 [none] [] w := by
  refine r_iconst dX5_isWhether_9 ic_1 ?_
  refine r_goto (tgt := 14) dX5_isWhether_10 rfl ?_
  exact r_zret dX5_isWhether_14 rfl nar_1 (ret_I hf)
set_option maxRecDepth 100000 in
set_option maxHeartbeats 4000000 in
theorem ok_mX5_isWhether {zv : Int32} {zw : AW} {v0 : Int32} {w : AW} (hf : mX5_isWhether v0 w = some (zv, zw)) : RR false KX5_isWhether (some (vI zv), zw) 0 [some (vI v0)] [] w := by
  refine r_iload_n dX5_isWhether_0 rfl rfl ?_
  refine g_if_eq (tgt := 9) dX5_isWhether_1 rfl hf (fun _ hf => ?_) (fun _ hf => ?_)
  · refine r_mask (bs := [false]) ?_
    exact ok_mX5_isWhether_9 hf
  · refine r_iload_n dX5_isWhether_4 rfl rfl ?_
    refine r_iconst dX5_isWhether_5 ic_1 ?_
    refine g_icmp_ne (tgt := 13) dX5_isWhether_6 rfl hf (fun _ hf => ?_) (fun _ hf => ?_)
    · refine r_iconst dX5_isWhether_13 ic_0 ?_
      exact r_zret dX5_isWhether_14 rfl nar_0 (ret_I hf)
    · refine r_mask (bs := [false]) ?_
      exact ok_mX5_isWhether_9 hf
theorem met_X5_isWhether {zv : Int32} {zw : AW} {v0 : Int32} {w : AW} (hf : mX5_isWhether v0 w = some (zv, zw)) : am_Met false KX5_isWhether [vI v0] w (some (vI zv), zw) := am_met mok_X5_isWhether.1 (Nat.le_of_ble_eq_true rfl) (ok_mX5_isWhether  hf)

/-! SeenWorlds.see(III)I -/
noncomputable def mX5_see (v1 : Int32) (v2 : Int32) (v3 : Int32) (w : AW) : Option (Int32 × AW) :=
  cl (mX0_has v1 w) fun x_2 w_1 =>
  if x_2 = 0 then
    some ((-1), w_1)
  else
    cl (mX0_has v2 w_1) fun x_4 w_3 =>
    if x_4 = 0 then
      some ((-1), w_3)
    else
      cl (mX5_isWhether v3 w_3) fun x_6 w_5 =>
      if x_6 ≠ 0 then
        cl (mX0_seenBy 0 v1 w_5) fun x_8 w_7 =>
        cl (mX5_bit x_8 v2 w_7) fun x_10 w_9 =>
        cl (mX0_let v1 v2 v3 w_9) fun x_12 w_11 =>
        some (x_10, w_11)
      else
        some ((-1), w_5)
set_option maxRecDepth 100000 in
set_option maxHeartbeats 4000000 in
theorem ok_mX5_see {zv : Int32} {zw : AW} {v1 : Int32} {v2 : Int32} {v3 : Int32} {w : AW} (hf : mX5_see v1 v2 v3 w = some (zv, zw)) : RR false KX5_see (some (vI zv), zw) 0 [some (vR 0 0), some (vI v1), some (vI v2), some (vI v3), none] [] w := by
  refine r_aload_n dX5_see_0 rfl rfl ?_
  refine r_getO dX5_see_1 fl_RX5_12 fk_5_0 (cl_false_0) ?_
  refine r_iload_n dX5_see_4 rfl rfl ?_
  obtain ⟨x_2, w_1, hc, hf⟩ := cl_some hf
  refine g_cV (st := []) KX0_has [vI v1] dX5_see_5 e_RX5_75 (cl_false_1) (rfl : vwCl[0]? = _) rfl mok_X0_has mw_X0_has ⟨Nat.le_of_ble_eq_true rfl, Nat.le_of_ble_eq_true rfl⟩ (met_X0_has hc) rfl (Nat.le_of_ble_eq_true rfl) ?_
  clear hc
  refine g_if_eq (tgt := 29) dX5_see_8 rfl hf (fun _ hf => ?_) (fun _ hf => ?_)
  · refine r_iconst dX5_see_29 ic_m1 ?_
    exact r_iret dX5_see_30 rfl (ret_I hf)
  · refine r_aload_n dX5_see_11 rfl rfl ?_
    refine r_getO dX5_see_12 fl_RX5_12 fk_5_0 (cl_false_0) ?_
    refine r_iload_n dX5_see_15 rfl rfl ?_
    obtain ⟨x_4, w_3, hc, hf⟩ := cl_some hf
    refine g_cV (st := []) KX0_has [vI v2] dX5_see_16 e_RX5_75 (cl_false_1) (rfl : vwCl[0]? = _) rfl mok_X0_has mw_X0_has ⟨Nat.le_of_ble_eq_true rfl, Nat.le_of_ble_eq_true rfl⟩ (met_X0_has hc) rfl (Nat.le_of_ble_eq_true rfl) ?_
    clear hc
    refine g_if_eq (tgt := 29) dX5_see_19 rfl hf (fun _ hf => ?_) (fun _ hf => ?_)
    · refine r_iconst dX5_see_29 ic_m1 ?_
      exact r_iret dX5_see_30 rfl (ret_I hf)
    · refine r_iload_n dX5_see_22 rfl rfl ?_
      obtain ⟨x_6, w_5, hc, hf⟩ := cl_some hf
      refine g_cS (st := []) KX5_isWhether [vI v3] dX5_see_23 e_RX5_79 mok_X5_isWhether mw_X5_isWhether ⟨Nat.le_of_ble_eq_true rfl, Nat.le_of_ble_eq_true rfl⟩ (met_X5_isWhether hc) rfl (Nat.le_of_ble_eq_true rfl) ?_
      clear hc
      refine g_if_ne (tgt := 31) dX5_see_26 rfl hf (fun _ hf => ?_) (fun _ hf => ?_)
      · refine r_aload_n dX5_see_31 rfl rfl ?_
        refine r_getO dX5_see_32 fl_RX5_12 fk_5_0 (cl_false_0) ?_
        refine r_iconst dX5_see_35 ic_0 ?_
        refine r_iload_n dX5_see_36 rfl rfl ?_
        obtain ⟨x_8, w_7, hc, hf⟩ := cl_some hf
        refine g_cV (st := []) KX0_seenBy [vI 0, vI v1] dX5_see_37 e_RX5_82 (cl_false_1) (rfl : vwCl[0]? = _) rfl mok_X0_seenBy mw_X0_seenBy ⟨Nat.le_of_ble_eq_true rfl, Nat.le_of_ble_eq_true rfl⟩ (met_X0_seenBy hc) rfl (Nat.le_of_ble_eq_true rfl) ?_
        clear hc
        refine r_iload_n dX5_see_40 rfl rfl ?_
        obtain ⟨x_10, w_9, hc, hf⟩ := cl_some hf
        refine g_cS (st := []) KX5_bit [vI x_8, vI v2] dX5_see_41 e_RX5_86 mok_X5_bit mw_X5_bit ⟨Nat.le_of_ble_eq_true rfl, Nat.le_of_ble_eq_true rfl⟩ (met_X5_bit hc) rfl (Nat.le_of_ble_eq_true rfl) ?_
        clear hc
        refine r_istore (ls2 := [some (vR 0 0), some (vI v1), some (vI v2), some (vI v3), some (vI x_10)]) dX5_see_44 rfl rfl (Nat.le_of_ble_eq_true rfl) ?_
        refine r_aload_n dX5_see_46 rfl rfl ?_
        refine r_getO dX5_see_47 fl_RX5_12 fk_5_0 (cl_false_0) ?_
        refine r_iload_n dX5_see_50 rfl rfl ?_
        refine r_iload_n dX5_see_51 rfl rfl ?_
        refine r_iload_n dX5_see_52 rfl rfl ?_
        obtain ⟨x_12, w_11, hc, hf⟩ := cl_some hf
        refine g_cVv (st := []) KX0_let [vI v1, vI v2, vI v3] dX5_see_53 e_RX5_89 (cl_false_1) (rfl : vwCl[0]? = _) rfl mok_X0_let mw_X0_let ⟨Nat.le_of_ble_eq_true rfl, Nat.le_of_ble_eq_true rfl⟩ (met_X0_let hc) rfl (Nat.le_of_ble_eq_true rfl) ?_
        clear hc
        refine r_iload dX5_see_56 rfl ?_
        exact r_iret dX5_see_58 rfl (ret_I hf)
      · refine r_iconst dX5_see_29 ic_m1 ?_
        exact r_iret dX5_see_30 rfl (ret_I hf)
theorem met_X5_see {zv : Int32} {zw : AW} {v1 : Int32} {v2 : Int32} {v3 : Int32} {w : AW} (hf : mX5_see v1 v2 v3 w = some (zv, zw)) : am_Met false KX5_see [vR 0 0, vI v1, vI v2, vI v3] w (some (vI zv), zw) := am_met mok_X5_see.1 (Nat.le_of_ble_eq_true rfl) (ok_mX5_see  hf)

/-! SeenWorlds.atom(II)I -/
noncomputable def mX5_atom (v1 : Int32) (v2 : Int32) (w : AW) : Option (Int32 × AW) :=
  if v1 < 0 then
    some ((-1), w)
  else
    if 4 ≤ v1 then
      some ((-1), w)
    else
      if v2 < 0 then
        some ((-1), w)
      else
        cl (mX0_all w) fun x_2 w_1 =>
        if v2 ≤ x_2 then
          cl (mX0_atoms w_1) fun x_4 w_3 =>
          cl (mX5_at 1 2 v1 w_3) fun x_6 w_5 =>
          cl (mX0_atoms w_5) fun x_8 w_7 =>
          cl (mX5_put 1 2 v1 v2 w_7) fun x_10 w_9 =>
          some (x_6, w_9)
        else
          some ((-1), w_1)
set_option maxRecDepth 100000 in
set_option maxHeartbeats 4000000 in
theorem ok_mX5_atom {zv : Int32} {zw : AW} {v1 : Int32} {v2 : Int32} {w : AW} (hf : mX5_atom v1 v2 w = some (zv, zw)) : RR false KX5_atom (some (vI zv), zw) 0 [some (vR 0 0), some (vI v1), some (vI v2), none] [] w := by
  refine r_iload_n dX5_atom_0 rfl rfl ?_
  refine g_if_lt (tgt := 24) dX5_atom_1 rfl hf (fun _ hf => ?_) (fun _ hf => ?_)
  · refine r_iconst dX5_atom_24 ic_m1 ?_
    exact r_iret dX5_atom_25 rfl (ret_I hf)
  · refine r_iload_n dX5_atom_4 rfl rfl ?_
    refine r_iconst dX5_atom_5 ic_4 ?_
    refine g_icmp_ge (tgt := 24) dX5_atom_6 rfl hf (fun _ hf => ?_) (fun _ hf => ?_)
    · refine r_iconst dX5_atom_24 ic_m1 ?_
      exact r_iret dX5_atom_25 rfl (ret_I hf)
    · refine r_iload_n dX5_atom_9 rfl rfl ?_
      refine g_if_lt (tgt := 24) dX5_atom_10 rfl hf (fun _ hf => ?_) (fun _ hf => ?_)
      · refine r_iconst dX5_atom_24 ic_m1 ?_
        exact r_iret dX5_atom_25 rfl (ret_I hf)
      · refine r_iload_n dX5_atom_13 rfl rfl ?_
        refine r_aload_n dX5_atom_14 rfl rfl ?_
        refine r_getO dX5_atom_15 fl_RX5_12 fk_5_0 (cl_false_0) ?_
        obtain ⟨x_2, w_1, hc, hf⟩ := cl_some hf
        refine g_cV (st := [vI v2]) KX0_all [] dX5_atom_18 e_RX5_93 (cl_false_1) (rfl : vwCl[0]? = _) rfl mok_X0_all mw_X0_all ⟨Nat.le_of_ble_eq_true rfl, Nat.le_of_ble_eq_true rfl⟩ (met_X0_all hc) rfl (Nat.le_of_ble_eq_true rfl) ?_
        clear hc
        refine g_icmp_le (tgt := 26) dX5_atom_21 rfl hf (fun _ hf => ?_) (fun _ hf => ?_)
        · refine r_aload_n dX5_atom_26 rfl rfl ?_
          refine r_getO dX5_atom_27 fl_RX5_12 fk_5_0 (cl_false_0) ?_
          obtain ⟨x_4, w_3, hc, hf⟩ := cl_some hf
          refine g_cV (st := []) KX0_atoms [] dX5_atom_30 e_RX5_96 (cl_false_1) (rfl : vwCl[0]? = _) rfl mok_X0_atoms mw_X0_atoms ⟨Nat.le_of_ble_eq_true rfl, Nat.le_of_ble_eq_true rfl⟩ (met_X0_atoms hc) rfl (Nat.le_of_ble_eq_true rfl) ?_
          clear hc
          refine r_iload_n dX5_atom_33 rfl rfl ?_
          obtain ⟨x_6, w_5, hc, hf⟩ := cl_some hf
          refine g_cS (st := []) KX5_at [vR 1 2, vI v1] dX5_atom_34 e_RX5_100 mok_X5_at mw_X5_at ⟨Nat.le_of_ble_eq_true rfl, Nat.le_of_ble_eq_true rfl⟩ (met_X5_at (am_iaW aK_false_1_2) hc) rfl (Nat.le_of_ble_eq_true rfl) ?_
          clear hc
          refine r_istore_n (ls2 := [some (vR 0 0), some (vI v1), some (vI v2), some (vI x_6)]) dX5_atom_37 rfl rfl rfl (Nat.le_of_ble_eq_true rfl) ?_
          refine r_aload_n dX5_atom_38 rfl rfl ?_
          refine r_getO dX5_atom_39 fl_RX5_12 fk_5_0 (cl_false_0) ?_
          obtain ⟨x_8, w_7, hc, hf⟩ := cl_some hf
          refine g_cV (st := []) KX0_atoms [] dX5_atom_42 e_RX5_96 (cl_false_1) (rfl : vwCl[0]? = _) rfl mok_X0_atoms mw_X0_atoms ⟨Nat.le_of_ble_eq_true rfl, Nat.le_of_ble_eq_true rfl⟩ (met_X0_atoms hc) rfl (Nat.le_of_ble_eq_true rfl) ?_
          clear hc
          refine r_iload_n dX5_atom_45 rfl rfl ?_
          refine r_iload_n dX5_atom_46 rfl rfl ?_
          obtain ⟨x_10, w_9, hc, hf⟩ := cl_some hf
          refine g_cSv (st := []) KX5_put [vR 1 2, vI v1, vI v2] dX5_atom_47 e_RX5_104 mok_X5_put mw_X5_put ⟨Nat.le_of_ble_eq_true rfl, Nat.le_of_ble_eq_true rfl⟩ (met_X5_put aK_false_1_2 hc) rfl (Nat.le_of_ble_eq_true rfl) ?_
          clear hc
          refine r_iload_n dX5_atom_50 rfl rfl ?_
          exact r_iret dX5_atom_51 rfl (ret_I hf)
        · refine r_iconst dX5_atom_24 ic_m1 ?_
          exact r_iret dX5_atom_25 rfl (ret_I hf)
theorem met_X5_atom {zv : Int32} {zw : AW} {v1 : Int32} {v2 : Int32} {w : AW} (hf : mX5_atom v1 v2 w = some (zv, zw)) : am_Met false KX5_atom [vR 0 0, vI v1, vI v2] w (some (vI zv), zw) := am_met mok_X5_atom.1 (Nat.le_of_ble_eq_true rfl) (ok_mX5_atom  hf)

/-! SeenWorlds.isSort(I)Z -/
noncomputable def mX5_isSort (v0 : Int32) (w : AW) : Option (Int32 × AW) :=
  if v0 < 0 then
    some (0, w)
  else
    if 4 ≤ v0 then
      some (0, w)
    else
      some (1, w)
set_option maxRecDepth 100000 in
set_option maxHeartbeats 4000000 in
theorem ok_mX5_isSort {zv : Int32} {zw : AW} {v0 : Int32} {w : AW} (hf : mX5_isSort v0 w = some (zv, zw)) : RR false KX5_isSort (some (vI zv), zw) 0 [some (vI v0)] [] w := by
  refine r_iload_n dX5_isSort_0 rfl rfl ?_
  refine g_if_lt (tgt := 13) dX5_isSort_1 rfl hf (fun _ hf => ?_) (fun _ hf => ?_)
  · refine r_iconst dX5_isSort_13 ic_0 ?_
    exact r_zret dX5_isSort_14 rfl nar_0 (ret_I hf)
  · refine r_iload_n dX5_isSort_4 rfl rfl ?_
    refine r_iconst dX5_isSort_5 ic_4 ?_
    refine g_icmp_ge (tgt := 13) dX5_isSort_6 rfl hf (fun _ hf => ?_) (fun _ hf => ?_)
    · refine r_iconst dX5_isSort_13 ic_0 ?_
      exact r_zret dX5_isSort_14 rfl nar_0 (ret_I hf)
    · refine r_iconst dX5_isSort_9 ic_1 ?_
      refine r_goto (tgt := 14) dX5_isSort_10 rfl ?_
      exact r_zret dX5_isSort_14 rfl nar_1 (ret_I hf)
theorem met_X5_isSort {zv : Int32} {zw : AW} {v0 : Int32} {w : AW} (hf : mX5_isSort v0 w = some (zv, zw)) : am_Met false KX5_isSort [vI v0] w (some (vI zv), zw) := am_met mok_X5_isSort.1 (Nat.le_of_ble_eq_true rfl) (ok_mX5_isSort  hf)

/-! SeenWorlds.seen(II)I -/
noncomputable def mX5_seen (v1 : Int32) (v2 : Int32) (w : AW) : Option (Int32 × AW) :=
  cl (mX5_isSort v1 w) fun x_2 w_1 =>
  if x_2 = 0 then
    some ((-1), w_1)
  else
    cl (mX0_has v2 w_1) fun x_4 w_3 =>
    if x_4 ≠ 0 then
      cl (mX5_at 12 1 v1 w_3) fun x_6 w_5 =>
      puL w_5 (w_3.2 + x_6.toInt64) fun w_7 =>
      cl (mX0_seenBy v1 v2 w_7) fun x_9 w_8 =>
      some (x_9, w_8)
    else
      some ((-1), w_3)
set_option maxRecDepth 100000 in
set_option maxHeartbeats 4000000 in
theorem ok_mX5_seen {zv : Int32} {zw : AW} {v1 : Int32} {v2 : Int32} {w : AW} (hf : mX5_seen v1 v2 w = some (zv, zw)) : RR false KX5_seen (some (vI zv), zw) 0 [some (vR 0 0), some (vI v1), some (vI v2)] [] w := by
  refine r_iload_n dX5_seen_0 rfl rfl ?_
  obtain ⟨x_2, w_1, hc, hf⟩ := cl_some hf
  refine g_cS (st := []) KX5_isSort [vI v1] dX5_seen_1 e_RX5_108 mok_X5_isSort mw_X5_isSort ⟨Nat.le_of_ble_eq_true rfl, Nat.le_of_ble_eq_true rfl⟩ (met_X5_isSort hc) rfl (Nat.le_of_ble_eq_true rfl) ?_
  clear hc
  refine g_if_eq (tgt := 18) dX5_seen_4 rfl hf (fun _ hf => ?_) (fun _ hf => ?_)
  · refine r_iconst dX5_seen_18 ic_m1 ?_
    exact r_iret dX5_seen_19 rfl (ret_I hf)
  · refine r_aload_n dX5_seen_7 rfl rfl ?_
    refine r_getO dX5_seen_8 fl_RX5_12 fk_5_0 (cl_false_0) ?_
    refine r_iload_n dX5_seen_11 rfl rfl ?_
    obtain ⟨x_4, w_3, hc, hf⟩ := cl_some hf
    refine g_cV (st := []) KX0_has [vI v2] dX5_seen_12 e_RX5_75 (cl_false_1) (rfl : vwCl[0]? = _) rfl mok_X0_has mw_X0_has ⟨Nat.le_of_ble_eq_true rfl, Nat.le_of_ble_eq_true rfl⟩ (met_X0_has hc) rfl (Nat.le_of_ble_eq_true rfl) ?_
    clear hc
    refine g_if_ne (tgt := 20) dX5_seen_15 rfl hf (fun _ hf => ?_) (fun _ hf => ?_)
    · refine r_aload_n dX5_seen_20 rfl rfl ?_
      refine r_dup dX5_seen_21 rfl ?_
      refine g_getL dX5_seen_22 fl_RX5_64 fk_5_10 (cl_false_0) ?_
      refine r_gets dX5_seen_25 (am_c10 (i := 23) rfl rfl) rfl ?_
      refine r_iload_n dX5_seen_28 rfl rfl ?_
      obtain ⟨x_6, w_5, hc, hf⟩ := cl_some hf
      refine g_cS (st := [vL w_3.2, vR 0 0]) KX5_at [vR 12 1, vI v1] dX5_seen_29 e_RX5_100 mok_X5_at mw_X5_at ⟨Nat.le_of_ble_eq_true rfl, Nat.le_of_ble_eq_true rfl⟩ (met_X5_at am_ia12 hc) rfl (Nat.le_of_ble_eq_true rfl) ?_
      clear hc
      refine r_i2l dX5_seen_32 ?_
      refine r_ladd dX5_seen_33 ?_
      refine g_putL dX5_seen_34 fl_RX5_64 fk_5_10 (cl_false_0) hf (fun w_7 hf => ?_)
      refine r_aload_n dX5_seen_37 rfl rfl ?_
      refine r_getO dX5_seen_38 fl_RX5_12 fk_5_0 (cl_false_0) ?_
      refine r_iload_n dX5_seen_41 rfl rfl ?_
      refine r_iload_n dX5_seen_42 rfl rfl ?_
      obtain ⟨x_9, w_8, hc, hf⟩ := cl_some hf
      refine g_cV (st := []) KX0_seenBy [vI v1, vI v2] dX5_seen_43 e_RX5_82 (cl_false_1) (rfl : vwCl[0]? = _) rfl mok_X0_seenBy mw_X0_seenBy ⟨Nat.le_of_ble_eq_true rfl, Nat.le_of_ble_eq_true rfl⟩ (met_X0_seenBy hc) rfl (Nat.le_of_ble_eq_true rfl) ?_
      clear hc
      exact r_iret dX5_seen_46 rfl (ret_I hf)
    · refine r_iconst dX5_seen_18 ic_m1 ?_
      exact r_iret dX5_seen_19 rfl (ret_I hf)
theorem met_X5_seen {zv : Int32} {zw : AW} {v1 : Int32} {v2 : Int32} {w : AW} (hf : mX5_seen v1 v2 w = some (zv, zw)) : am_Met false KX5_seen [vR 0 0, vI v1, vI v2] w (some (vI zv), zw) := am_met mok_X5_seen.1 (Nat.le_of_ble_eq_true rfl) (ok_mX5_seen  hf)

/-! SeenWorlds.sorts()I -/
noncomputable def mX5_sorts (w : AW) : Option (Int32 × AW) :=
  cl (mX0_kinds w) fun x_2 w_1 =>
  some (x_2, w_1)
set_option maxRecDepth 100000 in
set_option maxHeartbeats 4000000 in
theorem ok_mX5_sorts {zv : Int32} {zw : AW} {w : AW} (hf : mX5_sorts w = some (zv, zw)) : RR false KX5_sorts (some (vI zv), zw) 0 [some (vR 0 0)] [] w := by
  refine r_aload_n dX5_sorts_0 rfl rfl ?_
  refine r_getO dX5_sorts_1 fl_RX5_12 fk_5_0 (cl_false_0) ?_
  obtain ⟨x_2, w_1, hc, hf⟩ := cl_some hf
  refine g_cV (st := []) KX0_kinds [] dX5_sorts_4 e_RX5_114 (cl_false_1) (rfl : vwCl[0]? = _) rfl mok_X0_kinds mw_X0_kinds ⟨Nat.le_of_ble_eq_true rfl, Nat.le_of_ble_eq_true rfl⟩ (met_X0_kinds hc) rfl (Nat.le_of_ble_eq_true rfl) ?_
  clear hc
  exact r_iret dX5_sorts_7 rfl (ret_I hf)
theorem met_X5_sorts {zv : Int32} {zw : AW} {w : AW} (hf : mX5_sorts w = some (zv, zw)) : am_Met false KX5_sorts [vR 0 0] w (some (vI zv), zw) := am_met mok_X5_sorts.1 (Nat.le_of_ble_eq_true rfl) (ok_mX5_sorts  hf)

/-! SeenWorlds.type(JI)I -/
noncomputable def mX5_type_33 (v1 : Int64) : Nat → Int32 → AW → Option (Int32 × AW)
  | 0, _, _ => none
  | n + 1, v4, w =>
    if v4 < 0 then
      some (w.1 0 0 9, w)
    else
      cl (mX5_put 0 9 (w.1 0 0 9) ((((v1.toUInt64 >>> ((8 * v4).toInt64.toUInt64 &&& Int64.toUInt64 63)).toInt64).toInt32) &&& 255) w) fun x_2 w_1 =>
      pu w_1 0 9 ((w_1.1 0 0 9) + 1) fun w_3 =>
      nm (v4 + (-1)) fun v4_4 =>
      mX5_type_33 v1 n v4_4 w_3
noncomputable def mX5_type (v1 : Int64) (v3 : Int32) (w : AW) : Option (Int32 × AW) :=
  if v3 < 1 then
    some ((-1), w)
  else
    if v3 ≤ 8 then
      if ((w.1 0 0 9) + v3) ≤ 200 then
        nm (v3 - 1) fun v4_1 =>
        mX5_type_33 v1 FU v4_1 w
      else
        some ((-3), w)
    else
      some ((-1), w)
set_option maxRecDepth 100000 in
set_option maxHeartbeats 4000000 in
theorem ok_mX5_type_33 {zv : Int32} {zw : AW} {v1 : Int64} : ∀ (n : Nat) (v4 : Int32) (w : AW), mX5_type_33 v1 n v4 w = some (zv, zw) → RR false KX5_type (some (vI zv), zw) 33 [some (vR 0 0), some (vL v1), none, none, some (vI v4)] [] w := by
  intro n
  induction n with
  | zero => intro v4 w hf; cases hf
  | succ n ih =>
    intro v4 w hf
    refine r_iload dX5_type_33 rfl ?_
    refine g_if_lt (tgt := 77) dX5_type_35 rfl hf (fun _ hf => ?_) (fun _ hf => ?_)
    · refine r_aload_n dX5_type_77 rfl rfl ?_
      refine g_getI dX5_type_78 fl_RX5_60 fk_5_9 (cl_false_0) ?_
      exact r_iret dX5_type_81 rfl (ret_I hf)
    · refine r_aload_n dX5_type_38 rfl rfl ?_
      refine g_getA dX5_type_39 fl_RX5_57 fk_5_8 rfl (cl_false_0) ?_
      refine r_aload_n dX5_type_42 rfl rfl ?_
      refine g_getI dX5_type_43 fl_RX5_60 fk_5_9 (cl_false_0) ?_
      refine r_lload_n dX5_type_46 rfl rfl ?_
      refine r_bipush dX5_type_47 (bp_8) ?_
      refine r_iload dX5_type_49 rfl ?_
      refine r_imul dX5_type_51 ?_
      refine r_lushr dX5_type_52 ?_
      refine r_l2i dX5_type_53 ?_
      refine r_sipush dX5_type_54 (sp_255) ?_
      refine r_iand dX5_type_57 ?_
      obtain ⟨x_2, w_1, hc, hf⟩ := cl_some hf
      refine g_cSv (st := []) KX5_put [vR 0 9, vI (w.1 0 0 9), vI ((((v1.toUInt64 >>> ((8 * v4).toInt64.toUInt64 &&& Int64.toUInt64 63)).toInt64).toInt32) &&& 255)] dX5_type_58 e_RX5_104 mok_X5_put mw_X5_put ⟨Nat.le_of_ble_eq_true rfl, Nat.le_of_ble_eq_true rfl⟩ (met_X5_put aK_false_0_9 hc) rfl (Nat.le_of_ble_eq_true rfl) ?_
      clear hc
      refine r_aload_n dX5_type_61 rfl rfl ?_
      refine r_dup dX5_type_62 rfl ?_
      refine g_getI dX5_type_63 fl_RX5_60 fk_5_9 (cl_false_0) ?_
      refine r_iconst dX5_type_66 ic_1 ?_
      refine r_iadd dX5_type_67 ?_
      refine g_putI dX5_type_68 fl_RX5_60 fk_5_9 (cl_false_0) hf (fun w_3 hf => ?_)
      refine g_iinc (fun v4_4 => [some (vR 0 0), some (vL v1), none, none, some (vI v4_4)]) dX5_type_71 ic_m1 rfl rfl (fun _ => rfl) (Nat.le_of_ble_eq_true rfl) hf (fun v4_4 hf => ?_)
      refine r_goto (tgt := 33) dX5_type_74 rfl ?_
      exact ih _ _ hf
set_option maxRecDepth 100000 in
set_option maxHeartbeats 4000000 in
theorem ok_mX5_type {zv : Int32} {zw : AW} {v1 : Int64} {v3 : Int32} {w : AW} (hf : mX5_type v1 v3 w = some (zv, zw)) : RR false KX5_type (some (vI zv), zw) 0 [some (vR 0 0), some (vL v1), none, some (vI v3), none] [] w := by
  refine r_iload_n dX5_type_0 rfl rfl ?_
  refine r_iconst dX5_type_1 ic_1 ?_
  refine g_icmp_lt (tgt := 11) dX5_type_2 rfl hf (fun _ hf => ?_) (fun _ hf => ?_)
  · refine r_iconst dX5_type_11 ic_m1 ?_
    exact r_iret dX5_type_12 rfl (ret_I hf)
  · refine r_iload_n dX5_type_5 rfl rfl ?_
    refine r_bipush dX5_type_6 (bp_8) ?_
    refine g_icmp_le (tgt := 13) dX5_type_8 rfl hf (fun _ hf => ?_) (fun _ hf => ?_)
    · refine r_aload_n dX5_type_13 rfl rfl ?_
      refine g_getI dX5_type_14 fl_RX5_60 fk_5_9 (cl_false_0) ?_
      refine r_iload_n dX5_type_17 rfl rfl ?_
      refine r_iadd dX5_type_18 ?_
      refine r_sipush dX5_type_19 (sp_200) ?_
      refine g_icmp_le (tgt := 28) dX5_type_22 rfl hf (fun _ hf => ?_) (fun _ hf => ?_)
      · refine r_iload_n dX5_type_28 rfl rfl ?_
        refine r_iconst dX5_type_29 ic_1 ?_
        refine r_isub dX5_type_30 ?_
        refine g_istore (fun v4_1 => [some (vR 0 0), some (vL v1), none, some (vI v3), some (vI v4_1)]) dX5_type_31 rfl (fun _ => rfl) (Nat.le_of_ble_eq_true rfl) hf (fun v4_1 hf => ?_)
        refine r_mask (bs := [true, true, false, false, true]) ?_
        exact ok_mX5_type_33 FU _ _ hf
      · refine r_bipush dX5_type_25 (bp_m3) ?_
        exact r_iret dX5_type_27 rfl (ret_I hf)
    · refine r_iconst dX5_type_11 ic_m1 ?_
      exact r_iret dX5_type_12 rfl (ret_I hf)
theorem met_X5_type {zv : Int32} {zw : AW} {v1 : Int64} {v3 : Int32} {w : AW} (hf : mX5_type v1 v3 w = some (zv, zw)) : am_Met false KX5_type [vR 0 0, vL v1, vI v3] w (some (vI zv), zw) := am_met mok_X5_type.1 (Nat.le_of_ble_eq_true rfl) (ok_mX5_type  hf)

/-! SeenWorlds.clear()I -/
noncomputable def mX5_clear (w : AW) : Option (Int32 × AW) :=
  nm (w.1 0 0 9) fun v1_1 =>
  pu w 0 9 0 fun w_2 =>
  some (v1_1, w_2)
set_option maxRecDepth 100000 in
set_option maxHeartbeats 4000000 in
theorem ok_mX5_clear {zv : Int32} {zw : AW} {w : AW} (hf : mX5_clear w = some (zv, zw)) : RR false KX5_clear (some (vI zv), zw) 0 [some (vR 0 0), none] [] w := by
  refine r_aload_n dX5_clear_0 rfl rfl ?_
  refine g_getI dX5_clear_1 fl_RX5_60 fk_5_9 (cl_false_0) ?_
  refine g_istore_n (fun v1_1 => [some (vR 0 0), some (vI v1_1)]) dX5_clear_4 rfl rfl (fun _ => rfl) (Nat.le_of_ble_eq_true rfl) hf (fun v1_1 hf => ?_)
  refine r_aload_n dX5_clear_5 rfl rfl ?_
  refine r_iconst dX5_clear_6 ic_0 ?_
  refine g_putI dX5_clear_7 fl_RX5_60 fk_5_9 (cl_false_0) hf (fun w_2 hf => ?_)
  refine r_iload_n dX5_clear_10 rfl rfl ?_
  exact r_iret dX5_clear_11 rfl (ret_I hf)
theorem met_X5_clear {zv : Int32} {zw : AW} {w : AW} (hf : mX5_clear w = some (zv, zw)) : am_Met false KX5_clear [vR 0 0] w (some (vI zv), zw) := am_met mok_X5_clear.1 (Nat.le_of_ble_eq_true rfl) (ok_mX5_clear  hf)

/-! SeenWorlds.sentence(I)LSeenWorlds$Sentence; -/
noncomputable def mX5_sentence (v1 : Int32) (w : AW) : Option (Option (Nat × Nat) × AW) :=
  if v1 < 0 then
    some (none, w)
  else
    if 6 ≤ v1 then
      some (none, w)
    else
      rdq 6 v1 fun j_1 =>
      some (some (j_1, 0), w)
set_option maxRecDepth 100000 in
set_option maxHeartbeats 4000000 in
theorem ok_mX5_sentence {zv : Option (Nat × Nat)} {zw : AW} {v1 : Int32} {w : AW} (hf : mX5_sentence v1 w = some (zv, zw)) : RR false KX5_sentence (some (vO zv), zw) 0 [some (vR 0 0), some (vI v1)] [] w := by
  refine r_iload_n dX5_sentence_0 rfl rfl ?_
  refine g_if_lt (tgt := 22) dX5_sentence_1 rfl hf (fun _ hf => ?_) (fun _ hf => ?_)
  · refine r_anull dX5_sentence_22 ?_
    exact r_aret (q := none) dX5_sentence_23 rfl (Or.inl ⟨_, rfl⟩) (ret_O hf)
  · refine r_iload_n dX5_sentence_4 rfl rfl ?_
    refine r_aload_n dX5_sentence_5 rfl rfl ?_
    refine g_getA dX5_sentence_6 fl_RX5_39 fk_5_4 rfl (cl_false_0) ?_
    refine r_alen (n := 6) dX5_sentence_9 (by decide +kernel) (by decide +kernel) ?_
    refine g_icmp_ge (tgt := 22) dX5_sentence_10 rfl hf (fun _ hf => ?_) (fun _ hf => ?_)
    · refine r_anull dX5_sentence_22 ?_
      exact r_aret (q := none) dX5_sentence_23 rfl (Or.inl ⟨_, rfl⟩) (ret_O hf)
    · refine r_aload_n dX5_sentence_13 rfl rfl ?_
      refine g_getA dX5_sentence_14 fl_RX5_39 fk_5_4 rfl (cl_false_0) ?_
      refine r_iload_n dX5_sentence_17 rfl rfl ?_
      refine g_aald dX5_sentence_18 aK_false_0_5 aL_false_0_5 hf (fun j_1 hf => ?_)
      refine r_goto (tgt := 23) dX5_sentence_19 rfl ?_
      exact r_aret (q := some (j_1, 0)) dX5_sentence_23 rfl (Or.inl ⟨_, rfl⟩) (ret_O hf)
theorem met_X5_sentence {zv : Option (Nat × Nat)} {zw : AW} {v1 : Int32} {w : AW} (hf : mX5_sentence v1 w = some (zv, zw)) : am_Met false KX5_sentence [vR 0 0, vI v1] w (some (vO zv), zw) := am_met mok_X5_sentence.1 (Nat.le_of_ble_eq_true rfl) (ok_mX5_sentence  hf)

/-! SeenWorlds.read(I)I -/
noncomputable def mX5_read (v1 : Int32) (w : AW) : Option (Int32 × AW) :=
  cl (mX5_sentence v1 w) fun x_2 w_1 =>
  nS x_2
    (some ((-1), w_1))
    fun o_3 =>
    cl (mX1_fault 0 9 (w_1.1 0 0 9) 5 w_1) fun x_5 w_4 =>
    if x_5 = (-1) then
      cl (mX2_become o_3 5 w_4) fun x_7 w_6 =>
      pu w_6 0 9 0 fun w_8 =>
      cl (mX2_signs o_3 w_8) fun x_10 w_9 =>
      some (x_10, w_9)
    else
      some ((-10) - x_5, w_4)
set_option maxRecDepth 100000 in
set_option maxHeartbeats 4000000 in
theorem ok_mX5_read {zv : Int32} {zw : AW} {v1 : Int32} {w : AW} (hf : mX5_read v1 w = some (zv, zw)) : RR false KX5_read (some (vI zv), zw) 0 [some (vR 0 0), some (vI v1), none, none] [] w := by
  refine r_aload_n dX5_read_0 rfl rfl ?_
  refine r_iload_n dX5_read_1 rfl rfl ?_
  obtain ⟨x_2, w_1, hc, hf⟩ := cl_some hf
  refine g_cV (st := []) KX5_sentence [vI v1] dX5_read_2 e_RX5_117 (cl_false_0) (rfl : vwCl[5]? = _) rfl mok_X5_sentence mw_X5_sentence ⟨Nat.le_of_ble_eq_true rfl, Nat.le_of_ble_eq_true rfl⟩ (met_X5_sentence hc) rfl (Nat.le_of_ble_eq_true rfl) ?_
  clear hc
  refine r_astore_n (ls2 := [some (vR 0 0), some (vI v1), some (vO x_2), none]) dX5_read_5 rfl rfl rfl (Nat.le_of_ble_eq_true rfl) ?_
  refine r_aload_n dX5_read_6 rfl rfl ?_
  refine g_ifnonnullS (tgt := 12) dX5_read_7 rfl hf (fun eN hg => ?_) (fun o_3 eS ho_3 hg => ?_)
  · clear hf
    subst eN
    have hf := hg
    clear hg
    refine r_iconst dX5_read_10 ic_m1 ?_
    exact r_iret dX5_read_11 rfl (ret_I hf)
  · clear hf
    subst eS
    have hf := hg
    clear hg
    refine r_aload_n dX5_read_12 rfl rfl ?_
    refine r_getO dX5_read_13 fl_RX5_26 fk_5_2 (cl_false_0) ?_
    refine r_aload_n dX5_read_16 rfl rfl ?_
    refine g_getA dX5_read_17 fl_RX5_57 fk_5_8 rfl (cl_false_0) ?_
    refine r_aload_n dX5_read_20 rfl rfl ?_
    refine g_getI dX5_read_21 fl_RX5_60 fk_5_9 (cl_false_0) ?_
    refine r_aload_n dX5_read_24 rfl rfl ?_
    refine r_getO dX5_read_25 fl_RX5_46 fk_5_5 (cl_false_0) ?_
    obtain ⟨x_5, w_4, hc, hf⟩ := cl_some hf
    refine g_cV (st := []) KX1_fault [vR 0 9, vI (w_1.1 0 0 9), vR 5 0] dX5_read_28 e_RX5_121 (cl_false_3) (rfl : vwCl[1]? = _) rfl mok_X1_fault mw_X1_fault ⟨Nat.le_of_ble_eq_true rfl, Nat.le_of_ble_eq_true rfl⟩ (met_X1_fault (am_iaW aK_false_0_9) (rfl : am_cls false 5 = 2) hc) rfl (Nat.le_of_ble_eq_true rfl) ?_
    clear hc
    refine r_istore_n (ls2 := [some (vR 0 0), some (vI v1), some (vR o_3 0), some (vI x_5)]) dX5_read_31 rfl rfl rfl (Nat.le_of_ble_eq_true rfl) ?_
    refine r_iload_n dX5_read_32 rfl rfl ?_
    refine r_iconst dX5_read_33 ic_m1 ?_
    refine g_icmp_eq (tgt := 42) dX5_read_34 rfl hf (fun _ hf => ?_) (fun _ hf => ?_)
    · refine r_aload_n dX5_read_42 rfl rfl ?_
      refine r_aload_n dX5_read_43 rfl rfl ?_
      refine r_getO dX5_read_44 fl_RX5_46 fk_5_5 (cl_false_0) ?_
      obtain ⟨x_7, w_6, hc, hf⟩ := cl_some hf
      refine g_cVv (st := []) KX2_become [vR 5 0] dX5_read_47 e_RX5_125 ho_3 (rfl : vwCl[2]? = _) rfl mok_X2_become mw_X2_become ⟨Nat.le_of_ble_eq_true rfl, Nat.le_of_ble_eq_true rfl⟩ (met_X2_become ho_3 (rfl : am_cls false 5 = 2) hc) rfl (Nat.le_of_ble_eq_true rfl) ?_
      clear hc
      refine r_aload_n dX5_read_50 rfl rfl ?_
      refine r_iconst dX5_read_51 ic_0 ?_
      refine g_putI dX5_read_52 fl_RX5_60 fk_5_9 (cl_false_0) hf (fun w_8 hf => ?_)
      refine r_aload_n dX5_read_55 rfl rfl ?_
      obtain ⟨x_10, w_9, hc, hf⟩ := cl_some hf
      refine g_cV (st := []) KX2_signs [] dX5_read_56 e_RX5_129 ho_3 (rfl : vwCl[2]? = _) rfl mok_X2_signs mw_X2_signs ⟨Nat.le_of_ble_eq_true rfl, Nat.le_of_ble_eq_true rfl⟩ (met_X2_signs ho_3 hc) rfl (Nat.le_of_ble_eq_true rfl) ?_
      clear hc
      exact r_iret dX5_read_59 rfl (ret_I hf)
    · refine r_bipush dX5_read_37 (bp_m10) ?_
      refine r_iload_n dX5_read_39 rfl rfl ?_
      refine r_isub dX5_read_40 ?_
      exact r_iret dX5_read_41 rfl (ret_I hf)
theorem met_X5_read {zv : Int32} {zw : AW} {v1 : Int32} {w : AW} (hf : mX5_read v1 w = some (zv, zw)) : am_Met false KX5_read [vR 0 0, vI v1] w (some (vI zv), zw) := am_met mok_X5_read.1 (Nat.le_of_ble_eq_true rfl) (ok_mX5_read  hf)

/-! SeenWorlds.about(II)I -/
noncomputable def mX5_about (v1 : Int32) (v2 : Int32) (w : AW) : Option (Int32 × AW) :=
  cl (mX5_sentence v1 w) fun x_2 w_1 =>
  nS x_2
    (some ((-1), w_1))
    fun o_3 =>
    if v2 = 0 then
      cl (mX2_signs o_3 w_1) fun x_5 w_4 =>
      some (x_5, w_4)
    else if v2 = 1 then
      cl (mX2_depth o_3 w_1) fun x_7 w_6 =>
      some (x_7, w_6)
    else if v2 = 2 then
      cl (mX2_parts o_3 w_1) fun x_9 w_8 =>
      some (x_9, w_8)
    else if v2 = 3 then
      cl (mX2_atoms o_3 w_1) fun x_11 w_10 =>
      some (x_11, w_10)
    else if v2 = 4 then
      cl (mX2_isPlain o_3 w_1) fun x_13 w_12 =>
      cl (mX5_whether x_13 w_12) fun x_15 w_14 =>
      some (x_15, w_14)
    else 
      some ((-1), w_1)
set_option maxRecDepth 100000 in
set_option maxHeartbeats 4000000 in
theorem ok_mX5_about {zv : Int32} {zw : AW} {v1 : Int32} {v2 : Int32} {w : AW} (hf : mX5_about v1 v2 w = some (zv, zw)) : RR false KX5_about (some (vI zv), zw) 0 [some (vR 0 0), some (vI v1), some (vI v2), none] [] w := by
  refine r_aload_n dX5_about_0 rfl rfl ?_
  refine r_iload_n dX5_about_1 rfl rfl ?_
  obtain ⟨x_2, w_1, hc, hf⟩ := cl_some hf
  refine g_cV (st := []) KX5_sentence [vI v1] dX5_about_2 e_RX5_117 (cl_false_0) (rfl : vwCl[5]? = _) rfl mok_X5_sentence mw_X5_sentence ⟨Nat.le_of_ble_eq_true rfl, Nat.le_of_ble_eq_true rfl⟩ (met_X5_sentence hc) rfl (Nat.le_of_ble_eq_true rfl) ?_
  clear hc
  refine r_astore_n (ls2 := [some (vR 0 0), some (vI v1), some (vI v2), some (vO x_2)]) dX5_about_5 rfl rfl rfl (Nat.le_of_ble_eq_true rfl) ?_
  refine r_aload_n dX5_about_6 rfl rfl ?_
  refine g_ifnonnullS (tgt := 12) dX5_about_7 rfl hf (fun eN hg => ?_) (fun o_3 eS ho_3 hg => ?_)
  · clear hf
    subst eN
    have hf := hg
    clear hg
    refine r_iconst dX5_about_10 ic_m1 ?_
    exact r_iret dX5_about_11 rfl (ret_I hf)
  · clear hf
    subst eS
    have hf := hg
    clear hg
    refine r_iload_n dX5_about_12 rfl rfl ?_
    rcases Classical.em (v2 = 0) with c0 | c0
    · replace hf := br_pos c0 hf
      refine g_tabC (off := 35) (tgt := 48) c0 dX5_about_13 (by decide) rfl ?_
      refine r_aload_n dX5_about_48 rfl rfl ?_
      obtain ⟨x_5, w_4, hc, hf⟩ := cl_some hf
      refine g_cV (st := []) KX2_signs [] dX5_about_49 e_RX5_129 ho_3 (rfl : vwCl[2]? = _) rfl mok_X2_signs mw_X2_signs ⟨Nat.le_of_ble_eq_true rfl, Nat.le_of_ble_eq_true rfl⟩ (met_X2_signs ho_3 hc) rfl (Nat.le_of_ble_eq_true rfl) ?_
      clear hc
      exact r_iret dX5_about_52 rfl (ret_I hf)
    replace hf := br_neg c0 hf
    rcases Classical.em (v2 = 1) with c1 | c1
    · replace hf := br_pos c1 hf
      refine g_tabC (off := 40) (tgt := 53) c1 dX5_about_13 (by decide) rfl ?_
      refine r_aload_n dX5_about_53 rfl rfl ?_
      obtain ⟨x_7, w_6, hc, hf⟩ := cl_some hf
      refine g_cV (st := []) KX2_depth [] dX5_about_54 e_RX5_132 ho_3 (rfl : vwCl[2]? = _) rfl mok_X2_depth mw_X2_depth ⟨Nat.le_of_ble_eq_true rfl, Nat.le_of_ble_eq_true rfl⟩ (met_X2_depth ho_3 hc) rfl (Nat.le_of_ble_eq_true rfl) ?_
      clear hc
      exact r_iret dX5_about_57 rfl (ret_I hf)
    replace hf := br_neg c1 hf
    rcases Classical.em (v2 = 2) with c2 | c2
    · replace hf := br_pos c2 hf
      refine g_tabC (off := 45) (tgt := 58) c2 dX5_about_13 (by decide) rfl ?_
      refine r_aload_n dX5_about_58 rfl rfl ?_
      obtain ⟨x_9, w_8, hc, hf⟩ := cl_some hf
      refine g_cV (st := []) KX2_parts [] dX5_about_59 e_RX5_135 ho_3 (rfl : vwCl[2]? = _) rfl mok_X2_parts mw_X2_parts ⟨Nat.le_of_ble_eq_true rfl, Nat.le_of_ble_eq_true rfl⟩ (met_X2_parts ho_3 hc) rfl (Nat.le_of_ble_eq_true rfl) ?_
      clear hc
      exact r_iret dX5_about_62 rfl (ret_I hf)
    replace hf := br_neg c2 hf
    rcases Classical.em (v2 = 3) with c3 | c3
    · replace hf := br_pos c3 hf
      refine g_tabC (off := 50) (tgt := 63) c3 dX5_about_13 (by decide) rfl ?_
      refine r_aload_n dX5_about_63 rfl rfl ?_
      obtain ⟨x_11, w_10, hc, hf⟩ := cl_some hf
      refine g_cV (st := []) KX2_atoms [] dX5_about_64 e_RX5_138 ho_3 (rfl : vwCl[2]? = _) rfl mok_X2_atoms mw_X2_atoms ⟨Nat.le_of_ble_eq_true rfl, Nat.le_of_ble_eq_true rfl⟩ (met_X2_atoms ho_3 hc) rfl (Nat.le_of_ble_eq_true rfl) ?_
      clear hc
      exact r_iret dX5_about_67 rfl (ret_I hf)
    replace hf := br_neg c3 hf
    rcases Classical.em (v2 = 4) with c4 | c4
    · replace hf := br_pos c4 hf
      refine g_tabC (off := 55) (tgt := 68) c4 dX5_about_13 (by decide) rfl ?_
      refine r_aload_n dX5_about_68 rfl rfl ?_
      obtain ⟨x_13, w_12, hc, hf⟩ := cl_some hf
      refine g_cV (st := []) KX2_isPlain [] dX5_about_69 e_RX5_140 ho_3 (rfl : vwCl[2]? = _) rfl mok_X2_isPlain mw_X2_isPlain ⟨Nat.le_of_ble_eq_true rfl, Nat.le_of_ble_eq_true rfl⟩ (met_X2_isPlain ho_3 hc) rfl (Nat.le_of_ble_eq_true rfl) ?_
      clear hc
      obtain ⟨x_15, w_14, hc, hf⟩ := cl_some hf
      refine g_cS (st := []) KX5_whether [vI x_13] dX5_about_72 e_RX5_144 mok_X5_whether mw_X5_whether ⟨Nat.le_of_ble_eq_true rfl, Nat.le_of_ble_eq_true rfl⟩ (met_X5_whether hc) rfl (Nat.le_of_ble_eq_true rfl) ?_
      clear hc
      exact r_iret dX5_about_75 rfl (ret_I hf)
    replace hf := br_neg c4 hf
    refine g_tabD (tgt := 76) 5 (by decide) (fun j hj => by
      rcases (show j = 0 ∨ j = 1 ∨ j = 2 ∨ j = 3 ∨ j = 4 by omega) with rfl | rfl | rfl | rfl | rfl
      · exact am_neI c0 (by decide)
      · exact am_neI c1 (by decide)
      · exact am_neI c2 (by decide)
      · exact am_neI c3 (by decide)
      · exact am_neI c4 (by decide)) dX5_about_13 rfl ?_
    refine r_iconst dX5_about_76 ic_m1 ?_
    exact r_iret dX5_about_77 rfl (ret_I hf)
theorem met_X5_about {zv : Int32} {zw : AW} {v1 : Int32} {v2 : Int32} {w : AW} (hf : mX5_about v1 v2 w = some (zv, zw)) : am_Met false KX5_about [vR 0 0, vI v1, vI v2] w (some (vI zv), zw) := am_met mok_X5_about.1 (Nat.le_of_ble_eq_true rfl) (ok_mX5_about  hf)

/-! SeenWorlds.whereHolds(LSeenWorlds$Sentence;I)I -/
noncomputable def mX5_whereHolds (o1 : Nat) (v2 : Int32) (w : AW) : Option (Int32 × AW) :=
  cl (mX4_look v2 w) fun x_2 w_1 =>
  cl (mX0_atoms w_1) fun x_4 w_3 =>
  cl (mX4_judge o1 1 2 0 w_3) fun x_6 w_5 =>
  some (x_6, w_5)
set_option maxRecDepth 100000 in
set_option maxHeartbeats 4000000 in
theorem ok_mX5_whereHolds {zv : Int32} {zw : AW} {o1 : Nat} {v2 : Int32} (ho1 : am_cls false o1 = 2) {w : AW} (hf : mX5_whereHolds o1 v2 w = some (zv, zw)) : RR false KX5_whereHolds (some (vI zv), zw) 0 [some (vR 0 0), some (vR o1 0), some (vI v2)] [] w := by
  refine r_aload_n dX5_whereHolds_0 rfl rfl ?_
  refine r_getO dX5_whereHolds_1 fl_RX5_19 fk_5_1 (cl_false_0) ?_
  refine r_aload_n dX5_whereHolds_4 rfl rfl ?_
  refine r_getO dX5_whereHolds_5 fl_RX5_12 fk_5_0 (cl_false_0) ?_
  refine r_iload_n dX5_whereHolds_8 rfl rfl ?_
  obtain ⟨x_2, w_1, hc, hf⟩ := cl_some hf
  refine g_cVv (st := []) KX4_look [vR 1 0, vI v2] dX5_whereHolds_9 e_RX5_158 (cl_false_2) (rfl : vwCl[4]? = _) rfl mok_X4_look mw_X4_look ⟨Nat.le_of_ble_eq_true rfl, Nat.le_of_ble_eq_true rfl⟩ (met_X4_look hc) rfl (Nat.le_of_ble_eq_true rfl) ?_
  clear hc
  refine r_aload_n dX5_whereHolds_12 rfl rfl ?_
  refine r_getO dX5_whereHolds_13 fl_RX5_19 fk_5_1 (cl_false_0) ?_
  refine r_aload_n dX5_whereHolds_16 rfl rfl ?_
  refine r_aload_n dX5_whereHolds_17 rfl rfl ?_
  refine r_getO dX5_whereHolds_18 fl_RX5_12 fk_5_0 (cl_false_0) ?_
  obtain ⟨x_4, w_3, hc, hf⟩ := cl_some hf
  refine g_cV (st := [vR o1 0, vR 2 0]) KX0_atoms [] dX5_whereHolds_21 e_RX5_96 (cl_false_1) (rfl : vwCl[0]? = _) rfl mok_X0_atoms mw_X0_atoms ⟨Nat.le_of_ble_eq_true rfl, Nat.le_of_ble_eq_true rfl⟩ (met_X0_atoms hc) rfl (Nat.le_of_ble_eq_true rfl) ?_
  clear hc
  refine r_iconst dX5_whereHolds_24 ic_0 ?_
  obtain ⟨x_6, w_5, hc, hf⟩ := cl_some hf
  refine g_cV (st := []) KX4_judge [vR o1 0, vR 1 2, vI 0] dX5_whereHolds_25 e_RX5_166 (cl_false_2) (rfl : vwCl[4]? = _) rfl mok_X4_judge mw_X4_judge ⟨Nat.le_of_ble_eq_true rfl, Nat.le_of_ble_eq_true rfl⟩ (met_X4_judge ho1 (am_iaW aK_false_1_2) hc) rfl (Nat.le_of_ble_eq_true rfl) ?_
  clear hc
  exact r_iret dX5_whereHolds_28 rfl (ret_I hf)
theorem met_X5_whereHolds {zv : Int32} {zw : AW} {o1 : Nat} {v2 : Int32} (ho1 : am_cls false o1 = 2) {w : AW} (hf : mX5_whereHolds o1 v2 w = some (zv, zw)) : am_Met false KX5_whereHolds [vR 0 0, vR o1 0, vI v2] w (some (vI zv), zw) := am_met mok_X5_whereHolds.1 (Nat.le_of_ble_eq_true rfl) (ok_mX5_whereHolds ho1 hf)

/-! SeenWorlds.holds(II)I -/
noncomputable def mX5_holds (v1 : Int32) (v2 : Int32) (w : AW) : Option (Int32 × AW) :=
  cl (mX5_sentence v1 w) fun x_2 w_1 =>
  nS x_2
    (some ((-1), w_1))
    fun o_3 =>
    cl (mX5_isSort v2 w_1) fun x_5 w_4 =>
    if x_5 ≠ 0 then
      cl (mX5_whereHolds o_3 v2 w_4) fun x_7 w_6 =>
      some (x_7, w_6)
    else
      some ((-1), w_4)
set_option maxRecDepth 100000 in
set_option maxHeartbeats 4000000 in
theorem ok_mX5_holds {zv : Int32} {zw : AW} {v1 : Int32} {v2 : Int32} {w : AW} (hf : mX5_holds v1 v2 w = some (zv, zw)) : RR false KX5_holds (some (vI zv), zw) 0 [some (vR 0 0), some (vI v1), some (vI v2), none] [] w := by
  refine r_aload_n dX5_holds_0 rfl rfl ?_
  refine r_iload_n dX5_holds_1 rfl rfl ?_
  obtain ⟨x_2, w_1, hc, hf⟩ := cl_some hf
  refine g_cV (st := []) KX5_sentence [vI v1] dX5_holds_2 e_RX5_117 (cl_false_0) (rfl : vwCl[5]? = _) rfl mok_X5_sentence mw_X5_sentence ⟨Nat.le_of_ble_eq_true rfl, Nat.le_of_ble_eq_true rfl⟩ (met_X5_sentence hc) rfl (Nat.le_of_ble_eq_true rfl) ?_
  clear hc
  refine r_astore_n (ls2 := [some (vR 0 0), some (vI v1), some (vI v2), some (vO x_2)]) dX5_holds_5 rfl rfl rfl (Nat.le_of_ble_eq_true rfl) ?_
  refine r_aload_n dX5_holds_6 rfl rfl ?_
  refine g_ifnullS (tgt := 17) dX5_holds_7 rfl hf (fun eN hg => ?_) (fun o_3 eS ho_3 hg => ?_)
  · clear hf
    subst eN
    have hf := hg
    clear hg
    refine r_iconst dX5_holds_17 ic_m1 ?_
    exact r_iret dX5_holds_18 rfl (ret_I hf)
  · clear hf
    subst eS
    have hf := hg
    clear hg
    refine r_iload_n dX5_holds_10 rfl rfl ?_
    obtain ⟨x_5, w_4, hc, hf⟩ := cl_some hf
    refine g_cS (st := []) KX5_isSort [vI v2] dX5_holds_11 e_RX5_108 mok_X5_isSort mw_X5_isSort ⟨Nat.le_of_ble_eq_true rfl, Nat.le_of_ble_eq_true rfl⟩ (met_X5_isSort hc) rfl (Nat.le_of_ble_eq_true rfl) ?_
    clear hc
    refine g_if_ne (tgt := 19) dX5_holds_14 rfl hf (fun _ hf => ?_) (fun _ hf => ?_)
    · refine r_aload_n dX5_holds_19 rfl rfl ?_
      refine r_aload_n dX5_holds_20 rfl rfl ?_
      refine r_iload_n dX5_holds_21 rfl rfl ?_
      obtain ⟨x_7, w_6, hc, hf⟩ := cl_some hf
      refine g_cV (st := []) KX5_whereHolds [vR o_3 0, vI v2] dX5_holds_22 e_RX5_148 (cl_false_0) (rfl : vwCl[5]? = _) rfl mok_X5_whereHolds mw_X5_whereHolds ⟨Nat.le_of_ble_eq_true rfl, Nat.le_of_ble_eq_true rfl⟩ (met_X5_whereHolds ho_3 hc) rfl (Nat.le_of_ble_eq_true rfl) ?_
      clear hc
      exact r_iret dX5_holds_25 rfl (ret_I hf)
    · refine r_iconst dX5_holds_17 ic_m1 ?_
      exact r_iret dX5_holds_18 rfl (ret_I hf)
theorem met_X5_holds {zv : Int32} {zw : AW} {v1 : Int32} {v2 : Int32} {w : AW} (hf : mX5_holds v1 v2 w = some (zv, zw)) : am_Met false KX5_holds [vR 0 0, vI v1, vI v2] w (some (vI zv), zw) := am_met mok_X5_holds.1 (Nat.le_of_ble_eq_true rfl) (ok_mX5_holds  hf)

/-! SeenWorlds.deal(II)V -/
noncomputable def mX5_deal_51 (k5 : Int32 → Int32 → AW → Option (Unit × AW)) (v1 : Int32) (v3 : Int32) (v4 : Int32) (w : AW) : Option (Unit × AW) :=
  nm (v4 + 1) fun v4_1 =>
  k5 v3 v4_1 w
noncomputable def mX5_deal_5 (v1 : Int32) : Nat → Int32 → Int32 → AW → Option (Unit × AW)
  | 0, _, _, _ => none
  | n + 1, v3, v4, w =>
    if 4 ≤ v4 then
      some ((), w)
    else
      cl (mX5_bit v1 v4 w) fun x_2 w_1 =>
      if x_2 ≠ 0 then
        cl (mX0_all w_1) fun x_4 w_3 =>
        cl (mX5_put 0 8 v4 (v3 &&& x_4) w_3) fun x_6 w_5 =>
        cl (mX0_size w_5) fun x_8 w_7 =>
        nm ((v3.toUInt32 >>> (x_8.toUInt32 &&& Int32.toUInt32 31)).toInt32) fun v3_9 =>
        mX5_deal_51 (mX5_deal_5 v1 n) v1 v3_9 v4 w_7
      else
        mX5_deal_51 (mX5_deal_5 v1 n) v1 v3 v4 w_1
noncomputable def mX5_deal (v1 : Int32) (v2 : Int32) (w : AW) : Option (Unit × AW) :=
  mX5_deal_5 v1 FU v2 0 w
set_option maxRecDepth 100000 in
set_option maxHeartbeats 4000000 in
theorem ok_mX5_deal_51 {zv : Unit} {zw : AW} {k5 : Int32 → Int32 → AW → Option (Unit × AW)} {v1 : Int32} {v3 : Int32} {v4 : Int32} (hk5 : ∀ (v3 : Int32) (v4 : Int32)  w, k5 v3 v4 w = some (zv, zw) → RR false KX5_deal (none, zw) 5 [some (vR 0 0), some (vI v1), none, some (vI v3), some (vI v4)] [] w) {w : AW} (hf : mX5_deal_51 k5 v1 v3 v4 w = some (zv, zw)) : RR false KX5_deal (none, zw) 51 [some (vR 0 0), some (vI v1), none, some (vI v3), some (vI v4)] [] w := by
  refine g_iinc (fun v4_1 => [some (vR 0 0), some (vI v1), none, some (vI v3), some (vI v4_1)]) dX5_deal_51 ic_1 rfl rfl (fun _ => rfl) (Nat.le_of_ble_eq_true rfl) hf (fun v4_1 hf => ?_)
  refine r_goto (tgt := 5) dX5_deal_54 rfl ?_
  exact hk5 _ _ _ hf
set_option maxRecDepth 100000 in
set_option maxHeartbeats 4000000 in
theorem ok_mX5_deal_5 {zv : Unit} {zw : AW} {v1 : Int32} : ∀ (n : Nat) (v3 : Int32) (v4 : Int32) (w : AW), mX5_deal_5 v1 n v3 v4 w = some (zv, zw) → RR false KX5_deal (none, zw) 5 [some (vR 0 0), some (vI v1), none, some (vI v3), some (vI v4)] [] w := by
  intro n
  induction n with
  | zero => intro v3 v4 w hf; cases hf
  | succ n ih =>
    intro v3 v4 w hf
    refine r_iload dX5_deal_5 rfl ?_
    refine r_iconst dX5_deal_7 ic_4 ?_
    refine g_icmp_ge (tgt := 57) dX5_deal_8 rfl hf (fun _ hf => ?_) (fun _ hf => ?_)
    · exact r_vret dX5_deal_57 rfl (ret_U hf)
    · refine r_iload_n dX5_deal_11 rfl rfl ?_
      refine r_iload dX5_deal_12 rfl ?_
      obtain ⟨x_2, w_1, hc, hf⟩ := cl_some hf
      refine g_cS (st := []) KX5_bit [vI v1, vI v4] dX5_deal_14 e_RX5_86 mok_X5_bit mw_X5_bit ⟨Nat.le_of_ble_eq_true rfl, Nat.le_of_ble_eq_true rfl⟩ (met_X5_bit hc) rfl (Nat.le_of_ble_eq_true rfl) ?_
      clear hc
      refine g_if_ne (tgt := 23) dX5_deal_17 rfl hf (fun _ hf => ?_) (fun _ hf => ?_)
      · refine r_aload_n dX5_deal_23 rfl rfl ?_
        refine g_getA dX5_deal_24 fl_RX5_54 fk_5_7 rfl (cl_false_0) ?_
        refine r_iload dX5_deal_27 rfl ?_
        refine r_iload_n dX5_deal_29 rfl rfl ?_
        refine r_aload_n dX5_deal_30 rfl rfl ?_
        refine r_getO dX5_deal_31 fl_RX5_12 fk_5_0 (cl_false_0) ?_
        obtain ⟨x_4, w_3, hc, hf⟩ := cl_some hf
        refine g_cV (st := [vI v3, vI v4, vR 0 8]) KX0_all [] dX5_deal_34 e_RX5_93 (cl_false_1) (rfl : vwCl[0]? = _) rfl mok_X0_all mw_X0_all ⟨Nat.le_of_ble_eq_true rfl, Nat.le_of_ble_eq_true rfl⟩ (met_X0_all hc) rfl (Nat.le_of_ble_eq_true rfl) ?_
        clear hc
        refine r_iand dX5_deal_37 ?_
        obtain ⟨x_6, w_5, hc, hf⟩ := cl_some hf
        refine g_cSv (st := []) KX5_put [vR 0 8, vI v4, vI (v3 &&& x_4)] dX5_deal_38 e_RX5_104 mok_X5_put mw_X5_put ⟨Nat.le_of_ble_eq_true rfl, Nat.le_of_ble_eq_true rfl⟩ (met_X5_put aK_false_0_8 hc) rfl (Nat.le_of_ble_eq_true rfl) ?_
        clear hc
        refine r_iload_n dX5_deal_41 rfl rfl ?_
        refine r_aload_n dX5_deal_42 rfl rfl ?_
        refine r_getO dX5_deal_43 fl_RX5_12 fk_5_0 (cl_false_0) ?_
        obtain ⟨x_8, w_7, hc, hf⟩ := cl_some hf
        refine g_cV (st := [vI v3]) KX0_size [] dX5_deal_46 e_RX5_68 (cl_false_1) (rfl : vwCl[0]? = _) rfl mok_X0_size mw_X0_size ⟨Nat.le_of_ble_eq_true rfl, Nat.le_of_ble_eq_true rfl⟩ (met_X0_size hc) rfl (Nat.le_of_ble_eq_true rfl) ?_
        clear hc
        refine r_iushr dX5_deal_49 ?_
        refine g_istore_n (fun v3_9 => [some (vR 0 0), some (vI v1), none, some (vI v3_9), some (vI v4)]) dX5_deal_50 rfl rfl (fun _ => rfl) (Nat.le_of_ble_eq_true rfl) hf (fun v3_9 hf => ?_)
        exact ok_mX5_deal_51 (fun v3 v4 w hf => ih v3 v4 w hf) hf
      · refine r_goto (tgt := 51) dX5_deal_20 rfl ?_
        exact ok_mX5_deal_51 (fun v3 v4 w hf => ih v3 v4 w hf) hf
set_option maxRecDepth 100000 in
set_option maxHeartbeats 4000000 in
theorem ok_mX5_deal {zv : Unit} {zw : AW} {v1 : Int32} {v2 : Int32} {w : AW} (hf : mX5_deal v1 v2 w = some (zv, zw)) : RR false KX5_deal (none, zw) 0 [some (vR 0 0), some (vI v1), some (vI v2), none, none] [] w := by
  refine r_iload_n dX5_deal_0 rfl rfl ?_
  refine r_istore_n (ls2 := [some (vR 0 0), some (vI v1), some (vI v2), some (vI v2), none]) dX5_deal_1 rfl rfl rfl (Nat.le_of_ble_eq_true rfl) ?_
  refine r_iconst dX5_deal_2 ic_0 ?_
  refine r_istore (ls2 := [some (vR 0 0), some (vI v1), some (vI v2), some (vI v2), some (vI 0)]) dX5_deal_3 rfl rfl (Nat.le_of_ble_eq_true rfl) ?_
  refine r_mask (bs := [true, true, false, true, true]) ?_
  exact ok_mX5_deal_5 FU _ _ _ hf
theorem met_X5_deal {zv : Unit} {zw : AW} {v1 : Int32} {v2 : Int32} {w : AW} (hf : mX5_deal v1 v2 w = some (zv, zw)) : am_Met false KX5_deal [vR 0 0, vI v1, vI v2] w (none, zw) := am_met mok_X5_deal.1 (Nat.le_of_ble_eq_true rfl) (ok_mX5_deal  hf)

/-! SeenWorlds.sure(II)I -/
noncomputable def mX5_sure_61 (o3 : Nat) (v4 : Int32) : Nat → Int32 → AW → Option (Int32 × AW)
  | 0, _, _ => none
  | n + 1, v5, w =>
    if (1 <<< (v4 &&& 31)) ≤ v5 then
      some (1, w)
    else
      cl (mX2_atoms o3 w) fun x_2 w_1 =>
      cl (mX5_deal x_2 v5 w_1) fun x_4 w_3 =>
      cl (mX4_judge o3 0 8 0 w_3) fun x_6 w_5 =>
      cl (mX0_all w_5) fun x_8 w_7 =>
      if x_6 = x_8 then
        nm (v5 + 1) fun v5_9 =>
        mX5_sure_61 o3 v4 n v5_9 w_7
      else
        some (0, w_7)
noncomputable def mX5_sure (v1 : Int32) (v2 : Int32) (w : AW) : Option (Int32 × AW) :=
  cl (mX5_sentence v1 w) fun x_2 w_1 =>
  nS x_2
    (some ((-1), w_1))
    fun o_3 =>
    cl (mX5_isSort v2 w_1) fun x_5 w_4 =>
    if x_5 ≠ 0 then
      cl (mX0_size w_4) fun x_7 w_6 =>
      cl (mX2_atoms o_3 w_6) fun x_9 w_8 =>
      cl (mJ6_bitCount_0f7a4 x_9 w_8) fun x_11 w_10 =>
      nm (x_7 * x_11) fun v4_12 =>
      if v4_12 ≤ 12 then
        cl (mX4_look v2 w_10) fun x_14 w_13 =>
        mX5_sure_61 o_3 v4_12 FU 0 w_13
      else
        some ((-2), w_10)
    else
      some ((-1), w_4)
set_option maxRecDepth 100000 in
set_option maxHeartbeats 4000000 in
theorem ok_mX5_sure_61 {zv : Int32} {zw : AW} {o3 : Nat} {v4 : Int32} (ho3 : am_cls false o3 = 2) : ∀ (n : Nat) (v5 : Int32) (w : AW), mX5_sure_61 o3 v4 n v5 w = some (zv, zw) → RR false KX5_sure (some (vI zv), zw) 61 [some (vR 0 0), none, none, some (vR o3 0), some (vI v4), some (vI v5)] [] w := by
  intro n
  induction n with
  | zero => intro v5 w hf; cases hf
  | succ n ih =>
    intro v5 w hf
    refine r_iload dX5_sure_61 rfl ?_
    refine r_iconst dX5_sure_63 ic_1 ?_
    refine r_iload dX5_sure_64 rfl ?_
    refine r_ishl dX5_sure_66 ?_
    refine g_icmp_ge (tgt := 111) dX5_sure_67 rfl hf (fun _ hf => ?_) (fun _ hf => ?_)
    · refine r_iconst dX5_sure_111 ic_1 ?_
      exact r_iret dX5_sure_112 rfl (ret_I hf)
    · refine r_aload_n dX5_sure_70 rfl rfl ?_
      refine r_aload_n dX5_sure_71 rfl rfl ?_
      obtain ⟨x_2, w_1, hc, hf⟩ := cl_some hf
      refine g_cV (st := [vR 0 0]) KX2_atoms [] dX5_sure_72 e_RX5_138 ho3 (rfl : vwCl[2]? = _) rfl mok_X2_atoms mw_X2_atoms ⟨Nat.le_of_ble_eq_true rfl, Nat.le_of_ble_eq_true rfl⟩ (met_X2_atoms ho3 hc) rfl (Nat.le_of_ble_eq_true rfl) ?_
      clear hc
      refine r_iload dX5_sure_75 rfl ?_
      obtain ⟨x_4, w_3, hc, hf⟩ := cl_some hf
      refine g_cVv (st := []) KX5_deal [vI x_2, vI v5] dX5_sure_77 e_RX5_162 (cl_false_0) (rfl : vwCl[5]? = _) rfl mok_X5_deal mw_X5_deal ⟨Nat.le_of_ble_eq_true rfl, Nat.le_of_ble_eq_true rfl⟩ (met_X5_deal hc) rfl (Nat.le_of_ble_eq_true rfl) ?_
      clear hc
      refine r_aload_n dX5_sure_80 rfl rfl ?_
      refine r_getO dX5_sure_81 fl_RX5_19 fk_5_1 (cl_false_0) ?_
      refine r_aload_n dX5_sure_84 rfl rfl ?_
      refine r_aload_n dX5_sure_85 rfl rfl ?_
      refine g_getA dX5_sure_86 fl_RX5_54 fk_5_7 rfl (cl_false_0) ?_
      refine r_iconst dX5_sure_89 ic_0 ?_
      obtain ⟨x_6, w_5, hc, hf⟩ := cl_some hf
      refine g_cV (st := []) KX4_judge [vR o3 0, vR 0 8, vI 0] dX5_sure_90 e_RX5_166 (cl_false_2) (rfl : vwCl[4]? = _) rfl mok_X4_judge mw_X4_judge ⟨Nat.le_of_ble_eq_true rfl, Nat.le_of_ble_eq_true rfl⟩ (met_X4_judge ho3 (am_iaW aK_false_0_8) hc) rfl (Nat.le_of_ble_eq_true rfl) ?_
      clear hc
      refine r_aload_n dX5_sure_93 rfl rfl ?_
      refine r_getO dX5_sure_94 fl_RX5_12 fk_5_0 (cl_false_0) ?_
      obtain ⟨x_8, w_7, hc, hf⟩ := cl_some hf
      refine g_cV (st := [vI x_6]) KX0_all [] dX5_sure_97 e_RX5_93 (cl_false_1) (rfl : vwCl[0]? = _) rfl mok_X0_all mw_X0_all ⟨Nat.le_of_ble_eq_true rfl, Nat.le_of_ble_eq_true rfl⟩ (met_X0_all hc) rfl (Nat.le_of_ble_eq_true rfl) ?_
      clear hc
      refine g_icmp_eq (tgt := 105) dX5_sure_100 rfl hf (fun _ hf => ?_) (fun _ hf => ?_)
      · refine g_iinc (fun v5_9 => [some (vR 0 0), none, none, some (vR o3 0), some (vI v4), some (vI v5_9)]) dX5_sure_105 ic_1 rfl rfl (fun _ => rfl) (Nat.le_of_ble_eq_true rfl) hf (fun v5_9 hf => ?_)
        refine r_goto (tgt := 61) dX5_sure_108 rfl ?_
        exact ih _ _ hf
      · refine r_iconst dX5_sure_103 ic_0 ?_
        exact r_iret dX5_sure_104 rfl (ret_I hf)
set_option maxRecDepth 100000 in
set_option maxHeartbeats 4000000 in
theorem ok_mX5_sure {zv : Int32} {zw : AW} {v1 : Int32} {v2 : Int32} {w : AW} (hf : mX5_sure v1 v2 w = some (zv, zw)) : RR false KX5_sure (some (vI zv), zw) 0 [some (vR 0 0), some (vI v1), some (vI v2), none, none, none] [] w := by
  refine r_aload_n dX5_sure_0 rfl rfl ?_
  refine r_iload_n dX5_sure_1 rfl rfl ?_
  obtain ⟨x_2, w_1, hc, hf⟩ := cl_some hf
  refine g_cV (st := []) KX5_sentence [vI v1] dX5_sure_2 e_RX5_117 (cl_false_0) (rfl : vwCl[5]? = _) rfl mok_X5_sentence mw_X5_sentence ⟨Nat.le_of_ble_eq_true rfl, Nat.le_of_ble_eq_true rfl⟩ (met_X5_sentence hc) rfl (Nat.le_of_ble_eq_true rfl) ?_
  clear hc
  refine r_astore_n (ls2 := [some (vR 0 0), some (vI v1), some (vI v2), some (vO x_2), none, none]) dX5_sure_5 rfl rfl rfl (Nat.le_of_ble_eq_true rfl) ?_
  refine r_aload_n dX5_sure_6 rfl rfl ?_
  refine g_ifnullS (tgt := 17) dX5_sure_7 rfl hf (fun eN hg => ?_) (fun o_3 eS ho_3 hg => ?_)
  · clear hf
    subst eN
    have hf := hg
    clear hg
    refine r_iconst dX5_sure_17 ic_m1 ?_
    exact r_iret dX5_sure_18 rfl (ret_I hf)
  · clear hf
    subst eS
    have hf := hg
    clear hg
    refine r_iload_n dX5_sure_10 rfl rfl ?_
    obtain ⟨x_5, w_4, hc, hf⟩ := cl_some hf
    refine g_cS (st := []) KX5_isSort [vI v2] dX5_sure_11 e_RX5_108 mok_X5_isSort mw_X5_isSort ⟨Nat.le_of_ble_eq_true rfl, Nat.le_of_ble_eq_true rfl⟩ (met_X5_isSort hc) rfl (Nat.le_of_ble_eq_true rfl) ?_
    clear hc
    refine g_if_ne (tgt := 19) dX5_sure_14 rfl hf (fun _ hf => ?_) (fun _ hf => ?_)
    · refine r_aload_n dX5_sure_19 rfl rfl ?_
      refine r_getO dX5_sure_20 fl_RX5_12 fk_5_0 (cl_false_0) ?_
      obtain ⟨x_7, w_6, hc, hf⟩ := cl_some hf
      refine g_cV (st := []) KX0_size [] dX5_sure_23 e_RX5_68 (cl_false_1) (rfl : vwCl[0]? = _) rfl mok_X0_size mw_X0_size ⟨Nat.le_of_ble_eq_true rfl, Nat.le_of_ble_eq_true rfl⟩ (met_X0_size hc) rfl (Nat.le_of_ble_eq_true rfl) ?_
      clear hc
      refine r_aload_n dX5_sure_26 rfl rfl ?_
      obtain ⟨x_9, w_8, hc, hf⟩ := cl_some hf
      refine g_cV (st := [vI x_7]) KX2_atoms [] dX5_sure_27 e_RX5_138 ho_3 (rfl : vwCl[2]? = _) rfl mok_X2_atoms mw_X2_atoms ⟨Nat.le_of_ble_eq_true rfl, Nat.le_of_ble_eq_true rfl⟩ (met_X2_atoms ho_3 hc) rfl (Nat.le_of_ble_eq_true rfl) ?_
      clear hc
      obtain ⟨x_11, w_10, hc, hf⟩ := cl_some hf
      refine g_cS (st := [vI x_7]) KJ6_bitCount_0f7a4 [vI x_9] dX5_sure_30 e_RX5_152 mok_J6_bitCount_0f7a4 mw_J6_bitCount_0f7a4 ⟨Nat.le_of_ble_eq_true rfl, Nat.le_of_ble_eq_true rfl⟩ (met_J6_bitCount_0f7a4 hc) rfl (Nat.le_of_ble_eq_true rfl) ?_
      clear hc
      refine r_imul dX5_sure_33 ?_
      refine g_istore (fun v4_12 => [some (vR 0 0), some (vI v1), some (vI v2), some (vR o_3 0), some (vI v4_12), none]) dX5_sure_34 rfl (fun _ => rfl) (Nat.le_of_ble_eq_true rfl) hf (fun v4_12 hf => ?_)
      refine r_iload dX5_sure_36 rfl ?_
      refine r_bipush dX5_sure_38 (bp_12) ?_
      refine g_icmp_le (tgt := 46) dX5_sure_40 rfl hf (fun _ hf => ?_) (fun _ hf => ?_)
      · refine r_aload_n dX5_sure_46 rfl rfl ?_
        refine r_getO dX5_sure_47 fl_RX5_19 fk_5_1 (cl_false_0) ?_
        refine r_aload_n dX5_sure_50 rfl rfl ?_
        refine r_getO dX5_sure_51 fl_RX5_12 fk_5_0 (cl_false_0) ?_
        refine r_iload_n dX5_sure_54 rfl rfl ?_
        obtain ⟨x_14, w_13, hc, hf⟩ := cl_some hf
        refine g_cVv (st := []) KX4_look [vR 1 0, vI v2] dX5_sure_55 e_RX5_158 (cl_false_2) (rfl : vwCl[4]? = _) rfl mok_X4_look mw_X4_look ⟨Nat.le_of_ble_eq_true rfl, Nat.le_of_ble_eq_true rfl⟩ (met_X4_look hc) rfl (Nat.le_of_ble_eq_true rfl) ?_
        clear hc
        refine r_iconst dX5_sure_58 ic_0 ?_
        refine r_istore (ls2 := [some (vR 0 0), some (vI v1), some (vI v2), some (vR o_3 0), some (vI v4_12), some (vI 0)]) dX5_sure_59 rfl rfl (Nat.le_of_ble_eq_true rfl) ?_
        refine r_mask (bs := [true, false, false, true, true, true]) ?_
        exact ok_mX5_sure_61 ho_3 FU _ _ hf
      · refine r_bipush dX5_sure_43 (bp_m2) ?_
        exact r_iret dX5_sure_45 rfl (ret_I hf)
    · refine r_iconst dX5_sure_17 ic_m1 ?_
      exact r_iret dX5_sure_18 rfl (ret_I hf)
theorem met_X5_sure {zv : Int32} {zw : AW} {v1 : Int32} {v2 : Int32} {w : AW} (hf : mX5_sure v1 v2 w = some (zv, zw)) : am_Met false KX5_sure [vR 0 0, vI v1, vI v2] w (some (vI zv), zw) := am_met mok_X5_sure.1 (Nat.le_of_ble_eq_true rfl) (ok_mX5_sure  hf)

/-! SeenWorlds.isLogic(I)Z -/
noncomputable def mX5_isLogic (v0 : Int32) (w : AW) : Option (Int32 × AW) :=
  if v0 < 0 then
    some (0, w)
  else
    if 8 ≤ v0 then
      some (0, w)
    else
      some (1, w)
set_option maxRecDepth 100000 in
set_option maxHeartbeats 4000000 in
theorem ok_mX5_isLogic {zv : Int32} {zw : AW} {v0 : Int32} {w : AW} (hf : mX5_isLogic v0 w = some (zv, zw)) : RR false KX5_isLogic (some (vI zv), zw) 0 [some (vI v0)] [] w := by
  refine r_iload_n dX5_isLogic_0 rfl rfl ?_
  refine g_if_lt (tgt := 14) dX5_isLogic_1 rfl hf (fun _ hf => ?_) (fun _ hf => ?_)
  · refine r_iconst dX5_isLogic_14 ic_0 ?_
    exact r_zret dX5_isLogic_15 rfl nar_0 (ret_I hf)
  · refine r_iload_n dX5_isLogic_4 rfl rfl ?_
    refine r_bipush dX5_isLogic_5 (bp_8) ?_
    refine g_icmp_ge (tgt := 14) dX5_isLogic_7 rfl hf (fun _ hf => ?_) (fun _ hf => ?_)
    · refine r_iconst dX5_isLogic_14 ic_0 ?_
      exact r_zret dX5_isLogic_15 rfl nar_0 (ret_I hf)
    · refine r_iconst dX5_isLogic_10 ic_1 ?_
      refine r_goto (tgt := 15) dX5_isLogic_11 rfl ?_
      exact r_zret dX5_isLogic_15 rfl nar_1 (ret_I hf)
theorem met_X5_isLogic {zv : Int32} {zw : AW} {v0 : Int32} {w : AW} (hf : mX5_isLogic v0 w = some (zv, zw)) : am_Met false KX5_isLogic [vI v0] w (some (vI zv), zw) := am_met mok_X5_isLogic.1 (Nat.le_of_ble_eq_true rfl) (ok_mX5_isLogic  hf)

/-! SeenWorlds.logic(III)I -/
noncomputable def mX5_logic (v1 : Int32) (v2 : Int32) (v3 : Int32) (w : AW) : Option (Int32 × AW) :=
  cl (mX5_sentence v1 w) fun x_2 w_1 =>
  nS x_2
    (some ((-1), w_1))
    fun o_3 =>
    cl (mX5_isLogic v2 w_1) fun x_5 w_4 =>
    if x_5 = 0 then
      some ((-1), w_4)
    else
      if v3 < 0 then
        some ((-1), w_4)
      else
        if v3 ≤ 6 then
          cl (mX3_sortOut o_3 v2 w_4) fun x_7 w_6 =>
          if x_7 ≠ 0 then
            cl (mX3_answer v3 w_6) fun x_9 w_8 =>
            some (x_9, w_8)
          else
            some ((-2), w_6)
        else
          some ((-1), w_4)
set_option maxRecDepth 100000 in
set_option maxHeartbeats 4000000 in
theorem ok_mX5_logic {zv : Int32} {zw : AW} {v1 : Int32} {v2 : Int32} {v3 : Int32} {w : AW} (hf : mX5_logic v1 v2 v3 w = some (zv, zw)) : RR false KX5_logic (some (vI zv), zw) 0 [some (vR 0 0), some (vI v1), some (vI v2), some (vI v3), none] [] w := by
  refine r_aload_n dX5_logic_0 rfl rfl ?_
  refine r_iload_n dX5_logic_1 rfl rfl ?_
  obtain ⟨x_2, w_1, hc, hf⟩ := cl_some hf
  refine g_cV (st := []) KX5_sentence [vI v1] dX5_logic_2 e_RX5_117 (cl_false_0) (rfl : vwCl[5]? = _) rfl mok_X5_sentence mw_X5_sentence ⟨Nat.le_of_ble_eq_true rfl, Nat.le_of_ble_eq_true rfl⟩ (met_X5_sentence hc) rfl (Nat.le_of_ble_eq_true rfl) ?_
  clear hc
  refine r_astore (ls2 := [some (vR 0 0), some (vI v1), some (vI v2), some (vI v3), some (vO x_2)]) dX5_logic_5 rfl rfl (Nat.le_of_ble_eq_true rfl) ?_
  refine r_aload dX5_logic_7 rfl ?_
  refine g_ifnullS (tgt := 29) dX5_logic_9 rfl hf (fun eN hg => ?_) (fun o_3 eS ho_3 hg => ?_)
  · clear hf
    subst eN
    have hf := hg
    clear hg
    refine r_iconst dX5_logic_29 ic_m1 ?_
    exact r_iret dX5_logic_30 rfl (ret_I hf)
  · clear hf
    subst eS
    have hf := hg
    clear hg
    refine r_iload_n dX5_logic_12 rfl rfl ?_
    obtain ⟨x_5, w_4, hc, hf⟩ := cl_some hf
    refine g_cS (st := []) KX5_isLogic [vI v2] dX5_logic_13 e_RX5_170 mok_X5_isLogic mw_X5_isLogic ⟨Nat.le_of_ble_eq_true rfl, Nat.le_of_ble_eq_true rfl⟩ (met_X5_isLogic hc) rfl (Nat.le_of_ble_eq_true rfl) ?_
    clear hc
    refine g_if_eq (tgt := 29) dX5_logic_16 rfl hf (fun _ hf => ?_) (fun _ hf => ?_)
    · refine r_iconst dX5_logic_29 ic_m1 ?_
      exact r_iret dX5_logic_30 rfl (ret_I hf)
    · refine r_iload_n dX5_logic_19 rfl rfl ?_
      refine g_if_lt (tgt := 29) dX5_logic_20 rfl hf (fun _ hf => ?_) (fun _ hf => ?_)
      · refine r_iconst dX5_logic_29 ic_m1 ?_
        exact r_iret dX5_logic_30 rfl (ret_I hf)
      · refine r_iload_n dX5_logic_23 rfl rfl ?_
        refine r_bipush dX5_logic_24 (bp_6) ?_
        refine g_icmp_le (tgt := 31) dX5_logic_26 rfl hf (fun _ hf => ?_) (fun _ hf => ?_)
        · refine r_aload_n dX5_logic_31 rfl rfl ?_
          refine r_getO dX5_logic_32 fl_RX5_33 fk_5_3 (cl_false_0) ?_
          refine r_aload dX5_logic_35 rfl ?_
          refine r_iload_n dX5_logic_37 rfl rfl ?_
          obtain ⟨x_7, w_6, hc, hf⟩ := cl_some hf
          refine g_cV (st := []) KX3_sortOut [vR o_3 0, vI v2] dX5_logic_38 e_RX5_173 (cl_false_4) (rfl : vwCl[3]? = _) rfl mok_X3_sortOut mw_X3_sortOut ⟨Nat.le_of_ble_eq_true rfl, Nat.le_of_ble_eq_true rfl⟩ (met_X3_sortOut ho_3 hc) rfl (Nat.le_of_ble_eq_true rfl) ?_
          clear hc
          refine g_if_ne (tgt := 47) dX5_logic_41 rfl hf (fun _ hf => ?_) (fun _ hf => ?_)
          · refine r_aload_n dX5_logic_47 rfl rfl ?_
            refine r_getO dX5_logic_48 fl_RX5_33 fk_5_3 (cl_false_0) ?_
            refine r_iload_n dX5_logic_51 rfl rfl ?_
            obtain ⟨x_9, w_8, hc, hf⟩ := cl_some hf
            refine g_cV (st := []) KX3_answer [vI v3] dX5_logic_52 e_RX5_177 (cl_false_4) (rfl : vwCl[3]? = _) rfl mok_X3_answer mw_X3_answer ⟨Nat.le_of_ble_eq_true rfl, Nat.le_of_ble_eq_true rfl⟩ (met_X3_answer hc) rfl (Nat.le_of_ble_eq_true rfl) ?_
            clear hc
            exact r_iret dX5_logic_55 rfl (ret_I hf)
          · refine r_bipush dX5_logic_44 (bp_m2) ?_
            exact r_iret dX5_logic_46 rfl (ret_I hf)
        · refine r_iconst dX5_logic_29 ic_m1 ?_
          exact r_iret dX5_logic_30 rfl (ret_I hf)
theorem met_X5_logic {zv : Int32} {zw : AW} {v1 : Int32} {v2 : Int32} {v3 : Int32} {w : AW} (hf : mX5_logic v1 v2 v3 w = some (zv, zw)) : am_Met false KX5_logic [vR 0 0, vI v1, vI v2, vI v3] w (some (vI zv), zw) := am_met mok_X5_logic.1 (Nat.le_of_ble_eq_true rfl) (ok_mX5_logic  hf)

/-! SeenWorlds.falls(III)I -/
noncomputable def mX5_falls (v1 : Int32) (v2 : Int32) (v3 : Int32) (w : AW) : Option (Int32 × AW) :=
  cl (mX5_sentence v1 w) fun x_2 w_1 =>
  nS x_2
    (some ((-1), w_1))
    fun o_3 =>
    cl (mX5_isLogic v2 w_1) fun x_5 w_4 =>
    if x_5 = 0 then
      some ((-1), w_4)
    else
      if v3 < 0 then
        some ((-1), w_4)
      else
        cl (mX3_howMany o_3 v2 w_4) fun x_7 w_6 =>
        if (lg_cmp v3.toInt64 x_7) < 0 then
          cl (mX3_sortOut o_3 v2 w_6) fun x_9 w_8 =>
          if x_9 ≠ 0 then
            cl (mX3_fallOf v3 w_8) fun x_11 w_10 =>
            some (x_11, w_10)
          else
            some ((-2), w_8)
        else
          some ((-1), w_6)
set_option maxRecDepth 100000 in
set_option maxHeartbeats 4000000 in
theorem ok_mX5_falls {zv : Int32} {zw : AW} {v1 : Int32} {v2 : Int32} {v3 : Int32} {w : AW} (hf : mX5_falls v1 v2 v3 w = some (zv, zw)) : RR false KX5_falls (some (vI zv), zw) 0 [some (vR 0 0), some (vI v1), some (vI v2), some (vI v3), none] [] w := by
  refine r_aload_n dX5_falls_0 rfl rfl ?_
  refine r_iload_n dX5_falls_1 rfl rfl ?_
  obtain ⟨x_2, w_1, hc, hf⟩ := cl_some hf
  refine g_cV (st := []) KX5_sentence [vI v1] dX5_falls_2 e_RX5_117 (cl_false_0) (rfl : vwCl[5]? = _) rfl mok_X5_sentence mw_X5_sentence ⟨Nat.le_of_ble_eq_true rfl, Nat.le_of_ble_eq_true rfl⟩ (met_X5_sentence hc) rfl (Nat.le_of_ble_eq_true rfl) ?_
  clear hc
  refine r_astore (ls2 := [some (vR 0 0), some (vI v1), some (vI v2), some (vI v3), some (vO x_2)]) dX5_falls_5 rfl rfl (Nat.le_of_ble_eq_true rfl) ?_
  refine r_aload dX5_falls_7 rfl ?_
  refine g_ifnullS (tgt := 39) dX5_falls_9 rfl hf (fun eN hg => ?_) (fun o_3 eS ho_3 hg => ?_)
  · clear hf
    subst eN
    have hf := hg
    clear hg
    refine r_iconst dX5_falls_39 ic_m1 ?_
    exact r_iret dX5_falls_40 rfl (ret_I hf)
  · clear hf
    subst eS
    have hf := hg
    clear hg
    refine r_iload_n dX5_falls_12 rfl rfl ?_
    obtain ⟨x_5, w_4, hc, hf⟩ := cl_some hf
    refine g_cS (st := []) KX5_isLogic [vI v2] dX5_falls_13 e_RX5_170 mok_X5_isLogic mw_X5_isLogic ⟨Nat.le_of_ble_eq_true rfl, Nat.le_of_ble_eq_true rfl⟩ (met_X5_isLogic hc) rfl (Nat.le_of_ble_eq_true rfl) ?_
    clear hc
    refine g_if_eq (tgt := 39) dX5_falls_16 rfl hf (fun _ hf => ?_) (fun _ hf => ?_)
    · refine r_iconst dX5_falls_39 ic_m1 ?_
      exact r_iret dX5_falls_40 rfl (ret_I hf)
    · refine r_iload_n dX5_falls_19 rfl rfl ?_
      refine g_if_lt (tgt := 39) dX5_falls_20 rfl hf (fun _ hf => ?_) (fun _ hf => ?_)
      · refine r_iconst dX5_falls_39 ic_m1 ?_
        exact r_iret dX5_falls_40 rfl (ret_I hf)
      · refine r_iload_n dX5_falls_23 rfl rfl ?_
        refine r_i2l dX5_falls_24 ?_
        refine r_aload_n dX5_falls_25 rfl rfl ?_
        refine r_getO dX5_falls_26 fl_RX5_33 fk_5_3 (cl_false_0) ?_
        refine r_aload dX5_falls_29 rfl ?_
        refine r_iload_n dX5_falls_31 rfl rfl ?_
        obtain ⟨x_7, w_6, hc, hf⟩ := cl_some hf
        refine g_cV (st := [vL v3.toInt64]) KX3_howMany [vR o_3 0, vI v2] dX5_falls_32 e_RX5_180 (cl_false_4) (rfl : vwCl[3]? = _) rfl mok_X3_howMany mw_X3_howMany ⟨Nat.le_of_ble_eq_true rfl, Nat.le_of_ble_eq_true rfl⟩ (met_X3_howMany ho_3 hc) rfl (Nat.le_of_ble_eq_true rfl) ?_
        clear hc
        refine r_lcmp dX5_falls_35 ?_
        refine g_if_lt (tgt := 41) dX5_falls_36 rfl hf (fun _ hf => ?_) (fun _ hf => ?_)
        · refine r_aload_n dX5_falls_41 rfl rfl ?_
          refine r_getO dX5_falls_42 fl_RX5_33 fk_5_3 (cl_false_0) ?_
          refine r_aload dX5_falls_45 rfl ?_
          refine r_iload_n dX5_falls_47 rfl rfl ?_
          obtain ⟨x_9, w_8, hc, hf⟩ := cl_some hf
          refine g_cV (st := []) KX3_sortOut [vR o_3 0, vI v2] dX5_falls_48 e_RX5_173 (cl_false_4) (rfl : vwCl[3]? = _) rfl mok_X3_sortOut mw_X3_sortOut ⟨Nat.le_of_ble_eq_true rfl, Nat.le_of_ble_eq_true rfl⟩ (met_X3_sortOut ho_3 hc) rfl (Nat.le_of_ble_eq_true rfl) ?_
          clear hc
          refine g_if_ne (tgt := 57) dX5_falls_51 rfl hf (fun _ hf => ?_) (fun _ hf => ?_)
          · refine r_aload_n dX5_falls_57 rfl rfl ?_
            refine r_getO dX5_falls_58 fl_RX5_33 fk_5_3 (cl_false_0) ?_
            refine r_iload_n dX5_falls_61 rfl rfl ?_
            obtain ⟨x_11, w_10, hc, hf⟩ := cl_some hf
            refine g_cV (st := []) KX3_fallOf [vI v3] dX5_falls_62 e_RX5_184 (cl_false_4) (rfl : vwCl[3]? = _) rfl mok_X3_fallOf mw_X3_fallOf ⟨Nat.le_of_ble_eq_true rfl, Nat.le_of_ble_eq_true rfl⟩ (met_X3_fallOf hc) rfl (Nat.le_of_ble_eq_true rfl) ?_
            clear hc
            exact r_iret dX5_falls_65 rfl (ret_I hf)
          · refine r_bipush dX5_falls_54 (bp_m2) ?_
            exact r_iret dX5_falls_56 rfl (ret_I hf)
        · refine r_iconst dX5_falls_39 ic_m1 ?_
          exact r_iret dX5_falls_40 rfl (ret_I hf)
theorem met_X5_falls {zv : Int32} {zw : AW} {v1 : Int32} {v2 : Int32} {v3 : Int32} {w : AW} (hf : mX5_falls v1 v2 v3 w = some (zv, zw)) : am_Met false KX5_falls [vR 0 0, vI v1, vI v2, vI v3] w (some (vI zv), zw) := am_met mok_X5_falls.1 (Nat.le_of_ble_eq_true rfl) (ok_mX5_falls  hf)

/-! SeenWorlds.follows(III)I -/
noncomputable def mX5_follows (v1 : Int32) (v2 : Int32) (v3 : Int32) (w : AW) : Option (Int32 × AW) :=
  cl (mX5_sentence v1 w) fun x_2 w_1 =>
  cl (mX5_sentence v2 w_1) fun x_4 w_3 =>
  nS x_2
    (some ((-1), w_3))
    fun o_5 =>
    nS x_4
      (some ((-1), w_3))
      fun o_6 =>
      cl (mX5_isLogic v3 w_3) fun x_8 w_7 =>
      if x_8 ≠ 0 then
        cl (mX2_begin 5 w_7) fun x_10 w_9 =>
        cl (mX2_takeIn 5 o_5 0 7 w_9) fun x_12 w_11 =>
        cl (mX2_takeIn 5 o_6 0 7 w_11) fun x_14 w_13 =>
        cl (mX2_part 5 62 x_12 x_14 0 w_13) fun x_16 w_15 =>
        cl (mX3_sortOut 5 v3 w_15) fun x_18 w_17 =>
        if x_18 ≠ 0 then
          cl (mX3_answer 1 w_17) fun x_20 w_19 =>
          some (x_20, w_19)
        else
          some ((-2), w_17)
      else
        some ((-1), w_7)
set_option maxRecDepth 100000 in
set_option maxHeartbeats 4000000 in
theorem ok_mX5_follows {zv : Int32} {zw : AW} {v1 : Int32} {v2 : Int32} {v3 : Int32} {w : AW} (hf : mX5_follows v1 v2 v3 w = some (zv, zw)) : RR false KX5_follows (some (vI zv), zw) 0 [some (vR 0 0), some (vI v1), some (vI v2), some (vI v3), none, none, none, none] [] w := by
  refine r_aload_n dX5_follows_0 rfl rfl ?_
  refine r_iload_n dX5_follows_1 rfl rfl ?_
  obtain ⟨x_2, w_1, hc, hf⟩ := cl_some hf
  refine g_cV (st := []) KX5_sentence [vI v1] dX5_follows_2 e_RX5_117 (cl_false_0) (rfl : vwCl[5]? = _) rfl mok_X5_sentence mw_X5_sentence ⟨Nat.le_of_ble_eq_true rfl, Nat.le_of_ble_eq_true rfl⟩ (met_X5_sentence hc) rfl (Nat.le_of_ble_eq_true rfl) ?_
  clear hc
  refine r_astore (ls2 := [some (vR 0 0), some (vI v1), some (vI v2), some (vI v3), some (vO x_2), none, none, none]) dX5_follows_5 rfl rfl (Nat.le_of_ble_eq_true rfl) ?_
  refine r_aload_n dX5_follows_7 rfl rfl ?_
  refine r_iload_n dX5_follows_8 rfl rfl ?_
  obtain ⟨x_4, w_3, hc, hf⟩ := cl_some hf
  refine g_cV (st := []) KX5_sentence [vI v2] dX5_follows_9 e_RX5_117 (cl_false_0) (rfl : vwCl[5]? = _) rfl mok_X5_sentence mw_X5_sentence ⟨Nat.le_of_ble_eq_true rfl, Nat.le_of_ble_eq_true rfl⟩ (met_X5_sentence hc) rfl (Nat.le_of_ble_eq_true rfl) ?_
  clear hc
  refine r_astore (ls2 := [some (vR 0 0), some (vI v1), some (vI v2), some (vI v3), some (vO x_2), some (vO x_4), none, none]) dX5_follows_12 rfl rfl (Nat.le_of_ble_eq_true rfl) ?_
  refine r_aload dX5_follows_14 rfl ?_
  refine g_ifnullS (tgt := 31) dX5_follows_16 rfl hf (fun eN hg => ?_) (fun o_5 eS ho_5 hg => ?_)
  · clear hf
    subst eN
    have hf := hg
    clear hg
    refine r_iconst dX5_follows_31 ic_m1 ?_
    exact r_iret dX5_follows_32 rfl (ret_I hf)
  · clear hf
    subst eS
    have hf := hg
    clear hg
    refine r_aload dX5_follows_19 rfl ?_
    refine g_ifnullS (tgt := 31) dX5_follows_21 rfl hf (fun eN hg => ?_) (fun o_6 eS ho_6 hg => ?_)
    · clear hf
      subst eN
      have hf := hg
      clear hg
      refine r_iconst dX5_follows_31 ic_m1 ?_
      exact r_iret dX5_follows_32 rfl (ret_I hf)
    · clear hf
      subst eS
      have hf := hg
      clear hg
      refine r_iload_n dX5_follows_24 rfl rfl ?_
      obtain ⟨x_8, w_7, hc, hf⟩ := cl_some hf
      refine g_cS (st := []) KX5_isLogic [vI v3] dX5_follows_25 e_RX5_170 mok_X5_isLogic mw_X5_isLogic ⟨Nat.le_of_ble_eq_true rfl, Nat.le_of_ble_eq_true rfl⟩ (met_X5_isLogic hc) rfl (Nat.le_of_ble_eq_true rfl) ?_
      clear hc
      refine g_if_ne (tgt := 33) dX5_follows_28 rfl hf (fun _ hf => ?_) (fun _ hf => ?_)
      · refine r_aload_n dX5_follows_33 rfl rfl ?_
        refine r_getO dX5_follows_34 fl_RX5_46 fk_5_5 (cl_false_0) ?_
        obtain ⟨x_10, w_9, hc, hf⟩ := cl_some hf
        refine g_cVv (st := []) KX2_begin [] dX5_follows_37 e_RX5_187 (cl_false_5) (rfl : vwCl[2]? = _) rfl mok_X2_begin mw_X2_begin ⟨Nat.le_of_ble_eq_true rfl, Nat.le_of_ble_eq_true rfl⟩ (met_X2_begin (rfl : am_cls false 5 = 2) hc) rfl (Nat.le_of_ble_eq_true rfl) ?_
        clear hc
        refine r_aload_n dX5_follows_40 rfl rfl ?_
        refine r_getO dX5_follows_41 fl_RX5_46 fk_5_5 (cl_false_0) ?_
        refine r_aload dX5_follows_44 rfl ?_
        refine r_aload_n dX5_follows_46 rfl rfl ?_
        refine g_getA dX5_follows_47 fl_RX5_50 fk_5_6 rfl (cl_false_0) ?_
        obtain ⟨x_12, w_11, hc, hf⟩ := cl_some hf
        refine g_cV (st := []) KX2_takeIn [vR o_5 0, vR 0 7] dX5_follows_50 e_RX5_189 (cl_false_5) (rfl : vwCl[2]? = _) rfl mok_X2_takeIn mw_X2_takeIn ⟨Nat.le_of_ble_eq_true rfl, Nat.le_of_ble_eq_true rfl⟩ (met_X2_takeIn (rfl : am_cls false 5 = 2) ho_5 aK_false_0_7 hc) rfl (Nat.le_of_ble_eq_true rfl) ?_
        clear hc
        refine r_istore (ls2 := [some (vR 0 0), some (vI v1), some (vI v2), some (vI v3), some (vR o_5 0), some (vR o_6 0), some (vI x_12), none]) dX5_follows_53 rfl rfl (Nat.le_of_ble_eq_true rfl) ?_
        refine r_aload_n dX5_follows_55 rfl rfl ?_
        refine r_getO dX5_follows_56 fl_RX5_46 fk_5_5 (cl_false_0) ?_
        refine r_aload dX5_follows_59 rfl ?_
        refine r_aload_n dX5_follows_61 rfl rfl ?_
        refine g_getA dX5_follows_62 fl_RX5_50 fk_5_6 rfl (cl_false_0) ?_
        obtain ⟨x_14, w_13, hc, hf⟩ := cl_some hf
        refine g_cV (st := []) KX2_takeIn [vR o_6 0, vR 0 7] dX5_follows_65 e_RX5_189 (cl_false_5) (rfl : vwCl[2]? = _) rfl mok_X2_takeIn mw_X2_takeIn ⟨Nat.le_of_ble_eq_true rfl, Nat.le_of_ble_eq_true rfl⟩ (met_X2_takeIn (rfl : am_cls false 5 = 2) ho_6 aK_false_0_7 hc) rfl (Nat.le_of_ble_eq_true rfl) ?_
        clear hc
        refine r_istore (ls2 := [some (vR 0 0), some (vI v1), some (vI v2), some (vI v3), some (vR o_5 0), some (vR o_6 0), some (vI x_12), some (vI x_14)]) dX5_follows_68 rfl rfl (Nat.le_of_ble_eq_true rfl) ?_
        refine r_aload_n dX5_follows_70 rfl rfl ?_
        refine r_getO dX5_follows_71 fl_RX5_46 fk_5_5 (cl_false_0) ?_
        refine r_bipush dX5_follows_74 (bp_62) ?_
        refine r_iload dX5_follows_76 rfl ?_
        refine r_iload dX5_follows_78 rfl ?_
        refine r_iconst dX5_follows_80 ic_0 ?_
        obtain ⟨x_16, w_15, hc, hf⟩ := cl_some hf
        refine g_cV (st := []) KX2_part [vI 62, vI x_12, vI x_14, vI 0] dX5_follows_81 e_RX5_193 (cl_false_5) (rfl : vwCl[2]? = _) rfl mok_X2_part mw_X2_part ⟨Nat.le_of_ble_eq_true rfl, Nat.le_of_ble_eq_true rfl⟩ (met_X2_part (rfl : am_cls false 5 = 2) hc) rfl (Nat.le_of_ble_eq_true rfl) ?_
        clear hc
        refine r_pop dX5_follows_84 rfl ?_
        refine r_aload_n dX5_follows_85 rfl rfl ?_
        refine r_getO dX5_follows_86 fl_RX5_33 fk_5_3 (cl_false_0) ?_
        refine r_aload_n dX5_follows_89 rfl rfl ?_
        refine r_getO dX5_follows_90 fl_RX5_46 fk_5_5 (cl_false_0) ?_
        refine r_iload_n dX5_follows_93 rfl rfl ?_
        obtain ⟨x_18, w_17, hc, hf⟩ := cl_some hf
        refine g_cV (st := []) KX3_sortOut [vR 5 0, vI v3] dX5_follows_94 e_RX5_173 (cl_false_4) (rfl : vwCl[3]? = _) rfl mok_X3_sortOut mw_X3_sortOut ⟨Nat.le_of_ble_eq_true rfl, Nat.le_of_ble_eq_true rfl⟩ (met_X3_sortOut (rfl : am_cls false 5 = 2) hc) rfl (Nat.le_of_ble_eq_true rfl) ?_
        clear hc
        refine g_if_ne (tgt := 103) dX5_follows_97 rfl hf (fun _ hf => ?_) (fun _ hf => ?_)
        · refine r_aload_n dX5_follows_103 rfl rfl ?_
          refine r_getO dX5_follows_104 fl_RX5_33 fk_5_3 (cl_false_0) ?_
          refine r_iconst dX5_follows_107 ic_1 ?_
          obtain ⟨x_20, w_19, hc, hf⟩ := cl_some hf
          refine g_cV (st := []) KX3_answer [vI 1] dX5_follows_108 e_RX5_177 (cl_false_4) (rfl : vwCl[3]? = _) rfl mok_X3_answer mw_X3_answer ⟨Nat.le_of_ble_eq_true rfl, Nat.le_of_ble_eq_true rfl⟩ (met_X3_answer hc) rfl (Nat.le_of_ble_eq_true rfl) ?_
          clear hc
          exact r_iret dX5_follows_111 rfl (ret_I hf)
        · refine r_bipush dX5_follows_100 (bp_m2) ?_
          exact r_iret dX5_follows_102 rfl (ret_I hf)
      · refine r_iconst dX5_follows_31 ic_m1 ?_
        exact r_iret dX5_follows_32 rfl (ret_I hf)
theorem met_X5_follows {zv : Int32} {zw : AW} {v1 : Int32} {v2 : Int32} {v3 : Int32} {w : AW} (hf : mX5_follows v1 v2 v3 w = some (zv, zw)) : am_Met false KX5_follows [vR 0 0, vI v1, vI v2, vI v3] w (some (vI zv), zw) := am_met mok_X5_follows.1 (Nat.le_of_ble_eq_true rfl) (ok_mX5_follows  hf)

/-! SeenWorlds.heaps(I)I -/
noncomputable def mX5_heaps (v1 : Int32) (w : AW) : Option (Int32 × AW) :=
  cl (mX5_isSort v1 w) fun x_2 w_1 =>
  if x_2 ≠ 0 then
    cl (mX4_look v1 w_1) fun x_4 w_3 =>
    cl (mX4_heapUp w_3) fun x_6 w_5 =>
    cl (mX4_howManyHeaps w_5) fun x_8 w_7 =>
    some (x_8, w_7)
  else
    some ((-1), w_1)
set_option maxRecDepth 100000 in
set_option maxHeartbeats 4000000 in
theorem ok_mX5_heaps {zv : Int32} {zw : AW} {v1 : Int32} {w : AW} (hf : mX5_heaps v1 w = some (zv, zw)) : RR false KX5_heaps (some (vI zv), zw) 0 [some (vR 0 0), some (vI v1)] [] w := by
  refine r_iload_n dX5_heaps_0 rfl rfl ?_
  obtain ⟨x_2, w_1, hc, hf⟩ := cl_some hf
  refine g_cS (st := []) KX5_isSort [vI v1] dX5_heaps_1 e_RX5_108 mok_X5_isSort mw_X5_isSort ⟨Nat.le_of_ble_eq_true rfl, Nat.le_of_ble_eq_true rfl⟩ (met_X5_isSort hc) rfl (Nat.le_of_ble_eq_true rfl) ?_
  clear hc
  refine g_if_ne (tgt := 9) dX5_heaps_4 rfl hf (fun _ hf => ?_) (fun _ hf => ?_)
  · refine r_aload_n dX5_heaps_9 rfl rfl ?_
    refine r_getO dX5_heaps_10 fl_RX5_19 fk_5_1 (cl_false_0) ?_
    refine r_aload_n dX5_heaps_13 rfl rfl ?_
    refine r_getO dX5_heaps_14 fl_RX5_12 fk_5_0 (cl_false_0) ?_
    refine r_iload_n dX5_heaps_17 rfl rfl ?_
    obtain ⟨x_4, w_3, hc, hf⟩ := cl_some hf
    refine g_cVv (st := []) KX4_look [vR 1 0, vI v1] dX5_heaps_18 e_RX5_158 (cl_false_2) (rfl : vwCl[4]? = _) rfl mok_X4_look mw_X4_look ⟨Nat.le_of_ble_eq_true rfl, Nat.le_of_ble_eq_true rfl⟩ (met_X4_look hc) rfl (Nat.le_of_ble_eq_true rfl) ?_
    clear hc
    refine r_aload_n dX5_heaps_21 rfl rfl ?_
    refine r_getO dX5_heaps_22 fl_RX5_19 fk_5_1 (cl_false_0) ?_
    refine r_aload_n dX5_heaps_25 rfl rfl ?_
    refine r_getO dX5_heaps_26 fl_RX5_12 fk_5_0 (cl_false_0) ?_
    obtain ⟨x_6, w_5, hc, hf⟩ := cl_some hf
    refine g_cVv (st := []) KX4_heapUp [vR 1 0] dX5_heaps_29 e_RX5_197 (cl_false_2) (rfl : vwCl[4]? = _) rfl mok_X4_heapUp mw_X4_heapUp ⟨Nat.le_of_ble_eq_true rfl, Nat.le_of_ble_eq_true rfl⟩ (met_X4_heapUp hc) rfl (Nat.le_of_ble_eq_true rfl) ?_
    clear hc
    refine r_aload_n dX5_heaps_32 rfl rfl ?_
    refine r_getO dX5_heaps_33 fl_RX5_19 fk_5_1 (cl_false_0) ?_
    obtain ⟨x_8, w_7, hc, hf⟩ := cl_some hf
    refine g_cV (st := []) KX4_howManyHeaps [] dX5_heaps_36 e_RX5_201 (cl_false_2) (rfl : vwCl[4]? = _) rfl mok_X4_howManyHeaps mw_X4_howManyHeaps ⟨Nat.le_of_ble_eq_true rfl, Nat.le_of_ble_eq_true rfl⟩ (met_X4_howManyHeaps hc) rfl (Nat.le_of_ble_eq_true rfl) ?_
    clear hc
    exact r_iret dX5_heaps_39 rfl (ret_I hf)
  · refine r_iconst dX5_heaps_7 ic_m1 ?_
    exact r_iret dX5_heaps_8 rfl (ret_I hf)
theorem met_X5_heaps {zv : Int32} {zw : AW} {v1 : Int32} {w : AW} (hf : mX5_heaps v1 w = some (zv, zw)) : am_Met false KX5_heaps [vR 0 0, vI v1] w (some (vI zv), zw) := am_met mok_X5_heaps.1 (Nat.le_of_ble_eq_true rfl) (ok_mX5_heaps  hf)

/-! SeenWorlds.depthApart(III)I -/
noncomputable def mX5_depthApart (v1 : Int32) (v2 : Int32) (v3 : Int32) (w : AW) : Option (Int32 × AW) :=
  cl (mX4_look v3 w) fun x_2 w_1 =>
  cl (mX4_depthApart v1 v2 w_1) fun x_4 w_3 =>
  some (x_4, w_3)
set_option maxRecDepth 100000 in
set_option maxHeartbeats 4000000 in
theorem ok_mX5_depthApart {zv : Int32} {zw : AW} {v1 : Int32} {v2 : Int32} {v3 : Int32} {w : AW} (hf : mX5_depthApart v1 v2 v3 w = some (zv, zw)) : RR false KX5_depthApart (some (vI zv), zw) 0 [some (vR 0 0), some (vI v1), some (vI v2), some (vI v3)] [] w := by
  refine r_aload_n dX5_depthApart_0 rfl rfl ?_
  refine r_getO dX5_depthApart_1 fl_RX5_19 fk_5_1 (cl_false_0) ?_
  refine r_aload_n dX5_depthApart_4 rfl rfl ?_
  refine r_getO dX5_depthApart_5 fl_RX5_12 fk_5_0 (cl_false_0) ?_
  refine r_iload_n dX5_depthApart_8 rfl rfl ?_
  obtain ⟨x_2, w_1, hc, hf⟩ := cl_some hf
  refine g_cVv (st := []) KX4_look [vR 1 0, vI v3] dX5_depthApart_9 e_RX5_158 (cl_false_2) (rfl : vwCl[4]? = _) rfl mok_X4_look mw_X4_look ⟨Nat.le_of_ble_eq_true rfl, Nat.le_of_ble_eq_true rfl⟩ (met_X4_look hc) rfl (Nat.le_of_ble_eq_true rfl) ?_
  clear hc
  refine r_aload_n dX5_depthApart_12 rfl rfl ?_
  refine r_getO dX5_depthApart_13 fl_RX5_19 fk_5_1 (cl_false_0) ?_
  refine r_aload_n dX5_depthApart_16 rfl rfl ?_
  refine r_getO dX5_depthApart_17 fl_RX5_12 fk_5_0 (cl_false_0) ?_
  refine r_iload_n dX5_depthApart_20 rfl rfl ?_
  refine r_iload_n dX5_depthApart_21 rfl rfl ?_
  obtain ⟨x_4, w_3, hc, hf⟩ := cl_some hf
  refine g_cV (st := []) KX4_depthApart [vR 1 0, vI v1, vI v2] dX5_depthApart_22 e_RX5_223 (cl_false_2) (rfl : vwCl[4]? = _) rfl mok_X4_depthApart mw_X4_depthApart ⟨Nat.le_of_ble_eq_true rfl, Nat.le_of_ble_eq_true rfl⟩ (met_X4_depthApart hc) rfl (Nat.le_of_ble_eq_true rfl) ?_
  clear hc
  exact r_iret dX5_depthApart_25 rfl (ret_I hf)
theorem met_X5_depthApart {zv : Int32} {zw : AW} {v1 : Int32} {v2 : Int32} {v3 : Int32} {w : AW} (hf : mX5_depthApart v1 v2 v3 w = some (zv, zw)) : am_Met false KX5_depthApart [vR 0 0, vI v1, vI v2, vI v3] w (some (vI zv), zw) := am_met mok_X5_depthApart.1 (Nat.le_of_ble_eq_true rfl) (ok_mX5_depthApart  hf)

/-! SeenWorlds.alike(III)I -/
noncomputable def mX5_alike_48 (s0 : Int32) (w : AW) : Option (Int32 × AW) :=
  cl (mX5_whether s0 w) fun x_2 w_1 =>
  some (x_2, w_1)
noncomputable def mX5_alike (v1 : Int32) (v2 : Int32) (v3 : Int32) (w : AW) : Option (Int32 × AW) :=
  cl (mX0_has v1 w) fun x_2 w_1 =>
  if x_2 = 0 then
    some ((-1), w_1)
  else
    cl (mX0_has v2 w_1) fun x_4 w_3 =>
    if x_4 = 0 then
      some ((-1), w_3)
    else
      cl (mX5_isSort v3 w_3) fun x_6 w_5 =>
      if x_6 ≠ 0 then
        cl (mX5_depthApart v1 v2 v3 w_5) fun x_8 w_7 =>
        if x_8 ≠ (-9) then
          mX5_alike_48 0 w_7
        else
          mX5_alike_48 1 w_7
      else
        some ((-1), w_5)
set_option maxRecDepth 100000 in
set_option maxHeartbeats 4000000 in
theorem ok_mX5_alike_48 {zv : Int32} {zw : AW} {s0 : Int32} {w : AW} (hf : mX5_alike_48 s0 w = some (zv, zw)) : RR false KX5_alike (some (vI zv), zw) 48 [none, none, none, none] [vI s0] w := by
  obtain ⟨x_2, w_1, hc, hf⟩ := cl_some hf
  refine g_cS (st := []) KX5_whether [vI s0] dX5_alike_48 e_RX5_144 mok_X5_whether mw_X5_whether ⟨Nat.le_of_ble_eq_true rfl, Nat.le_of_ble_eq_true rfl⟩ (met_X5_whether hc) rfl (Nat.le_of_ble_eq_true rfl) ?_
  clear hc
  exact r_iret dX5_alike_51 rfl (ret_I hf)
set_option maxRecDepth 100000 in
set_option maxHeartbeats 4000000 in
theorem ok_mX5_alike {zv : Int32} {zw : AW} {v1 : Int32} {v2 : Int32} {v3 : Int32} {w : AW} (hf : mX5_alike v1 v2 v3 w = some (zv, zw)) : RR false KX5_alike (some (vI zv), zw) 0 [some (vR 0 0), some (vI v1), some (vI v2), some (vI v3)] [] w := by
  refine r_aload_n dX5_alike_0 rfl rfl ?_
  refine r_getO dX5_alike_1 fl_RX5_12 fk_5_0 (cl_false_0) ?_
  refine r_iload_n dX5_alike_4 rfl rfl ?_
  obtain ⟨x_2, w_1, hc, hf⟩ := cl_some hf
  refine g_cV (st := []) KX0_has [vI v1] dX5_alike_5 e_RX5_75 (cl_false_1) (rfl : vwCl[0]? = _) rfl mok_X0_has mw_X0_has ⟨Nat.le_of_ble_eq_true rfl, Nat.le_of_ble_eq_true rfl⟩ (met_X0_has hc) rfl (Nat.le_of_ble_eq_true rfl) ?_
  clear hc
  refine g_if_eq (tgt := 29) dX5_alike_8 rfl hf (fun _ hf => ?_) (fun _ hf => ?_)
  · refine r_iconst dX5_alike_29 ic_m1 ?_
    exact r_iret dX5_alike_30 rfl (ret_I hf)
  · refine r_aload_n dX5_alike_11 rfl rfl ?_
    refine r_getO dX5_alike_12 fl_RX5_12 fk_5_0 (cl_false_0) ?_
    refine r_iload_n dX5_alike_15 rfl rfl ?_
    obtain ⟨x_4, w_3, hc, hf⟩ := cl_some hf
    refine g_cV (st := []) KX0_has [vI v2] dX5_alike_16 e_RX5_75 (cl_false_1) (rfl : vwCl[0]? = _) rfl mok_X0_has mw_X0_has ⟨Nat.le_of_ble_eq_true rfl, Nat.le_of_ble_eq_true rfl⟩ (met_X0_has hc) rfl (Nat.le_of_ble_eq_true rfl) ?_
    clear hc
    refine g_if_eq (tgt := 29) dX5_alike_19 rfl hf (fun _ hf => ?_) (fun _ hf => ?_)
    · refine r_iconst dX5_alike_29 ic_m1 ?_
      exact r_iret dX5_alike_30 rfl (ret_I hf)
    · refine r_iload_n dX5_alike_22 rfl rfl ?_
      obtain ⟨x_6, w_5, hc, hf⟩ := cl_some hf
      refine g_cS (st := []) KX5_isSort [vI v3] dX5_alike_23 e_RX5_108 mok_X5_isSort mw_X5_isSort ⟨Nat.le_of_ble_eq_true rfl, Nat.le_of_ble_eq_true rfl⟩ (met_X5_isSort hc) rfl (Nat.le_of_ble_eq_true rfl) ?_
      clear hc
      refine g_if_ne (tgt := 31) dX5_alike_26 rfl hf (fun _ hf => ?_) (fun _ hf => ?_)
      · refine r_aload_n dX5_alike_31 rfl rfl ?_
        refine r_iload_n dX5_alike_32 rfl rfl ?_
        refine r_iload_n dX5_alike_33 rfl rfl ?_
        refine r_iload_n dX5_alike_34 rfl rfl ?_
        obtain ⟨x_8, w_7, hc, hf⟩ := cl_some hf
        refine g_cV (st := []) KX5_depthApart [vI v1, vI v2, vI v3] dX5_alike_35 e_RX5_204 (cl_false_0) (rfl : vwCl[5]? = _) rfl mok_X5_depthApart mw_X5_depthApart ⟨Nat.le_of_ble_eq_true rfl, Nat.le_of_ble_eq_true rfl⟩ (met_X5_depthApart hc) rfl (Nat.le_of_ble_eq_true rfl) ?_
        clear hc
        refine r_bipush dX5_alike_38 (bp_m9) ?_
        refine g_icmp_ne (tgt := 47) dX5_alike_40 rfl hf (fun _ hf => ?_) (fun _ hf => ?_)
        · refine r_iconst dX5_alike_47 ic_0 ?_
          refine r_mask (bs := [false, false, false, false]) ?_
          exact ok_mX5_alike_48 hf
        · refine r_iconst dX5_alike_43 ic_1 ?_
          refine r_goto (tgt := 48) dX5_alike_44 rfl ?_
          refine r_mask (bs := [false, false, false, false]) ?_
          exact ok_mX5_alike_48 hf
      · refine r_iconst dX5_alike_29 ic_m1 ?_
        exact r_iret dX5_alike_30 rfl (ret_I hf)
theorem met_X5_alike {zv : Int32} {zw : AW} {v1 : Int32} {v2 : Int32} {v3 : Int32} {w : AW} (hf : mX5_alike v1 v2 v3 w = some (zv, zw)) : am_Met false KX5_alike [vR 0 0, vI v1, vI v2, vI v3] w (some (vI zv), zw) := am_met mok_X5_alike.1 (Nat.le_of_ble_eq_true rfl) (ok_mX5_alike  hf)

/-! SeenWorlds.apart(III)I -/
noncomputable def mX5_apart (v1 : Int32) (v2 : Int32) (v3 : Int32) (w : AW) : Option (Int32 × AW) :=
  cl (mX0_has v1 w) fun x_2 w_1 =>
  if x_2 = 0 then
    some ((-1), w_1)
  else
    cl (mX0_has v2 w_1) fun x_4 w_3 =>
    if x_4 = 0 then
      some ((-1), w_3)
    else
      cl (mX5_isSort v3 w_3) fun x_6 w_5 =>
      if x_6 ≠ 0 then
        cl (mX5_depthApart v1 v2 v3 w_5) fun x_8 w_7 =>
        some (x_8, w_7)
      else
        some ((-1), w_5)
set_option maxRecDepth 100000 in
set_option maxHeartbeats 4000000 in
theorem ok_mX5_apart {zv : Int32} {zw : AW} {v1 : Int32} {v2 : Int32} {v3 : Int32} {w : AW} (hf : mX5_apart v1 v2 v3 w = some (zv, zw)) : RR false KX5_apart (some (vI zv), zw) 0 [some (vR 0 0), some (vI v1), some (vI v2), some (vI v3)] [] w := by
  refine r_aload_n dX5_apart_0 rfl rfl ?_
  refine r_getO dX5_apart_1 fl_RX5_12 fk_5_0 (cl_false_0) ?_
  refine r_iload_n dX5_apart_4 rfl rfl ?_
  obtain ⟨x_2, w_1, hc, hf⟩ := cl_some hf
  refine g_cV (st := []) KX0_has [vI v1] dX5_apart_5 e_RX5_75 (cl_false_1) (rfl : vwCl[0]? = _) rfl mok_X0_has mw_X0_has ⟨Nat.le_of_ble_eq_true rfl, Nat.le_of_ble_eq_true rfl⟩ (met_X0_has hc) rfl (Nat.le_of_ble_eq_true rfl) ?_
  clear hc
  refine g_if_eq (tgt := 29) dX5_apart_8 rfl hf (fun _ hf => ?_) (fun _ hf => ?_)
  · refine r_iconst dX5_apart_29 ic_m1 ?_
    exact r_iret dX5_apart_30 rfl (ret_I hf)
  · refine r_aload_n dX5_apart_11 rfl rfl ?_
    refine r_getO dX5_apart_12 fl_RX5_12 fk_5_0 (cl_false_0) ?_
    refine r_iload_n dX5_apart_15 rfl rfl ?_
    obtain ⟨x_4, w_3, hc, hf⟩ := cl_some hf
    refine g_cV (st := []) KX0_has [vI v2] dX5_apart_16 e_RX5_75 (cl_false_1) (rfl : vwCl[0]? = _) rfl mok_X0_has mw_X0_has ⟨Nat.le_of_ble_eq_true rfl, Nat.le_of_ble_eq_true rfl⟩ (met_X0_has hc) rfl (Nat.le_of_ble_eq_true rfl) ?_
    clear hc
    refine g_if_eq (tgt := 29) dX5_apart_19 rfl hf (fun _ hf => ?_) (fun _ hf => ?_)
    · refine r_iconst dX5_apart_29 ic_m1 ?_
      exact r_iret dX5_apart_30 rfl (ret_I hf)
    · refine r_iload_n dX5_apart_22 rfl rfl ?_
      obtain ⟨x_6, w_5, hc, hf⟩ := cl_some hf
      refine g_cS (st := []) KX5_isSort [vI v3] dX5_apart_23 e_RX5_108 mok_X5_isSort mw_X5_isSort ⟨Nat.le_of_ble_eq_true rfl, Nat.le_of_ble_eq_true rfl⟩ (met_X5_isSort hc) rfl (Nat.le_of_ble_eq_true rfl) ?_
      clear hc
      refine g_if_ne (tgt := 31) dX5_apart_26 rfl hf (fun _ hf => ?_) (fun _ hf => ?_)
      · refine r_aload_n dX5_apart_31 rfl rfl ?_
        refine r_iload_n dX5_apart_32 rfl rfl ?_
        refine r_iload_n dX5_apart_33 rfl rfl ?_
        refine r_iload_n dX5_apart_34 rfl rfl ?_
        obtain ⟨x_8, w_7, hc, hf⟩ := cl_some hf
        refine g_cV (st := []) KX5_depthApart [vI v1, vI v2, vI v3] dX5_apart_35 e_RX5_204 (cl_false_0) (rfl : vwCl[5]? = _) rfl mok_X5_depthApart mw_X5_depthApart ⟨Nat.le_of_ble_eq_true rfl, Nat.le_of_ble_eq_true rfl⟩ (met_X5_depthApart hc) rfl (Nat.le_of_ble_eq_true rfl) ?_
        clear hc
        exact r_iret dX5_apart_38 rfl (ret_I hf)
      · refine r_iconst dX5_apart_29 ic_m1 ?_
        exact r_iret dX5_apart_30 rfl (ret_I hf)
theorem met_X5_apart {zv : Int32} {zw : AW} {v1 : Int32} {v2 : Int32} {v3 : Int32} {w : AW} (hf : mX5_apart v1 v2 v3 w = some (zv, zw)) : am_Met false KX5_apart [vR 0 0, vI v1, vI v2, vI v3] w (some (vI zv), zw) := am_met mok_X5_apart.1 (Nat.le_of_ble_eq_true rfl) (ok_mX5_apart  hf)

/-! SeenWorlds.growing()I -/
noncomputable def mX5_growing (w : AW) : Option (Int32 × AW) :=
  cl (mX0_isGrowing w) fun x_2 w_1 =>
  cl (mX5_whether x_2 w_1) fun x_4 w_3 =>
  some (x_4, w_3)
set_option maxRecDepth 100000 in
set_option maxHeartbeats 4000000 in
theorem ok_mX5_growing {zv : Int32} {zw : AW} {w : AW} (hf : mX5_growing w = some (zv, zw)) : RR false KX5_growing (some (vI zv), zw) 0 [some (vR 0 0)] [] w := by
  refine r_aload_n dX5_growing_0 rfl rfl ?_
  refine r_getO dX5_growing_1 fl_RX5_12 fk_5_0 (cl_false_0) ?_
  obtain ⟨x_2, w_1, hc, hf⟩ := cl_some hf
  refine g_cV (st := []) KX0_isGrowing [] dX5_growing_4 e_RX5_208 (cl_false_1) (rfl : vwCl[0]? = _) rfl mok_X0_isGrowing mw_X0_isGrowing ⟨Nat.le_of_ble_eq_true rfl, Nat.le_of_ble_eq_true rfl⟩ (met_X0_isGrowing hc) rfl (Nat.le_of_ble_eq_true rfl) ?_
  clear hc
  obtain ⟨x_4, w_3, hc, hf⟩ := cl_some hf
  refine g_cS (st := []) KX5_whether [vI x_2] dX5_growing_7 e_RX5_144 mok_X5_whether mw_X5_whether ⟨Nat.le_of_ble_eq_true rfl, Nat.le_of_ble_eq_true rfl⟩ (met_X5_whether hc) rfl (Nat.le_of_ble_eq_true rfl) ?_
  clear hc
  exact r_iret dX5_growing_10 rfl (ret_I hf)
theorem met_X5_growing {zv : Int32} {zw : AW} {w : AW} (hf : mX5_growing w = some (zv, zw)) : am_Met false KX5_growing [vR 0 0] w (some (vI zv), zw) := am_met mok_X5_growing.1 (Nat.le_of_ble_eq_true rfl) (ok_mX5_growing  hf)

/-! SeenWorlds.grows(I)I -/
noncomputable def mX5_grows (v1 : Int32) (w : AW) : Option (Int32 × AW) :=
  cl (mX5_sentence v1 w) fun x_2 w_1 =>
  nS x_2
    (some ((-1), w_1))
    fun o_3 =>
    cl (mX2_isPlain o_3 w_1) fun x_5 w_4 =>
    if x_5 = 0 then
      some ((-2), w_4)
    else
      cl (mX0_isGrowing w_4) fun x_7 w_6 =>
      if x_7 ≠ 0 then
        cl (mX4_look 2 w_6) fun x_9 w_8 =>
        cl (mX0_atoms w_8) fun x_11 w_10 =>
        cl (mX4_judge o_3 1 2 1 w_10) fun x_13 w_12 =>
        some (x_13, w_12)
      else
        some ((-2), w_6)
set_option maxRecDepth 100000 in
set_option maxHeartbeats 4000000 in
theorem ok_mX5_grows {zv : Int32} {zw : AW} {v1 : Int32} {w : AW} (hf : mX5_grows v1 w = some (zv, zw)) : RR false KX5_grows (some (vI zv), zw) 0 [some (vR 0 0), some (vI v1), none] [] w := by
  refine r_aload_n dX5_grows_0 rfl rfl ?_
  refine r_iload_n dX5_grows_1 rfl rfl ?_
  obtain ⟨x_2, w_1, hc, hf⟩ := cl_some hf
  refine g_cV (st := []) KX5_sentence [vI v1] dX5_grows_2 e_RX5_117 (cl_false_0) (rfl : vwCl[5]? = _) rfl mok_X5_sentence mw_X5_sentence ⟨Nat.le_of_ble_eq_true rfl, Nat.le_of_ble_eq_true rfl⟩ (met_X5_sentence hc) rfl (Nat.le_of_ble_eq_true rfl) ?_
  clear hc
  refine r_astore_n (ls2 := [some (vR 0 0), some (vI v1), some (vO x_2)]) dX5_grows_5 rfl rfl rfl (Nat.le_of_ble_eq_true rfl) ?_
  refine r_aload_n dX5_grows_6 rfl rfl ?_
  refine g_ifnonnullS (tgt := 12) dX5_grows_7 rfl hf (fun eN hg => ?_) (fun o_3 eS ho_3 hg => ?_)
  · clear hf
    subst eN
    have hf := hg
    clear hg
    refine r_iconst dX5_grows_10 ic_m1 ?_
    exact r_iret dX5_grows_11 rfl (ret_I hf)
  · clear hf
    subst eS
    have hf := hg
    clear hg
    refine r_aload_n dX5_grows_12 rfl rfl ?_
    obtain ⟨x_5, w_4, hc, hf⟩ := cl_some hf
    refine g_cV (st := []) KX2_isPlain [] dX5_grows_13 e_RX5_140 ho_3 (rfl : vwCl[2]? = _) rfl mok_X2_isPlain mw_X2_isPlain ⟨Nat.le_of_ble_eq_true rfl, Nat.le_of_ble_eq_true rfl⟩ (met_X2_isPlain ho_3 hc) rfl (Nat.le_of_ble_eq_true rfl) ?_
    clear hc
    refine g_if_eq (tgt := 29) dX5_grows_16 rfl hf (fun _ hf => ?_) (fun _ hf => ?_)
    · refine r_bipush dX5_grows_29 (bp_m2) ?_
      exact r_iret dX5_grows_31 rfl (ret_I hf)
    · refine r_aload_n dX5_grows_19 rfl rfl ?_
      refine r_getO dX5_grows_20 fl_RX5_12 fk_5_0 (cl_false_0) ?_
      obtain ⟨x_7, w_6, hc, hf⟩ := cl_some hf
      refine g_cV (st := []) KX0_isGrowing [] dX5_grows_23 e_RX5_208 (cl_false_1) (rfl : vwCl[0]? = _) rfl mok_X0_isGrowing mw_X0_isGrowing ⟨Nat.le_of_ble_eq_true rfl, Nat.le_of_ble_eq_true rfl⟩ (met_X0_isGrowing hc) rfl (Nat.le_of_ble_eq_true rfl) ?_
      clear hc
      refine g_if_ne (tgt := 32) dX5_grows_26 rfl hf (fun _ hf => ?_) (fun _ hf => ?_)
      · refine r_aload_n dX5_grows_32 rfl rfl ?_
        refine r_getO dX5_grows_33 fl_RX5_19 fk_5_1 (cl_false_0) ?_
        refine r_aload_n dX5_grows_36 rfl rfl ?_
        refine r_getO dX5_grows_37 fl_RX5_12 fk_5_0 (cl_false_0) ?_
        refine r_iconst dX5_grows_40 ic_2 ?_
        obtain ⟨x_9, w_8, hc, hf⟩ := cl_some hf
        refine g_cVv (st := []) KX4_look [vR 1 0, vI 2] dX5_grows_41 e_RX5_158 (cl_false_2) (rfl : vwCl[4]? = _) rfl mok_X4_look mw_X4_look ⟨Nat.le_of_ble_eq_true rfl, Nat.le_of_ble_eq_true rfl⟩ (met_X4_look hc) rfl (Nat.le_of_ble_eq_true rfl) ?_
        clear hc
        refine r_aload_n dX5_grows_44 rfl rfl ?_
        refine r_getO dX5_grows_45 fl_RX5_19 fk_5_1 (cl_false_0) ?_
        refine r_aload_n dX5_grows_48 rfl rfl ?_
        refine r_aload_n dX5_grows_49 rfl rfl ?_
        refine r_getO dX5_grows_50 fl_RX5_12 fk_5_0 (cl_false_0) ?_
        obtain ⟨x_11, w_10, hc, hf⟩ := cl_some hf
        refine g_cV (st := [vR o_3 0, vR 2 0]) KX0_atoms [] dX5_grows_53 e_RX5_96 (cl_false_1) (rfl : vwCl[0]? = _) rfl mok_X0_atoms mw_X0_atoms ⟨Nat.le_of_ble_eq_true rfl, Nat.le_of_ble_eq_true rfl⟩ (met_X0_atoms hc) rfl (Nat.le_of_ble_eq_true rfl) ?_
        clear hc
        refine r_iconst dX5_grows_56 ic_1 ?_
        obtain ⟨x_13, w_12, hc, hf⟩ := cl_some hf
        refine g_cV (st := []) KX4_judge [vR o_3 0, vR 1 2, vI 1] dX5_grows_57 e_RX5_166 (cl_false_2) (rfl : vwCl[4]? = _) rfl mok_X4_judge mw_X4_judge ⟨Nat.le_of_ble_eq_true rfl, Nat.le_of_ble_eq_true rfl⟩ (met_X4_judge ho_3 (am_iaW aK_false_1_2) hc) rfl (Nat.le_of_ble_eq_true rfl) ?_
        clear hc
        exact r_iret dX5_grows_60 rfl (ret_I hf)
      · refine r_bipush dX5_grows_29 (bp_m2) ?_
        exact r_iret dX5_grows_31 rfl (ret_I hf)
theorem met_X5_grows {zv : Int32} {zw : AW} {v1 : Int32} {w : AW} (hf : mX5_grows v1 w = some (zv, zw)) : am_Met false KX5_grows [vR 0 0, vI v1] w (some (vI zv), zw) := am_met mok_X5_grows.1 (Nat.le_of_ble_eq_true rfl) (ok_mX5_grows  hf)

/-! SeenWorlds.shown(II)I -/
noncomputable def mX5_shown_43 (s0 : Int32) (so1 : Nat) (w : AW) : Option (Int32 × AW) :=
  cl (mX3_sortOut so1 s0 w) fun x_2 w_1 =>
  if x_2 ≠ 0 then
    cl (mX3_answer 1 w_1) fun x_4 w_3 =>
    some (x_4, w_3)
  else
    some ((-2), w_1)
noncomputable def mX5_shown (v1 : Int32) (v2 : Int32) (w : AW) : Option (Int32 × AW) :=
  cl (mX5_sentence v1 w) fun x_2 w_1 =>
  nS x_2
    (some ((-1), w_1))
    fun o_3 =>
    if v2 < 0 then
      some ((-1), w_1)
    else
      if v2 ≤ 1 then
        cl (mX2_isPlain o_3 w_1) fun x_5 w_4 =>
        if x_5 = 0 then
          some ((-2), w_4)
        else
          if v2 ≠ 0 then
            mX5_shown_43 0 o_3 w_4
          else
            mX5_shown_43 8 o_3 w_4
      else
        some ((-1), w_1)
set_option maxRecDepth 100000 in
set_option maxHeartbeats 4000000 in
theorem ok_mX5_shown_43 {zv : Int32} {zw : AW} {s0 : Int32} {so1 : Nat} (hso1 : am_cls false so1 = 2) {w : AW} (hf : mX5_shown_43 s0 so1 w = some (zv, zw)) : RR false KX5_shown (some (vI zv), zw) 43 [some (vR 0 0), none, none, none] [vI s0, vR so1 0, vR 4 0] w := by
  obtain ⟨x_2, w_1, hc, hf⟩ := cl_some hf
  refine g_cV (st := []) KX3_sortOut [vR so1 0, vI s0] dX5_shown_43 e_RX5_173 (cl_false_4) (rfl : vwCl[3]? = _) rfl mok_X3_sortOut mw_X3_sortOut ⟨Nat.le_of_ble_eq_true rfl, Nat.le_of_ble_eq_true rfl⟩ (met_X3_sortOut hso1 hc) rfl (Nat.le_of_ble_eq_true rfl) ?_
  clear hc
  refine g_if_ne (tgt := 52) dX5_shown_46 rfl hf (fun _ hf => ?_) (fun _ hf => ?_)
  · refine r_aload_n dX5_shown_52 rfl rfl ?_
    refine r_getO dX5_shown_53 fl_RX5_33 fk_5_3 (cl_false_0) ?_
    refine r_iconst dX5_shown_56 ic_1 ?_
    obtain ⟨x_4, w_3, hc, hf⟩ := cl_some hf
    refine g_cV (st := []) KX3_answer [vI 1] dX5_shown_57 e_RX5_177 (cl_false_4) (rfl : vwCl[3]? = _) rfl mok_X3_answer mw_X3_answer ⟨Nat.le_of_ble_eq_true rfl, Nat.le_of_ble_eq_true rfl⟩ (met_X3_answer hc) rfl (Nat.le_of_ble_eq_true rfl) ?_
    clear hc
    exact r_iret dX5_shown_60 rfl (ret_I hf)
  · refine r_bipush dX5_shown_49 (bp_m2) ?_
    exact r_iret dX5_shown_51 rfl (ret_I hf)
set_option maxRecDepth 100000 in
set_option maxHeartbeats 4000000 in
theorem ok_mX5_shown {zv : Int32} {zw : AW} {v1 : Int32} {v2 : Int32} {w : AW} (hf : mX5_shown v1 v2 w = some (zv, zw)) : RR false KX5_shown (some (vI zv), zw) 0 [some (vR 0 0), some (vI v1), some (vI v2), none] [] w := by
  refine r_aload_n dX5_shown_0 rfl rfl ?_
  refine r_iload_n dX5_shown_1 rfl rfl ?_
  obtain ⟨x_2, w_1, hc, hf⟩ := cl_some hf
  refine g_cV (st := []) KX5_sentence [vI v1] dX5_shown_2 e_RX5_117 (cl_false_0) (rfl : vwCl[5]? = _) rfl mok_X5_sentence mw_X5_sentence ⟨Nat.le_of_ble_eq_true rfl, Nat.le_of_ble_eq_true rfl⟩ (met_X5_sentence hc) rfl (Nat.le_of_ble_eq_true rfl) ?_
  clear hc
  refine r_astore_n (ls2 := [some (vR 0 0), some (vI v1), some (vI v2), some (vO x_2)]) dX5_shown_5 rfl rfl rfl (Nat.le_of_ble_eq_true rfl) ?_
  refine r_aload_n dX5_shown_6 rfl rfl ?_
  refine g_ifnullS (tgt := 19) dX5_shown_7 rfl hf (fun eN hg => ?_) (fun o_3 eS ho_3 hg => ?_)
  · clear hf
    subst eN
    have hf := hg
    clear hg
    refine r_iconst dX5_shown_19 ic_m1 ?_
    exact r_iret dX5_shown_20 rfl (ret_I hf)
  · clear hf
    subst eS
    have hf := hg
    clear hg
    refine r_iload_n dX5_shown_10 rfl rfl ?_
    refine g_if_lt (tgt := 19) dX5_shown_11 rfl hf (fun _ hf => ?_) (fun _ hf => ?_)
    · refine r_iconst dX5_shown_19 ic_m1 ?_
      exact r_iret dX5_shown_20 rfl (ret_I hf)
    · refine r_iload_n dX5_shown_14 rfl rfl ?_
      refine r_iconst dX5_shown_15 ic_1 ?_
      refine g_icmp_le (tgt := 21) dX5_shown_16 rfl hf (fun _ hf => ?_) (fun _ hf => ?_)
      · refine r_aload_n dX5_shown_21 rfl rfl ?_
        obtain ⟨x_5, w_4, hc, hf⟩ := cl_some hf
        refine g_cV (st := []) KX2_isPlain [] dX5_shown_22 e_RX5_140 ho_3 (rfl : vwCl[2]? = _) rfl mok_X2_isPlain mw_X2_isPlain ⟨Nat.le_of_ble_eq_true rfl, Nat.le_of_ble_eq_true rfl⟩ (met_X2_isPlain ho_3 hc) rfl (Nat.le_of_ble_eq_true rfl) ?_
        clear hc
        refine g_if_eq (tgt := 49) dX5_shown_25 rfl hf (fun _ hf => ?_) (fun _ hf => ?_)
        · refine r_bipush dX5_shown_49 (bp_m2) ?_
          exact r_iret dX5_shown_51 rfl (ret_I hf)
        · refine r_aload_n dX5_shown_28 rfl rfl ?_
          refine r_getO dX5_shown_29 fl_RX5_33 fk_5_3 (cl_false_0) ?_
          refine r_aload_n dX5_shown_32 rfl rfl ?_
          refine r_iload_n dX5_shown_33 rfl rfl ?_
          refine g_if_ne (tgt := 42) dX5_shown_34 rfl hf (fun _ hf => ?_) (fun _ hf => ?_)
          · refine r_iconst dX5_shown_42 ic_0 ?_
            refine r_mask (bs := [true, false, false, false]) ?_
            exact ok_mX5_shown_43 ho_3 hf
          · refine r_bipush dX5_shown_37 (bp_8) ?_
            refine r_goto (tgt := 43) dX5_shown_39 rfl ?_
            refine r_mask (bs := [true, false, false, false]) ?_
            exact ok_mX5_shown_43 ho_3 hf
      · refine r_iconst dX5_shown_19 ic_m1 ?_
        exact r_iret dX5_shown_20 rfl (ret_I hf)
theorem met_X5_shown {zv : Int32} {zw : AW} {v1 : Int32} {v2 : Int32} {w : AW} (hf : mX5_shown v1 v2 w = some (zv, zw)) : am_Met false KX5_shown [vR 0 0, vI v1, vI v2] w (some (vI zv), zw) := am_met mok_X5_shown.1 (Nat.le_of_ble_eq_true rfl) (ok_mX5_shown  hf)

/-! SeenWorlds.tell(I)I -/
noncomputable def mX5_tell (v1 : Int32) (w : AW) : Option (Int32 × AW) :=
  cl (mX5_sentence v1 w) fun x_2 w_1 =>
  nS x_2
    (some ((-1), w_1))
    fun o_3 =>
    cl (mX5_whereHolds o_3 0 w_1) fun x_5 w_4 =>
    if x_5 ≠ 0 then
      cl (mX0_keep x_5 w_4) fun x_7 w_6 =>
      cl (mX0_size w_6) fun x_9 w_8 =>
      some (x_9, w_8)
    else
      some ((-2), w_4)
set_option maxRecDepth 100000 in
set_option maxHeartbeats 4000000 in
theorem ok_mX5_tell {zv : Int32} {zw : AW} {v1 : Int32} {w : AW} (hf : mX5_tell v1 w = some (zv, zw)) : RR false KX5_tell (some (vI zv), zw) 0 [some (vR 0 0), some (vI v1), none, none] [] w := by
  refine r_aload_n dX5_tell_0 rfl rfl ?_
  refine r_iload_n dX5_tell_1 rfl rfl ?_
  obtain ⟨x_2, w_1, hc, hf⟩ := cl_some hf
  refine g_cV (st := []) KX5_sentence [vI v1] dX5_tell_2 e_RX5_117 (cl_false_0) (rfl : vwCl[5]? = _) rfl mok_X5_sentence mw_X5_sentence ⟨Nat.le_of_ble_eq_true rfl, Nat.le_of_ble_eq_true rfl⟩ (met_X5_sentence hc) rfl (Nat.le_of_ble_eq_true rfl) ?_
  clear hc
  refine r_astore_n (ls2 := [some (vR 0 0), some (vI v1), some (vO x_2), none]) dX5_tell_5 rfl rfl rfl (Nat.le_of_ble_eq_true rfl) ?_
  refine r_aload_n dX5_tell_6 rfl rfl ?_
  refine g_ifnonnullS (tgt := 12) dX5_tell_7 rfl hf (fun eN hg => ?_) (fun o_3 eS ho_3 hg => ?_)
  · clear hf
    subst eN
    have hf := hg
    clear hg
    refine r_iconst dX5_tell_10 ic_m1 ?_
    exact r_iret dX5_tell_11 rfl (ret_I hf)
  · clear hf
    subst eS
    have hf := hg
    clear hg
    refine r_aload_n dX5_tell_12 rfl rfl ?_
    refine r_aload_n dX5_tell_13 rfl rfl ?_
    refine r_iconst dX5_tell_14 ic_0 ?_
    obtain ⟨x_5, w_4, hc, hf⟩ := cl_some hf
    refine g_cV (st := []) KX5_whereHolds [vR o_3 0, vI 0] dX5_tell_15 e_RX5_148 (cl_false_0) (rfl : vwCl[5]? = _) rfl mok_X5_whereHolds mw_X5_whereHolds ⟨Nat.le_of_ble_eq_true rfl, Nat.le_of_ble_eq_true rfl⟩ (met_X5_whereHolds ho_3 hc) rfl (Nat.le_of_ble_eq_true rfl) ?_
    clear hc
    refine r_istore_n (ls2 := [some (vR 0 0), some (vI v1), some (vR o_3 0), some (vI x_5)]) dX5_tell_18 rfl rfl rfl (Nat.le_of_ble_eq_true rfl) ?_
    refine r_iload_n dX5_tell_19 rfl rfl ?_
    refine g_if_ne (tgt := 26) dX5_tell_20 rfl hf (fun _ hf => ?_) (fun _ hf => ?_)
    · refine r_aload_n dX5_tell_26 rfl rfl ?_
      refine r_getO dX5_tell_27 fl_RX5_12 fk_5_0 (cl_false_0) ?_
      refine r_iload_n dX5_tell_30 rfl rfl ?_
      obtain ⟨x_7, w_6, hc, hf⟩ := cl_some hf
      refine g_cVv (st := []) KX0_keep [vI x_5] dX5_tell_31 e_RX5_211 (cl_false_1) (rfl : vwCl[0]? = _) rfl mok_X0_keep mw_X0_keep ⟨Nat.le_of_ble_eq_true rfl, Nat.le_of_ble_eq_true rfl⟩ (met_X0_keep hc) rfl (Nat.le_of_ble_eq_true rfl) ?_
      clear hc
      refine r_aload_n dX5_tell_34 rfl rfl ?_
      refine r_getO dX5_tell_35 fl_RX5_12 fk_5_0 (cl_false_0) ?_
      obtain ⟨x_9, w_8, hc, hf⟩ := cl_some hf
      refine g_cV (st := []) KX0_size [] dX5_tell_38 e_RX5_68 (cl_false_1) (rfl : vwCl[0]? = _) rfl mok_X0_size mw_X0_size ⟨Nat.le_of_ble_eq_true rfl, Nat.le_of_ble_eq_true rfl⟩ (met_X0_size hc) rfl (Nat.le_of_ble_eq_true rfl) ?_
      clear hc
      exact r_iret dX5_tell_41 rfl (ret_I hf)
    · refine r_bipush dX5_tell_23 (bp_m2) ?_
      exact r_iret dX5_tell_25 rfl (ret_I hf)
theorem met_X5_tell {zv : Int32} {zw : AW} {v1 : Int32} {w : AW} (hf : mX5_tell v1 w = some (zv, zw)) : am_Met false KX5_tell [vR 0 0, vI v1] w (some (vI zv), zw) := am_met mok_X5_tell.1 (Nat.le_of_ble_eq_true rfl) (ok_mX5_tell  hf)

/-! SeenWorlds.known(I)I -/
noncomputable def mX5_known (v1 : Int32) (w : AW) : Option (Int32 × AW) :=
  cl (mX5_sentence v1 w) fun x_2 w_1 =>
  nS x_2
    (some ((-1), w_1))
    fun o_3 =>
    cl (mX5_whereHolds o_3 0 w_1) fun x_5 w_4 =>
    cl (mX0_allLeadInto x_5 w_4) fun x_7 w_6 =>
    some (x_7, w_6)
set_option maxRecDepth 100000 in
set_option maxHeartbeats 4000000 in
theorem ok_mX5_known {zv : Int32} {zw : AW} {v1 : Int32} {w : AW} (hf : mX5_known v1 w = some (zv, zw)) : RR false KX5_known (some (vI zv), zw) 0 [some (vR 0 0), some (vI v1), none] [] w := by
  refine r_aload_n dX5_known_0 rfl rfl ?_
  refine r_iload_n dX5_known_1 rfl rfl ?_
  obtain ⟨x_2, w_1, hc, hf⟩ := cl_some hf
  refine g_cV (st := []) KX5_sentence [vI v1] dX5_known_2 e_RX5_117 (cl_false_0) (rfl : vwCl[5]? = _) rfl mok_X5_sentence mw_X5_sentence ⟨Nat.le_of_ble_eq_true rfl, Nat.le_of_ble_eq_true rfl⟩ (met_X5_sentence hc) rfl (Nat.le_of_ble_eq_true rfl) ?_
  clear hc
  refine r_astore_n (ls2 := [some (vR 0 0), some (vI v1), some (vO x_2)]) dX5_known_5 rfl rfl rfl (Nat.le_of_ble_eq_true rfl) ?_
  refine r_aload_n dX5_known_6 rfl rfl ?_
  refine g_ifnonnullS (tgt := 12) dX5_known_7 rfl hf (fun eN hg => ?_) (fun o_3 eS ho_3 hg => ?_)
  · clear hf
    subst eN
    have hf := hg
    clear hg
    refine r_iconst dX5_known_10 ic_m1 ?_
    exact r_iret dX5_known_11 rfl (ret_I hf)
  · clear hf
    subst eS
    have hf := hg
    clear hg
    refine r_aload_n dX5_known_12 rfl rfl ?_
    refine r_getO dX5_known_13 fl_RX5_12 fk_5_0 (cl_false_0) ?_
    refine r_aload_n dX5_known_16 rfl rfl ?_
    refine r_aload_n dX5_known_17 rfl rfl ?_
    refine r_iconst dX5_known_18 ic_0 ?_
    obtain ⟨x_5, w_4, hc, hf⟩ := cl_some hf
    refine g_cV (st := [vR 1 0]) KX5_whereHolds [vR o_3 0, vI 0] dX5_known_19 e_RX5_148 (cl_false_0) (rfl : vwCl[5]? = _) rfl mok_X5_whereHolds mw_X5_whereHolds ⟨Nat.le_of_ble_eq_true rfl, Nat.le_of_ble_eq_true rfl⟩ (met_X5_whereHolds ho_3 hc) rfl (Nat.le_of_ble_eq_true rfl) ?_
    clear hc
    obtain ⟨x_7, w_6, hc, hf⟩ := cl_some hf
    refine g_cV (st := []) KX0_allLeadInto [vI x_5] dX5_known_22 e_RX5_214 (cl_false_1) (rfl : vwCl[0]? = _) rfl mok_X0_allLeadInto mw_X0_allLeadInto ⟨Nat.le_of_ble_eq_true rfl, Nat.le_of_ble_eq_true rfl⟩ (met_X0_allLeadInto hc) rfl (Nat.le_of_ble_eq_true rfl) ?_
    clear hc
    exact r_iret dX5_known_25 rfl (ret_I hf)
theorem met_X5_known {zv : Int32} {zw : AW} {v1 : Int32} {w : AW} (hf : mX5_known v1 w = some (zv, zw)) : am_Met false KX5_known [vR 0 0, vI v1] w (some (vI zv), zw) := am_met mok_X5_known.1 (Nat.le_of_ble_eq_true rfl) (ok_mX5_known  hf)

/-! SeenWorlds.steps(II)I -/
noncomputable def mX5_steps (v1 : Int32) (v2 : Int32) (w : AW) : Option (Int32 × AW) :=
  cl (mX5_sentence v1 w) fun x_2 w_1 =>
  nS x_2
    (some ((-1), w_1))
    fun o_3 =>
    cl (mX0_has v2 w_1) fun x_5 w_4 =>
    if x_5 ≠ 0 then
      cl (mX5_whereHolds o_3 0 w_4) fun x_7 w_6 =>
      cl (mX0_stepsOutOf x_7 v2 w_6) fun x_9 w_8 =>
      some (x_9, w_8)
    else
      some ((-1), w_4)
set_option maxRecDepth 100000 in
set_option maxHeartbeats 4000000 in
theorem ok_mX5_steps {zv : Int32} {zw : AW} {v1 : Int32} {v2 : Int32} {w : AW} (hf : mX5_steps v1 v2 w = some (zv, zw)) : RR false KX5_steps (some (vI zv), zw) 0 [some (vR 0 0), some (vI v1), some (vI v2), none] [] w := by
  refine r_aload_n dX5_steps_0 rfl rfl ?_
  refine r_iload_n dX5_steps_1 rfl rfl ?_
  obtain ⟨x_2, w_1, hc, hf⟩ := cl_some hf
  refine g_cV (st := []) KX5_sentence [vI v1] dX5_steps_2 e_RX5_117 (cl_false_0) (rfl : vwCl[5]? = _) rfl mok_X5_sentence mw_X5_sentence ⟨Nat.le_of_ble_eq_true rfl, Nat.le_of_ble_eq_true rfl⟩ (met_X5_sentence hc) rfl (Nat.le_of_ble_eq_true rfl) ?_
  clear hc
  refine r_astore_n (ls2 := [some (vR 0 0), some (vI v1), some (vI v2), some (vO x_2)]) dX5_steps_5 rfl rfl rfl (Nat.le_of_ble_eq_true rfl) ?_
  refine r_aload_n dX5_steps_6 rfl rfl ?_
  refine g_ifnullS (tgt := 21) dX5_steps_7 rfl hf (fun eN hg => ?_) (fun o_3 eS ho_3 hg => ?_)
  · clear hf
    subst eN
    have hf := hg
    clear hg
    refine r_iconst dX5_steps_21 ic_m1 ?_
    exact r_iret dX5_steps_22 rfl (ret_I hf)
  · clear hf
    subst eS
    have hf := hg
    clear hg
    refine r_aload_n dX5_steps_10 rfl rfl ?_
    refine r_getO dX5_steps_11 fl_RX5_12 fk_5_0 (cl_false_0) ?_
    refine r_iload_n dX5_steps_14 rfl rfl ?_
    obtain ⟨x_5, w_4, hc, hf⟩ := cl_some hf
    refine g_cV (st := []) KX0_has [vI v2] dX5_steps_15 e_RX5_75 (cl_false_1) (rfl : vwCl[0]? = _) rfl mok_X0_has mw_X0_has ⟨Nat.le_of_ble_eq_true rfl, Nat.le_of_ble_eq_true rfl⟩ (met_X0_has hc) rfl (Nat.le_of_ble_eq_true rfl) ?_
    clear hc
    refine g_if_ne (tgt := 23) dX5_steps_18 rfl hf (fun _ hf => ?_) (fun _ hf => ?_)
    · refine r_aload_n dX5_steps_23 rfl rfl ?_
      refine r_getO dX5_steps_24 fl_RX5_12 fk_5_0 (cl_false_0) ?_
      refine r_aload_n dX5_steps_27 rfl rfl ?_
      refine r_aload_n dX5_steps_28 rfl rfl ?_
      refine r_iconst dX5_steps_29 ic_0 ?_
      obtain ⟨x_7, w_6, hc, hf⟩ := cl_some hf
      refine g_cV (st := [vR 1 0]) KX5_whereHolds [vR o_3 0, vI 0] dX5_steps_30 e_RX5_148 (cl_false_0) (rfl : vwCl[5]? = _) rfl mok_X5_whereHolds mw_X5_whereHolds ⟨Nat.le_of_ble_eq_true rfl, Nat.le_of_ble_eq_true rfl⟩ (met_X5_whereHolds ho_3 hc) rfl (Nat.le_of_ble_eq_true rfl) ?_
      clear hc
      refine r_iload_n dX5_steps_33 rfl rfl ?_
      obtain ⟨x_9, w_8, hc, hf⟩ := cl_some hf
      refine g_cV (st := []) KX0_stepsOutOf [vI x_7, vI v2] dX5_steps_34 e_RX5_217 (cl_false_1) (rfl : vwCl[0]? = _) rfl mok_X0_stepsOutOf mw_X0_stepsOutOf ⟨Nat.le_of_ble_eq_true rfl, Nat.le_of_ble_eq_true rfl⟩ (met_X0_stepsOutOf hc) rfl (Nat.le_of_ble_eq_true rfl) ?_
      clear hc
      exact r_iret dX5_steps_37 rfl (ret_I hf)
    · refine r_iconst dX5_steps_21 ic_m1 ?_
      exact r_iret dX5_steps_22 rfl (ret_I hf)
theorem met_X5_steps {zv : Int32} {zw : AW} {v1 : Int32} {v2 : Int32} {w : AW} (hf : mX5_steps v1 v2 w = some (zv, zw)) : am_Met false KX5_steps [vR 0 0, vI v1, vI v2] w (some (vI zv), zw) := am_met mok_X5_steps.1 (Nat.le_of_ble_eq_true rfl) (ok_mX5_steps  hf)

/-! SeenWorlds.count(I)I -/
noncomputable def mX5_count (v1 : Int32) (w : AW) : Option (Int32 × AW) :=
  if v1 = 0 then
    cl (mX0_size w) fun x_2 w_1 =>
    some (x_2, w_1)
  else if v1 = 1 then
    cl (mX0_pairs w) fun x_4 w_3 =>
    some (x_4, w_3)
  else if v1 = 2 then
    some (w.1 0 0 9, w)
  else if v1 = 3 then
    cl (mX0_atoms w) fun x_6 w_5 =>
    cl (mX5_at 1 2 (v1 - 3) w_5) fun x_8 w_7 =>
    some (x_8, w_7)
  else if v1 = 4 then
    cl (mX0_atoms w) fun x_10 w_9 =>
    cl (mX5_at 1 2 (v1 - 3) w_9) fun x_12 w_11 =>
    some (x_12, w_11)
  else if v1 = 5 then
    cl (mX0_atoms w) fun x_14 w_13 =>
    cl (mX5_at 1 2 (v1 - 3) w_13) fun x_16 w_15 =>
    some (x_16, w_15)
  else if v1 = 6 then
    cl (mX0_atoms w) fun x_18 w_17 =>
    cl (mX5_at 1 2 (v1 - 3) w_17) fun x_20 w_19 =>
    some (x_20, w_19)
  else 
    some ((-1), w)
set_option maxRecDepth 100000 in
set_option maxHeartbeats 4000000 in
theorem ok_mX5_count {zv : Int32} {zw : AW} {v1 : Int32} {w : AW} (hf : mX5_count v1 w = some (zv, zw)) : RR false KX5_count (some (vI zv), zw) 0 [some (vR 0 0), some (vI v1)] [] w := by
  refine r_iload_n dX5_count_0 rfl rfl ?_
  rcases Classical.em (v1 = 0) with c0 | c0
  · replace hf := br_pos c0 hf
    refine g_tabC (off := 43) (tgt := 44) c0 dX5_count_1 (by decide) rfl ?_
    refine r_aload_n dX5_count_44 rfl rfl ?_
    refine r_getO dX5_count_45 fl_RX5_12 fk_5_0 (cl_false_0) ?_
    obtain ⟨x_2, w_1, hc, hf⟩ := cl_some hf
    refine g_cV (st := []) KX0_size [] dX5_count_48 e_RX5_68 (cl_false_1) (rfl : vwCl[0]? = _) rfl mok_X0_size mw_X0_size ⟨Nat.le_of_ble_eq_true rfl, Nat.le_of_ble_eq_true rfl⟩ (met_X0_size hc) rfl (Nat.le_of_ble_eq_true rfl) ?_
    clear hc
    exact r_iret dX5_count_51 rfl (ret_I hf)
  replace hf := br_neg c0 hf
  rcases Classical.em (v1 = 1) with c1 | c1
  · replace hf := br_pos c1 hf
    refine g_tabC (off := 51) (tgt := 52) c1 dX5_count_1 (by decide) rfl ?_
    refine r_aload_n dX5_count_52 rfl rfl ?_
    refine r_getO dX5_count_53 fl_RX5_12 fk_5_0 (cl_false_0) ?_
    obtain ⟨x_4, w_3, hc, hf⟩ := cl_some hf
    refine g_cV (st := []) KX0_pairs [] dX5_count_56 e_RX5_220 (cl_false_1) (rfl : vwCl[0]? = _) rfl mok_X0_pairs mw_X0_pairs ⟨Nat.le_of_ble_eq_true rfl, Nat.le_of_ble_eq_true rfl⟩ (met_X0_pairs hc) rfl (Nat.le_of_ble_eq_true rfl) ?_
    clear hc
    exact r_iret dX5_count_59 rfl (ret_I hf)
  replace hf := br_neg c1 hf
  rcases Classical.em (v1 = 2) with c2 | c2
  · replace hf := br_pos c2 hf
    refine g_tabC (off := 59) (tgt := 60) c2 dX5_count_1 (by decide) rfl ?_
    refine r_aload_n dX5_count_60 rfl rfl ?_
    refine g_getI dX5_count_61 fl_RX5_60 fk_5_9 (cl_false_0) ?_
    exact r_iret dX5_count_64 rfl (ret_I hf)
  replace hf := br_neg c2 hf
  rcases Classical.em (v1 = 3) with c3 | c3
  · replace hf := br_pos c3 hf
    refine g_tabC (off := 64) (tgt := 65) c3 dX5_count_1 (by decide) rfl ?_
    refine r_aload_n dX5_count_65 rfl rfl ?_
    refine r_getO dX5_count_66 fl_RX5_12 fk_5_0 (cl_false_0) ?_
    obtain ⟨x_6, w_5, hc, hf⟩ := cl_some hf
    refine g_cV (st := []) KX0_atoms [] dX5_count_69 e_RX5_96 (cl_false_1) (rfl : vwCl[0]? = _) rfl mok_X0_atoms mw_X0_atoms ⟨Nat.le_of_ble_eq_true rfl, Nat.le_of_ble_eq_true rfl⟩ (met_X0_atoms hc) rfl (Nat.le_of_ble_eq_true rfl) ?_
    clear hc
    refine r_iload_n dX5_count_72 rfl rfl ?_
    refine r_iconst dX5_count_73 ic_3 ?_
    refine r_isub dX5_count_74 ?_
    obtain ⟨x_8, w_7, hc, hf⟩ := cl_some hf
    refine g_cS (st := []) KX5_at [vR 1 2, vI (v1 - 3)] dX5_count_75 e_RX5_100 mok_X5_at mw_X5_at ⟨Nat.le_of_ble_eq_true rfl, Nat.le_of_ble_eq_true rfl⟩ (met_X5_at (am_iaW aK_false_1_2) hc) rfl (Nat.le_of_ble_eq_true rfl) ?_
    clear hc
    exact r_iret dX5_count_78 rfl (ret_I hf)
  replace hf := br_neg c3 hf
  rcases Classical.em (v1 = 4) with c4 | c4
  · replace hf := br_pos c4 hf
    refine g_tabC (off := 64) (tgt := 65) c4 dX5_count_1 (by decide) rfl ?_
    refine r_aload_n dX5_count_65 rfl rfl ?_
    refine r_getO dX5_count_66 fl_RX5_12 fk_5_0 (cl_false_0) ?_
    obtain ⟨x_10, w_9, hc, hf⟩ := cl_some hf
    refine g_cV (st := []) KX0_atoms [] dX5_count_69 e_RX5_96 (cl_false_1) (rfl : vwCl[0]? = _) rfl mok_X0_atoms mw_X0_atoms ⟨Nat.le_of_ble_eq_true rfl, Nat.le_of_ble_eq_true rfl⟩ (met_X0_atoms hc) rfl (Nat.le_of_ble_eq_true rfl) ?_
    clear hc
    refine r_iload_n dX5_count_72 rfl rfl ?_
    refine r_iconst dX5_count_73 ic_3 ?_
    refine r_isub dX5_count_74 ?_
    obtain ⟨x_12, w_11, hc, hf⟩ := cl_some hf
    refine g_cS (st := []) KX5_at [vR 1 2, vI (v1 - 3)] dX5_count_75 e_RX5_100 mok_X5_at mw_X5_at ⟨Nat.le_of_ble_eq_true rfl, Nat.le_of_ble_eq_true rfl⟩ (met_X5_at (am_iaW aK_false_1_2) hc) rfl (Nat.le_of_ble_eq_true rfl) ?_
    clear hc
    exact r_iret dX5_count_78 rfl (ret_I hf)
  replace hf := br_neg c4 hf
  rcases Classical.em (v1 = 5) with c5 | c5
  · replace hf := br_pos c5 hf
    refine g_tabC (off := 64) (tgt := 65) c5 dX5_count_1 (by decide) rfl ?_
    refine r_aload_n dX5_count_65 rfl rfl ?_
    refine r_getO dX5_count_66 fl_RX5_12 fk_5_0 (cl_false_0) ?_
    obtain ⟨x_14, w_13, hc, hf⟩ := cl_some hf
    refine g_cV (st := []) KX0_atoms [] dX5_count_69 e_RX5_96 (cl_false_1) (rfl : vwCl[0]? = _) rfl mok_X0_atoms mw_X0_atoms ⟨Nat.le_of_ble_eq_true rfl, Nat.le_of_ble_eq_true rfl⟩ (met_X0_atoms hc) rfl (Nat.le_of_ble_eq_true rfl) ?_
    clear hc
    refine r_iload_n dX5_count_72 rfl rfl ?_
    refine r_iconst dX5_count_73 ic_3 ?_
    refine r_isub dX5_count_74 ?_
    obtain ⟨x_16, w_15, hc, hf⟩ := cl_some hf
    refine g_cS (st := []) KX5_at [vR 1 2, vI (v1 - 3)] dX5_count_75 e_RX5_100 mok_X5_at mw_X5_at ⟨Nat.le_of_ble_eq_true rfl, Nat.le_of_ble_eq_true rfl⟩ (met_X5_at (am_iaW aK_false_1_2) hc) rfl (Nat.le_of_ble_eq_true rfl) ?_
    clear hc
    exact r_iret dX5_count_78 rfl (ret_I hf)
  replace hf := br_neg c5 hf
  rcases Classical.em (v1 = 6) with c6 | c6
  · replace hf := br_pos c6 hf
    refine g_tabC (off := 64) (tgt := 65) c6 dX5_count_1 (by decide) rfl ?_
    refine r_aload_n dX5_count_65 rfl rfl ?_
    refine r_getO dX5_count_66 fl_RX5_12 fk_5_0 (cl_false_0) ?_
    obtain ⟨x_18, w_17, hc, hf⟩ := cl_some hf
    refine g_cV (st := []) KX0_atoms [] dX5_count_69 e_RX5_96 (cl_false_1) (rfl : vwCl[0]? = _) rfl mok_X0_atoms mw_X0_atoms ⟨Nat.le_of_ble_eq_true rfl, Nat.le_of_ble_eq_true rfl⟩ (met_X0_atoms hc) rfl (Nat.le_of_ble_eq_true rfl) ?_
    clear hc
    refine r_iload_n dX5_count_72 rfl rfl ?_
    refine r_iconst dX5_count_73 ic_3 ?_
    refine r_isub dX5_count_74 ?_
    obtain ⟨x_20, w_19, hc, hf⟩ := cl_some hf
    refine g_cS (st := []) KX5_at [vR 1 2, vI (v1 - 3)] dX5_count_75 e_RX5_100 mok_X5_at mw_X5_at ⟨Nat.le_of_ble_eq_true rfl, Nat.le_of_ble_eq_true rfl⟩ (met_X5_at (am_iaW aK_false_1_2) hc) rfl (Nat.le_of_ble_eq_true rfl) ?_
    clear hc
    exact r_iret dX5_count_78 rfl (ret_I hf)
  replace hf := br_neg c6 hf
  refine g_tabD (tgt := 79) 7 (by decide) (fun j hj => by
    rcases (show j = 0 ∨ j = 1 ∨ j = 2 ∨ j = 3 ∨ j = 4 ∨ j = 5 ∨ j = 6 by omega) with rfl | rfl | rfl | rfl | rfl | rfl | rfl
    · exact am_neI c0 (by decide)
    · exact am_neI c1 (by decide)
    · exact am_neI c2 (by decide)
    · exact am_neI c3 (by decide)
    · exact am_neI c4 (by decide)
    · exact am_neI c5 (by decide)
    · exact am_neI c6 (by decide)) dX5_count_1 rfl ?_
  refine r_iconst dX5_count_79 ic_m1 ?_
  exact r_iret dX5_count_80 rfl (ret_I hf)
theorem met_X5_count {zv : Int32} {zw : AW} {v1 : Int32} {w : AW} (hf : mX5_count v1 w = some (zv, zw)) : am_Met false KX5_count [vR 0 0, vI v1] w (some (vI zv), zw) := am_met mok_X5_count.1 (Nat.le_of_ble_eq_true rfl) (ok_mX5_count  hf)

/-! SeenWorlds.trace()J -/
noncomputable def mX5_trace (w : AW) : Option (Int64 × AW) :=
  some (w.2, w)
set_option maxRecDepth 100000 in
set_option maxHeartbeats 4000000 in
theorem ok_mX5_trace {zv : Int64} {zw : AW} {w : AW} (hf : mX5_trace w = some (zv, zw)) : RR false KX5_trace (some (vL zv), zw) 0 [some (vR 0 0)] [] w := by
  refine r_aload_n dX5_trace_0 rfl rfl ?_
  refine g_getL dX5_trace_1 fl_RX5_64 fk_5_10 (cl_false_0) ?_
  exact r_lret dX5_trace_4 rfl (ret_L hf)
theorem met_X5_trace {zv : Int64} {zw : AW} {w : AW} (hf : mX5_trace w = some (zv, zw)) : am_Met false KX5_trace [vR 0 0] w (some (vL zv), zw) := am_met mok_X5_trace.1 (Nat.le_of_ble_eq_true rfl) (ok_mX5_trace  hf)

/-! SeenWorldsModel.in(III)Z -/
noncomputable def mX6_in (v0 : Int32) (v1 : Int32) (v2 : Int32) (w : AW) : Option (Int32 × AW) :=
  if v0 < v1 then
    some (0, w)
  else
    if v2 < v0 then
      some (0, w)
    else
      some (1, w)
set_option maxRecDepth 100000 in
set_option maxHeartbeats 4000000 in
theorem ok_mX6_in {zv : Int32} {zw : AW} {v0 : Int32} {v1 : Int32} {v2 : Int32} {w : AW} (hf : mX6_in v0 v1 v2 w = some (zv, zw)) : RR true KX6_in (some (vI zv), zw) 0 [some (vI v0), some (vI v1), some (vI v2)] [] w := by
  refine r_iload_n dX6_in_0 rfl rfl ?_
  refine r_iload_n dX6_in_1 rfl rfl ?_
  refine g_icmp_lt (tgt := 14) dX6_in_2 rfl hf (fun _ hf => ?_) (fun _ hf => ?_)
  · refine r_iconst dX6_in_14 ic_0 ?_
    exact r_zret dX6_in_15 rfl nar_0 (ret_I hf)
  · refine r_iload_n dX6_in_5 rfl rfl ?_
    refine r_iload_n dX6_in_6 rfl rfl ?_
    refine g_icmp_gt (tgt := 14) dX6_in_7 rfl hf (fun _ hf => ?_) (fun _ hf => ?_)
    · refine r_iconst dX6_in_14 ic_0 ?_
      exact r_zret dX6_in_15 rfl nar_0 (ret_I hf)
    · refine r_iconst dX6_in_10 ic_1 ?_
      refine r_goto (tgt := 15) dX6_in_11 rfl ?_
      exact r_zret dX6_in_15 rfl nar_1 (ret_I hf)
theorem met_X6_in {zv : Int32} {zw : AW} {v0 : Int32} {v1 : Int32} {v2 : Int32} {w : AW} (hf : mX6_in v0 v1 v2 w = some (zv, zw)) : am_Met true KX6_in [vI v0, vI v1, vI v2] w (some (vI zv), zw) := am_met mok_X6_in.1 (Nat.le_of_ble_eq_true rfl) (ok_mX6_in  hf)

/-! SeenWorldsModel.isWorld(I)Z -/
noncomputable def mX6_isWorld (v1 : Int32) (w : AW) : Option (Int32 × AW) :=
  cl (mX6_in v1 0 ((w.1 0 0 2) - 1) w) fun x_2 w_1 =>
  zr x_2 w_1
set_option maxRecDepth 100000 in
set_option maxHeartbeats 4000000 in
theorem ok_mX6_isWorld {zv : Int32} {zw : AW} {v1 : Int32} {w : AW} (hf : mX6_isWorld v1 w = some (zv, zw)) : RR true KX6_isWorld (some (vI zv), zw) 0 [some (vR 0 0), some (vI v1)] [] w := by
  refine r_iload_n dX6_isWorld_0 rfl rfl ?_
  refine r_iconst dX6_isWorld_1 ic_0 ?_
  refine r_aload_n dX6_isWorld_2 rfl rfl ?_
  refine g_getI dX6_isWorld_3 fl_RX6_7 fk_6_2 (cl_true_0) ?_
  refine r_iconst dX6_isWorld_6 ic_1 ?_
  refine r_isub dX6_isWorld_7 ?_
  obtain ⟨x_2, w_1, hc, hf⟩ := cl_some hf
  refine g_cS (st := []) KX6_in [vI v1, vI 0, vI ((w.1 0 0 2) - 1)] dX6_isWorld_8 e_RX6_135 mok_X6_in mw_X6_in ⟨Nat.le_of_ble_eq_true rfl, Nat.le_of_ble_eq_true rfl⟩ (met_X6_in hc) rfl (Nat.le_of_ble_eq_true rfl) ?_
  clear hc
  exact g_zret dX6_isWorld_11 rfl hf
theorem met_X6_isWorld {zv : Int32} {zw : AW} {v1 : Int32} {w : AW} (hf : mX6_isWorld v1 w = some (zv, zw)) : am_Met true KX6_isWorld [vR 0 0, vI v1] w (some (vI zv), zw) := am_met mok_X6_isWorld.1 (Nat.le_of_ble_eq_true rfl) (ok_mX6_isWorld  hf)

/-! SeenWorldsModel.isSentence(I)Z -/
noncomputable def mX6_isSentence (v0 : Int32) (w : AW) : Option (Int32 × AW) :=
  cl (mX6_in v0 0 5 w) fun x_2 w_1 =>
  zr x_2 w_1
set_option maxRecDepth 100000 in
set_option maxHeartbeats 4000000 in
theorem ok_mX6_isSentence {zv : Int32} {zw : AW} {v0 : Int32} {w : AW} (hf : mX6_isSentence v0 w = some (zv, zw)) : RR true KX6_isSentence (some (vI zv), zw) 0 [some (vI v0)] [] w := by
  refine r_iload_n dX6_isSentence_0 rfl rfl ?_
  refine r_iconst dX6_isSentence_1 ic_0 ?_
  refine r_iconst dX6_isSentence_2 ic_5 ?_
  obtain ⟨x_2, w_1, hc, hf⟩ := cl_some hf
  refine g_cS (st := []) KX6_in [vI v0, vI 0, vI 5] dX6_isSentence_3 e_RX6_135 mok_X6_in mw_X6_in ⟨Nat.le_of_ble_eq_true rfl, Nat.le_of_ble_eq_true rfl⟩ (met_X6_in hc) rfl (Nat.le_of_ble_eq_true rfl) ?_
  clear hc
  exact g_zret dX6_isSentence_6 rfl hf
theorem met_X6_isSentence {zv : Int32} {zw : AW} {v0 : Int32} {w : AW} (hf : mX6_isSentence v0 w = some (zv, zw)) : am_Met true KX6_isSentence [vI v0] w (some (vI zv), zw) := am_met mok_X6_isSentence.1 (Nat.le_of_ble_eq_true rfl) (ok_mX6_isSentence  hf)

/-! SeenWorldsModel.isSort(I)Z -/
noncomputable def mX6_isSort (v0 : Int32) (w : AW) : Option (Int32 × AW) :=
  cl (mX6_in v0 0 3 w) fun x_2 w_1 =>
  zr x_2 w_1
set_option maxRecDepth 100000 in
set_option maxHeartbeats 4000000 in
theorem ok_mX6_isSort {zv : Int32} {zw : AW} {v0 : Int32} {w : AW} (hf : mX6_isSort v0 w = some (zv, zw)) : RR true KX6_isSort (some (vI zv), zw) 0 [some (vI v0)] [] w := by
  refine r_iload_n dX6_isSort_0 rfl rfl ?_
  refine r_iconst dX6_isSort_1 ic_0 ?_
  refine r_iconst dX6_isSort_2 ic_3 ?_
  obtain ⟨x_2, w_1, hc, hf⟩ := cl_some hf
  refine g_cS (st := []) KX6_in [vI v0, vI 0, vI 3] dX6_isSort_3 e_RX6_135 mok_X6_in mw_X6_in ⟨Nat.le_of_ble_eq_true rfl, Nat.le_of_ble_eq_true rfl⟩ (met_X6_in hc) rfl (Nat.le_of_ble_eq_true rfl) ?_
  clear hc
  exact g_zret dX6_isSort_6 rfl hf
theorem met_X6_isSort {zv : Int32} {zw : AW} {v0 : Int32} {w : AW} (hf : mX6_isSort v0 w = some (zv, zw)) : am_Met true KX6_isSort [vI v0] w (some (vI zv), zw) := am_met mok_X6_isSort.1 (Nat.le_of_ble_eq_true rfl) (ok_mX6_isSort  hf)

/-! SeenWorldsModel.all()I -/
noncomputable def mX6_all (w : AW) : Option (Int32 × AW) :=
  some ((1 <<< ((w.1 0 0 2) &&& 31)) - 1, w)
set_option maxRecDepth 100000 in
set_option maxHeartbeats 4000000 in
theorem ok_mX6_all {zv : Int32} {zw : AW} {w : AW} (hf : mX6_all w = some (zv, zw)) : RR true KX6_all (some (vI zv), zw) 0 [some (vR 0 0)] [] w := by
  refine r_iconst dX6_all_0 ic_1 ?_
  refine r_aload_n dX6_all_1 rfl rfl ?_
  refine g_getI dX6_all_2 fl_RX6_7 fk_6_2 (cl_true_0) ?_
  refine r_ishl dX6_all_5 ?_
  refine r_iconst dX6_all_6 ic_1 ?_
  refine r_isub dX6_all_7 ?_
  exact r_iret dX6_all_8 rfl (ret_I hf)
theorem met_X6_all {zv : Int32} {zw : AW} {w : AW} (hf : mX6_all w = some (zv, zw)) : am_Met true KX6_all [vR 0 0] w (some (vI zv), zw) := am_met mok_X6_all.1 (Nat.le_of_ble_eq_true rfl) (ok_mX6_all  hf)

/-! SeenWorldsModel.worlds(I)I -/
noncomputable def mX6_worlds_50 (v2 : Int32) : Nat → Int32 → AW → Option (Int32 × AW)
  | 0, _, _ => none
  | n + 1, v3, w =>
    if 4 ≤ v3 then
      some (v2, w)
    else
      wr 4 w 0 5 v3 0 fun w_1 =>
      nm (v3 + 1) fun v3_2 =>
      mX6_worlds_50 v2 n v3_2 w_1
noncomputable def mX6_worlds_29 (v2 : Int32) : Nat → Int32 → AW → Option (Int32 × AW)
  | 0, _, _ => none
  | n + 1, v3, w =>
    if 8 ≤ v3 then
      mX6_worlds_50 v2 FU 0 w
    else
      wr 8 w 0 4 v3 0 fun w_1 =>
      nm (v3 + 1) fun v3_2 =>
      mX6_worlds_29 v2 n v3_2 w_1
noncomputable def mX6_worlds (v1 : Int32) (w : AW) : Option (Int32 × AW) :=
  pu w 0 0 0 fun w_1 =>
  cl (mX6_in v1 1 8 w_1) fun x_3 w_2 =>
  if x_3 ≠ 0 then
    nm (w_2.1 0 0 2) fun v2_4 =>
    pu w_2 0 2 v1 fun w_5 =>
    mX6_worlds_29 v2_4 FU 0 w_5
  else
    some ((-1), w_2)
set_option maxRecDepth 100000 in
set_option maxHeartbeats 4000000 in
theorem ok_mX6_worlds_50 {zv : Int32} {zw : AW} {v2 : Int32} : ∀ (n : Nat) (v3 : Int32) (w : AW), mX6_worlds_50 v2 n v3 w = some (zv, zw) → RR true KX6_worlds (some (vI zv), zw) 50 [some (vR 0 0), none, some (vI v2), some (vI v3)] [] w := by
  intro n
  induction n with
  | zero => intro v3 w hf; cases hf
  | succ n ih =>
    intro v3 w hf
    refine r_iload_n dX6_worlds_50 rfl rfl ?_
    refine r_iconst dX6_worlds_51 ic_4 ?_
    refine g_icmp_ge (tgt := 68) dX6_worlds_52 rfl hf (fun _ hf => ?_) (fun _ hf => ?_)
    · refine r_iload_n dX6_worlds_68 rfl rfl ?_
      exact r_iret dX6_worlds_69 rfl (ret_I hf)
    · refine r_aload_n dX6_worlds_55 rfl rfl ?_
      refine g_getA dX6_worlds_56 fl_RX6_17 fk_6_4 rfl (cl_true_0) ?_
      refine r_iload_n dX6_worlds_59 rfl rfl ?_
      refine r_iconst dX6_worlds_60 ic_0 ?_
      refine g_iast dX6_worlds_61 aK_true_0_5 aL_true_0_5 hf (fun w_1 hf => ?_)
      refine g_iinc (fun v3_2 => [some (vR 0 0), none, some (vI v2), some (vI v3_2)]) dX6_worlds_62 ic_1 rfl rfl (fun _ => rfl) (Nat.le_of_ble_eq_true rfl) hf (fun v3_2 hf => ?_)
      refine r_goto (tgt := 50) dX6_worlds_65 rfl ?_
      exact ih _ _ hf
set_option maxRecDepth 100000 in
set_option maxHeartbeats 4000000 in
theorem ok_mX6_worlds_29 {zv : Int32} {zw : AW} {v2 : Int32} : ∀ (n : Nat) (v3 : Int32) (w : AW), mX6_worlds_29 v2 n v3 w = some (zv, zw) → RR true KX6_worlds (some (vI zv), zw) 29 [some (vR 0 0), none, some (vI v2), some (vI v3)] [] w := by
  intro n
  induction n with
  | zero => intro v3 w hf; cases hf
  | succ n ih =>
    intro v3 w hf
    refine r_iload_n dX6_worlds_29 rfl rfl ?_
    refine r_bipush dX6_worlds_30 (bp_8) ?_
    refine g_icmp_ge (tgt := 48) dX6_worlds_32 rfl hf (fun _ hf => ?_) (fun _ hf => ?_)
    · refine r_iconst dX6_worlds_48 ic_0 ?_
      refine r_istore_n (ls2 := [some (vR 0 0), none, some (vI v2), some (vI 0)]) dX6_worlds_49 rfl rfl rfl (Nat.le_of_ble_eq_true rfl) ?_
      exact ok_mX6_worlds_50 FU _ _ hf
    · refine r_aload_n dX6_worlds_35 rfl rfl ?_
      refine g_getA dX6_worlds_36 fl_RX6_13 fk_6_3 rfl (cl_true_0) ?_
      refine r_iload_n dX6_worlds_39 rfl rfl ?_
      refine r_iconst dX6_worlds_40 ic_0 ?_
      refine g_iast dX6_worlds_41 aK_true_0_4 aL_true_0_4 hf (fun w_1 hf => ?_)
      refine g_iinc (fun v3_2 => [some (vR 0 0), none, some (vI v2), some (vI v3_2)]) dX6_worlds_42 ic_1 rfl rfl (fun _ => rfl) (Nat.le_of_ble_eq_true rfl) hf (fun v3_2 hf => ?_)
      refine r_goto (tgt := 29) dX6_worlds_45 rfl ?_
      exact ih _ _ hf
set_option maxRecDepth 100000 in
set_option maxHeartbeats 4000000 in
theorem ok_mX6_worlds {zv : Int32} {zw : AW} {v1 : Int32} {w : AW} (hf : mX6_worlds v1 w = some (zv, zw)) : RR true KX6_worlds (some (vI zv), zw) 0 [some (vR 0 0), some (vI v1), none, none] [] w := by
  refine r_aload_n dX6_worlds_0 rfl rfl ?_
  refine r_iconst dX6_worlds_1 ic_0 ?_
  refine g_putI dX6_worlds_2 fl_RX6_132 fk_6_0 (cl_true_0) hf (fun w_1 hf => ?_)
  refine r_iload_n dX6_worlds_5 rfl rfl ?_
  refine r_iconst dX6_worlds_6 ic_1 ?_
  refine r_bipush dX6_worlds_7 (bp_8) ?_
  obtain ⟨x_3, w_2, hc, hf⟩ := cl_some hf
  refine g_cS (st := []) KX6_in [vI v1, vI 1, vI 8] dX6_worlds_9 e_RX6_135 mok_X6_in mw_X6_in ⟨Nat.le_of_ble_eq_true rfl, Nat.le_of_ble_eq_true rfl⟩ (met_X6_in hc) rfl (Nat.le_of_ble_eq_true rfl) ?_
  clear hc
  refine g_if_ne (tgt := 17) dX6_worlds_12 rfl hf (fun _ hf => ?_) (fun _ hf => ?_)
  · refine r_aload_n dX6_worlds_17 rfl rfl ?_
    refine g_getI dX6_worlds_18 fl_RX6_7 fk_6_2 (cl_true_0) ?_
    refine g_istore_n (fun v2_4 => [some (vR 0 0), some (vI v1), some (vI v2_4), none]) dX6_worlds_21 rfl rfl (fun _ => rfl) (Nat.le_of_ble_eq_true rfl) hf (fun v2_4 hf => ?_)
    refine r_aload_n dX6_worlds_22 rfl rfl ?_
    refine r_iload_n dX6_worlds_23 rfl rfl ?_
    refine g_putI dX6_worlds_24 fl_RX6_7 fk_6_2 (cl_true_0) hf (fun w_5 hf => ?_)
    refine r_iconst dX6_worlds_27 ic_0 ?_
    refine r_istore_n (ls2 := [some (vR 0 0), some (vI v1), some (vI v2_4), some (vI 0)]) dX6_worlds_28 rfl rfl rfl (Nat.le_of_ble_eq_true rfl) ?_
    refine r_mask (bs := [true, false, true, true]) ?_
    exact ok_mX6_worlds_29 FU _ _ hf
  · refine r_iconst dX6_worlds_15 ic_m1 ?_
    exact r_iret dX6_worlds_16 rfl (ret_I hf)
theorem met_X6_worlds {zv : Int32} {zw : AW} {v1 : Int32} {w : AW} (hf : mX6_worlds v1 w = some (zv, zw)) : am_Met true KX6_worlds [vR 0 0, vI v1] w (some (vI zv), zw) := am_met mok_X6_worlds.1 (Nat.le_of_ble_eq_true rfl) (ok_mX6_worlds  hf)

/-! SeenWorldsModel.see(III)I -/
noncomputable def mX6_see (v1 : Int32) (v2 : Int32) (v3 : Int32) (w : AW) : Option (Int32 × AW) :=
  pu w 0 0 0 fun w_1 =>
  cl (mX6_isWorld v1 w_1) fun x_3 w_2 =>
  if x_3 = 0 then
    some ((-1), w_2)
  else
    cl (mX6_isWorld v2 w_2) fun x_5 w_4 =>
    if x_5 = 0 then
      some ((-1), w_4)
    else
      cl (mX6_in v3 0 1 w_4) fun x_7 w_6 =>
      if x_7 ≠ 0 then
        rd 8 (w_6.1 0 4) v1 fun x_8 =>
        nm ((x_8 >>> (v2 &&& 31)) &&& 1) fun v4_9 =>
        rd 8 (w_6.1 0 4) v1 fun x_10 =>
        wr 8 w_6 0 4 v1 ((x_10 &&& ((1 <<< (v2 &&& 31)) ^^^ (-1))) ||| (v3 <<< (v2 &&& 31))) fun w_11 =>
        some (v4_9, w_11)
      else
        some ((-1), w_6)
set_option maxRecDepth 100000 in
set_option maxHeartbeats 4000000 in
theorem ok_mX6_see {zv : Int32} {zw : AW} {v1 : Int32} {v2 : Int32} {v3 : Int32} {w : AW} (hf : mX6_see v1 v2 v3 w = some (zv, zw)) : RR true KX6_see (some (vI zv), zw) 0 [some (vR 0 0), some (vI v1), some (vI v2), some (vI v3), none] [] w := by
  refine r_aload_n dX6_see_0 rfl rfl ?_
  refine r_iconst dX6_see_1 ic_0 ?_
  refine g_putI dX6_see_2 fl_RX6_132 fk_6_0 (cl_true_0) hf (fun w_1 hf => ?_)
  refine r_aload_n dX6_see_5 rfl rfl ?_
  refine r_iload_n dX6_see_6 rfl rfl ?_
  obtain ⟨x_3, w_2, hc, hf⟩ := cl_some hf
  refine g_cV (st := []) KX6_isWorld [vI v1] dX6_see_7 e_RX6_139 (cl_true_0) (rfl : vwCl[6]? = _) rfl mok_X6_isWorld mw_X6_isWorld ⟨Nat.le_of_ble_eq_true rfl, Nat.le_of_ble_eq_true rfl⟩ (met_X6_isWorld hc) rfl (Nat.le_of_ble_eq_true rfl) ?_
  clear hc
  refine g_if_eq (tgt := 30) dX6_see_10 rfl hf (fun _ hf => ?_) (fun _ hf => ?_)
  · refine r_iconst dX6_see_30 ic_m1 ?_
    exact r_iret dX6_see_31 rfl (ret_I hf)
  · refine r_aload_n dX6_see_13 rfl rfl ?_
    refine r_iload_n dX6_see_14 rfl rfl ?_
    obtain ⟨x_5, w_4, hc, hf⟩ := cl_some hf
    refine g_cV (st := []) KX6_isWorld [vI v2] dX6_see_15 e_RX6_139 (cl_true_0) (rfl : vwCl[6]? = _) rfl mok_X6_isWorld mw_X6_isWorld ⟨Nat.le_of_ble_eq_true rfl, Nat.le_of_ble_eq_true rfl⟩ (met_X6_isWorld hc) rfl (Nat.le_of_ble_eq_true rfl) ?_
    clear hc
    refine g_if_eq (tgt := 30) dX6_see_18 rfl hf (fun _ hf => ?_) (fun _ hf => ?_)
    · refine r_iconst dX6_see_30 ic_m1 ?_
      exact r_iret dX6_see_31 rfl (ret_I hf)
    · refine r_iload_n dX6_see_21 rfl rfl ?_
      refine r_iconst dX6_see_22 ic_0 ?_
      refine r_iconst dX6_see_23 ic_1 ?_
      obtain ⟨x_7, w_6, hc, hf⟩ := cl_some hf
      refine g_cS (st := []) KX6_in [vI v3, vI 0, vI 1] dX6_see_24 e_RX6_135 mok_X6_in mw_X6_in ⟨Nat.le_of_ble_eq_true rfl, Nat.le_of_ble_eq_true rfl⟩ (met_X6_in hc) rfl (Nat.le_of_ble_eq_true rfl) ?_
      clear hc
      refine g_if_ne (tgt := 32) dX6_see_27 rfl hf (fun _ hf => ?_) (fun _ hf => ?_)
      · refine r_aload_n dX6_see_32 rfl rfl ?_
        refine g_getA dX6_see_33 fl_RX6_13 fk_6_3 rfl (cl_true_0) ?_
        refine r_iload_n dX6_see_36 rfl rfl ?_
        refine g_iald dX6_see_37 aK_true_0_4 aL_true_0_4 hf (fun x_8 hf => ?_)
        refine r_iload_n dX6_see_38 rfl rfl ?_
        refine r_ishr dX6_see_39 ?_
        refine r_iconst dX6_see_40 ic_1 ?_
        refine r_iand dX6_see_41 ?_
        refine g_istore (fun v4_9 => [some (vR 0 0), some (vI v1), some (vI v2), some (vI v3), some (vI v4_9)]) dX6_see_42 rfl (fun _ => rfl) (Nat.le_of_ble_eq_true rfl) hf (fun v4_9 hf => ?_)
        refine r_aload_n dX6_see_44 rfl rfl ?_
        refine g_getA dX6_see_45 fl_RX6_13 fk_6_3 rfl (cl_true_0) ?_
        refine r_iload_n dX6_see_48 rfl rfl ?_
        refine r_aload_n dX6_see_49 rfl rfl ?_
        refine g_getA dX6_see_50 fl_RX6_13 fk_6_3 rfl (cl_true_0) ?_
        refine r_iload_n dX6_see_53 rfl rfl ?_
        refine g_iald dX6_see_54 aK_true_0_4 aL_true_0_4 hf (fun x_10 hf => ?_)
        refine r_iconst dX6_see_55 ic_1 ?_
        refine r_iload_n dX6_see_56 rfl rfl ?_
        refine r_ishl dX6_see_57 ?_
        refine r_iconst dX6_see_58 ic_m1 ?_
        refine r_ixor dX6_see_59 ?_
        refine r_iand dX6_see_60 ?_
        refine r_iload_n dX6_see_61 rfl rfl ?_
        refine r_iload_n dX6_see_62 rfl rfl ?_
        refine r_ishl dX6_see_63 ?_
        refine r_ior dX6_see_64 ?_
        refine g_iast dX6_see_65 aK_true_0_4 aL_true_0_4 hf (fun w_11 hf => ?_)
        refine r_iload dX6_see_66 rfl ?_
        exact r_iret dX6_see_68 rfl (ret_I hf)
      · refine r_iconst dX6_see_30 ic_m1 ?_
        exact r_iret dX6_see_31 rfl (ret_I hf)
theorem met_X6_see {zv : Int32} {zw : AW} {v1 : Int32} {v2 : Int32} {v3 : Int32} {w : AW} (hf : mX6_see v1 v2 v3 w = some (zv, zw)) : am_Met true KX6_see [vR 0 0, vI v1, vI v2, vI v3] w (some (vI zv), zw) := am_met mok_X6_see.1 (Nat.le_of_ble_eq_true rfl) (ok_mX6_see  hf)

/-! SeenWorldsModel.atom(II)I -/
noncomputable def mX6_atom (v1 : Int32) (v2 : Int32) (w : AW) : Option (Int32 × AW) :=
  pu w 0 0 0 fun w_1 =>
  cl (mX6_in v1 0 3 w_1) fun x_3 w_2 =>
  if x_3 = 0 then
    some ((-1), w_2)
  else
    cl (mX6_all w_2) fun x_5 w_4 =>
    cl (mX6_in v2 0 x_5 w_4) fun x_7 w_6 =>
    if x_7 ≠ 0 then
      rd 4 (w_6.1 0 5) v1 fun x_8 =>
      wr 4 w_6 0 5 v1 v2 fun w_9 =>
      some (x_8, w_9)
    else
      some ((-1), w_6)
set_option maxRecDepth 100000 in
set_option maxHeartbeats 4000000 in
theorem ok_mX6_atom {zv : Int32} {zw : AW} {v1 : Int32} {v2 : Int32} {w : AW} (hf : mX6_atom v1 v2 w = some (zv, zw)) : RR true KX6_atom (some (vI zv), zw) 0 [some (vR 0 0), some (vI v1), some (vI v2), none] [] w := by
  refine r_aload_n dX6_atom_0 rfl rfl ?_
  refine r_iconst dX6_atom_1 ic_0 ?_
  refine g_putI dX6_atom_2 fl_RX6_132 fk_6_0 (cl_true_0) hf (fun w_1 hf => ?_)
  refine r_iload_n dX6_atom_5 rfl rfl ?_
  refine r_iconst dX6_atom_6 ic_0 ?_
  refine r_iconst dX6_atom_7 ic_3 ?_
  obtain ⟨x_3, w_2, hc, hf⟩ := cl_some hf
  refine g_cS (st := []) KX6_in [vI v1, vI 0, vI 3] dX6_atom_8 e_RX6_135 mok_X6_in mw_X6_in ⟨Nat.le_of_ble_eq_true rfl, Nat.le_of_ble_eq_true rfl⟩ (met_X6_in hc) rfl (Nat.le_of_ble_eq_true rfl) ?_
  clear hc
  refine g_if_eq (tgt := 26) dX6_atom_11 rfl hf (fun _ hf => ?_) (fun _ hf => ?_)
  · refine r_iconst dX6_atom_26 ic_m1 ?_
    exact r_iret dX6_atom_27 rfl (ret_I hf)
  · refine r_iload_n dX6_atom_14 rfl rfl ?_
    refine r_iconst dX6_atom_15 ic_0 ?_
    refine r_aload_n dX6_atom_16 rfl rfl ?_
    obtain ⟨x_5, w_4, hc, hf⟩ := cl_some hf
    refine g_cV (st := [vI 0, vI v2]) KX6_all [] dX6_atom_17 e_RX6_143 (cl_true_0) (rfl : vwCl[6]? = _) rfl mok_X6_all mw_X6_all ⟨Nat.le_of_ble_eq_true rfl, Nat.le_of_ble_eq_true rfl⟩ (met_X6_all hc) rfl (Nat.le_of_ble_eq_true rfl) ?_
    clear hc
    obtain ⟨x_7, w_6, hc, hf⟩ := cl_some hf
    refine g_cS (st := []) KX6_in [vI v2, vI 0, vI x_5] dX6_atom_20 e_RX6_135 mok_X6_in mw_X6_in ⟨Nat.le_of_ble_eq_true rfl, Nat.le_of_ble_eq_true rfl⟩ (met_X6_in hc) rfl (Nat.le_of_ble_eq_true rfl) ?_
    clear hc
    refine g_if_ne (tgt := 28) dX6_atom_23 rfl hf (fun _ hf => ?_) (fun _ hf => ?_)
    · refine r_aload_n dX6_atom_28 rfl rfl ?_
      refine g_getA dX6_atom_29 fl_RX6_17 fk_6_4 rfl (cl_true_0) ?_
      refine r_iload_n dX6_atom_32 rfl rfl ?_
      refine g_iald dX6_atom_33 aK_true_0_5 aL_true_0_5 hf (fun x_8 hf => ?_)
      refine r_istore_n (ls2 := [some (vR 0 0), some (vI v1), some (vI v2), some (vI x_8)]) dX6_atom_34 rfl rfl rfl (Nat.le_of_ble_eq_true rfl) ?_
      refine r_aload_n dX6_atom_35 rfl rfl ?_
      refine g_getA dX6_atom_36 fl_RX6_17 fk_6_4 rfl (cl_true_0) ?_
      refine r_iload_n dX6_atom_39 rfl rfl ?_
      refine r_iload_n dX6_atom_40 rfl rfl ?_
      refine g_iast dX6_atom_41 aK_true_0_5 aL_true_0_5 hf (fun w_9 hf => ?_)
      refine r_iload_n dX6_atom_42 rfl rfl ?_
      exact r_iret dX6_atom_43 rfl (ret_I hf)
    · refine r_iconst dX6_atom_26 ic_m1 ?_
      exact r_iret dX6_atom_27 rfl (ret_I hf)
theorem met_X6_atom {zv : Int32} {zw : AW} {v1 : Int32} {v2 : Int32} {w : AW} (hf : mX6_atom v1 v2 w = some (zv, zw)) : am_Met true KX6_atom [vR 0 0, vI v1, vI v2] w (some (vI zv), zw) := am_met mok_X6_atom.1 (Nat.le_of_ble_eq_true rfl) (ok_mX6_atom  hf)

/-! SeenWorldsModel.farOf(I)I -/
noncomputable def mX6_farOf_47 (k6 : Int32 → Int32 → AW → Option (Int32 × AW)) (k16 : Int32 → Int32 → AW → Option (Int32 × AW)) (v3 : Int32) (v4 : Int32) (s0 : Int32) (s1 : Int32) (w : AW) : Option (Int32 × AW) :=
  nm (s1 ||| s0) fun v2_1 =>
  nm (v4 + 1) fun v4_2 =>
  k16 v2_1 v4_2 w
noncomputable def mX6_farOf_16 (k6 : Int32 → Int32 → AW → Option (Int32 × AW)) (v3 : Int32) : Nat → Int32 → Int32 → AW → Option (Int32 × AW)
  | 0, _, _, _ => none
  | n + 1, v2, v4, w =>
    if (w.1 0 0 2) ≤ v4 then
      k6 v2 v3 w
    else
      if ((v3 >>> (v4 &&& 31)) &&& 1) ≠ 1 then
        mX6_farOf_47 k6 (mX6_farOf_16 k6 v3 n) v3 v4 0 v2 w
      else
        rd 8 (w.1 0 4) v4 fun x_1 =>
        mX6_farOf_47 k6 (mX6_farOf_16 k6 v3 n) v3 v4 x_1 v2 w
noncomputable def mX6_farOf_6 : Nat → Int32 → Int32 → AW → Option (Int32 × AW)
  | 0, _, _, _ => none
  | n + 1, v2, v3, w =>
    if v2 = v3 then
      some (v2, w)
    else
      mX6_farOf_16 (mX6_farOf_6 n) v2 FU v2 0 w
noncomputable def mX6_farOf (v1 : Int32) (w : AW) : Option (Int32 × AW) :=
  nm (1 <<< (v1 &&& 31)) fun v2_1 =>
  mX6_farOf_6 FU v2_1 0 w
set_option maxRecDepth 100000 in
set_option maxHeartbeats 4000000 in
theorem ok_mX6_farOf_47 {zv : Int32} {zw : AW} {k6 : Int32 → Int32 → AW → Option (Int32 × AW)} {k16 : Int32 → Int32 → AW → Option (Int32 × AW)} {v3 : Int32} {v4 : Int32} {s0 : Int32} {s1 : Int32} (hk6 : ∀ (v2 : Int32) (v3 : Int32)  w, k6 v2 v3 w = some (zv, zw) → RR true KX6_farOf (some (vI zv), zw) 6 [some (vR 0 0), none, some (vI v2), some (vI v3), none] [] w) (hk16 : ∀ (v2 : Int32) (v4 : Int32)  w, k16 v2 v4 w = some (zv, zw) → RR true KX6_farOf (some (vI zv), zw) 16 [some (vR 0 0), none, some (vI v2), some (vI v3), some (vI v4)] [] w) {w : AW} (hf : mX6_farOf_47 k6 k16 v3 v4 s0 s1 w = some (zv, zw)) : RR true KX6_farOf (some (vI zv), zw) 47 [some (vR 0 0), none, none, some (vI v3), some (vI v4)] [vI s0, vI s1] w := by
  refine r_ior dX6_farOf_47 ?_
  refine g_istore_n (fun v2_1 => [some (vR 0 0), none, some (vI v2_1), some (vI v3), some (vI v4)]) dX6_farOf_48 rfl rfl (fun _ => rfl) (Nat.le_of_ble_eq_true rfl) hf (fun v2_1 hf => ?_)
  refine g_iinc (fun v4_2 => [some (vR 0 0), none, some (vI v2_1), some (vI v3), some (vI v4_2)]) dX6_farOf_49 ic_1 rfl rfl (fun _ => rfl) (Nat.le_of_ble_eq_true rfl) hf (fun v4_2 hf => ?_)
  refine r_goto (tgt := 16) dX6_farOf_52 rfl ?_
  exact hk16 _ _ _ hf
set_option maxRecDepth 100000 in
set_option maxHeartbeats 4000000 in
theorem ok_mX6_farOf_16 {zv : Int32} {zw : AW} {k6 : Int32 → Int32 → AW → Option (Int32 × AW)} {v3 : Int32} (hk6 : ∀ (v2 : Int32) (v3 : Int32)  w, k6 v2 v3 w = some (zv, zw) → RR true KX6_farOf (some (vI zv), zw) 6 [some (vR 0 0), none, some (vI v2), some (vI v3), none] [] w) : ∀ (n : Nat) (v2 : Int32) (v4 : Int32) (w : AW), mX6_farOf_16 k6 v3 n v2 v4 w = some (zv, zw) → RR true KX6_farOf (some (vI zv), zw) 16 [some (vR 0 0), none, some (vI v2), some (vI v3), some (vI v4)] [] w := by
  intro n
  induction n with
  | zero => intro v2 v4 w hf; cases hf
  | succ n ih =>
    intro v2 v4 w hf
    refine r_iload dX6_farOf_16 rfl ?_
    refine r_aload_n dX6_farOf_18 rfl rfl ?_
    refine g_getI dX6_farOf_19 fl_RX6_7 fk_6_2 (cl_true_0) ?_
    refine g_icmp_ge (tgt := 55) dX6_farOf_22 rfl hf (fun _ hf => ?_) (fun _ hf => ?_)
    · refine r_goto (tgt := 6) dX6_farOf_55 rfl ?_
      refine r_mask (bs := [true, false, true, true, false]) ?_
      exact hk6 _ _ _ hf
    · refine r_iload_n dX6_farOf_25 rfl rfl ?_
      refine r_iload_n dX6_farOf_26 rfl rfl ?_
      refine r_iload dX6_farOf_27 rfl ?_
      refine r_ishr dX6_farOf_29 ?_
      refine r_iconst dX6_farOf_30 ic_1 ?_
      refine r_iand dX6_farOf_31 ?_
      refine r_iconst dX6_farOf_32 ic_1 ?_
      refine g_icmp_ne (tgt := 46) dX6_farOf_33 rfl hf (fun _ hf => ?_) (fun _ hf => ?_)
      · refine r_iconst dX6_farOf_46 ic_0 ?_
        refine r_mask (bs := [true, false, false, true, true]) ?_
        exact ok_mX6_farOf_47 hk6 (fun v2 v4 w hf => ih v2 v4 w hf) hf
      · refine r_aload_n dX6_farOf_36 rfl rfl ?_
        refine g_getA dX6_farOf_37 fl_RX6_13 fk_6_3 rfl (cl_true_0) ?_
        refine r_iload dX6_farOf_40 rfl ?_
        refine g_iald dX6_farOf_42 aK_true_0_4 aL_true_0_4 hf (fun x_1 hf => ?_)
        refine r_goto (tgt := 47) dX6_farOf_43 rfl ?_
        refine r_mask (bs := [true, false, false, true, true]) ?_
        exact ok_mX6_farOf_47 hk6 (fun v2 v4 w hf => ih v2 v4 w hf) hf
set_option maxRecDepth 100000 in
set_option maxHeartbeats 4000000 in
theorem ok_mX6_farOf_6 {zv : Int32} {zw : AW} : ∀ (n : Nat) (v2 : Int32) (v3 : Int32) (w : AW), mX6_farOf_6 n v2 v3 w = some (zv, zw) → RR true KX6_farOf (some (vI zv), zw) 6 [some (vR 0 0), none, some (vI v2), some (vI v3), none] [] w := by
  intro n
  induction n with
  | zero => intro v2 v3 w hf; cases hf
  | succ n ih =>
    intro v2 v3 w hf
    refine r_iload_n dX6_farOf_6 rfl rfl ?_
    refine r_iload_n dX6_farOf_7 rfl rfl ?_
    refine g_icmp_eq (tgt := 58) dX6_farOf_8 rfl hf (fun _ hf => ?_) (fun _ hf => ?_)
    · refine r_iload_n dX6_farOf_58 rfl rfl ?_
      exact r_iret dX6_farOf_59 rfl (ret_I hf)
    · refine r_iload_n dX6_farOf_11 rfl rfl ?_
      refine r_istore_n (ls2 := [some (vR 0 0), none, some (vI v2), some (vI v2), none]) dX6_farOf_12 rfl rfl rfl (Nat.le_of_ble_eq_true rfl) ?_
      refine r_iconst dX6_farOf_13 ic_0 ?_
      refine r_istore (ls2 := [some (vR 0 0), none, some (vI v2), some (vI v2), some (vI 0)]) dX6_farOf_14 rfl rfl (Nat.le_of_ble_eq_true rfl) ?_
      exact ok_mX6_farOf_16 (fun v2 v3 w hf => ih v2 v3 w hf) FU _ _ _ hf
set_option maxRecDepth 100000 in
set_option maxHeartbeats 4000000 in
theorem ok_mX6_farOf {zv : Int32} {zw : AW} {v1 : Int32} {w : AW} (hf : mX6_farOf v1 w = some (zv, zw)) : RR true KX6_farOf (some (vI zv), zw) 0 [some (vR 0 0), some (vI v1), none, none, none] [] w := by
  refine r_iconst dX6_farOf_0 ic_1 ?_
  refine r_iload_n dX6_farOf_1 rfl rfl ?_
  refine r_ishl dX6_farOf_2 ?_
  refine g_istore_n (fun v2_1 => [some (vR 0 0), some (vI v1), some (vI v2_1), none, none]) dX6_farOf_3 rfl rfl (fun _ => rfl) (Nat.le_of_ble_eq_true rfl) hf (fun v2_1 hf => ?_)
  refine r_iconst dX6_farOf_4 ic_0 ?_
  refine r_istore_n (ls2 := [some (vR 0 0), some (vI v1), some (vI v2_1), some (vI 0), none]) dX6_farOf_5 rfl rfl rfl (Nat.le_of_ble_eq_true rfl) ?_
  refine r_mask (bs := [true, false, true, true, false]) ?_
  exact ok_mX6_farOf_6 FU _ _ _ hf
theorem met_X6_farOf {zv : Int32} {zw : AW} {v1 : Int32} {w : AW} (hf : mX6_farOf v1 w = some (zv, zw)) : am_Met true KX6_farOf [vR 0 0, vI v1] w (some (vI zv), zw) := am_met mok_X6_farOf.1 (Nat.le_of_ble_eq_true rfl) (ok_mX6_farOf  hf)

/-! SeenWorldsModel.seenOf(II)I -/
noncomputable def mX6_seenOf_105 (k38 : Int32 → Int32 → AW → Option (Int32 × AW)) (k55 : Int32 → Int32 → AW → Option (Int32 × AW)) (v1 : Int32) (v4 : Int32) (v5 : Int32) (s0 : Int32) (s1 : Int32) (w : AW) : Option (Int32 × AW) :=
  nm (s1 ||| s0) fun v3_1 =>
  nm (v5 + 1) fun v5_2 =>
  k55 v3_1 v5_2 w
noncomputable def mX6_seenOf_55 (k38 : Int32 → Int32 → AW → Option (Int32 × AW)) (v1 : Int32) (v4 : Int32) : Nat → Int32 → Int32 → AW → Option (Int32 × AW)
  | 0, _, _, _ => none
  | n + 1, v3, v5, w =>
    if (w.1 0 0 2) ≤ v5 then
      k38 v3 v4 w
    else
      if ((v4 >>> (v5 &&& 31)) &&& 1) ≠ 1 then
        cl (mX6_farOf v5 w) fun x_2 w_1 =>
        if (x_2 &&& v4) = 0 then
          mX6_seenOf_105 k38 (mX6_seenOf_55 k38 v1 v4 n) v1 v4 v5 0 v3 w_1
        else
          mX6_seenOf_105 k38 (mX6_seenOf_55 k38 v1 v4 n) v1 v4 v5 (1 <<< (v5 &&& 31)) v3 w_1
      else
        cl (mX6_farOf v5 w) fun x_4 w_3 =>
        mX6_seenOf_105 k38 (mX6_seenOf_55 k38 v1 v4 n) v1 v4 v5 x_4 v3 w_3
noncomputable def mX6_seenOf_38 (v1 : Int32) : Nat → Int32 → Int32 → AW → Option (Int32 × AW)
  | 0, _, _, _ => none
  | n + 1, v3, v4, w =>
    if v1 ≠ 3 then
      some (v3, w)
    else
      if v3 = v4 then
        some (v3, w)
      else
        mX6_seenOf_55 (mX6_seenOf_38 v1 n) v1 v3 FU v3 0 w
noncomputable def mX6_seenOf (v1 : Int32) (v2 : Int32) (w : AW) : Option (Int32 × AW) :=
  if 2 ≤ v1 then
    cl (mX6_farOf v2 w) fun x_2 w_1 =>
    mX6_seenOf_38 v1 FU x_2 0 w_1
  else
    if v1 ≠ 0 then
      rd 8 (w.1 0 4) v2 fun x_3 =>
      some (x_3 ||| (1 <<< (v2 &&& 31)), w)
    else
      rd 8 (w.1 0 4) v2 fun x_4 =>
      some (x_4, w)
set_option maxRecDepth 100000 in
set_option maxHeartbeats 4000000 in
theorem ok_mX6_seenOf_105 {zv : Int32} {zw : AW} {k38 : Int32 → Int32 → AW → Option (Int32 × AW)} {k55 : Int32 → Int32 → AW → Option (Int32 × AW)} {v1 : Int32} {v4 : Int32} {v5 : Int32} {s0 : Int32} {s1 : Int32} (hk38 : ∀ (v3 : Int32) (v4 : Int32)  w, k38 v3 v4 w = some (zv, zw) → RR true KX6_seenOf (some (vI zv), zw) 38 [some (vR 0 0), some (vI v1), none, some (vI v3), some (vI v4), none] [] w) (hk55 : ∀ (v3 : Int32) (v5 : Int32)  w, k55 v3 v5 w = some (zv, zw) → RR true KX6_seenOf (some (vI zv), zw) 55 [some (vR 0 0), some (vI v1), none, some (vI v3), some (vI v4), some (vI v5)] [] w) {w : AW} (hf : mX6_seenOf_105 k38 k55 v1 v4 v5 s0 s1 w = some (zv, zw)) : RR true KX6_seenOf (some (vI zv), zw) 105 [some (vR 0 0), some (vI v1), none, none, some (vI v4), some (vI v5)] [vI s0, vI s1] w := by
  refine r_ior dX6_seenOf_105 ?_
  refine g_istore_n (fun v3_1 => [some (vR 0 0), some (vI v1), none, some (vI v3_1), some (vI v4), some (vI v5)]) dX6_seenOf_106 rfl rfl (fun _ => rfl) (Nat.le_of_ble_eq_true rfl) hf (fun v3_1 hf => ?_)
  refine g_iinc (fun v5_2 => [some (vR 0 0), some (vI v1), none, some (vI v3_1), some (vI v4), some (vI v5_2)]) dX6_seenOf_107 ic_1 rfl rfl (fun _ => rfl) (Nat.le_of_ble_eq_true rfl) hf (fun v5_2 hf => ?_)
  refine r_goto (tgt := 55) dX6_seenOf_110 rfl ?_
  exact hk55 _ _ _ hf
set_option maxRecDepth 100000 in
set_option maxHeartbeats 4000000 in
theorem ok_mX6_seenOf_55 {zv : Int32} {zw : AW} {k38 : Int32 → Int32 → AW → Option (Int32 × AW)} {v1 : Int32} {v4 : Int32} (hk38 : ∀ (v3 : Int32) (v4 : Int32)  w, k38 v3 v4 w = some (zv, zw) → RR true KX6_seenOf (some (vI zv), zw) 38 [some (vR 0 0), some (vI v1), none, some (vI v3), some (vI v4), none] [] w) : ∀ (n : Nat) (v3 : Int32) (v5 : Int32) (w : AW), mX6_seenOf_55 k38 v1 v4 n v3 v5 w = some (zv, zw) → RR true KX6_seenOf (some (vI zv), zw) 55 [some (vR 0 0), some (vI v1), none, some (vI v3), some (vI v4), some (vI v5)] [] w := by
  intro n
  induction n with
  | zero => intro v3 v5 w hf; cases hf
  | succ n ih =>
    intro v3 v5 w hf
    refine r_iload dX6_seenOf_55 rfl ?_
    refine r_aload_n dX6_seenOf_57 rfl rfl ?_
    refine g_getI dX6_seenOf_58 fl_RX6_7 fk_6_2 (cl_true_0) ?_
    refine g_icmp_ge (tgt := 113) dX6_seenOf_61 rfl hf (fun _ hf => ?_) (fun _ hf => ?_)
    · refine r_goto (tgt := 38) dX6_seenOf_113 rfl ?_
      refine r_mask (bs := [true, true, false, true, true, false]) ?_
      exact hk38 _ _ _ hf
    · refine r_iload_n dX6_seenOf_64 rfl rfl ?_
      refine r_iload dX6_seenOf_65 rfl ?_
      refine r_iload dX6_seenOf_67 rfl ?_
      refine r_ishr dX6_seenOf_69 ?_
      refine r_iconst dX6_seenOf_70 ic_1 ?_
      refine r_iand dX6_seenOf_71 ?_
      refine r_iconst dX6_seenOf_72 ic_1 ?_
      refine g_icmp_ne (tgt := 85) dX6_seenOf_73 rfl hf (fun _ hf => ?_) (fun _ hf => ?_)
      · refine r_aload_n dX6_seenOf_85 rfl rfl ?_
        refine r_iload dX6_seenOf_86 rfl ?_
        obtain ⟨x_2, w_1, hc, hf⟩ := cl_some hf
        refine g_cV (st := [vI v3]) KX6_farOf [vI v5] dX6_seenOf_88 e_RX6_147 (cl_true_0) (rfl : vwCl[6]? = _) rfl mok_X6_farOf mw_X6_farOf ⟨Nat.le_of_ble_eq_true rfl, Nat.le_of_ble_eq_true rfl⟩ (met_X6_farOf hc) rfl (Nat.le_of_ble_eq_true rfl) ?_
        clear hc
        refine r_iload dX6_seenOf_91 rfl ?_
        refine r_iand dX6_seenOf_93 ?_
        refine g_if_eq (tgt := 104) dX6_seenOf_94 rfl hf (fun _ hf => ?_) (fun _ hf => ?_)
        · refine r_iconst dX6_seenOf_104 ic_0 ?_
          refine r_mask (bs := [true, true, false, false, true, true]) ?_
          exact ok_mX6_seenOf_105 hk38 (fun v3 v5 w hf => ih v3 v5 w hf) hf
        · refine r_iconst dX6_seenOf_97 ic_1 ?_
          refine r_iload dX6_seenOf_98 rfl ?_
          refine r_ishl dX6_seenOf_100 ?_
          refine r_goto (tgt := 105) dX6_seenOf_101 rfl ?_
          refine r_mask (bs := [true, true, false, false, true, true]) ?_
          exact ok_mX6_seenOf_105 hk38 (fun v3 v5 w hf => ih v3 v5 w hf) hf
      · refine r_aload_n dX6_seenOf_76 rfl rfl ?_
        refine r_iload dX6_seenOf_77 rfl ?_
        obtain ⟨x_4, w_3, hc, hf⟩ := cl_some hf
        refine g_cV (st := [vI v3]) KX6_farOf [vI v5] dX6_seenOf_79 e_RX6_147 (cl_true_0) (rfl : vwCl[6]? = _) rfl mok_X6_farOf mw_X6_farOf ⟨Nat.le_of_ble_eq_true rfl, Nat.le_of_ble_eq_true rfl⟩ (met_X6_farOf hc) rfl (Nat.le_of_ble_eq_true rfl) ?_
        clear hc
        refine r_goto (tgt := 105) dX6_seenOf_82 rfl ?_
        refine r_mask (bs := [true, true, false, false, true, true]) ?_
        exact ok_mX6_seenOf_105 hk38 (fun v3 v5 w hf => ih v3 v5 w hf) hf
set_option maxRecDepth 100000 in
set_option maxHeartbeats 4000000 in
theorem ok_mX6_seenOf_38 {zv : Int32} {zw : AW} {v1 : Int32} : ∀ (n : Nat) (v3 : Int32) (v4 : Int32) (w : AW), mX6_seenOf_38 v1 n v3 v4 w = some (zv, zw) → RR true KX6_seenOf (some (vI zv), zw) 38 [some (vR 0 0), some (vI v1), none, some (vI v3), some (vI v4), none] [] w := by
  intro n
  induction n with
  | zero => intro v3 v4 w hf; cases hf
  | succ n ih =>
    intro v3 v4 w hf
    refine r_iload_n dX6_seenOf_38 rfl rfl ?_
    refine r_iconst dX6_seenOf_39 ic_3 ?_
    refine g_icmp_ne (tgt := 116) dX6_seenOf_40 rfl hf (fun _ hf => ?_) (fun _ hf => ?_)
    · refine r_iload_n dX6_seenOf_116 rfl rfl ?_
      exact r_iret dX6_seenOf_117 rfl (ret_I hf)
    · refine r_iload_n dX6_seenOf_43 rfl rfl ?_
      refine r_iload dX6_seenOf_44 rfl ?_
      refine g_icmp_eq (tgt := 116) dX6_seenOf_46 rfl hf (fun _ hf => ?_) (fun _ hf => ?_)
      · refine r_iload_n dX6_seenOf_116 rfl rfl ?_
        exact r_iret dX6_seenOf_117 rfl (ret_I hf)
      · refine r_iload_n dX6_seenOf_49 rfl rfl ?_
        refine r_istore (ls2 := [some (vR 0 0), some (vI v1), none, some (vI v3), some (vI v3), none]) dX6_seenOf_50 rfl rfl (Nat.le_of_ble_eq_true rfl) ?_
        refine r_iconst dX6_seenOf_52 ic_0 ?_
        refine r_istore (ls2 := [some (vR 0 0), some (vI v1), none, some (vI v3), some (vI v3), some (vI 0)]) dX6_seenOf_53 rfl rfl (Nat.le_of_ble_eq_true rfl) ?_
        exact ok_mX6_seenOf_55 (fun v3 v4 w hf => ih v3 v4 w hf) FU _ _ _ hf
set_option maxRecDepth 100000 in
set_option maxHeartbeats 4000000 in
theorem ok_mX6_seenOf {zv : Int32} {zw : AW} {v1 : Int32} {v2 : Int32} {w : AW} (hf : mX6_seenOf v1 v2 w = some (zv, zw)) : RR true KX6_seenOf (some (vI zv), zw) 0 [some (vR 0 0), some (vI v1), some (vI v2), none, none, none] [] w := by
  refine r_iload_n dX6_seenOf_0 rfl rfl ?_
  refine r_iconst dX6_seenOf_1 ic_2 ?_
  refine g_icmp_ge (tgt := 29) dX6_seenOf_2 rfl hf (fun _ hf => ?_) (fun _ hf => ?_)
  · refine r_aload_n dX6_seenOf_29 rfl rfl ?_
    refine r_iload_n dX6_seenOf_30 rfl rfl ?_
    obtain ⟨x_2, w_1, hc, hf⟩ := cl_some hf
    refine g_cV (st := []) KX6_farOf [vI v2] dX6_seenOf_31 e_RX6_147 (cl_true_0) (rfl : vwCl[6]? = _) rfl mok_X6_farOf mw_X6_farOf ⟨Nat.le_of_ble_eq_true rfl, Nat.le_of_ble_eq_true rfl⟩ (met_X6_farOf hc) rfl (Nat.le_of_ble_eq_true rfl) ?_
    clear hc
    refine r_istore_n (ls2 := [some (vR 0 0), some (vI v1), some (vI v2), some (vI x_2), none, none]) dX6_seenOf_34 rfl rfl rfl (Nat.le_of_ble_eq_true rfl) ?_
    refine r_iconst dX6_seenOf_35 ic_0 ?_
    refine r_istore (ls2 := [some (vR 0 0), some (vI v1), some (vI v2), some (vI x_2), some (vI 0), none]) dX6_seenOf_36 rfl rfl (Nat.le_of_ble_eq_true rfl) ?_
    refine r_mask (bs := [true, true, false, true, true, false]) ?_
    exact ok_mX6_seenOf_38 FU _ _ _ hf
  · refine r_iload_n dX6_seenOf_5 rfl rfl ?_
    refine g_if_ne (tgt := 18) dX6_seenOf_6 rfl hf (fun _ hf => ?_) (fun _ hf => ?_)
    · refine r_aload_n dX6_seenOf_18 rfl rfl ?_
      refine g_getA dX6_seenOf_19 fl_RX6_13 fk_6_3 rfl (cl_true_0) ?_
      refine r_iload_n dX6_seenOf_22 rfl rfl ?_
      refine g_iald dX6_seenOf_23 aK_true_0_4 aL_true_0_4 hf (fun x_3 hf => ?_)
      refine r_iconst dX6_seenOf_24 ic_1 ?_
      refine r_iload_n dX6_seenOf_25 rfl rfl ?_
      refine r_ishl dX6_seenOf_26 ?_
      refine r_ior dX6_seenOf_27 ?_
      exact r_iret dX6_seenOf_28 rfl (ret_I hf)
    · refine r_aload_n dX6_seenOf_9 rfl rfl ?_
      refine g_getA dX6_seenOf_10 fl_RX6_13 fk_6_3 rfl (cl_true_0) ?_
      refine r_iload_n dX6_seenOf_13 rfl rfl ?_
      refine g_iald dX6_seenOf_14 aK_true_0_4 aL_true_0_4 hf (fun x_4 hf => ?_)
      refine r_goto (tgt := 28) dX6_seenOf_15 rfl ?_
      exact r_iret dX6_seenOf_28 rfl (ret_I hf)
theorem met_X6_seenOf {zv : Int32} {zw : AW} {v1 : Int32} {v2 : Int32} {w : AW} (hf : mX6_seenOf v1 v2 w = some (zv, zw)) : am_Met true KX6_seenOf [vR 0 0, vI v1, vI v2] w (some (vI zv), zw) := am_met mok_X6_seenOf.1 (Nat.le_of_ble_eq_true rfl) (ok_mX6_seenOf  hf)

/-! SeenWorldsModel.seen(II)I -/
noncomputable def mX6_seen_60 (v1 : Int32) (v2 : Int32) (s0 : Int64) (s1 : Int64) (w : AW) : Option (Int32 × AW) :=
  puL w (s1 + s0) fun w_1 =>
  cl (mX6_seenOf v1 v2 w_1) fun x_3 w_2 =>
  some (x_3, w_2)
noncomputable def mX6_seen (v1 : Int32) (v2 : Int32) (w : AW) : Option (Int32 × AW) :=
  pu w 0 0 0 fun w_1 =>
  cl (mX6_isSort v1 w_1) fun x_3 w_2 =>
  if x_3 = 0 then
    some ((-1), w_2)
  else
    cl (mX6_isWorld v2 w_2) fun x_5 w_4 =>
    if x_5 ≠ 0 then
      if v1 ≠ 0 then
        if v1 ≠ 1 then
          if v1 ≠ 2 then
            mX6_seen_60 v1 v2 (1111 : Int64) w_4.2 w_4
          else
            mX6_seen_60 v1 v2 (111 : Int64) w_4.2 w_4
        else
          mX6_seen_60 v1 v2 (11 : Int64) w_4.2 w_4
      else
        mX6_seen_60 v1 v2 (1 : Int64) w_4.2 w_4
    else
      some ((-1), w_4)
set_option maxRecDepth 100000 in
set_option maxHeartbeats 4000000 in
theorem ok_mX6_seen_60 {zv : Int32} {zw : AW} {v1 : Int32} {v2 : Int32} {s0 : Int64} {s1 : Int64} {w : AW} (hf : mX6_seen_60 v1 v2 s0 s1 w = some (zv, zw)) : RR true KX6_seen (some (vI zv), zw) 60 [some (vR 0 0), some (vI v1), some (vI v2)] [vL s0, vL s1, vR 0 0] w := by
  refine r_ladd dX6_seen_60 ?_
  refine g_putL dX6_seen_61 fl_RX6_154 fk_6_1 (cl_true_0) hf (fun w_1 hf => ?_)
  refine r_aload_n dX6_seen_64 rfl rfl ?_
  refine r_iload_n dX6_seen_65 rfl rfl ?_
  refine r_iload_n dX6_seen_66 rfl rfl ?_
  obtain ⟨x_3, w_2, hc, hf⟩ := cl_some hf
  refine g_cV (st := []) KX6_seenOf [vI v1, vI v2] dX6_seen_67 e_RX6_164 (cl_true_0) (rfl : vwCl[6]? = _) rfl mok_X6_seenOf mw_X6_seenOf ⟨Nat.le_of_ble_eq_true rfl, Nat.le_of_ble_eq_true rfl⟩ (met_X6_seenOf hc) rfl (Nat.le_of_ble_eq_true rfl) ?_
  clear hc
  exact r_iret dX6_seen_70 rfl (ret_I hf)
set_option maxRecDepth 100000 in
set_option maxHeartbeats 4000000 in
theorem ok_mX6_seen {zv : Int32} {zw : AW} {v1 : Int32} {v2 : Int32} {w : AW} (hf : mX6_seen v1 v2 w = some (zv, zw)) : RR true KX6_seen (some (vI zv), zw) 0 [some (vR 0 0), some (vI v1), some (vI v2)] [] w := by
  refine r_aload_n dX6_seen_0 rfl rfl ?_
  refine r_iconst dX6_seen_1 ic_0 ?_
  refine g_putI dX6_seen_2 fl_RX6_132 fk_6_0 (cl_true_0) hf (fun w_1 hf => ?_)
  refine r_iload_n dX6_seen_5 rfl rfl ?_
  obtain ⟨x_3, w_2, hc, hf⟩ := cl_some hf
  refine g_cS (st := []) KX6_isSort [vI v1] dX6_seen_6 e_RX6_151 mok_X6_isSort mw_X6_isSort ⟨Nat.le_of_ble_eq_true rfl, Nat.le_of_ble_eq_true rfl⟩ (met_X6_isSort hc) rfl (Nat.le_of_ble_eq_true rfl) ?_
  clear hc
  refine g_if_eq (tgt := 20) dX6_seen_9 rfl hf (fun _ hf => ?_) (fun _ hf => ?_)
  · refine r_iconst dX6_seen_20 ic_m1 ?_
    exact r_iret dX6_seen_21 rfl (ret_I hf)
  · refine r_aload_n dX6_seen_12 rfl rfl ?_
    refine r_iload_n dX6_seen_13 rfl rfl ?_
    obtain ⟨x_5, w_4, hc, hf⟩ := cl_some hf
    refine g_cV (st := []) KX6_isWorld [vI v2] dX6_seen_14 e_RX6_139 (cl_true_0) (rfl : vwCl[6]? = _) rfl mok_X6_isWorld mw_X6_isWorld ⟨Nat.le_of_ble_eq_true rfl, Nat.le_of_ble_eq_true rfl⟩ (met_X6_isWorld hc) rfl (Nat.le_of_ble_eq_true rfl) ?_
    clear hc
    refine g_if_ne (tgt := 22) dX6_seen_17 rfl hf (fun _ hf => ?_) (fun _ hf => ?_)
    · refine r_aload_n dX6_seen_22 rfl rfl ?_
      refine r_dup dX6_seen_23 rfl ?_
      refine g_getL dX6_seen_24 fl_RX6_154 fk_6_1 (cl_true_0) ?_
      refine r_iload_n dX6_seen_27 rfl rfl ?_
      refine g_if_ne (tgt := 35) dX6_seen_28 rfl hf (fun _ hf => ?_) (fun _ hf => ?_)
      · refine r_iload_n dX6_seen_35 rfl rfl ?_
        refine r_iconst dX6_seen_36 ic_1 ?_
        refine g_icmp_ne (tgt := 46) dX6_seen_37 rfl hf (fun _ hf => ?_) (fun _ hf => ?_)
        · refine r_iload_n dX6_seen_46 rfl rfl ?_
          refine r_iconst dX6_seen_47 ic_2 ?_
          refine g_icmp_ne (tgt := 57) dX6_seen_48 rfl hf (fun _ hf => ?_) (fun _ hf => ?_)
          · refine r_ldc2 (x := 1111) dX6_seen_57 (am_c29 (i := 9) rfl rfl) ?_
            exact ok_mX6_seen_60 hf
          · refine r_ldc2 (x := 111) dX6_seen_51 (am_c29 (i := 8) rfl rfl) ?_
            refine r_goto (tgt := 60) dX6_seen_54 rfl ?_
            exact ok_mX6_seen_60 hf
        · refine r_ldc2 (x := 11) dX6_seen_40 (am_c29 (i := 7) rfl rfl) ?_
          refine r_goto (tgt := 60) dX6_seen_43 rfl ?_
          exact ok_mX6_seen_60 hf
      · refine r_lconst (x := 1) dX6_seen_31 rfl ?_
        refine r_goto (tgt := 60) dX6_seen_32 rfl ?_
        exact ok_mX6_seen_60 hf
    · refine r_iconst dX6_seen_20 ic_m1 ?_
      exact r_iret dX6_seen_21 rfl (ret_I hf)
theorem met_X6_seen {zv : Int32} {zw : AW} {v1 : Int32} {v2 : Int32} {w : AW} (hf : mX6_seen v1 v2 w = some (zv, zw)) : am_Met true KX6_seen [vR 0 0, vI v1, vI v2] w (some (vI zv), zw) := am_met mok_X6_seen.1 (Nat.le_of_ble_eq_true rfl) (ok_mX6_seen  hf)

/-! SeenWorldsModel.ones(I)I -/
noncomputable def mX6_ones_4 (v0 : Int32) : Nat → Int32 → Int32 → AW → Option (Int32 × AW)
  | 0, _, _, _ => none
  | n + 1, v1, v2, w =>
    if 8 ≤ v2 then
      some (v1, w)
    else
      nm (v1 + ((v0 >>> (v2 &&& 31)) &&& 1)) fun v1_1 =>
      nm (v2 + 1) fun v2_2 =>
      mX6_ones_4 v0 n v1_1 v2_2 w
noncomputable def mX6_ones (v0 : Int32) (w : AW) : Option (Int32 × AW) :=
  mX6_ones_4 v0 FU 0 0 w
set_option maxRecDepth 100000 in
set_option maxHeartbeats 4000000 in
theorem ok_mX6_ones_4 {zv : Int32} {zw : AW} {v0 : Int32} : ∀ (n : Nat) (v1 : Int32) (v2 : Int32) (w : AW), mX6_ones_4 v0 n v1 v2 w = some (zv, zw) → RR true KX6_ones (some (vI zv), zw) 4 [some (vI v0), some (vI v1), some (vI v2)] [] w := by
  intro n
  induction n with
  | zero => intro v1 v2 w hf; cases hf
  | succ n ih =>
    intro v1 v2 w hf
    refine r_iload_n dX6_ones_4 rfl rfl ?_
    refine r_bipush dX6_ones_5 (bp_8) ?_
    refine g_icmp_ge (tgt := 24) dX6_ones_7 rfl hf (fun _ hf => ?_) (fun _ hf => ?_)
    · refine r_iload_n dX6_ones_24 rfl rfl ?_
      exact r_iret dX6_ones_25 rfl (ret_I hf)
    · refine r_iload_n dX6_ones_10 rfl rfl ?_
      refine r_iload_n dX6_ones_11 rfl rfl ?_
      refine r_iload_n dX6_ones_12 rfl rfl ?_
      refine r_ishr dX6_ones_13 ?_
      refine r_iconst dX6_ones_14 ic_1 ?_
      refine r_iand dX6_ones_15 ?_
      refine r_iadd dX6_ones_16 ?_
      refine g_istore_n (fun v1_1 => [some (vI v0), some (vI v1_1), some (vI v2)]) dX6_ones_17 rfl rfl (fun _ => rfl) (Nat.le_of_ble_eq_true rfl) hf (fun v1_1 hf => ?_)
      refine g_iinc (fun v2_2 => [some (vI v0), some (vI v1_1), some (vI v2_2)]) dX6_ones_18 ic_1 rfl rfl (fun _ => rfl) (Nat.le_of_ble_eq_true rfl) hf (fun v2_2 hf => ?_)
      refine r_goto (tgt := 4) dX6_ones_21 rfl ?_
      exact ih _ _ _ hf
set_option maxRecDepth 100000 in
set_option maxHeartbeats 4000000 in
theorem ok_mX6_ones {zv : Int32} {zw : AW} {v0 : Int32} {w : AW} (hf : mX6_ones v0 w = some (zv, zw)) : RR true KX6_ones (some (vI zv), zw) 0 [some (vI v0), none, none] [] w := by
  refine r_iconst dX6_ones_0 ic_0 ?_
  refine r_istore_n (ls2 := [some (vI v0), some (vI 0), none]) dX6_ones_1 rfl rfl rfl (Nat.le_of_ble_eq_true rfl) ?_
  refine r_iconst dX6_ones_2 ic_0 ?_
  refine r_istore_n (ls2 := [some (vI v0), some (vI 0), some (vI 0)]) dX6_ones_3 rfl rfl rfl (Nat.le_of_ble_eq_true rfl) ?_
  exact ok_mX6_ones_4 FU _ _ _ hf
theorem met_X6_ones {zv : Int32} {zw : AW} {v0 : Int32} {w : AW} (hf : mX6_ones v0 w = some (zv, zw)) : am_Met true KX6_ones [vI v0] w (some (vI zv), zw) := am_met mok_X6_ones.1 (Nat.le_of_ble_eq_true rfl) (ok_mX6_ones  hf)

/-! SeenWorldsModel.sorts()I -/
noncomputable def mX6_sorts_188 (k10 : Int32 → Int32 → AW → Option (Int32 × AW)) (k86 : Int32 → Int32 → AW → Option (Int32 × AW)) (v1 : Int32) (v2 : Int32) (v3 : Int32) (w : AW) : Option (Int32 × AW) :=
  nm (v3 + 1) fun v3_1 =>
  k86 v1 v3_1 w
noncomputable def mX6_sorts_186 (k10 : Int32 → Int32 → AW → Option (Int32 × AW)) (k86 : Int32 → Int32 → AW → Option (Int32 × AW)) (v2 : Int32) (v3 : Int32) (s0 : Int32) (s1 : Int32) (w : AW) : Option (Int32 × AW) :=
  nm (s1 &&& s0) fun v1_1 =>
  mX6_sorts_188 k10 k86 v1_1 v2 v3 w
noncomputable def mX6_sorts_158 (k10 : Int32 → Int32 → AW → Option (Int32 × AW)) (k86 : Int32 → Int32 → AW → Option (Int32 × AW)) (v2 : Int32) (v3 : Int32) (s0 : Int32) (s1 : Int32) (w : AW) : Option (Int32 × AW) :=
  nm (s1 &&& s0) fun v1_1 =>
  rd 8 (w.1 0 4) v2 fun x_2 =>
  rd 8 (w.1 0 4) v3 fun x_3 =>
  if (x_2 &&& (x_3 ^^^ (-1))) ≠ 0 then
    mX6_sorts_186 k10 k86 v2 v3 47 v1_1 w
  else
    mX6_sorts_186 k10 k86 v2 v3 63 v1_1 w
noncomputable def mX6_sorts_130 (k10 : Int32 → Int32 → AW → Option (Int32 × AW)) (k86 : Int32 → Int32 → AW → Option (Int32 × AW)) (v2 : Int32) (v3 : Int32) (s0 : Int32) (s1 : Int32) (w : AW) : Option (Int32 × AW) :=
  nm (s1 &&& s0) fun v1_1 =>
  rd 8 (w.1 0 4) v3 fun x_2 =>
  rd 8 (w.1 0 4) v2 fun x_3 =>
  if (x_2 &&& (x_3 ^^^ (-1))) ≠ 0 then
    mX6_sorts_158 k10 k86 v2 v3 59 v1_1 w
  else
    mX6_sorts_158 k10 k86 v2 v3 63 v1_1 w
noncomputable def mX6_sorts_86 (k10 : Int32 → Int32 → AW → Option (Int32 × AW)) (v2 : Int32) : Nat → Int32 → Int32 → AW → Option (Int32 × AW)
  | 0, _, _, _ => none
  | n + 1, v1, v3, w =>
    if (w.1 0 0 2) ≤ v3 then
      nm (v2 + 1) fun v2_1 =>
      k10 v1 v2_1 w
    else
      rd 8 (w.1 0 4) v2 fun x_2 =>
      if ((x_2 >>> (v3 &&& 31)) &&& 1) ≠ 1 then
        mX6_sorts_188 k10 (mX6_sorts_86 k10 v2 n) v1 v2 v3 w
      else
        rd 8 (w.1 0 4) v3 fun x_3 =>
        if ((x_3 >>> (v2 &&& 31)) &&& 1) ≠ 1 then
          mX6_sorts_130 k10 (mX6_sorts_86 k10 v2 n) v2 v3 61 v1 w
        else
          mX6_sorts_130 k10 (mX6_sorts_86 k10 v2 n) v2 v3 63 v1 w
noncomputable def mX6_sorts_82 (k10 : Int32 → Int32 → AW → Option (Int32 × AW)) (v2 : Int32) (s0 : Int32) (s1 : Int32) (w : AW) : Option (Int32 × AW) :=
  nm (s1 &&& s0) fun v1_1 =>
  mX6_sorts_86 k10 v2 FU v1_1 0 w
noncomputable def mX6_sorts_59 (k10 : Int32 → Int32 → AW → Option (Int32 × AW)) (v2 : Int32) (s0 : Int32) (s1 : Int32) (w : AW) : Option (Int32 × AW) :=
  nm (s1 &&& s0) fun v1_1 =>
  rd 8 (w.1 0 4) v2 fun x_2 =>
  cl (mX6_ones x_2 w) fun x_4 w_3 =>
  if 2 ≤ x_4 then
    mX6_sorts_82 k10 v2 31 v1_1 w_3
  else
    mX6_sorts_82 k10 v2 63 v1_1 w_3
noncomputable def mX6_sorts_40 (k10 : Int32 → Int32 → AW → Option (Int32 × AW)) (v2 : Int32) (s0 : Int32) (s1 : Int32) (w : AW) : Option (Int32 × AW) :=
  nm (s1 &&& s0) fun v1_1 =>
  rd 8 (w.1 0 4) v2 fun x_2 =>
  if x_2 = 0 then
    mX6_sorts_59 k10 v2 55 v1_1 w
  else
    mX6_sorts_59 k10 v2 63 v1_1 w
noncomputable def mX6_sorts_10 : Nat → Int32 → Int32 → AW → Option (Int32 × AW)
  | 0, _, _, _ => none
  | n + 1, v1, v2, w =>
    if (w.1 0 0 2) ≤ v2 then
      some (v1, w)
    else
      rd 8 (w.1 0 4) v2 fun x_1 =>
      if ((x_1 >>> (v2 &&& 31)) &&& 1) ≠ 1 then
        mX6_sorts_40 (mX6_sorts_10 n) v2 62 v1 w
      else
        mX6_sorts_40 (mX6_sorts_10 n) v2 63 v1 w
noncomputable def mX6_sorts (w : AW) : Option (Int32 × AW) :=
  pu w 0 0 0 fun w_1 =>
  mX6_sorts_10 FU 63 0 w_1
set_option maxRecDepth 100000 in
set_option maxHeartbeats 4000000 in
theorem ok_mX6_sorts_188 {zv : Int32} {zw : AW} {k10 : Int32 → Int32 → AW → Option (Int32 × AW)} {k86 : Int32 → Int32 → AW → Option (Int32 × AW)} {v1 : Int32} {v2 : Int32} {v3 : Int32} (hk10 : ∀ (v1 : Int32) (v2 : Int32)  w, k10 v1 v2 w = some (zv, zw) → RR true KX6_sorts (some (vI zv), zw) 10 [some (vR 0 0), some (vI v1), some (vI v2), none] [] w) (hk86 : ∀ (v1 : Int32) (v3 : Int32)  w, k86 v1 v3 w = some (zv, zw) → RR true KX6_sorts (some (vI zv), zw) 86 [some (vR 0 0), some (vI v1), some (vI v2), some (vI v3)] [] w) {w : AW} (hf : mX6_sorts_188 k10 k86 v1 v2 v3 w = some (zv, zw)) : RR true KX6_sorts (some (vI zv), zw) 188 [some (vR 0 0), some (vI v1), some (vI v2), some (vI v3)] [] w := by
  refine g_iinc (fun v3_1 => [some (vR 0 0), some (vI v1), some (vI v2), some (vI v3_1)]) dX6_sorts_188 ic_1 rfl rfl (fun _ => rfl) (Nat.le_of_ble_eq_true rfl) hf (fun v3_1 hf => ?_)
  refine r_goto (tgt := 86) dX6_sorts_191 rfl ?_
  exact hk86 _ _ _ hf
set_option maxRecDepth 100000 in
set_option maxHeartbeats 4000000 in
theorem ok_mX6_sorts_186 {zv : Int32} {zw : AW} {k10 : Int32 → Int32 → AW → Option (Int32 × AW)} {k86 : Int32 → Int32 → AW → Option (Int32 × AW)} {v2 : Int32} {v3 : Int32} {s0 : Int32} {s1 : Int32} (hk10 : ∀ (v1 : Int32) (v2 : Int32)  w, k10 v1 v2 w = some (zv, zw) → RR true KX6_sorts (some (vI zv), zw) 10 [some (vR 0 0), some (vI v1), some (vI v2), none] [] w) (hk86 : ∀ (v1 : Int32) (v3 : Int32)  w, k86 v1 v3 w = some (zv, zw) → RR true KX6_sorts (some (vI zv), zw) 86 [some (vR 0 0), some (vI v1), some (vI v2), some (vI v3)] [] w) {w : AW} (hf : mX6_sorts_186 k10 k86 v2 v3 s0 s1 w = some (zv, zw)) : RR true KX6_sorts (some (vI zv), zw) 186 [some (vR 0 0), none, some (vI v2), some (vI v3)] [vI s0, vI s1] w := by
  refine r_iand dX6_sorts_186 ?_
  refine g_istore_n (fun v1_1 => [some (vR 0 0), some (vI v1_1), some (vI v2), some (vI v3)]) dX6_sorts_187 rfl rfl (fun _ => rfl) (Nat.le_of_ble_eq_true rfl) hf (fun v1_1 hf => ?_)
  exact ok_mX6_sorts_188 hk10 hk86 hf
set_option maxRecDepth 100000 in
set_option maxHeartbeats 4000000 in
theorem ok_mX6_sorts_158 {zv : Int32} {zw : AW} {k10 : Int32 → Int32 → AW → Option (Int32 × AW)} {k86 : Int32 → Int32 → AW → Option (Int32 × AW)} {v2 : Int32} {v3 : Int32} {s0 : Int32} {s1 : Int32} (hk10 : ∀ (v1 : Int32) (v2 : Int32)  w, k10 v1 v2 w = some (zv, zw) → RR true KX6_sorts (some (vI zv), zw) 10 [some (vR 0 0), some (vI v1), some (vI v2), none] [] w) (hk86 : ∀ (v1 : Int32) (v3 : Int32)  w, k86 v1 v3 w = some (zv, zw) → RR true KX6_sorts (some (vI zv), zw) 86 [some (vR 0 0), some (vI v1), some (vI v2), some (vI v3)] [] w) {w : AW} (hf : mX6_sorts_158 k10 k86 v2 v3 s0 s1 w = some (zv, zw)) : RR true KX6_sorts (some (vI zv), zw) 158 [some (vR 0 0), none, some (vI v2), some (vI v3)] [vI s0, vI s1] w := by
  refine r_iand dX6_sorts_158 ?_
  refine g_istore_n (fun v1_1 => [some (vR 0 0), some (vI v1_1), some (vI v2), some (vI v3)]) dX6_sorts_159 rfl rfl (fun _ => rfl) (Nat.le_of_ble_eq_true rfl) hf (fun v1_1 hf => ?_)
  refine r_iload_n dX6_sorts_160 rfl rfl ?_
  refine r_aload_n dX6_sorts_161 rfl rfl ?_
  refine g_getA dX6_sorts_162 fl_RX6_13 fk_6_3 rfl (cl_true_0) ?_
  refine r_iload_n dX6_sorts_165 rfl rfl ?_
  refine g_iald dX6_sorts_166 aK_true_0_4 aL_true_0_4 hf (fun x_2 hf => ?_)
  refine r_aload_n dX6_sorts_167 rfl rfl ?_
  refine g_getA dX6_sorts_168 fl_RX6_13 fk_6_3 rfl (cl_true_0) ?_
  refine r_iload_n dX6_sorts_171 rfl rfl ?_
  refine g_iald dX6_sorts_172 aK_true_0_4 aL_true_0_4 hf (fun x_3 hf => ?_)
  refine r_iconst dX6_sorts_173 ic_m1 ?_
  refine r_ixor dX6_sorts_174 ?_
  refine r_iand dX6_sorts_175 ?_
  refine g_if_ne (tgt := 184) dX6_sorts_176 rfl hf (fun _ hf => ?_) (fun _ hf => ?_)
  · refine r_bipush dX6_sorts_184 (bp_47) ?_
    refine r_mask (bs := [true, false, true, true]) ?_
    exact ok_mX6_sorts_186 hk10 hk86 hf
  · refine r_bipush dX6_sorts_179 (bp_63) ?_
    refine r_goto (tgt := 186) dX6_sorts_181 rfl ?_
    refine r_mask (bs := [true, false, true, true]) ?_
    exact ok_mX6_sorts_186 hk10 hk86 hf
set_option maxRecDepth 100000 in
set_option maxHeartbeats 4000000 in
theorem ok_mX6_sorts_130 {zv : Int32} {zw : AW} {k10 : Int32 → Int32 → AW → Option (Int32 × AW)} {k86 : Int32 → Int32 → AW → Option (Int32 × AW)} {v2 : Int32} {v3 : Int32} {s0 : Int32} {s1 : Int32} (hk10 : ∀ (v1 : Int32) (v2 : Int32)  w, k10 v1 v2 w = some (zv, zw) → RR true KX6_sorts (some (vI zv), zw) 10 [some (vR 0 0), some (vI v1), some (vI v2), none] [] w) (hk86 : ∀ (v1 : Int32) (v3 : Int32)  w, k86 v1 v3 w = some (zv, zw) → RR true KX6_sorts (some (vI zv), zw) 86 [some (vR 0 0), some (vI v1), some (vI v2), some (vI v3)] [] w) {w : AW} (hf : mX6_sorts_130 k10 k86 v2 v3 s0 s1 w = some (zv, zw)) : RR true KX6_sorts (some (vI zv), zw) 130 [some (vR 0 0), none, some (vI v2), some (vI v3)] [vI s0, vI s1] w := by
  refine r_iand dX6_sorts_130 ?_
  refine g_istore_n (fun v1_1 => [some (vR 0 0), some (vI v1_1), some (vI v2), some (vI v3)]) dX6_sorts_131 rfl rfl (fun _ => rfl) (Nat.le_of_ble_eq_true rfl) hf (fun v1_1 hf => ?_)
  refine r_iload_n dX6_sorts_132 rfl rfl ?_
  refine r_aload_n dX6_sorts_133 rfl rfl ?_
  refine g_getA dX6_sorts_134 fl_RX6_13 fk_6_3 rfl (cl_true_0) ?_
  refine r_iload_n dX6_sorts_137 rfl rfl ?_
  refine g_iald dX6_sorts_138 aK_true_0_4 aL_true_0_4 hf (fun x_2 hf => ?_)
  refine r_aload_n dX6_sorts_139 rfl rfl ?_
  refine g_getA dX6_sorts_140 fl_RX6_13 fk_6_3 rfl (cl_true_0) ?_
  refine r_iload_n dX6_sorts_143 rfl rfl ?_
  refine g_iald dX6_sorts_144 aK_true_0_4 aL_true_0_4 hf (fun x_3 hf => ?_)
  refine r_iconst dX6_sorts_145 ic_m1 ?_
  refine r_ixor dX6_sorts_146 ?_
  refine r_iand dX6_sorts_147 ?_
  refine g_if_ne (tgt := 156) dX6_sorts_148 rfl hf (fun _ hf => ?_) (fun _ hf => ?_)
  · refine r_bipush dX6_sorts_156 (bp_59) ?_
    refine r_mask (bs := [true, false, true, true]) ?_
    exact ok_mX6_sorts_158 hk10 hk86 hf
  · refine r_bipush dX6_sorts_151 (bp_63) ?_
    refine r_goto (tgt := 158) dX6_sorts_153 rfl ?_
    refine r_mask (bs := [true, false, true, true]) ?_
    exact ok_mX6_sorts_158 hk10 hk86 hf
set_option maxRecDepth 100000 in
set_option maxHeartbeats 4000000 in
theorem ok_mX6_sorts_86 {zv : Int32} {zw : AW} {k10 : Int32 → Int32 → AW → Option (Int32 × AW)} {v2 : Int32} (hk10 : ∀ (v1 : Int32) (v2 : Int32)  w, k10 v1 v2 w = some (zv, zw) → RR true KX6_sorts (some (vI zv), zw) 10 [some (vR 0 0), some (vI v1), some (vI v2), none] [] w) : ∀ (n : Nat) (v1 : Int32) (v3 : Int32) (w : AW), mX6_sorts_86 k10 v2 n v1 v3 w = some (zv, zw) → RR true KX6_sorts (some (vI zv), zw) 86 [some (vR 0 0), some (vI v1), some (vI v2), some (vI v3)] [] w := by
  intro n
  induction n with
  | zero => intro v1 v3 w hf; cases hf
  | succ n ih =>
    intro v1 v3 w hf
    refine r_iload_n dX6_sorts_86 rfl rfl ?_
    refine r_aload_n dX6_sorts_87 rfl rfl ?_
    refine g_getI dX6_sorts_88 fl_RX6_7 fk_6_2 (cl_true_0) ?_
    refine g_icmp_ge (tgt := 194) dX6_sorts_91 rfl hf (fun _ hf => ?_) (fun _ hf => ?_)
    · refine g_iinc (fun v2_1 => [some (vR 0 0), some (vI v1), some (vI v2_1), some (vI v3)]) dX6_sorts_194 ic_1 rfl rfl (fun _ => rfl) (Nat.le_of_ble_eq_true rfl) hf (fun v2_1 hf => ?_)
      refine r_goto (tgt := 10) dX6_sorts_197 rfl ?_
      refine r_mask (bs := [true, true, true, false]) ?_
      exact hk10 _ _ _ hf
    · refine r_aload_n dX6_sorts_94 rfl rfl ?_
      refine g_getA dX6_sorts_95 fl_RX6_13 fk_6_3 rfl (cl_true_0) ?_
      refine r_iload_n dX6_sorts_98 rfl rfl ?_
      refine g_iald dX6_sorts_99 aK_true_0_4 aL_true_0_4 hf (fun x_2 hf => ?_)
      refine r_iload_n dX6_sorts_100 rfl rfl ?_
      refine r_ishr dX6_sorts_101 ?_
      refine r_iconst dX6_sorts_102 ic_1 ?_
      refine r_iand dX6_sorts_103 ?_
      refine r_iconst dX6_sorts_104 ic_1 ?_
      refine g_icmp_ne (tgt := 188) dX6_sorts_105 rfl hf (fun _ hf => ?_) (fun _ hf => ?_)
      · exact ok_mX6_sorts_188 hk10 (fun v1 v3 w hf => ih v1 v3 w hf) hf
      · refine r_iload_n dX6_sorts_108 rfl rfl ?_
        refine r_aload_n dX6_sorts_109 rfl rfl ?_
        refine g_getA dX6_sorts_110 fl_RX6_13 fk_6_3 rfl (cl_true_0) ?_
        refine r_iload_n dX6_sorts_113 rfl rfl ?_
        refine g_iald dX6_sorts_114 aK_true_0_4 aL_true_0_4 hf (fun x_3 hf => ?_)
        refine r_iload_n dX6_sorts_115 rfl rfl ?_
        refine r_ishr dX6_sorts_116 ?_
        refine r_iconst dX6_sorts_117 ic_1 ?_
        refine r_iand dX6_sorts_118 ?_
        refine r_iconst dX6_sorts_119 ic_1 ?_
        refine g_icmp_ne (tgt := 128) dX6_sorts_120 rfl hf (fun _ hf => ?_) (fun _ hf => ?_)
        · refine r_bipush dX6_sorts_128 (bp_61) ?_
          refine r_mask (bs := [true, false, true, true]) ?_
          exact ok_mX6_sorts_130 hk10 (fun v1 v3 w hf => ih v1 v3 w hf) hf
        · refine r_bipush dX6_sorts_123 (bp_63) ?_
          refine r_goto (tgt := 130) dX6_sorts_125 rfl ?_
          refine r_mask (bs := [true, false, true, true]) ?_
          exact ok_mX6_sorts_130 hk10 (fun v1 v3 w hf => ih v1 v3 w hf) hf
set_option maxRecDepth 100000 in
set_option maxHeartbeats 4000000 in
theorem ok_mX6_sorts_82 {zv : Int32} {zw : AW} {k10 : Int32 → Int32 → AW → Option (Int32 × AW)} {v2 : Int32} {s0 : Int32} {s1 : Int32} (hk10 : ∀ (v1 : Int32) (v2 : Int32)  w, k10 v1 v2 w = some (zv, zw) → RR true KX6_sorts (some (vI zv), zw) 10 [some (vR 0 0), some (vI v1), some (vI v2), none] [] w) {w : AW} (hf : mX6_sorts_82 k10 v2 s0 s1 w = some (zv, zw)) : RR true KX6_sorts (some (vI zv), zw) 82 [some (vR 0 0), none, some (vI v2), none] [vI s0, vI s1] w := by
  refine r_iand dX6_sorts_82 ?_
  refine g_istore_n (fun v1_1 => [some (vR 0 0), some (vI v1_1), some (vI v2), none]) dX6_sorts_83 rfl rfl (fun _ => rfl) (Nat.le_of_ble_eq_true rfl) hf (fun v1_1 hf => ?_)
  refine r_iconst dX6_sorts_84 ic_0 ?_
  refine r_istore_n (ls2 := [some (vR 0 0), some (vI v1_1), some (vI v2), some (vI 0)]) dX6_sorts_85 rfl rfl rfl (Nat.le_of_ble_eq_true rfl) ?_
  exact ok_mX6_sorts_86 hk10 FU _ _ _ hf
set_option maxRecDepth 100000 in
set_option maxHeartbeats 4000000 in
theorem ok_mX6_sorts_59 {zv : Int32} {zw : AW} {k10 : Int32 → Int32 → AW → Option (Int32 × AW)} {v2 : Int32} {s0 : Int32} {s1 : Int32} (hk10 : ∀ (v1 : Int32) (v2 : Int32)  w, k10 v1 v2 w = some (zv, zw) → RR true KX6_sorts (some (vI zv), zw) 10 [some (vR 0 0), some (vI v1), some (vI v2), none] [] w) {w : AW} (hf : mX6_sorts_59 k10 v2 s0 s1 w = some (zv, zw)) : RR true KX6_sorts (some (vI zv), zw) 59 [some (vR 0 0), none, some (vI v2), none] [vI s0, vI s1] w := by
  refine r_iand dX6_sorts_59 ?_
  refine g_istore_n (fun v1_1 => [some (vR 0 0), some (vI v1_1), some (vI v2), none]) dX6_sorts_60 rfl rfl (fun _ => rfl) (Nat.le_of_ble_eq_true rfl) hf (fun v1_1 hf => ?_)
  refine r_iload_n dX6_sorts_61 rfl rfl ?_
  refine r_aload_n dX6_sorts_62 rfl rfl ?_
  refine g_getA dX6_sorts_63 fl_RX6_13 fk_6_3 rfl (cl_true_0) ?_
  refine r_iload_n dX6_sorts_66 rfl rfl ?_
  refine g_iald dX6_sorts_67 aK_true_0_4 aL_true_0_4 hf (fun x_2 hf => ?_)
  obtain ⟨x_4, w_3, hc, hf⟩ := cl_some hf
  refine g_cS (st := [vI v1_1]) KX6_ones [vI x_2] dX6_sorts_68 e_RX6_168 mok_X6_ones mw_X6_ones ⟨Nat.le_of_ble_eq_true rfl, Nat.le_of_ble_eq_true rfl⟩ (met_X6_ones hc) rfl (Nat.le_of_ble_eq_true rfl) ?_
  clear hc
  refine r_iconst dX6_sorts_71 ic_2 ?_
  refine g_icmp_ge (tgt := 80) dX6_sorts_72 rfl hf (fun _ hf => ?_) (fun _ hf => ?_)
  · refine r_bipush dX6_sorts_80 (bp_31) ?_
    refine r_mask (bs := [true, false, true, false]) ?_
    exact ok_mX6_sorts_82 hk10 hf
  · refine r_bipush dX6_sorts_75 (bp_63) ?_
    refine r_goto (tgt := 82) dX6_sorts_77 rfl ?_
    refine r_mask (bs := [true, false, true, false]) ?_
    exact ok_mX6_sorts_82 hk10 hf
set_option maxRecDepth 100000 in
set_option maxHeartbeats 4000000 in
theorem ok_mX6_sorts_40 {zv : Int32} {zw : AW} {k10 : Int32 → Int32 → AW → Option (Int32 × AW)} {v2 : Int32} {s0 : Int32} {s1 : Int32} (hk10 : ∀ (v1 : Int32) (v2 : Int32)  w, k10 v1 v2 w = some (zv, zw) → RR true KX6_sorts (some (vI zv), zw) 10 [some (vR 0 0), some (vI v1), some (vI v2), none] [] w) {w : AW} (hf : mX6_sorts_40 k10 v2 s0 s1 w = some (zv, zw)) : RR true KX6_sorts (some (vI zv), zw) 40 [some (vR 0 0), none, some (vI v2), none] [vI s0, vI s1] w := by
  refine r_iand dX6_sorts_40 ?_
  refine g_istore_n (fun v1_1 => [some (vR 0 0), some (vI v1_1), some (vI v2), none]) dX6_sorts_41 rfl rfl (fun _ => rfl) (Nat.le_of_ble_eq_true rfl) hf (fun v1_1 hf => ?_)
  refine r_iload_n dX6_sorts_42 rfl rfl ?_
  refine r_aload_n dX6_sorts_43 rfl rfl ?_
  refine g_getA dX6_sorts_44 fl_RX6_13 fk_6_3 rfl (cl_true_0) ?_
  refine r_iload_n dX6_sorts_47 rfl rfl ?_
  refine g_iald dX6_sorts_48 aK_true_0_4 aL_true_0_4 hf (fun x_2 hf => ?_)
  refine g_if_eq (tgt := 57) dX6_sorts_49 rfl hf (fun _ hf => ?_) (fun _ hf => ?_)
  · refine r_bipush dX6_sorts_57 (bp_55) ?_
    refine r_mask (bs := [true, false, true, false]) ?_
    exact ok_mX6_sorts_59 hk10 hf
  · refine r_bipush dX6_sorts_52 (bp_63) ?_
    refine r_goto (tgt := 59) dX6_sorts_54 rfl ?_
    refine r_mask (bs := [true, false, true, false]) ?_
    exact ok_mX6_sorts_59 hk10 hf
set_option maxRecDepth 100000 in
set_option maxHeartbeats 4000000 in
theorem ok_mX6_sorts_10 {zv : Int32} {zw : AW} : ∀ (n : Nat) (v1 : Int32) (v2 : Int32) (w : AW), mX6_sorts_10 n v1 v2 w = some (zv, zw) → RR true KX6_sorts (some (vI zv), zw) 10 [some (vR 0 0), some (vI v1), some (vI v2), none] [] w := by
  intro n
  induction n with
  | zero => intro v1 v2 w hf; cases hf
  | succ n ih =>
    intro v1 v2 w hf
    refine r_iload_n dX6_sorts_10 rfl rfl ?_
    refine r_aload_n dX6_sorts_11 rfl rfl ?_
    refine g_getI dX6_sorts_12 fl_RX6_7 fk_6_2 (cl_true_0) ?_
    refine g_icmp_ge (tgt := 200) dX6_sorts_15 rfl hf (fun _ hf => ?_) (fun _ hf => ?_)
    · refine r_iload_n dX6_sorts_200 rfl rfl ?_
      exact r_iret dX6_sorts_201 rfl (ret_I hf)
    · refine r_iload_n dX6_sorts_18 rfl rfl ?_
      refine r_aload_n dX6_sorts_19 rfl rfl ?_
      refine g_getA dX6_sorts_20 fl_RX6_13 fk_6_3 rfl (cl_true_0) ?_
      refine r_iload_n dX6_sorts_23 rfl rfl ?_
      refine g_iald dX6_sorts_24 aK_true_0_4 aL_true_0_4 hf (fun x_1 hf => ?_)
      refine r_iload_n dX6_sorts_25 rfl rfl ?_
      refine r_ishr dX6_sorts_26 ?_
      refine r_iconst dX6_sorts_27 ic_1 ?_
      refine r_iand dX6_sorts_28 ?_
      refine r_iconst dX6_sorts_29 ic_1 ?_
      refine g_icmp_ne (tgt := 38) dX6_sorts_30 rfl hf (fun _ hf => ?_) (fun _ hf => ?_)
      · refine r_bipush dX6_sorts_38 (bp_62) ?_
        refine r_mask (bs := [true, false, true, false]) ?_
        exact ok_mX6_sorts_40 (fun v1 v2 w hf => ih v1 v2 w hf) hf
      · refine r_bipush dX6_sorts_33 (bp_63) ?_
        refine r_goto (tgt := 40) dX6_sorts_35 rfl ?_
        refine r_mask (bs := [true, false, true, false]) ?_
        exact ok_mX6_sorts_40 (fun v1 v2 w hf => ih v1 v2 w hf) hf
set_option maxRecDepth 100000 in
set_option maxHeartbeats 4000000 in
theorem ok_mX6_sorts {zv : Int32} {zw : AW} {w : AW} (hf : mX6_sorts w = some (zv, zw)) : RR true KX6_sorts (some (vI zv), zw) 0 [some (vR 0 0), none, none, none] [] w := by
  refine r_aload_n dX6_sorts_0 rfl rfl ?_
  refine r_iconst dX6_sorts_1 ic_0 ?_
  refine g_putI dX6_sorts_2 fl_RX6_132 fk_6_0 (cl_true_0) hf (fun w_1 hf => ?_)
  refine r_bipush dX6_sorts_5 (bp_63) ?_
  refine r_istore_n (ls2 := [some (vR 0 0), some (vI 63), none, none]) dX6_sorts_7 rfl rfl rfl (Nat.le_of_ble_eq_true rfl) ?_
  refine r_iconst dX6_sorts_8 ic_0 ?_
  refine r_istore_n (ls2 := [some (vR 0 0), some (vI 63), some (vI 0), none]) dX6_sorts_9 rfl rfl rfl (Nat.le_of_ble_eq_true rfl) ?_
  exact ok_mX6_sorts_10 FU _ _ _ hf
theorem met_X6_sorts {zv : Int32} {zw : AW} {w : AW} (hf : mX6_sorts w = some (zv, zw)) : am_Met true KX6_sorts [vR 0 0] w (some (vI zv), zw) := am_met mok_X6_sorts.1 (Nat.le_of_ble_eq_true rfl) (ok_mX6_sorts  hf)
