/-! SeenWorlds$Types.hasBit(II)Z -/
noncomputable def mX3_hasBit_27 (w : AW) : Option (Int32 × AW) :=
  some (1, w)
noncomputable def mX3_hasBit (v0 : Int32) (v1 : Int32) (w : AW) : Option (Int32 × AW) :=
  cl (mX5_isAtom v0 w) fun x_2 w_1 =>
  if x_2 = 0 then
    if v1 ≠ 8 then
      cl (mX5_isModal v0 w_1) fun x_4 w_3 =>
      zr x_4 w_3
    else
      if v0 = 62 then
        mX3_hasBit_27 w_1
      else
        if v0 ≠ 33 then
          some (0, w_1)
        else
          mX3_hasBit_27 w_1
  else
    some (1, w_1)
set_option maxRecDepth 100000 in
set_option maxHeartbeats 4000000 in
theorem ok_mX3_hasBit_27 {zv : Int32} {zw : AW} {w : AW} (hf : mX3_hasBit_27 w = some (zv, zw)) : RR false KX3_hasBit (some (vI zv), zw) 27 [none, none] [] w := by
  refine r_iconst dX3_hasBit_27 ic_1 ?_
  refine r_goto (tgt := 39) dX3_hasBit_28 rfl ?_
  exact r_zret dX3_hasBit_39 rfl nar_1 (ret_I hf)
set_option maxRecDepth 100000 in
set_option maxHeartbeats 4000000 in
theorem ok_mX3_hasBit {zv : Int32} {zw : AW} {v0 : Int32} {v1 : Int32} {w : AW} (hf : mX3_hasBit v0 v1 w = some (zv, zw)) : RR false KX3_hasBit (some (vI zv), zw) 0 [some (vI v0), some (vI v1)] [] w := by
  refine r_iload_n dX3_hasBit_0 rfl rfl ?_
  obtain ⟨x_2, w_1, hc, hf⟩ := cl_some hf
  refine g_cN (st := []) KX5_isAtom [vI v0] dX3_hasBit_1 e_RX3_74 mok_X5_isAtom mw_X5_isAtom ⟨Nat.le_of_ble_eq_true rfl, Nat.le_of_ble_eq_true rfl⟩ (met_X5_isAtom hc) rfl (Nat.le_of_ble_eq_true rfl) ?_
  clear hc
  refine g_if_eq (tgt := 9) dX3_hasBit_4 rfl hf (fun _ hf => ?_) (fun _ hf => ?_)
  · refine r_iload_n dX3_hasBit_9 rfl rfl ?_
    refine r_bipush dX3_hasBit_10 (bp_8) ?_
    refine g_icmp_ne (tgt := 35) dX3_hasBit_12 rfl hf (fun _ hf => ?_) (fun _ hf => ?_)
    · refine r_iload_n dX3_hasBit_35 rfl rfl ?_
      obtain ⟨x_4, w_3, hc, hf⟩ := cl_some hf
      refine g_cN (st := []) KX5_isModal [vI v0] dX3_hasBit_36 e_RX3_77 mok_X5_isModal mw_X5_isModal ⟨Nat.le_of_ble_eq_true rfl, Nat.le_of_ble_eq_true rfl⟩ (met_X5_isModal hc) rfl (Nat.le_of_ble_eq_true rfl) ?_
      clear hc
      exact g_zret dX3_hasBit_39 rfl hf
    · refine r_iload_n dX3_hasBit_15 rfl rfl ?_
      refine r_bipush dX3_hasBit_16 (bp_62) ?_
      refine g_icmp_eq (tgt := 27) dX3_hasBit_18 rfl hf (fun _ hf => ?_) (fun _ hf => ?_)
      · refine r_mask (bs := [false, false]) ?_
        exact ok_mX3_hasBit_27 hf
      · refine r_iload_n dX3_hasBit_21 rfl rfl ?_
        refine r_bipush dX3_hasBit_22 (bp_33) ?_
        refine g_icmp_ne (tgt := 31) dX3_hasBit_24 rfl hf (fun _ hf => ?_) (fun _ hf => ?_)
        · refine r_iconst dX3_hasBit_31 ic_0 ?_
          refine r_goto (tgt := 39) dX3_hasBit_32 rfl ?_
          exact r_zret dX3_hasBit_39 rfl nar_0 (ret_I hf)
        · refine r_mask (bs := [false, false]) ?_
          exact ok_mX3_hasBit_27 hf
  · refine r_iconst dX3_hasBit_7 ic_1 ?_
    exact r_zret dX3_hasBit_8 rfl nar_1 (ret_I hf)
theorem met_X3_hasBit {zv : Int32} {zw : AW} {v0 : Int32} {v1 : Int32} {w : AW} (hf : mX3_hasBit v0 v1 w = some (zv, zw)) : am_Met false KX3_hasBit [vI v0, vI v1] w (some (vI zv), zw) := am_met mok_X3_hasBit.1 (Nat.le_of_ble_eq_true rfl) (ok_mX3_hasBit  hf)

/-! SeenWorlds$Types.countBits(LSeenWorlds$Sentence;I)I -/
noncomputable def mX3_countBits_27 (k4 : Int32 → Int32 → AW → Option (Int32 × AW)) (o0 : Nat) (v1 : Int32) (v2 : Int32) (v3 : Int32) (w : AW) : Option (Int32 × AW) :=
  nm (v3 + 1) fun v3_1 =>
  k4 v2 v3_1 w
noncomputable def mX3_countBits_4 (o0 : Nat) (v1 : Int32) : Nat → Int32 → Int32 → AW → Option (Int32 × AW)
  | 0, _, _, _ => none
  | n + 1, v2, v3, w =>
    cl (mX2_parts o0 w) fun x_2 w_1 =>
    if x_2 ≤ v3 then
      some (v2, w_1)
    else
      cl (mX2_sign o0 v3 w_1) fun x_4 w_3 =>
      cl (mX3_hasBit x_4 v1 w_3) fun x_6 w_5 =>
      if x_6 = 0 then
        mX3_countBits_27 (mX3_countBits_4 o0 v1 n) o0 v1 v2 v3 w_5
      else
        nm (v2 + 1) fun v2_7 =>
        mX3_countBits_27 (mX3_countBits_4 o0 v1 n) o0 v1 v2_7 v3 w_5
noncomputable def mX3_countBits (o0 : Nat) (v1 : Int32) (w : AW) : Option (Int32 × AW) :=
  mX3_countBits_4 o0 v1 FU 0 0 w
set_option maxRecDepth 100000 in
set_option maxHeartbeats 4000000 in
theorem ok_mX3_countBits_27 {zv : Int32} {zw : AW} {k4 : Int32 → Int32 → AW → Option (Int32 × AW)} {o0 : Nat} {v1 : Int32} {v2 : Int32} {v3 : Int32} (hk4 : ∀ (v2 : Int32) (v3 : Int32)  w, k4 v2 v3 w = some (zv, zw) → RR false KX3_countBits (some (vI zv), zw) 4 [some (vR o0 0), some (vI v1), some (vI v2), some (vI v3)] [] w) (ho0 : am_cls false o0 = 2) {w : AW} (hf : mX3_countBits_27 k4 o0 v1 v2 v3 w = some (zv, zw)) : RR false KX3_countBits (some (vI zv), zw) 27 [some (vR o0 0), some (vI v1), some (vI v2), some (vI v3)] [] w := by
  refine g_iinc (fun v3_1 => [some (vR o0 0), some (vI v1), some (vI v2), some (vI v3_1)]) dX3_countBits_27 ic_1 rfl rfl (fun _ => rfl) (Nat.le_of_ble_eq_true rfl) hf (fun v3_1 hf => ?_)
  refine r_goto (tgt := 4) dX3_countBits_30 rfl ?_
  exact hk4 _ _ _ hf
set_option maxRecDepth 100000 in
set_option maxHeartbeats 4000000 in
theorem ok_mX3_countBits_4 {zv : Int32} {zw : AW} {o0 : Nat} {v1 : Int32} (ho0 : am_cls false o0 = 2) : ∀ (n : Nat) (v2 : Int32) (v3 : Int32) (w : AW), mX3_countBits_4 o0 v1 n v2 v3 w = some (zv, zw) → RR false KX3_countBits (some (vI zv), zw) 4 [some (vR o0 0), some (vI v1), some (vI v2), some (vI v3)] [] w := by
  intro n
  induction n with
  | zero => intro v2 v3 w hf; cases hf
  | succ n ih =>
    intro v2 v3 w hf
    refine r_iload_n dX3_countBits_4 rfl rfl ?_
    refine r_aload_n dX3_countBits_5 rfl rfl ?_
    obtain ⟨x_2, w_1, hc, hf⟩ := cl_some hf
    refine g_cV (st := [vI v3]) KX2_parts [] dX3_countBits_6 e_RX3_80 ho0 (rfl : vwCl[2]? = _) rfl mok_X2_parts mw_X2_parts ⟨Nat.le_of_ble_eq_true rfl, Nat.le_of_ble_eq_true rfl⟩ (met_X2_parts ho0 hc) rfl (Nat.le_of_ble_eq_true rfl) ?_
    clear hc
    refine g_icmp_ge (tgt := 33) dX3_countBits_9 rfl hf (fun _ hf => ?_) (fun _ hf => ?_)
    · refine r_iload_n dX3_countBits_33 rfl rfl ?_
      exact r_iret dX3_countBits_34 rfl (ret_I hf)
    · refine r_aload_n dX3_countBits_12 rfl rfl ?_
      refine r_iload_n dX3_countBits_13 rfl rfl ?_
      obtain ⟨x_4, w_3, hc, hf⟩ := cl_some hf
      refine g_cV (st := []) KX2_sign [vI v3] dX3_countBits_14 e_RX3_86 ho0 (rfl : vwCl[2]? = _) rfl mok_X2_sign mw_X2_sign ⟨Nat.le_of_ble_eq_true rfl, Nat.le_of_ble_eq_true rfl⟩ (met_X2_sign ho0 hc) rfl (Nat.le_of_ble_eq_true rfl) ?_
      clear hc
      refine r_iload_n dX3_countBits_17 rfl rfl ?_
      obtain ⟨x_6, w_5, hc, hf⟩ := cl_some hf
      refine g_cS (st := []) KX3_hasBit [vI x_4, vI v1] dX3_countBits_18 e_RX3_90 mok_X3_hasBit mw_X3_hasBit ⟨Nat.le_of_ble_eq_true rfl, Nat.le_of_ble_eq_true rfl⟩ (met_X3_hasBit hc) rfl (Nat.le_of_ble_eq_true rfl) ?_
      clear hc
      refine g_if_eq (tgt := 27) dX3_countBits_21 rfl hf (fun _ hf => ?_) (fun _ hf => ?_)
      · exact ok_mX3_countBits_27 (fun v2 v3 w hf => ih v2 v3 w hf) ho0 hf
      · refine g_iinc (fun v2_7 => [some (vR o0 0), some (vI v1), some (vI v2_7), some (vI v3)]) dX3_countBits_24 ic_1 rfl rfl (fun _ => rfl) (Nat.le_of_ble_eq_true rfl) hf (fun v2_7 hf => ?_)
        exact ok_mX3_countBits_27 (fun v2 v3 w hf => ih v2 v3 w hf) ho0 hf
set_option maxRecDepth 100000 in
set_option maxHeartbeats 4000000 in
theorem ok_mX3_countBits {zv : Int32} {zw : AW} {o0 : Nat} {v1 : Int32} (ho0 : am_cls false o0 = 2) {w : AW} (hf : mX3_countBits o0 v1 w = some (zv, zw)) : RR false KX3_countBits (some (vI zv), zw) 0 [some (vR o0 0), some (vI v1), none, none] [] w := by
  refine r_iconst dX3_countBits_0 ic_0 ?_
  refine r_istore_n (ls2 := [some (vR o0 0), some (vI v1), some (vI 0), none]) dX3_countBits_1 rfl rfl rfl (Nat.le_of_ble_eq_true rfl) ?_
  refine r_iconst dX3_countBits_2 ic_0 ?_
  refine r_istore_n (ls2 := [some (vR o0 0), some (vI v1), some (vI 0), some (vI 0)]) dX3_countBits_3 rfl rfl rfl (Nat.le_of_ble_eq_true rfl) ?_
  exact ok_mX3_countBits_4 ho0 FU _ _ _ hf
theorem met_X3_countBits {zv : Int32} {zw : AW} {o0 : Nat} {v1 : Int32} (ho0 : am_cls false o0 = 2) {w : AW} (hf : mX3_countBits o0 v1 w = some (zv, zw)) : am_Met false KX3_countBits [vR o0 0, vI v1] w (some (vI zv), zw) := am_met mok_X3_countBits.1 (Nat.le_of_ble_eq_true rfl) (ok_mX3_countBits ho0 hf)

/-! SeenWorlds$Types.howMany(LSeenWorlds$Sentence;I)J -/
noncomputable def mX3_howMany (o1 : Nat) (v2 : Int32) (w : AW) : Option (Int64 × AW) :=
  cl (mX3_countBits o1 v2 w) fun x_2 w_1 =>
  some ((1 : Int64) <<< (x_2.toInt64 &&& 63), w_1)
set_option maxRecDepth 100000 in
set_option maxHeartbeats 4000000 in
theorem ok_mX3_howMany {zv : Int64} {zw : AW} {o1 : Nat} {v2 : Int32} (ho1 : am_cls false o1 = 2) {w : AW} (hf : mX3_howMany o1 v2 w = some (zv, zw)) : RR false KX3_howMany (some (vL zv), zw) 0 [some (vR 4 0), some (vR o1 0), some (vI v2)] [] w := by
  refine r_lconst (x := 1) dX3_howMany_0 rfl ?_
  refine r_aload_n dX3_howMany_1 rfl rfl ?_
  refine r_iload_n dX3_howMany_2 rfl rfl ?_
  obtain ⟨x_2, w_1, hc, hf⟩ := cl_some hf
  refine g_cS (st := [vL (1 : Int64)]) KX3_countBits [vR o1 0, vI v2] dX3_howMany_3 e_RX3_55 mok_X3_countBits mw_X3_countBits ⟨Nat.le_of_ble_eq_true rfl, Nat.le_of_ble_eq_true rfl⟩ (met_X3_countBits ho1 hc) rfl (Nat.le_of_ble_eq_true rfl) ?_
  clear hc
  refine r_lshl dX3_howMany_6 ?_
  exact r_lret dX3_howMany_7 rfl (ret_L hf)
theorem met_X3_howMany {zv : Int64} {zw : AW} {o1 : Nat} {v2 : Int32} (ho1 : am_cls false o1 = 2) {w : AW} (hf : mX3_howMany o1 v2 w = some (zv, zw)) : am_Met false KX3_howMany [vR 4 0, vR o1 0, vI v2] w (some (vL zv), zw) := am_met mok_X3_howMany.1 (Nat.le_of_ble_eq_true rfl) (ok_mX3_howMany ho1 hf)

/-! SeenWorlds$Types.bitsBefore(LSeenWorlds$Sentence;I)I -/
noncomputable def mX3_bitsBefore_70 (k5 : Int32 → Int32 → AW → Option (Int32 × AW)) (o1 : Nat) (v2 : Int32) (v3 : Int32) (v4 : Int32) (w : AW) : Option (Int32 × AW) :=
  nm (v4 + 1) fun v4_1 =>
  k5 v3 v4_1 w
noncomputable def mX3_bitsBefore_67 (k5 : Int32 → Int32 → AW → Option (Int32 × AW)) (o1 : Nat) (v2 : Int32) (v3 : Int32) (v4 : Int32) (w : AW) : Option (Int32 × AW) :=
  nm (v3 + 1) fun v3_1 =>
  mX3_bitsBefore_70 k5 o1 v2 v3_1 v4 w
noncomputable def mX3_bitsBefore_5 (o1 : Nat) (v2 : Int32) : Nat → Int32 → Int32 → AW → Option (Int32 × AW)
  | 0, _, _, _ => none
  | n + 1, v3, v4, w =>
    cl (mX2_parts o1 w) fun x_2 w_1 =>
    if x_2 ≤ v4 then
      some (v3, w_1)
    else
      cl (mX2_sign o1 v4 w_1) fun x_4 w_3 =>
      cl (mX3_hasBit x_4 (w_3.1 4 0 7) w_3) fun x_6 w_5 =>
      if x_6 ≠ 0 then
        cl (mX2_place o1 v4 w_5) fun x_8 w_7 =>
        cl (mX2_place o1 v2 w_7) fun x_10 w_9 =>
        if x_8 < x_10 then
          mX3_bitsBefore_67 (mX3_bitsBefore_5 o1 v2 n) o1 v2 v3 v4 w_9
        else
          cl (mX2_place o1 v4 w_9) fun x_12 w_11 =>
          cl (mX2_place o1 v2 w_11) fun x_14 w_13 =>
          if x_12 ≠ x_14 then
            mX3_bitsBefore_70 (mX3_bitsBefore_5 o1 v2 n) o1 v2 v3 v4 w_13
          else
            if v2 ≤ v4 then
              mX3_bitsBefore_70 (mX3_bitsBefore_5 o1 v2 n) o1 v2 v3 v4 w_13
            else
              mX3_bitsBefore_67 (mX3_bitsBefore_5 o1 v2 n) o1 v2 v3 v4 w_13
      else
        mX3_bitsBefore_70 (mX3_bitsBefore_5 o1 v2 n) o1 v2 v3 v4 w_5
noncomputable def mX3_bitsBefore (o1 : Nat) (v2 : Int32) (w : AW) : Option (Int32 × AW) :=
  mX3_bitsBefore_5 o1 v2 FU 0 0 w
set_option maxRecDepth 100000 in
set_option maxHeartbeats 4000000 in
theorem ok_mX3_bitsBefore_70 {zv : Int32} {zw : AW} {k5 : Int32 → Int32 → AW → Option (Int32 × AW)} {o1 : Nat} {v2 : Int32} {v3 : Int32} {v4 : Int32} (hk5 : ∀ (v3 : Int32) (v4 : Int32)  w, k5 v3 v4 w = some (zv, zw) → RR false KX3_bitsBefore (some (vI zv), zw) 5 [some (vR 4 0), some (vR o1 0), some (vI v2), some (vI v3), some (vI v4)] [] w) (ho1 : am_cls false o1 = 2) {w : AW} (hf : mX3_bitsBefore_70 k5 o1 v2 v3 v4 w = some (zv, zw)) : RR false KX3_bitsBefore (some (vI zv), zw) 70 [some (vR 4 0), some (vR o1 0), some (vI v2), some (vI v3), some (vI v4)] [] w := by
  refine g_iinc (fun v4_1 => [some (vR 4 0), some (vR o1 0), some (vI v2), some (vI v3), some (vI v4_1)]) dX3_bitsBefore_70 ic_1 rfl rfl (fun _ => rfl) (Nat.le_of_ble_eq_true rfl) hf (fun v4_1 hf => ?_)
  refine r_goto (tgt := 5) dX3_bitsBefore_73 rfl ?_
  exact hk5 _ _ _ hf
set_option maxRecDepth 100000 in
set_option maxHeartbeats 4000000 in
theorem ok_mX3_bitsBefore_67 {zv : Int32} {zw : AW} {k5 : Int32 → Int32 → AW → Option (Int32 × AW)} {o1 : Nat} {v2 : Int32} {v3 : Int32} {v4 : Int32} (hk5 : ∀ (v3 : Int32) (v4 : Int32)  w, k5 v3 v4 w = some (zv, zw) → RR false KX3_bitsBefore (some (vI zv), zw) 5 [some (vR 4 0), some (vR o1 0), some (vI v2), some (vI v3), some (vI v4)] [] w) (ho1 : am_cls false o1 = 2) {w : AW} (hf : mX3_bitsBefore_67 k5 o1 v2 v3 v4 w = some (zv, zw)) : RR false KX3_bitsBefore (some (vI zv), zw) 67 [some (vR 4 0), some (vR o1 0), some (vI v2), some (vI v3), some (vI v4)] [] w := by
  refine g_iinc (fun v3_1 => [some (vR 4 0), some (vR o1 0), some (vI v2), some (vI v3_1), some (vI v4)]) dX3_bitsBefore_67 ic_1 rfl rfl (fun _ => rfl) (Nat.le_of_ble_eq_true rfl) hf (fun v3_1 hf => ?_)
  exact ok_mX3_bitsBefore_70 hk5 ho1 hf
set_option maxRecDepth 100000 in
set_option maxHeartbeats 4000000 in
theorem ok_mX3_bitsBefore_5 {zv : Int32} {zw : AW} {o1 : Nat} {v2 : Int32} (ho1 : am_cls false o1 = 2) : ∀ (n : Nat) (v3 : Int32) (v4 : Int32) (w : AW), mX3_bitsBefore_5 o1 v2 n v3 v4 w = some (zv, zw) → RR false KX3_bitsBefore (some (vI zv), zw) 5 [some (vR 4 0), some (vR o1 0), some (vI v2), some (vI v3), some (vI v4)] [] w := by
  intro n
  induction n with
  | zero => intro v3 v4 w hf; cases hf
  | succ n ih =>
    intro v3 v4 w hf
    refine r_iload dX3_bitsBefore_5 rfl ?_
    refine r_aload_n dX3_bitsBefore_7 rfl rfl ?_
    obtain ⟨x_2, w_1, hc, hf⟩ := cl_some hf
    refine g_cV (st := [vI v4]) KX2_parts [] dX3_bitsBefore_8 e_RX3_80 ho1 (rfl : vwCl[2]? = _) rfl mok_X2_parts mw_X2_parts ⟨Nat.le_of_ble_eq_true rfl, Nat.le_of_ble_eq_true rfl⟩ (met_X2_parts ho1 hc) rfl (Nat.le_of_ble_eq_true rfl) ?_
    clear hc
    refine g_icmp_ge (tgt := 76) dX3_bitsBefore_11 rfl hf (fun _ hf => ?_) (fun _ hf => ?_)
    · refine r_iload_n dX3_bitsBefore_76 rfl rfl ?_
      exact r_iret dX3_bitsBefore_77 rfl (ret_I hf)
    · refine r_aload_n dX3_bitsBefore_14 rfl rfl ?_
      refine r_iload dX3_bitsBefore_15 rfl ?_
      obtain ⟨x_4, w_3, hc, hf⟩ := cl_some hf
      refine g_cV (st := []) KX2_sign [vI v4] dX3_bitsBefore_17 e_RX3_86 ho1 (rfl : vwCl[2]? = _) rfl mok_X2_sign mw_X2_sign ⟨Nat.le_of_ble_eq_true rfl, Nat.le_of_ble_eq_true rfl⟩ (met_X2_sign ho1 hc) rfl (Nat.le_of_ble_eq_true rfl) ?_
      clear hc
      refine r_aload_n dX3_bitsBefore_20 rfl rfl ?_
      refine g_getI dX3_bitsBefore_21 fl_RX3_33 fk_3_7 (cl_false_4) ?_
      obtain ⟨x_6, w_5, hc, hf⟩ := cl_some hf
      refine g_cS (st := []) KX3_hasBit [vI x_4, vI (w_3.1 4 0 7)] dX3_bitsBefore_24 e_RX3_90 mok_X3_hasBit mw_X3_hasBit ⟨Nat.le_of_ble_eq_true rfl, Nat.le_of_ble_eq_true rfl⟩ (met_X3_hasBit hc) rfl (Nat.le_of_ble_eq_true rfl) ?_
      clear hc
      refine g_if_ne (tgt := 33) dX3_bitsBefore_27 rfl hf (fun _ hf => ?_) (fun _ hf => ?_)
      · refine r_aload_n dX3_bitsBefore_33 rfl rfl ?_
        refine r_iload dX3_bitsBefore_34 rfl ?_
        obtain ⟨x_8, w_7, hc, hf⟩ := cl_some hf
        refine g_cV (st := []) KX2_place [vI v4] dX3_bitsBefore_36 e_RX3_101 ho1 (rfl : vwCl[2]? = _) rfl mok_X2_place mw_X2_place ⟨Nat.le_of_ble_eq_true rfl, Nat.le_of_ble_eq_true rfl⟩ (met_X2_place ho1 hc) rfl (Nat.le_of_ble_eq_true rfl) ?_
        clear hc
        refine r_aload_n dX3_bitsBefore_39 rfl rfl ?_
        refine r_iload_n dX3_bitsBefore_40 rfl rfl ?_
        obtain ⟨x_10, w_9, hc, hf⟩ := cl_some hf
        refine g_cV (st := [vI x_8]) KX2_place [vI v2] dX3_bitsBefore_41 e_RX3_101 ho1 (rfl : vwCl[2]? = _) rfl mok_X2_place mw_X2_place ⟨Nat.le_of_ble_eq_true rfl, Nat.le_of_ble_eq_true rfl⟩ (met_X2_place ho1 hc) rfl (Nat.le_of_ble_eq_true rfl) ?_
        clear hc
        refine g_icmp_lt (tgt := 67) dX3_bitsBefore_44 rfl hf (fun _ hf => ?_) (fun _ hf => ?_)
        · exact ok_mX3_bitsBefore_67 (fun v3 v4 w hf => ih v3 v4 w hf) ho1 hf
        · refine r_aload_n dX3_bitsBefore_47 rfl rfl ?_
          refine r_iload dX3_bitsBefore_48 rfl ?_
          obtain ⟨x_12, w_11, hc, hf⟩ := cl_some hf
          refine g_cV (st := []) KX2_place [vI v4] dX3_bitsBefore_50 e_RX3_101 ho1 (rfl : vwCl[2]? = _) rfl mok_X2_place mw_X2_place ⟨Nat.le_of_ble_eq_true rfl, Nat.le_of_ble_eq_true rfl⟩ (met_X2_place ho1 hc) rfl (Nat.le_of_ble_eq_true rfl) ?_
          clear hc
          refine r_aload_n dX3_bitsBefore_53 rfl rfl ?_
          refine r_iload_n dX3_bitsBefore_54 rfl rfl ?_
          obtain ⟨x_14, w_13, hc, hf⟩ := cl_some hf
          refine g_cV (st := [vI x_12]) KX2_place [vI v2] dX3_bitsBefore_55 e_RX3_101 ho1 (rfl : vwCl[2]? = _) rfl mok_X2_place mw_X2_place ⟨Nat.le_of_ble_eq_true rfl, Nat.le_of_ble_eq_true rfl⟩ (met_X2_place ho1 hc) rfl (Nat.le_of_ble_eq_true rfl) ?_
          clear hc
          refine g_icmp_ne (tgt := 70) dX3_bitsBefore_58 rfl hf (fun _ hf => ?_) (fun _ hf => ?_)
          · exact ok_mX3_bitsBefore_70 (fun v3 v4 w hf => ih v3 v4 w hf) ho1 hf
          · refine r_iload dX3_bitsBefore_61 rfl ?_
            refine r_iload_n dX3_bitsBefore_63 rfl rfl ?_
            refine g_icmp_ge (tgt := 70) dX3_bitsBefore_64 rfl hf (fun _ hf => ?_) (fun _ hf => ?_)
            · exact ok_mX3_bitsBefore_70 (fun v3 v4 w hf => ih v3 v4 w hf) ho1 hf
            · exact ok_mX3_bitsBefore_67 (fun v3 v4 w hf => ih v3 v4 w hf) ho1 hf
      · refine r_goto (tgt := 70) dX3_bitsBefore_30 rfl ?_
        exact ok_mX3_bitsBefore_70 (fun v3 v4 w hf => ih v3 v4 w hf) ho1 hf
set_option maxRecDepth 100000 in
set_option maxHeartbeats 4000000 in
theorem ok_mX3_bitsBefore {zv : Int32} {zw : AW} {o1 : Nat} {v2 : Int32} (ho1 : am_cls false o1 = 2) {w : AW} (hf : mX3_bitsBefore o1 v2 w = some (zv, zw)) : RR false KX3_bitsBefore (some (vI zv), zw) 0 [some (vR 4 0), some (vR o1 0), some (vI v2), none, none] [] w := by
  refine r_iconst dX3_bitsBefore_0 ic_0 ?_
  refine r_istore_n (ls2 := [some (vR 4 0), some (vR o1 0), some (vI v2), some (vI 0), none]) dX3_bitsBefore_1 rfl rfl rfl (Nat.le_of_ble_eq_true rfl) ?_
  refine r_iconst dX3_bitsBefore_2 ic_0 ?_
  refine r_istore (ls2 := [some (vR 4 0), some (vR o1 0), some (vI v2), some (vI 0), some (vI 0)]) dX3_bitsBefore_3 rfl rfl (Nat.le_of_ble_eq_true rfl) ?_
  exact ok_mX3_bitsBefore_5 ho1 FU _ _ _ hf
theorem met_X3_bitsBefore {zv : Int32} {zw : AW} {o1 : Nat} {v2 : Int32} (ho1 : am_cls false o1 = 2) {w : AW} (hf : mX3_bitsBefore o1 v2 w = some (zv, zw)) : am_Met false KX3_bitsBefore [vR 4 0, vR o1 0, vI v2] w (some (vI zv), zw) := am_met mok_X3_bitsBefore.1 (Nat.le_of_ble_eq_true rfl) (ok_mX3_bitsBefore ho1 hf)

/-! SeenWorlds$Types.giveBits(LSeenWorlds$Sentence;)V -/
noncomputable def mX3_giveBits_141 (k17 : Int32 → AW → Option (Unit × AW)) (o1 : Nat) (v2 : Int32) (w : AW) : Option (Unit × AW) :=
  nm (v2 + 1) fun v2_1 =>
  k17 v2_1 w
noncomputable def mX3_giveBits_128 (k17 : Int32 → AW → Option (Unit × AW)) (o1 : Nat) (v2 : Int32) (v4 : Int32) (w : AW) : Option (Unit × AW) :=
  pu w 4 9 ((w.1 4 0 9) ||| (1 <<< (v4 &&& 31))) fun w_1 =>
  mX3_giveBits_141 k17 o1 v2 w_1
noncomputable def mX3_giveBits_112 (k17 : Int32 → AW → Option (Unit × AW)) (o1 : Nat) (v2 : Int32) (v3 : Int32) (v4 : Int32) (w : AW) : Option (Unit × AW) :=
  cl (mX5_isAtom v3 w) fun x_2 w_1 =>
  if x_2 = 0 then
    mX3_giveBits_128 k17 o1 v2 v4 w_1
  else
    if (w_1.1 4 0 7) ≠ 8 then
      mX3_giveBits_141 k17 o1 v2 w_1
    else
      mX3_giveBits_128 k17 o1 v2 v4 w_1
noncomputable def mX3_giveBits_92 (k17 : Int32 → AW → Option (Unit × AW)) (o1 : Nat) (v2 : Int32) (v3 : Int32) (v4 : Int32) (w : AW) : Option (Unit × AW) :=
  cl (mX5_isAtom v3 w) fun x_2 w_1 =>
  if x_2 ≠ 0 then
    mX3_giveBits_112 k17 o1 v2 v3 v4 w_1
  else
    pu w_1 4 11 ((w_1.1 4 0 11) ||| (1 <<< (v4 &&& 31))) fun w_3 =>
    mX3_giveBits_112 k17 o1 v2 v3 v4 w_3
noncomputable def mX3_giveBits_17 (o1 : Nat) : Nat → Int32 → AW → Option (Unit × AW)
  | 0, _, _ => none
  | n + 1, v2, w =>
    cl (mX2_parts o1 w) fun x_2 w_1 =>
    if x_2 ≤ v2 then
      some ((), w_1)
    else
      cl (mX2_sign o1 v2 w_1) fun x_4 w_3 =>
      cl (mX5_put 4 1 v2 (-9) w_3) fun x_6 w_5 =>
      cl (mX3_hasBit x_4 (w_5.1 4 0 7) w_5) fun x_8 w_7 =>
      if x_8 ≠ 0 then
        cl (mX3_bitsBefore o1 v2 w_7) fun x_10 w_9 =>
        cl (mX5_put 4 1 v2 x_10 w_9) fun x_12 w_11 =>
        if x_4 ≠ 123 then
          mX3_giveBits_92 (mX3_giveBits_17 o1 n) o1 v2 x_4 x_10 w_11
        else
          pu w_11 4 10 ((w_11.1 4 0 10) ||| (1 <<< (x_10 &&& 31))) fun w_13 =>
          mX3_giveBits_92 (mX3_giveBits_17 o1 n) o1 v2 x_4 x_10 w_13
      else
        mX3_giveBits_141 (mX3_giveBits_17 o1 n) o1 v2 w_7
noncomputable def mX3_giveBits (o1 : Nat) (w : AW) : Option (Unit × AW) :=
  pu w 4 9 0 fun w_1 =>
  pu w_1 4 10 0 fun w_2 =>
  pu w_2 4 11 0 fun w_3 =>
  mX3_giveBits_17 o1 FU 0 w_3
set_option maxRecDepth 100000 in
set_option maxHeartbeats 4000000 in
theorem ok_mX3_giveBits_141 {zv : Unit} {zw : AW} {k17 : Int32 → AW → Option (Unit × AW)} {o1 : Nat} {v2 : Int32} (hk17 : ∀ (v2 : Int32)  w, k17 v2 w = some (zv, zw) → RR false KX3_giveBits (none, zw) 17 [some (vR 4 0), some (vR o1 0), some (vI v2), none, none] [] w) (ho1 : am_cls false o1 = 2) {w : AW} (hf : mX3_giveBits_141 k17 o1 v2 w = some (zv, zw)) : RR false KX3_giveBits (none, zw) 141 [some (vR 4 0), some (vR o1 0), some (vI v2), none, none] [] w := by
  refine g_iinc (fun v2_1 => [some (vR 4 0), some (vR o1 0), some (vI v2_1), none, none]) dX3_giveBits_141 ic_1 rfl rfl (fun _ => rfl) (Nat.le_of_ble_eq_true rfl) hf (fun v2_1 hf => ?_)
  refine r_goto (tgt := 17) dX3_giveBits_144 rfl ?_
  exact hk17 _ _ hf
set_option maxRecDepth 100000 in
set_option maxHeartbeats 4000000 in
theorem ok_mX3_giveBits_128 {zv : Unit} {zw : AW} {k17 : Int32 → AW → Option (Unit × AW)} {o1 : Nat} {v2 : Int32} {v4 : Int32} (hk17 : ∀ (v2 : Int32)  w, k17 v2 w = some (zv, zw) → RR false KX3_giveBits (none, zw) 17 [some (vR 4 0), some (vR o1 0), some (vI v2), none, none] [] w) (ho1 : am_cls false o1 = 2) {w : AW} (hf : mX3_giveBits_128 k17 o1 v2 v4 w = some (zv, zw)) : RR false KX3_giveBits (none, zw) 128 [some (vR 4 0), some (vR o1 0), some (vI v2), none, some (vI v4)] [] w := by
  refine r_aload_n dX3_giveBits_128 rfl rfl ?_
  refine r_dup dX3_giveBits_129 rfl ?_
  refine g_getI dX3_giveBits_130 fl_RX3_40 fk_3_9 (cl_false_4) ?_
  refine r_iconst dX3_giveBits_133 ic_1 ?_
  refine r_iload dX3_giveBits_134 rfl ?_
  refine r_ishl dX3_giveBits_136 ?_
  refine r_ior dX3_giveBits_137 ?_
  refine g_putI dX3_giveBits_138 fl_RX3_40 fk_3_9 (cl_false_4) hf (fun w_1 hf => ?_)
  refine r_mask (bs := [true, true, true, false, false]) ?_
  exact ok_mX3_giveBits_141 hk17 ho1 hf
set_option maxRecDepth 100000 in
set_option maxHeartbeats 4000000 in
theorem ok_mX3_giveBits_112 {zv : Unit} {zw : AW} {k17 : Int32 → AW → Option (Unit × AW)} {o1 : Nat} {v2 : Int32} {v3 : Int32} {v4 : Int32} (hk17 : ∀ (v2 : Int32)  w, k17 v2 w = some (zv, zw) → RR false KX3_giveBits (none, zw) 17 [some (vR 4 0), some (vR o1 0), some (vI v2), none, none] [] w) (ho1 : am_cls false o1 = 2) {w : AW} (hf : mX3_giveBits_112 k17 o1 v2 v3 v4 w = some (zv, zw)) : RR false KX3_giveBits (none, zw) 112 [some (vR 4 0), some (vR o1 0), some (vI v2), some (vI v3), some (vI v4)] [] w := by
  refine r_iload_n dX3_giveBits_112 rfl rfl ?_
  obtain ⟨x_2, w_1, hc, hf⟩ := cl_some hf
  refine g_cN (st := []) KX5_isAtom [vI v3] dX3_giveBits_113 e_RX3_74 mok_X5_isAtom mw_X5_isAtom ⟨Nat.le_of_ble_eq_true rfl, Nat.le_of_ble_eq_true rfl⟩ (met_X5_isAtom hc) rfl (Nat.le_of_ble_eq_true rfl) ?_
  clear hc
  refine g_if_eq (tgt := 128) dX3_giveBits_116 rfl hf (fun _ hf => ?_) (fun _ hf => ?_)
  · refine r_mask (bs := [true, true, true, false, true]) ?_
    exact ok_mX3_giveBits_128 hk17 ho1 hf
  · refine r_aload_n dX3_giveBits_119 rfl rfl ?_
    refine g_getI dX3_giveBits_120 fl_RX3_33 fk_3_7 (cl_false_4) ?_
    refine r_bipush dX3_giveBits_123 (bp_8) ?_
    refine g_icmp_ne (tgt := 141) dX3_giveBits_125 rfl hf (fun _ hf => ?_) (fun _ hf => ?_)
    · refine r_mask (bs := [true, true, true, false, false]) ?_
      exact ok_mX3_giveBits_141 hk17 ho1 hf
    · refine r_mask (bs := [true, true, true, false, true]) ?_
      exact ok_mX3_giveBits_128 hk17 ho1 hf
set_option maxRecDepth 100000 in
set_option maxHeartbeats 4000000 in
theorem ok_mX3_giveBits_92 {zv : Unit} {zw : AW} {k17 : Int32 → AW → Option (Unit × AW)} {o1 : Nat} {v2 : Int32} {v3 : Int32} {v4 : Int32} (hk17 : ∀ (v2 : Int32)  w, k17 v2 w = some (zv, zw) → RR false KX3_giveBits (none, zw) 17 [some (vR 4 0), some (vR o1 0), some (vI v2), none, none] [] w) (ho1 : am_cls false o1 = 2) {w : AW} (hf : mX3_giveBits_92 k17 o1 v2 v3 v4 w = some (zv, zw)) : RR false KX3_giveBits (none, zw) 92 [some (vR 4 0), some (vR o1 0), some (vI v2), some (vI v3), some (vI v4)] [] w := by
  refine r_iload_n dX3_giveBits_92 rfl rfl ?_
  obtain ⟨x_2, w_1, hc, hf⟩ := cl_some hf
  refine g_cN (st := []) KX5_isAtom [vI v3] dX3_giveBits_93 e_RX3_74 mok_X5_isAtom mw_X5_isAtom ⟨Nat.le_of_ble_eq_true rfl, Nat.le_of_ble_eq_true rfl⟩ (met_X5_isAtom hc) rfl (Nat.le_of_ble_eq_true rfl) ?_
  clear hc
  refine g_if_ne (tgt := 112) dX3_giveBits_96 rfl hf (fun _ hf => ?_) (fun _ hf => ?_)
  · exact ok_mX3_giveBits_112 hk17 ho1 hf
  · refine r_aload_n dX3_giveBits_99 rfl rfl ?_
    refine r_dup dX3_giveBits_100 rfl ?_
    refine g_getI dX3_giveBits_101 fl_RX3_46 fk_3_11 (cl_false_4) ?_
    refine r_iconst dX3_giveBits_104 ic_1 ?_
    refine r_iload dX3_giveBits_105 rfl ?_
    refine r_ishl dX3_giveBits_107 ?_
    refine r_ior dX3_giveBits_108 ?_
    refine g_putI dX3_giveBits_109 fl_RX3_46 fk_3_11 (cl_false_4) hf (fun w_3 hf => ?_)
    exact ok_mX3_giveBits_112 hk17 ho1 hf
set_option maxRecDepth 100000 in
set_option maxHeartbeats 4000000 in
theorem ok_mX3_giveBits_17 {zv : Unit} {zw : AW} {o1 : Nat} (ho1 : am_cls false o1 = 2) : ∀ (n : Nat) (v2 : Int32) (w : AW), mX3_giveBits_17 o1 n v2 w = some (zv, zw) → RR false KX3_giveBits (none, zw) 17 [some (vR 4 0), some (vR o1 0), some (vI v2), none, none] [] w := by
  intro n
  induction n with
  | zero => intro v2 w hf; cases hf
  | succ n ih =>
    intro v2 w hf
    refine r_iload_n dX3_giveBits_17 rfl rfl ?_
    refine r_aload_n dX3_giveBits_18 rfl rfl ?_
    obtain ⟨x_2, w_1, hc, hf⟩ := cl_some hf
    refine g_cV (st := [vI v2]) KX2_parts [] dX3_giveBits_19 e_RX3_80 ho1 (rfl : vwCl[2]? = _) rfl mok_X2_parts mw_X2_parts ⟨Nat.le_of_ble_eq_true rfl, Nat.le_of_ble_eq_true rfl⟩ (met_X2_parts ho1 hc) rfl (Nat.le_of_ble_eq_true rfl) ?_
    clear hc
    refine g_icmp_ge (tgt := 147) dX3_giveBits_22 rfl hf (fun _ hf => ?_) (fun _ hf => ?_)
    · exact r_vret dX3_giveBits_147 rfl (ret_U hf)
    · refine r_aload_n dX3_giveBits_25 rfl rfl ?_
      refine r_iload_n dX3_giveBits_26 rfl rfl ?_
      obtain ⟨x_4, w_3, hc, hf⟩ := cl_some hf
      refine g_cV (st := []) KX2_sign [vI v2] dX3_giveBits_27 e_RX3_86 ho1 (rfl : vwCl[2]? = _) rfl mok_X2_sign mw_X2_sign ⟨Nat.le_of_ble_eq_true rfl, Nat.le_of_ble_eq_true rfl⟩ (met_X2_sign ho1 hc) rfl (Nat.le_of_ble_eq_true rfl) ?_
      clear hc
      refine r_istore_n (ls2 := [some (vR 4 0), some (vR o1 0), some (vI v2), some (vI x_4), none]) dX3_giveBits_30 rfl rfl rfl (Nat.le_of_ble_eq_true rfl) ?_
      refine r_aload_n dX3_giveBits_31 rfl rfl ?_
      refine g_getA dX3_giveBits_32 fl_RX3_9 fk_3_0 rfl (cl_false_4) ?_
      refine r_iload_n dX3_giveBits_35 rfl rfl ?_
      refine r_bipush dX3_giveBits_36 (bp_m9) ?_
      obtain ⟨x_6, w_5, hc, hf⟩ := cl_some hf
      refine g_cNv (st := []) KX5_put [vR 4 1, vI v2, vI (-9)] dX3_giveBits_38 e_RX3_94 mok_X5_put mw_X5_put ⟨Nat.le_of_ble_eq_true rfl, Nat.le_of_ble_eq_true rfl⟩ (met_X5_put aK_false_4_1 hc) rfl (Nat.le_of_ble_eq_true rfl) ?_
      clear hc
      refine r_iload_n dX3_giveBits_41 rfl rfl ?_
      refine r_aload_n dX3_giveBits_42 rfl rfl ?_
      refine g_getI dX3_giveBits_43 fl_RX3_33 fk_3_7 (cl_false_4) ?_
      obtain ⟨x_8, w_7, hc, hf⟩ := cl_some hf
      refine g_cS (st := []) KX3_hasBit [vI x_4, vI (w_5.1 4 0 7)] dX3_giveBits_46 e_RX3_90 mok_X3_hasBit mw_X3_hasBit ⟨Nat.le_of_ble_eq_true rfl, Nat.le_of_ble_eq_true rfl⟩ (met_X3_hasBit hc) rfl (Nat.le_of_ble_eq_true rfl) ?_
      clear hc
      refine g_if_ne (tgt := 55) dX3_giveBits_49 rfl hf (fun _ hf => ?_) (fun _ hf => ?_)
      · refine r_aload_n dX3_giveBits_55 rfl rfl ?_
        refine r_aload_n dX3_giveBits_56 rfl rfl ?_
        refine r_iload_n dX3_giveBits_57 rfl rfl ?_
        obtain ⟨x_10, w_9, hc, hf⟩ := cl_some hf
        refine g_cV (st := []) KX3_bitsBefore [vR o1 0, vI v2] dX3_giveBits_58 e_RX3_98 (cl_false_4) (rfl : vwCl[3]? = _) rfl mok_X3_bitsBefore mw_X3_bitsBefore ⟨Nat.le_of_ble_eq_true rfl, Nat.le_of_ble_eq_true rfl⟩ (met_X3_bitsBefore ho1 hc) rfl (Nat.le_of_ble_eq_true rfl) ?_
        clear hc
        refine r_istore (ls2 := [some (vR 4 0), some (vR o1 0), some (vI v2), some (vI x_4), some (vI x_10)]) dX3_giveBits_61 rfl rfl (Nat.le_of_ble_eq_true rfl) ?_
        refine r_aload_n dX3_giveBits_63 rfl rfl ?_
        refine g_getA dX3_giveBits_64 fl_RX3_9 fk_3_0 rfl (cl_false_4) ?_
        refine r_iload_n dX3_giveBits_67 rfl rfl ?_
        refine r_iload dX3_giveBits_68 rfl ?_
        obtain ⟨x_12, w_11, hc, hf⟩ := cl_some hf
        refine g_cNv (st := []) KX5_put [vR 4 1, vI v2, vI x_10] dX3_giveBits_70 e_RX3_94 mok_X5_put mw_X5_put ⟨Nat.le_of_ble_eq_true rfl, Nat.le_of_ble_eq_true rfl⟩ (met_X5_put aK_false_4_1 hc) rfl (Nat.le_of_ble_eq_true rfl) ?_
        clear hc
        refine r_iload_n dX3_giveBits_73 rfl rfl ?_
        refine r_bipush dX3_giveBits_74 (bp_123) ?_
        refine g_icmp_ne (tgt := 92) dX3_giveBits_76 rfl hf (fun _ hf => ?_) (fun _ hf => ?_)
        · exact ok_mX3_giveBits_92 (fun v2 w hf => ih v2 w hf) ho1 hf
        · refine r_aload_n dX3_giveBits_79 rfl rfl ?_
          refine r_dup dX3_giveBits_80 rfl ?_
          refine g_getI dX3_giveBits_81 fl_RX3_43 fk_3_10 (cl_false_4) ?_
          refine r_iconst dX3_giveBits_84 ic_1 ?_
          refine r_iload dX3_giveBits_85 rfl ?_
          refine r_ishl dX3_giveBits_87 ?_
          refine r_ior dX3_giveBits_88 ?_
          refine g_putI dX3_giveBits_89 fl_RX3_43 fk_3_10 (cl_false_4) hf (fun w_13 hf => ?_)
          exact ok_mX3_giveBits_92 (fun v2 w hf => ih v2 w hf) ho1 hf
      · refine r_goto (tgt := 141) dX3_giveBits_52 rfl ?_
        refine r_mask (bs := [true, true, true, false, false]) ?_
        exact ok_mX3_giveBits_141 (fun v2 w hf => ih v2 w hf) ho1 hf
set_option maxRecDepth 100000 in
set_option maxHeartbeats 4000000 in
theorem ok_mX3_giveBits {zv : Unit} {zw : AW} {o1 : Nat} (ho1 : am_cls false o1 = 2) {w : AW} (hf : mX3_giveBits o1 w = some (zv, zw)) : RR false KX3_giveBits (none, zw) 0 [some (vR 4 0), some (vR o1 0), none, none, none] [] w := by
  refine r_aload_n dX3_giveBits_0 rfl rfl ?_
  refine r_iconst dX3_giveBits_1 ic_0 ?_
  refine g_putI dX3_giveBits_2 fl_RX3_40 fk_3_9 (cl_false_4) hf (fun w_1 hf => ?_)
  refine r_aload_n dX3_giveBits_5 rfl rfl ?_
  refine r_iconst dX3_giveBits_6 ic_0 ?_
  refine g_putI dX3_giveBits_7 fl_RX3_43 fk_3_10 (cl_false_4) hf (fun w_2 hf => ?_)
  refine r_aload_n dX3_giveBits_10 rfl rfl ?_
  refine r_iconst dX3_giveBits_11 ic_0 ?_
  refine g_putI dX3_giveBits_12 fl_RX3_46 fk_3_11 (cl_false_4) hf (fun w_3 hf => ?_)
  refine r_iconst dX3_giveBits_15 ic_0 ?_
  refine r_istore_n (ls2 := [some (vR 4 0), some (vR o1 0), some (vI 0), none, none]) dX3_giveBits_16 rfl rfl rfl (Nat.le_of_ble_eq_true rfl) ?_
  exact ok_mX3_giveBits_17 ho1 FU _ _ hf
theorem met_X3_giveBits {zv : Unit} {zw : AW} {o1 : Nat} (ho1 : am_cls false o1 = 2) {w : AW} (hf : mX3_giveBits o1 w = some (zv, zw)) : am_Met false KX3_giveBits [vR 4 0, vR o1 0] w (none, zw) := am_met mok_X3_giveBits.1 (Nat.le_of_ble_eq_true rfl) (ok_mX3_giveBits ho1 hf)

/-! SeenWorlds.joined(IIII)I -/
noncomputable def mX5_joined (v0 : Int32) (v1 : Int32) (v2 : Int32) (v3 : Int32) (w : AW) : Option (Int32 × AW) :=
  if v0 = 33 then
    some (v3 &&& (v1 ^^^ (-1)), w)
  else if v0 = 38 then
    some (v1 &&& v2, w)
  else if v0 = 62 then
    some (v3 &&& ((v1 ^^^ (-1)) ||| v2), w)
  else if v0 = 84 then
    some (v3, w)
  else if v0 = 124 then
    some (v1 ||| v2, w)
  else 
    some (0, w)
set_option maxRecDepth 100000 in
set_option maxHeartbeats 4000000 in
theorem ok_mX5_joined {zv : Int32} {zw : AW} {v0 : Int32} {v1 : Int32} {v2 : Int32} {v3 : Int32} {w : AW} (hf : mX5_joined v0 v1 v2 v3 w = some (zv, zw)) : RR false KX5_joined (some (vI zv), zw) 0 [some (vI v0), some (vI v1), some (vI v2), some (vI v3)] [] w := by
  refine r_iload_n dX5_joined_0 rfl rfl ?_
  rcases Classical.em (v0 = 33) with c33 | c33
  · replace hf := br_pos c33 hf
    refine g_lookC (off := 53) (tgt := 54) c33 dX5_joined_1 (by decide) (by decide) rfl ?_
    refine r_iload_n dX5_joined_54 rfl rfl ?_
    refine r_iload_n dX5_joined_55 rfl rfl ?_
    refine r_iconst dX5_joined_56 ic_m1 ?_
    refine r_ixor dX5_joined_57 ?_
    refine r_iand dX5_joined_58 ?_
    exact r_iret dX5_joined_59 rfl (ret_I hf)
  replace hf := br_neg c33 hf
  rcases Classical.em (v0 = 38) with c38 | c38
  · replace hf := br_pos c38 hf
    refine g_lookC (off := 59) (tgt := 60) c38 dX5_joined_1 (by decide) (by decide) rfl ?_
    refine r_iload_n dX5_joined_60 rfl rfl ?_
    refine r_iload_n dX5_joined_61 rfl rfl ?_
    refine r_iand dX5_joined_62 ?_
    exact r_iret dX5_joined_63 rfl (ret_I hf)
  replace hf := br_neg c38 hf
  rcases Classical.em (v0 = 62) with c62 | c62
  · replace hf := br_pos c62 hf
    refine g_lookC (off := 67) (tgt := 68) c62 dX5_joined_1 (by decide) (by decide) rfl ?_
    refine r_iload_n dX5_joined_68 rfl rfl ?_
    refine r_iload_n dX5_joined_69 rfl rfl ?_
    refine r_iconst dX5_joined_70 ic_m1 ?_
    refine r_ixor dX5_joined_71 ?_
    refine r_iload_n dX5_joined_72 rfl rfl ?_
    refine r_ior dX5_joined_73 ?_
    refine r_iand dX5_joined_74 ?_
    exact r_iret dX5_joined_75 rfl (ret_I hf)
  replace hf := br_neg c62 hf
  rcases Classical.em (v0 = 84) with c84 | c84
  · replace hf := br_pos c84 hf
    refine g_lookC (off := 51) (tgt := 52) c84 dX5_joined_1 (by decide) (by decide) rfl ?_
    refine r_iload_n dX5_joined_52 rfl rfl ?_
    exact r_iret dX5_joined_53 rfl (ret_I hf)
  replace hf := br_neg c84 hf
  rcases Classical.em (v0 = 124) with c124 | c124
  · replace hf := br_pos c124 hf
    refine g_lookC (off := 63) (tgt := 64) c124 dX5_joined_1 (by decide) (by decide) rfl ?_
    refine r_iload_n dX5_joined_64 rfl rfl ?_
    refine r_iload_n dX5_joined_65 rfl rfl ?_
    refine r_ior dX5_joined_66 ?_
    exact r_iret dX5_joined_67 rfl (ret_I hf)
  replace hf := br_neg c124 hf
  have e33 := am_neI c33 (v := 33) (by decide)
  have e38 := am_neI c38 (v := 38) (by decide)
  have e62 := am_neI c62 (v := 62) (by decide)
  have e84 := am_neI c84 (v := 84) (by decide)
  have e124 := am_neI c124 (v := 124) (by decide)
  refine r_lookup (off := 75) (tgt := 76) dX5_joined_1 (by decide) (by simp [Op.lookupswitch.offset, e33, Ne.symm e33, e38, Ne.symm e38, e62, Ne.symm e62, e84, Ne.symm e84, e124, Ne.symm e124]) rfl ?_
  refine r_iconst dX5_joined_76 ic_0 ?_
  exact r_iret dX5_joined_77 rfl (ret_I hf)
theorem met_X5_joined {zv : Int32} {zw : AW} {v0 : Int32} {v1 : Int32} {v2 : Int32} {v3 : Int32} {w : AW} (hf : mX5_joined v0 v1 v2 v3 w = some (zv, zw)) : am_Met false KX5_joined [vI v0, vI v1, vI v2, vI v3] w (some (vI zv), zw) := am_met mok_X5_joined.1 (Nat.le_of_ble_eq_true rfl) (ok_mX5_joined  hf)

/-! SeenWorlds$Types.bearing(IIII)I -/
noncomputable def mX3_bearing (v0 : Int32) (v1 : Int32) (v2 : Int32) (v3 : Int32) (w : AW) : Option (Int32 × AW) :=
  if v0 ≠ 91 then
    if v0 ≠ 123 then
      cl (mX5_isAtom v0 w) fun x_2 w_1 =>
      if x_2 = 0 then
        some (v2, w_1)
      else
        some (v3, w_1)
    else
      some (1 - v1, w)
  else
    some (v1, w)
set_option maxRecDepth 100000 in
set_option maxHeartbeats 4000000 in
theorem ok_mX3_bearing {zv : Int32} {zw : AW} {v0 : Int32} {v1 : Int32} {v2 : Int32} {v3 : Int32} {w : AW} (hf : mX3_bearing v0 v1 v2 v3 w = some (zv, zw)) : RR false KX3_bearing (some (vI zv), zw) 0 [some (vI v0), some (vI v1), some (vI v2), some (vI v3)] [] w := by
  refine r_iload_n dX3_bearing_0 rfl rfl ?_
  refine r_bipush dX3_bearing_1 (bp_91) ?_
  refine g_icmp_ne (tgt := 8) dX3_bearing_3 rfl hf (fun _ hf => ?_) (fun _ hf => ?_)
  · refine r_iload_n dX3_bearing_8 rfl rfl ?_
    refine r_bipush dX3_bearing_9 (bp_123) ?_
    refine g_icmp_ne (tgt := 18) dX3_bearing_11 rfl hf (fun _ hf => ?_) (fun _ hf => ?_)
    · refine r_iload_n dX3_bearing_18 rfl rfl ?_
      obtain ⟨x_2, w_1, hc, hf⟩ := cl_some hf
      refine g_cN (st := []) KX5_isAtom [vI v0] dX3_bearing_19 e_RX3_74 mok_X5_isAtom mw_X5_isAtom ⟨Nat.le_of_ble_eq_true rfl, Nat.le_of_ble_eq_true rfl⟩ (met_X5_isAtom hc) rfl (Nat.le_of_ble_eq_true rfl) ?_
      clear hc
      refine g_if_eq (tgt := 29) dX3_bearing_22 rfl hf (fun _ hf => ?_) (fun _ hf => ?_)
      · refine r_iload_n dX3_bearing_29 rfl rfl ?_
        exact r_iret dX3_bearing_30 rfl (ret_I hf)
      · refine r_iload_n dX3_bearing_25 rfl rfl ?_
        refine r_goto (tgt := 30) dX3_bearing_26 rfl ?_
        exact r_iret dX3_bearing_30 rfl (ret_I hf)
    · refine r_iconst dX3_bearing_14 ic_1 ?_
      refine r_iload_n dX3_bearing_15 rfl rfl ?_
      refine r_isub dX3_bearing_16 ?_
      exact r_iret dX3_bearing_17 rfl (ret_I hf)
  · refine r_iload_n dX3_bearing_6 rfl rfl ?_
    exact r_iret dX3_bearing_7 rfl (ret_I hf)
theorem met_X3_bearing {zv : Int32} {zw : AW} {v0 : Int32} {v1 : Int32} {v2 : Int32} {v3 : Int32} {w : AW} (hf : mX3_bearing v0 v1 v2 v3 w = some (zv, zw)) : am_Met false KX3_bearing [vI v0, vI v1, vI v2, vI v3] w (some (vI zv), zw) := am_met mok_X3_bearing.1 (Nat.le_of_ble_eq_true rfl) (ok_mX3_bearing  hf)

/-! SeenWorlds$Types.weigh(LSeenWorlds$Sentence;I)V -/
noncomputable def mX3_weigh_126 (k5 : Int32 → Int32 → AW → Option (Unit × AW)) (o1 : Nat) (v2 : Int32) (v3 : Int32) (v4 : Int32) (w : AW) : Option (Unit × AW) :=
  nm (v4 + 1) fun v4_1 =>
  k5 v3 v4_1 w
noncomputable def mX3_weigh_95 (k5 : Int32 → Int32 → AW → Option (Unit × AW)) (o1 : Nat) (v2 : Int32) (v3 : Int32) (v4 : Int32) (v5 : Int32) (v6 : Int32) (v7 : Int32) (v8 : Int32) (s0 : Int32) (s1 : Int32) (w : AW) : Option (Unit × AW) :=
  cl (mX5_put 4 2 s1 s0 w) fun x_2 w_1 =>
  if v6 = (-9) then
    mX3_weigh_126 k5 o1 v2 v3 v4 w_1
  else
    cl (mX5_bit v2 v6 w_1) fun x_4 w_3 =>
    cl (mX3_bearing v5 v7 v8 x_4 w_3) fun x_6 w_5 =>
    nm (v3 ||| (x_6 <<< (v6 &&& 31))) fun v3_7 =>
    mX3_weigh_126 k5 o1 v2 v3_7 v4 w_5
noncomputable def mX3_weigh_5 (o1 : Nat) (v2 : Int32) : Nat → Int32 → Int32 → AW → Option (Unit × AW)
  | 0, _, _, _ => none
  | n + 1, v3, v4, w =>
    cl (mX2_parts o1 w) fun x_2 w_1 =>
    if x_2 ≤ v4 then
      cl (mX5_put 4 3 v2 ((v2 ^^^ (w_1.1 4 0 10)) &&& (w_1.1 4 0 9)) w_1) fun x_4 w_3 =>
      cl (mX5_put 4 4 v2 v3 w_3) fun x_6 w_5 =>
      cl (mX2_parts o1 w_5) fun x_8 w_7 =>
      cl (mX5_at 4 2 (x_8 - 1) w_7) fun x_10 w_9 =>
      cl (mX5_put 4 5 v2 x_10 w_9) fun x_12 w_11 =>
      some ((), w_11)
    else
      cl (mX2_sign o1 v4 w_1) fun x_14 w_13 =>
      cl (mX5_at 4 1 v4 w_13) fun x_16 w_15 =>
      cl (mX2_first o1 v4 w_15) fun x_18 w_17 =>
      cl (mX5_at 4 2 x_18 w_17) fun x_20 w_19 =>
      cl (mX2_second o1 v4 w_19) fun x_22 w_21 =>
      cl (mX5_at 4 2 x_22 w_21) fun x_24 w_23 =>
      cl (mX5_joined x_14 x_20 x_24 1 w_23) fun x_26 w_25 =>
      if x_16 ≠ (-9) then
        cl (mX5_bit v2 x_16 w_25) fun x_28 w_27 =>
        mX3_weigh_95 (mX3_weigh_5 o1 v2 n) o1 v2 v3 v4 x_14 x_16 x_20 x_26 x_28 v4 w_27
      else
        mX3_weigh_95 (mX3_weigh_5 o1 v2 n) o1 v2 v3 v4 x_14 x_16 x_20 x_26 x_26 v4 w_25
noncomputable def mX3_weigh (o1 : Nat) (v2 : Int32) (w : AW) : Option (Unit × AW) :=
  mX3_weigh_5 o1 v2 FU 0 0 w
set_option maxRecDepth 100000 in
set_option maxHeartbeats 4000000 in
theorem ok_mX3_weigh_126 {zv : Unit} {zw : AW} {k5 : Int32 → Int32 → AW → Option (Unit × AW)} {o1 : Nat} {v2 : Int32} {v3 : Int32} {v4 : Int32} (hk5 : ∀ (v3 : Int32) (v4 : Int32)  w, k5 v3 v4 w = some (zv, zw) → RR false KX3_weigh (none, zw) 5 [some (vR 4 0), some (vR o1 0), some (vI v2), some (vI v3), some (vI v4), none, none, none, none] [] w) (ho1 : am_cls false o1 = 2) {w : AW} (hf : mX3_weigh_126 k5 o1 v2 v3 v4 w = some (zv, zw)) : RR false KX3_weigh (none, zw) 126 [some (vR 4 0), some (vR o1 0), some (vI v2), some (vI v3), some (vI v4), none, none, none, none] [] w := by
  refine g_iinc (fun v4_1 => [some (vR 4 0), some (vR o1 0), some (vI v2), some (vI v3), some (vI v4_1), none, none, none, none]) dX3_weigh_126 ic_1 rfl rfl (fun _ => rfl) (Nat.le_of_ble_eq_true rfl) hf (fun v4_1 hf => ?_)
  refine r_goto (tgt := 5) dX3_weigh_129 rfl ?_
  exact hk5 _ _ _ hf
set_option maxRecDepth 100000 in
set_option maxHeartbeats 4000000 in
theorem ok_mX3_weigh_95 {zv : Unit} {zw : AW} {k5 : Int32 → Int32 → AW → Option (Unit × AW)} {o1 : Nat} {v2 : Int32} {v3 : Int32} {v4 : Int32} {v5 : Int32} {v6 : Int32} {v7 : Int32} {v8 : Int32} {s0 : Int32} {s1 : Int32} (hk5 : ∀ (v3 : Int32) (v4 : Int32)  w, k5 v3 v4 w = some (zv, zw) → RR false KX3_weigh (none, zw) 5 [some (vR 4 0), some (vR o1 0), some (vI v2), some (vI v3), some (vI v4), none, none, none, none] [] w) (ho1 : am_cls false o1 = 2) {w : AW} (hf : mX3_weigh_95 k5 o1 v2 v3 v4 v5 v6 v7 v8 s0 s1 w = some (zv, zw)) : RR false KX3_weigh (none, zw) 95 [some (vR 4 0), some (vR o1 0), some (vI v2), some (vI v3), some (vI v4), some (vI v5), some (vI v6), some (vI v7), some (vI v8)] [vI s0, vI s1, vR 4 2] w := by
  obtain ⟨x_2, w_1, hc, hf⟩ := cl_some hf
  refine g_cNv (st := []) KX5_put [vR 4 2, vI s1, vI s0] dX3_weigh_95 e_RX3_94 mok_X5_put mw_X5_put ⟨Nat.le_of_ble_eq_true rfl, Nat.le_of_ble_eq_true rfl⟩ (met_X5_put aK_false_4_2 hc) rfl (Nat.le_of_ble_eq_true rfl) ?_
  clear hc
  refine r_iload dX3_weigh_98 rfl ?_
  refine r_bipush dX3_weigh_100 (bp_m9) ?_
  refine g_icmp_eq (tgt := 126) dX3_weigh_102 rfl hf (fun _ hf => ?_) (fun _ hf => ?_)
  · refine r_mask (bs := [true, true, true, true, true, false, false, false, false]) ?_
    exact ok_mX3_weigh_126 hk5 ho1 hf
  · refine r_iload_n dX3_weigh_105 rfl rfl ?_
    refine r_iload dX3_weigh_106 rfl ?_
    refine r_iload dX3_weigh_108 rfl ?_
    refine r_iload dX3_weigh_110 rfl ?_
    refine r_iload_n dX3_weigh_112 rfl rfl ?_
    refine r_iload dX3_weigh_113 rfl ?_
    obtain ⟨x_4, w_3, hc, hf⟩ := cl_some hf
    refine g_cN (st := [vI v8, vI v7, vI v5, vI v3]) KX5_bit [vI v2, vI v6] dX3_weigh_115 e_RX3_118 mok_X5_bit mw_X5_bit ⟨Nat.le_of_ble_eq_true rfl, Nat.le_of_ble_eq_true rfl⟩ (met_X5_bit hc) rfl (Nat.le_of_ble_eq_true rfl) ?_
    clear hc
    obtain ⟨x_6, w_5, hc, hf⟩ := cl_some hf
    refine g_cS (st := [vI v3]) KX3_bearing [vI v5, vI v7, vI v8, vI x_4] dX3_weigh_118 e_RX3_122 mok_X3_bearing mw_X3_bearing ⟨Nat.le_of_ble_eq_true rfl, Nat.le_of_ble_eq_true rfl⟩ (met_X3_bearing hc) rfl (Nat.le_of_ble_eq_true rfl) ?_
    clear hc
    refine r_iload dX3_weigh_121 rfl ?_
    refine r_ishl dX3_weigh_123 ?_
    refine r_ior dX3_weigh_124 ?_
    refine g_istore_n (fun v3_7 => [some (vR 4 0), some (vR o1 0), some (vI v2), some (vI v3_7), some (vI v4), some (vI v5), some (vI v6), some (vI v7), some (vI v8)]) dX3_weigh_125 rfl rfl (fun _ => rfl) (Nat.le_of_ble_eq_true rfl) hf (fun v3_7 hf => ?_)
    refine r_mask (bs := [true, true, true, true, true, false, false, false, false]) ?_
    exact ok_mX3_weigh_126 hk5 ho1 hf
set_option maxRecDepth 100000 in
set_option maxHeartbeats 4000000 in
theorem ok_mX3_weigh_5 {zv : Unit} {zw : AW} {o1 : Nat} {v2 : Int32} (ho1 : am_cls false o1 = 2) : ∀ (n : Nat) (v3 : Int32) (v4 : Int32) (w : AW), mX3_weigh_5 o1 v2 n v3 v4 w = some (zv, zw) → RR false KX3_weigh (none, zw) 5 [some (vR 4 0), some (vR o1 0), some (vI v2), some (vI v3), some (vI v4), none, none, none, none] [] w := by
  intro n
  induction n with
  | zero => intro v3 v4 w hf; cases hf
  | succ n ih =>
    intro v3 v4 w hf
    refine r_iload dX3_weigh_5 rfl ?_
    refine r_aload_n dX3_weigh_7 rfl rfl ?_
    obtain ⟨x_2, w_1, hc, hf⟩ := cl_some hf
    refine g_cV (st := [vI v4]) KX2_parts [] dX3_weigh_8 e_RX3_80 ho1 (rfl : vwCl[2]? = _) rfl mok_X2_parts mw_X2_parts ⟨Nat.le_of_ble_eq_true rfl, Nat.le_of_ble_eq_true rfl⟩ (met_X2_parts ho1 hc) rfl (Nat.le_of_ble_eq_true rfl) ?_
    clear hc
    refine g_icmp_ge (tgt := 132) dX3_weigh_11 rfl hf (fun _ hf => ?_) (fun _ hf => ?_)
    · refine r_aload_n dX3_weigh_132 rfl rfl ?_
      refine g_getA dX3_weigh_133 fl_RX3_18 fk_3_2 rfl (cl_false_4) ?_
      refine r_iload_n dX3_weigh_136 rfl rfl ?_
      refine r_iload_n dX3_weigh_137 rfl rfl ?_
      refine r_aload_n dX3_weigh_138 rfl rfl ?_
      refine g_getI dX3_weigh_139 fl_RX3_43 fk_3_10 (cl_false_4) ?_
      refine r_ixor dX3_weigh_142 ?_
      refine r_aload_n dX3_weigh_143 rfl rfl ?_
      refine g_getI dX3_weigh_144 fl_RX3_40 fk_3_9 (cl_false_4) ?_
      refine r_iand dX3_weigh_147 ?_
      obtain ⟨x_4, w_3, hc, hf⟩ := cl_some hf
      refine g_cNv (st := []) KX5_put [vR 4 3, vI v2, vI ((v2 ^^^ (w_1.1 4 0 10)) &&& (w_1.1 4 0 9))] dX3_weigh_148 e_RX3_94 mok_X5_put mw_X5_put ⟨Nat.le_of_ble_eq_true rfl, Nat.le_of_ble_eq_true rfl⟩ (met_X5_put aK_false_4_3 hc) rfl (Nat.le_of_ble_eq_true rfl) ?_
      clear hc
      refine r_aload_n dX3_weigh_151 rfl rfl ?_
      refine g_getA dX3_weigh_152 fl_RX3_21 fk_3_3 rfl (cl_false_4) ?_
      refine r_iload_n dX3_weigh_155 rfl rfl ?_
      refine r_iload_n dX3_weigh_156 rfl rfl ?_
      obtain ⟨x_6, w_5, hc, hf⟩ := cl_some hf
      refine g_cNv (st := []) KX5_put [vR 4 4, vI v2, vI v3] dX3_weigh_157 e_RX3_94 mok_X5_put mw_X5_put ⟨Nat.le_of_ble_eq_true rfl, Nat.le_of_ble_eq_true rfl⟩ (met_X5_put aK_false_4_4 hc) rfl (Nat.le_of_ble_eq_true rfl) ?_
      clear hc
      refine r_aload_n dX3_weigh_160 rfl rfl ?_
      refine g_getA dX3_weigh_161 fl_RX3_24 fk_3_4 rfl (cl_false_4) ?_
      refine r_iload_n dX3_weigh_164 rfl rfl ?_
      refine r_aload_n dX3_weigh_165 rfl rfl ?_
      refine g_getA dX3_weigh_166 fl_RX3_15 fk_3_1 rfl (cl_false_4) ?_
      refine r_aload_n dX3_weigh_169 rfl rfl ?_
      obtain ⟨x_8, w_7, hc, hf⟩ := cl_some hf
      refine g_cV (st := [vR 4 2, vI v2, vR 4 5]) KX2_parts [] dX3_weigh_170 e_RX3_80 ho1 (rfl : vwCl[2]? = _) rfl mok_X2_parts mw_X2_parts ⟨Nat.le_of_ble_eq_true rfl, Nat.le_of_ble_eq_true rfl⟩ (met_X2_parts ho1 hc) rfl (Nat.le_of_ble_eq_true rfl) ?_
      clear hc
      refine r_iconst dX3_weigh_173 ic_1 ?_
      refine r_isub dX3_weigh_174 ?_
      obtain ⟨x_10, w_9, hc, hf⟩ := cl_some hf
      refine g_cN (st := [vI v2, vR 4 5]) KX5_at [vR 4 2, vI (x_8 - 1)] dX3_weigh_175 e_RX3_104 mok_X5_at mw_X5_at ⟨Nat.le_of_ble_eq_true rfl, Nat.le_of_ble_eq_true rfl⟩ (met_X5_at (am_iaW aK_false_4_2) hc) rfl (Nat.le_of_ble_eq_true rfl) ?_
      clear hc
      obtain ⟨x_12, w_11, hc, hf⟩ := cl_some hf
      refine g_cNv (st := []) KX5_put [vR 4 5, vI v2, vI x_10] dX3_weigh_178 e_RX3_94 mok_X5_put mw_X5_put ⟨Nat.le_of_ble_eq_true rfl, Nat.le_of_ble_eq_true rfl⟩ (met_X5_put aK_false_4_5 hc) rfl (Nat.le_of_ble_eq_true rfl) ?_
      clear hc
      exact r_vret dX3_weigh_181 rfl (ret_U hf)
    · refine r_aload_n dX3_weigh_14 rfl rfl ?_
      refine r_iload dX3_weigh_15 rfl ?_
      obtain ⟨x_14, w_13, hc, hf⟩ := cl_some hf
      refine g_cV (st := []) KX2_sign [vI v4] dX3_weigh_17 e_RX3_86 ho1 (rfl : vwCl[2]? = _) rfl mok_X2_sign mw_X2_sign ⟨Nat.le_of_ble_eq_true rfl, Nat.le_of_ble_eq_true rfl⟩ (met_X2_sign ho1 hc) rfl (Nat.le_of_ble_eq_true rfl) ?_
      clear hc
      refine r_istore (ls2 := [some (vR 4 0), some (vR o1 0), some (vI v2), some (vI v3), some (vI v4), some (vI x_14), none, none, none]) dX3_weigh_20 rfl rfl (Nat.le_of_ble_eq_true rfl) ?_
      refine r_aload_n dX3_weigh_22 rfl rfl ?_
      refine g_getA dX3_weigh_23 fl_RX3_9 fk_3_0 rfl (cl_false_4) ?_
      refine r_iload dX3_weigh_26 rfl ?_
      obtain ⟨x_16, w_15, hc, hf⟩ := cl_some hf
      refine g_cN (st := []) KX5_at [vR 4 1, vI v4] dX3_weigh_28 e_RX3_104 mok_X5_at mw_X5_at ⟨Nat.le_of_ble_eq_true rfl, Nat.le_of_ble_eq_true rfl⟩ (met_X5_at (am_iaW aK_false_4_1) hc) rfl (Nat.le_of_ble_eq_true rfl) ?_
      clear hc
      refine r_istore (ls2 := [some (vR 4 0), some (vR o1 0), some (vI v2), some (vI v3), some (vI v4), some (vI x_14), some (vI x_16), none, none]) dX3_weigh_31 rfl rfl (Nat.le_of_ble_eq_true rfl) ?_
      refine r_aload_n dX3_weigh_33 rfl rfl ?_
      refine g_getA dX3_weigh_34 fl_RX3_15 fk_3_1 rfl (cl_false_4) ?_
      refine r_aload_n dX3_weigh_37 rfl rfl ?_
      refine r_iload dX3_weigh_38 rfl ?_
      obtain ⟨x_18, w_17, hc, hf⟩ := cl_some hf
      refine g_cV (st := [vR 4 2]) KX2_first [vI v4] dX3_weigh_40 e_RX3_108 ho1 (rfl : vwCl[2]? = _) rfl mok_X2_first mw_X2_first ⟨Nat.le_of_ble_eq_true rfl, Nat.le_of_ble_eq_true rfl⟩ (met_X2_first ho1 hc) rfl (Nat.le_of_ble_eq_true rfl) ?_
      clear hc
      obtain ⟨x_20, w_19, hc, hf⟩ := cl_some hf
      refine g_cN (st := []) KX5_at [vR 4 2, vI x_18] dX3_weigh_43 e_RX3_104 mok_X5_at mw_X5_at ⟨Nat.le_of_ble_eq_true rfl, Nat.le_of_ble_eq_true rfl⟩ (met_X5_at (am_iaW aK_false_4_2) hc) rfl (Nat.le_of_ble_eq_true rfl) ?_
      clear hc
      refine r_istore (ls2 := [some (vR 4 0), some (vR o1 0), some (vI v2), some (vI v3), some (vI v4), some (vI x_14), some (vI x_16), some (vI x_20), none]) dX3_weigh_46 rfl rfl (Nat.le_of_ble_eq_true rfl) ?_
      refine r_iload dX3_weigh_48 rfl ?_
      refine r_iload dX3_weigh_50 rfl ?_
      refine r_aload_n dX3_weigh_52 rfl rfl ?_
      refine g_getA dX3_weigh_53 fl_RX3_15 fk_3_1 rfl (cl_false_4) ?_
      refine r_aload_n dX3_weigh_56 rfl rfl ?_
      refine r_iload dX3_weigh_57 rfl ?_
      obtain ⟨x_22, w_21, hc, hf⟩ := cl_some hf
      refine g_cV (st := [vR 4 2, vI x_20, vI x_14]) KX2_second [vI v4] dX3_weigh_59 e_RX3_111 ho1 (rfl : vwCl[2]? = _) rfl mok_X2_second mw_X2_second ⟨Nat.le_of_ble_eq_true rfl, Nat.le_of_ble_eq_true rfl⟩ (met_X2_second ho1 hc) rfl (Nat.le_of_ble_eq_true rfl) ?_
      clear hc
      obtain ⟨x_24, w_23, hc, hf⟩ := cl_some hf
      refine g_cN (st := [vI x_20, vI x_14]) KX5_at [vR 4 2, vI x_22] dX3_weigh_62 e_RX3_104 mok_X5_at mw_X5_at ⟨Nat.le_of_ble_eq_true rfl, Nat.le_of_ble_eq_true rfl⟩ (met_X5_at (am_iaW aK_false_4_2) hc) rfl (Nat.le_of_ble_eq_true rfl) ?_
      clear hc
      refine r_iconst dX3_weigh_65 ic_1 ?_
      obtain ⟨x_26, w_25, hc, hf⟩ := cl_some hf
      refine g_cN (st := []) KX5_joined [vI x_14, vI x_20, vI x_24, vI 1] dX3_weigh_66 e_RX3_114 mok_X5_joined mw_X5_joined ⟨Nat.le_of_ble_eq_true rfl, Nat.le_of_ble_eq_true rfl⟩ (met_X5_joined hc) rfl (Nat.le_of_ble_eq_true rfl) ?_
      clear hc
      refine r_istore (ls2 := [some (vR 4 0), some (vR o1 0), some (vI v2), some (vI v3), some (vI v4), some (vI x_14), some (vI x_16), some (vI x_20), some (vI x_26)]) dX3_weigh_69 rfl rfl (Nat.le_of_ble_eq_true rfl) ?_
      refine r_aload_n dX3_weigh_71 rfl rfl ?_
      refine g_getA dX3_weigh_72 fl_RX3_15 fk_3_1 rfl (cl_false_4) ?_
      refine r_iload dX3_weigh_75 rfl ?_
      refine r_iload dX3_weigh_77 rfl ?_
      refine r_bipush dX3_weigh_79 (bp_m9) ?_
      refine g_icmp_ne (tgt := 89) dX3_weigh_81 rfl hf (fun _ hf => ?_) (fun _ hf => ?_)
      · refine r_iload_n dX3_weigh_89 rfl rfl ?_
        refine r_iload dX3_weigh_90 rfl ?_
        obtain ⟨x_28, w_27, hc, hf⟩ := cl_some hf
        refine g_cN (st := [vI v4, vR 4 2]) KX5_bit [vI v2, vI x_16] dX3_weigh_92 e_RX3_118 mok_X5_bit mw_X5_bit ⟨Nat.le_of_ble_eq_true rfl, Nat.le_of_ble_eq_true rfl⟩ (met_X5_bit hc) rfl (Nat.le_of_ble_eq_true rfl) ?_
        clear hc
        exact ok_mX3_weigh_95 (fun v3 v4 w hf => ih v3 v4 w hf) ho1 hf
      · refine r_iload dX3_weigh_84 rfl ?_
        refine r_goto (tgt := 95) dX3_weigh_86 rfl ?_
        exact ok_mX3_weigh_95 (fun v3 v4 w hf => ih v3 v4 w hf) ho1 hf
set_option maxRecDepth 100000 in
set_option maxHeartbeats 4000000 in
theorem ok_mX3_weigh {zv : Unit} {zw : AW} {o1 : Nat} {v2 : Int32} (ho1 : am_cls false o1 = 2) {w : AW} (hf : mX3_weigh o1 v2 w = some (zv, zw)) : RR false KX3_weigh (none, zw) 0 [some (vR 4 0), some (vR o1 0), some (vI v2), none, none, none, none, none, none] [] w := by
  refine r_iconst dX3_weigh_0 ic_0 ?_
  refine r_istore_n (ls2 := [some (vR 4 0), some (vR o1 0), some (vI v2), some (vI 0), none, none, none, none, none]) dX3_weigh_1 rfl rfl rfl (Nat.le_of_ble_eq_true rfl) ?_
  refine r_iconst dX3_weigh_2 ic_0 ?_
  refine r_istore (ls2 := [some (vR 4 0), some (vR o1 0), some (vI v2), some (vI 0), some (vI 0), none, none, none, none]) dX3_weigh_3 rfl rfl (Nat.le_of_ble_eq_true rfl) ?_
  exact ok_mX3_weigh_5 ho1 FU _ _ _ hf
theorem met_X3_weigh {zv : Unit} {zw : AW} {o1 : Nat} {v2 : Int32} (ho1 : am_cls false o1 = 2) {w : AW} (hf : mX3_weigh o1 v2 w = some (zv, zw)) : am_Met false KX3_weigh [vR 4 0, vR o1 0, vI v2] w (none, zw) := am_met mok_X3_weigh.1 (Nat.le_of_ble_eq_true rfl) (ok_mX3_weigh ho1 hf)

/-! SeenWorlds$Types.maySee(II)Z -/
noncomputable def mX3_maySee (v1 : Int32) (v2 : Int32) (w : AW) : Option (Int32 × AW) :=
  cl (mX5_at 4 3 v1 w) fun x_2 w_1 =>
  cl (mX5_at 4 4 v2 w_1) fun x_4 w_3 =>
  cl (mX5_within x_2 x_4 w_3) fun x_6 w_5 =>
  if x_6 ≠ 0 then
    if (w_5.1 4 0 7) = 3 then
      cl (mX5_at 4 3 v1 w_5) fun x_8 w_7 =>
      cl (mX5_at 4 3 v2 w_7) fun x_10 w_9 =>
      cl (mX5_within x_8 x_10 w_9) fun x_12 w_11 =>
      zr x_12 w_11
    else if (w_5.1 4 0 7) = 4 then
      cl (mX5_at 4 3 v1 w_5) fun x_14 w_13 =>
      cl (mX5_at 4 3 v2 w_13) fun x_16 w_15 =>
      cl (mX5_within x_14 x_16 w_15) fun x_18 w_17 =>
      zr x_18 w_17
    else if (w_5.1 4 0 7) = 5 then
      cl (mX5_at 4 3 v2 w_5) fun x_20 w_19 =>
      cl (mX5_at 4 4 v1 w_19) fun x_22 w_21 =>
      cl (mX5_within x_20 x_22 w_21) fun x_24 w_23 =>
      zr x_24 w_23
    else if (w_5.1 4 0 7) = 6 then
      cl (mX5_at 4 3 v2 w_5) fun x_26 w_25 =>
      cl (mX5_at 4 4 v1 w_25) fun x_28 w_27 =>
      cl (mX5_within x_26 x_28 w_27) fun x_30 w_29 =>
      zr x_30 w_29
    else if (w_5.1 4 0 7) = 7 then
      cl (mX5_at 4 3 v2 w_5) fun x_32 w_31 =>
      cl (mX5_at 4 4 v1 w_31) fun x_34 w_33 =>
      cl (mX5_within x_32 x_34 w_33) fun x_36 w_35 =>
      if x_36 = 0 then
        some (0, w_35)
      else
        cl (mX5_at 4 3 v1 w_35) fun x_38 w_37 =>
        cl (mX5_at 4 3 v2 w_37) fun x_40 w_39 =>
        if x_38 ≠ x_40 then
          some (0, w_39)
        else
          some (1, w_39)
    else if (w_5.1 4 0 7) = 8 then
      cl (mX5_at 4 3 v1 w_5) fun x_42 w_41 =>
      cl (mX5_at 4 3 v2 w_41) fun x_44 w_43 =>
      cl (mX5_within x_42 x_44 w_43) fun x_46 w_45 =>
      zr x_46 w_45
    else 
      some (1, w_5)
  else
    some (0, w_5)
set_option maxRecDepth 100000 in
set_option maxHeartbeats 4000000 in
theorem ok_mX3_maySee {zv : Int32} {zw : AW} {v1 : Int32} {v2 : Int32} {w : AW} (hf : mX3_maySee v1 v2 w = some (zv, zw)) : RR false KX3_maySee (some (vI zv), zw) 0 [some (vR 4 0), some (vI v1), some (vI v2)] [] w := by
  refine r_aload_n dX3_maySee_0 rfl rfl ?_
  refine g_getA dX3_maySee_1 fl_RX3_18 fk_3_2 rfl (cl_false_4) ?_
  refine r_iload_n dX3_maySee_4 rfl rfl ?_
  obtain ⟨x_2, w_1, hc, hf⟩ := cl_some hf
  refine g_cN (st := []) KX5_at [vR 4 3, vI v1] dX3_maySee_5 e_RX3_104 mok_X5_at mw_X5_at ⟨Nat.le_of_ble_eq_true rfl, Nat.le_of_ble_eq_true rfl⟩ (met_X5_at (am_iaW aK_false_4_3) hc) rfl (Nat.le_of_ble_eq_true rfl) ?_
  clear hc
  refine r_aload_n dX3_maySee_8 rfl rfl ?_
  refine g_getA dX3_maySee_9 fl_RX3_21 fk_3_3 rfl (cl_false_4) ?_
  refine r_iload_n dX3_maySee_12 rfl rfl ?_
  obtain ⟨x_4, w_3, hc, hf⟩ := cl_some hf
  refine g_cN (st := [vI x_2]) KX5_at [vR 4 4, vI v2] dX3_maySee_13 e_RX3_104 mok_X5_at mw_X5_at ⟨Nat.le_of_ble_eq_true rfl, Nat.le_of_ble_eq_true rfl⟩ (met_X5_at (am_iaW aK_false_4_4) hc) rfl (Nat.le_of_ble_eq_true rfl) ?_
  clear hc
  obtain ⟨x_6, w_5, hc, hf⟩ := cl_some hf
  refine g_cN (st := []) KX5_within [vI x_2, vI x_4] dX3_maySee_16 e_RX3_125 mok_X5_within mw_X5_within ⟨Nat.le_of_ble_eq_true rfl, Nat.le_of_ble_eq_true rfl⟩ (met_X5_within hc) rfl (Nat.le_of_ble_eq_true rfl) ?_
  clear hc
  refine g_if_ne (tgt := 24) dX3_maySee_19 rfl hf (fun _ hf => ?_) (fun _ hf => ?_)
  · refine r_aload_n dX3_maySee_24 rfl rfl ?_
    refine g_getI dX3_maySee_25 fl_RX3_33 fk_3_7 (cl_false_4) ?_
    rcases Classical.em ((w_5.1 4 0 7) = 3) with c3 | c3
    · replace hf := br_pos c3 hf
      refine g_tabC (off := 40) (tgt := 68) c3 dX3_maySee_28 (by decide) rfl ?_
      refine r_aload_n dX3_maySee_68 rfl rfl ?_
      refine g_getA dX3_maySee_69 fl_RX3_18 fk_3_2 rfl (cl_false_4) ?_
      refine r_iload_n dX3_maySee_72 rfl rfl ?_
      obtain ⟨x_8, w_7, hc, hf⟩ := cl_some hf
      refine g_cN (st := []) KX5_at [vR 4 3, vI v1] dX3_maySee_73 e_RX3_104 mok_X5_at mw_X5_at ⟨Nat.le_of_ble_eq_true rfl, Nat.le_of_ble_eq_true rfl⟩ (met_X5_at (am_iaW aK_false_4_3) hc) rfl (Nat.le_of_ble_eq_true rfl) ?_
      clear hc
      refine r_aload_n dX3_maySee_76 rfl rfl ?_
      refine g_getA dX3_maySee_77 fl_RX3_18 fk_3_2 rfl (cl_false_4) ?_
      refine r_iload_n dX3_maySee_80 rfl rfl ?_
      obtain ⟨x_10, w_9, hc, hf⟩ := cl_some hf
      refine g_cN (st := [vI x_8]) KX5_at [vR 4 3, vI v2] dX3_maySee_81 e_RX3_104 mok_X5_at mw_X5_at ⟨Nat.le_of_ble_eq_true rfl, Nat.le_of_ble_eq_true rfl⟩ (met_X5_at (am_iaW aK_false_4_3) hc) rfl (Nat.le_of_ble_eq_true rfl) ?_
      clear hc
      obtain ⟨x_12, w_11, hc, hf⟩ := cl_some hf
      refine g_cN (st := []) KX5_within [vI x_8, vI x_10] dX3_maySee_84 e_RX3_125 mok_X5_within mw_X5_within ⟨Nat.le_of_ble_eq_true rfl, Nat.le_of_ble_eq_true rfl⟩ (met_X5_within hc) rfl (Nat.le_of_ble_eq_true rfl) ?_
      clear hc
      exact g_zret dX3_maySee_87 rfl hf
    replace hf := br_neg c3 hf
    rcases Classical.em ((w_5.1 4 0 7) = 4) with c4 | c4
    · replace hf := br_pos c4 hf
      refine g_tabC (off := 40) (tgt := 68) c4 dX3_maySee_28 (by decide) rfl ?_
      refine r_aload_n dX3_maySee_68 rfl rfl ?_
      refine g_getA dX3_maySee_69 fl_RX3_18 fk_3_2 rfl (cl_false_4) ?_
      refine r_iload_n dX3_maySee_72 rfl rfl ?_
      obtain ⟨x_14, w_13, hc, hf⟩ := cl_some hf
      refine g_cN (st := []) KX5_at [vR 4 3, vI v1] dX3_maySee_73 e_RX3_104 mok_X5_at mw_X5_at ⟨Nat.le_of_ble_eq_true rfl, Nat.le_of_ble_eq_true rfl⟩ (met_X5_at (am_iaW aK_false_4_3) hc) rfl (Nat.le_of_ble_eq_true rfl) ?_
      clear hc
      refine r_aload_n dX3_maySee_76 rfl rfl ?_
      refine g_getA dX3_maySee_77 fl_RX3_18 fk_3_2 rfl (cl_false_4) ?_
      refine r_iload_n dX3_maySee_80 rfl rfl ?_
      obtain ⟨x_16, w_15, hc, hf⟩ := cl_some hf
      refine g_cN (st := [vI x_14]) KX5_at [vR 4 3, vI v2] dX3_maySee_81 e_RX3_104 mok_X5_at mw_X5_at ⟨Nat.le_of_ble_eq_true rfl, Nat.le_of_ble_eq_true rfl⟩ (met_X5_at (am_iaW aK_false_4_3) hc) rfl (Nat.le_of_ble_eq_true rfl) ?_
      clear hc
      obtain ⟨x_18, w_17, hc, hf⟩ := cl_some hf
      refine g_cN (st := []) KX5_within [vI x_14, vI x_16] dX3_maySee_84 e_RX3_125 mok_X5_within mw_X5_within ⟨Nat.le_of_ble_eq_true rfl, Nat.le_of_ble_eq_true rfl⟩ (met_X5_within hc) rfl (Nat.le_of_ble_eq_true rfl) ?_
      clear hc
      exact g_zret dX3_maySee_87 rfl hf
    replace hf := br_neg c4 hf
    rcases Classical.em ((w_5.1 4 0 7) = 5) with c5 | c5
    · replace hf := br_pos c5 hf
      refine g_tabC (off := 60) (tgt := 88) c5 dX3_maySee_28 (by decide) rfl ?_
      refine r_aload_n dX3_maySee_88 rfl rfl ?_
      refine g_getA dX3_maySee_89 fl_RX3_18 fk_3_2 rfl (cl_false_4) ?_
      refine r_iload_n dX3_maySee_92 rfl rfl ?_
      obtain ⟨x_20, w_19, hc, hf⟩ := cl_some hf
      refine g_cN (st := []) KX5_at [vR 4 3, vI v2] dX3_maySee_93 e_RX3_104 mok_X5_at mw_X5_at ⟨Nat.le_of_ble_eq_true rfl, Nat.le_of_ble_eq_true rfl⟩ (met_X5_at (am_iaW aK_false_4_3) hc) rfl (Nat.le_of_ble_eq_true rfl) ?_
      clear hc
      refine r_aload_n dX3_maySee_96 rfl rfl ?_
      refine g_getA dX3_maySee_97 fl_RX3_21 fk_3_3 rfl (cl_false_4) ?_
      refine r_iload_n dX3_maySee_100 rfl rfl ?_
      obtain ⟨x_22, w_21, hc, hf⟩ := cl_some hf
      refine g_cN (st := [vI x_20]) KX5_at [vR 4 4, vI v1] dX3_maySee_101 e_RX3_104 mok_X5_at mw_X5_at ⟨Nat.le_of_ble_eq_true rfl, Nat.le_of_ble_eq_true rfl⟩ (met_X5_at (am_iaW aK_false_4_4) hc) rfl (Nat.le_of_ble_eq_true rfl) ?_
      clear hc
      obtain ⟨x_24, w_23, hc, hf⟩ := cl_some hf
      refine g_cN (st := []) KX5_within [vI x_20, vI x_22] dX3_maySee_104 e_RX3_125 mok_X5_within mw_X5_within ⟨Nat.le_of_ble_eq_true rfl, Nat.le_of_ble_eq_true rfl⟩ (met_X5_within hc) rfl (Nat.le_of_ble_eq_true rfl) ?_
      clear hc
      exact g_zret dX3_maySee_107 rfl hf
    replace hf := br_neg c5 hf
    rcases Classical.em ((w_5.1 4 0 7) = 6) with c6 | c6
    · replace hf := br_pos c6 hf
      refine g_tabC (off := 60) (tgt := 88) c6 dX3_maySee_28 (by decide) rfl ?_
      refine r_aload_n dX3_maySee_88 rfl rfl ?_
      refine g_getA dX3_maySee_89 fl_RX3_18 fk_3_2 rfl (cl_false_4) ?_
      refine r_iload_n dX3_maySee_92 rfl rfl ?_
      obtain ⟨x_26, w_25, hc, hf⟩ := cl_some hf
      refine g_cN (st := []) KX5_at [vR 4 3, vI v2] dX3_maySee_93 e_RX3_104 mok_X5_at mw_X5_at ⟨Nat.le_of_ble_eq_true rfl, Nat.le_of_ble_eq_true rfl⟩ (met_X5_at (am_iaW aK_false_4_3) hc) rfl (Nat.le_of_ble_eq_true rfl) ?_
      clear hc
      refine r_aload_n dX3_maySee_96 rfl rfl ?_
      refine g_getA dX3_maySee_97 fl_RX3_21 fk_3_3 rfl (cl_false_4) ?_
      refine r_iload_n dX3_maySee_100 rfl rfl ?_
      obtain ⟨x_28, w_27, hc, hf⟩ := cl_some hf
      refine g_cN (st := [vI x_26]) KX5_at [vR 4 4, vI v1] dX3_maySee_101 e_RX3_104 mok_X5_at mw_X5_at ⟨Nat.le_of_ble_eq_true rfl, Nat.le_of_ble_eq_true rfl⟩ (met_X5_at (am_iaW aK_false_4_4) hc) rfl (Nat.le_of_ble_eq_true rfl) ?_
      clear hc
      obtain ⟨x_30, w_29, hc, hf⟩ := cl_some hf
      refine g_cN (st := []) KX5_within [vI x_26, vI x_28] dX3_maySee_104 e_RX3_125 mok_X5_within mw_X5_within ⟨Nat.le_of_ble_eq_true rfl, Nat.le_of_ble_eq_true rfl⟩ (met_X5_within hc) rfl (Nat.le_of_ble_eq_true rfl) ?_
      clear hc
      exact g_zret dX3_maySee_107 rfl hf
    replace hf := br_neg c6 hf
    rcases Classical.em ((w_5.1 4 0 7) = 7) with c7 | c7
    · replace hf := br_pos c7 hf
      refine g_tabC (off := 80) (tgt := 108) c7 dX3_maySee_28 (by decide) rfl ?_
      refine r_aload_n dX3_maySee_108 rfl rfl ?_
      refine g_getA dX3_maySee_109 fl_RX3_18 fk_3_2 rfl (cl_false_4) ?_
      refine r_iload_n dX3_maySee_112 rfl rfl ?_
      obtain ⟨x_32, w_31, hc, hf⟩ := cl_some hf
      refine g_cN (st := []) KX5_at [vR 4 3, vI v2] dX3_maySee_113 e_RX3_104 mok_X5_at mw_X5_at ⟨Nat.le_of_ble_eq_true rfl, Nat.le_of_ble_eq_true rfl⟩ (met_X5_at (am_iaW aK_false_4_3) hc) rfl (Nat.le_of_ble_eq_true rfl) ?_
      clear hc
      refine r_aload_n dX3_maySee_116 rfl rfl ?_
      refine g_getA dX3_maySee_117 fl_RX3_21 fk_3_3 rfl (cl_false_4) ?_
      refine r_iload_n dX3_maySee_120 rfl rfl ?_
      obtain ⟨x_34, w_33, hc, hf⟩ := cl_some hf
      refine g_cN (st := [vI x_32]) KX5_at [vR 4 4, vI v1] dX3_maySee_121 e_RX3_104 mok_X5_at mw_X5_at ⟨Nat.le_of_ble_eq_true rfl, Nat.le_of_ble_eq_true rfl⟩ (met_X5_at (am_iaW aK_false_4_4) hc) rfl (Nat.le_of_ble_eq_true rfl) ?_
      clear hc
      obtain ⟨x_36, w_35, hc, hf⟩ := cl_some hf
      refine g_cN (st := []) KX5_within [vI x_32, vI x_34] dX3_maySee_124 e_RX3_125 mok_X5_within mw_X5_within ⟨Nat.le_of_ble_eq_true rfl, Nat.le_of_ble_eq_true rfl⟩ (met_X5_within hc) rfl (Nat.le_of_ble_eq_true rfl) ?_
      clear hc
      refine g_if_eq (tgt := 153) dX3_maySee_127 rfl hf (fun _ hf => ?_) (fun _ hf => ?_)
      · refine r_iconst dX3_maySee_153 ic_0 ?_
        exact r_zret dX3_maySee_154 rfl nar_0 (ret_I hf)
      · refine r_aload_n dX3_maySee_130 rfl rfl ?_
        refine g_getA dX3_maySee_131 fl_RX3_18 fk_3_2 rfl (cl_false_4) ?_
        refine r_iload_n dX3_maySee_134 rfl rfl ?_
        obtain ⟨x_38, w_37, hc, hf⟩ := cl_some hf
        refine g_cN (st := []) KX5_at [vR 4 3, vI v1] dX3_maySee_135 e_RX3_104 mok_X5_at mw_X5_at ⟨Nat.le_of_ble_eq_true rfl, Nat.le_of_ble_eq_true rfl⟩ (met_X5_at (am_iaW aK_false_4_3) hc) rfl (Nat.le_of_ble_eq_true rfl) ?_
        clear hc
        refine r_aload_n dX3_maySee_138 rfl rfl ?_
        refine g_getA dX3_maySee_139 fl_RX3_18 fk_3_2 rfl (cl_false_4) ?_
        refine r_iload_n dX3_maySee_142 rfl rfl ?_
        obtain ⟨x_40, w_39, hc, hf⟩ := cl_some hf
        refine g_cN (st := [vI x_38]) KX5_at [vR 4 3, vI v2] dX3_maySee_143 e_RX3_104 mok_X5_at mw_X5_at ⟨Nat.le_of_ble_eq_true rfl, Nat.le_of_ble_eq_true rfl⟩ (met_X5_at (am_iaW aK_false_4_3) hc) rfl (Nat.le_of_ble_eq_true rfl) ?_
        clear hc
        refine g_icmp_ne (tgt := 153) dX3_maySee_146 rfl hf (fun _ hf => ?_) (fun _ hf => ?_)
        · refine r_iconst dX3_maySee_153 ic_0 ?_
          exact r_zret dX3_maySee_154 rfl nar_0 (ret_I hf)
        · refine r_iconst dX3_maySee_149 ic_1 ?_
          refine r_goto (tgt := 154) dX3_maySee_150 rfl ?_
          exact r_zret dX3_maySee_154 rfl nar_1 (ret_I hf)
    replace hf := br_neg c7 hf
    rcases Classical.em ((w_5.1 4 0 7) = 8) with c8 | c8
    · replace hf := br_pos c8 hf
      refine g_tabC (off := 40) (tgt := 68) c8 dX3_maySee_28 (by decide) rfl ?_
      refine r_aload_n dX3_maySee_68 rfl rfl ?_
      refine g_getA dX3_maySee_69 fl_RX3_18 fk_3_2 rfl (cl_false_4) ?_
      refine r_iload_n dX3_maySee_72 rfl rfl ?_
      obtain ⟨x_42, w_41, hc, hf⟩ := cl_some hf
      refine g_cN (st := []) KX5_at [vR 4 3, vI v1] dX3_maySee_73 e_RX3_104 mok_X5_at mw_X5_at ⟨Nat.le_of_ble_eq_true rfl, Nat.le_of_ble_eq_true rfl⟩ (met_X5_at (am_iaW aK_false_4_3) hc) rfl (Nat.le_of_ble_eq_true rfl) ?_
      clear hc
      refine r_aload_n dX3_maySee_76 rfl rfl ?_
      refine g_getA dX3_maySee_77 fl_RX3_18 fk_3_2 rfl (cl_false_4) ?_
      refine r_iload_n dX3_maySee_80 rfl rfl ?_
      obtain ⟨x_44, w_43, hc, hf⟩ := cl_some hf
      refine g_cN (st := [vI x_42]) KX5_at [vR 4 3, vI v2] dX3_maySee_81 e_RX3_104 mok_X5_at mw_X5_at ⟨Nat.le_of_ble_eq_true rfl, Nat.le_of_ble_eq_true rfl⟩ (met_X5_at (am_iaW aK_false_4_3) hc) rfl (Nat.le_of_ble_eq_true rfl) ?_
      clear hc
      obtain ⟨x_46, w_45, hc, hf⟩ := cl_some hf
      refine g_cN (st := []) KX5_within [vI x_42, vI x_44] dX3_maySee_84 e_RX3_125 mok_X5_within mw_X5_within ⟨Nat.le_of_ble_eq_true rfl, Nat.le_of_ble_eq_true rfl⟩ (met_X5_within hc) rfl (Nat.le_of_ble_eq_true rfl) ?_
      clear hc
      exact g_zret dX3_maySee_87 rfl hf
    replace hf := br_neg c8 hf
    refine g_tabD (tgt := 155) 6 (by decide) (fun j hj => by
      rcases (show j = 0 ∨ j = 1 ∨ j = 2 ∨ j = 3 ∨ j = 4 ∨ j = 5 by omega) with rfl | rfl | rfl | rfl | rfl | rfl
      · exact am_neI c3 (by decide)
      · exact am_neI c4 (by decide)
      · exact am_neI c5 (by decide)
      · exact am_neI c6 (by decide)
      · exact am_neI c7 (by decide)
      · exact am_neI c8 (by decide)) dX3_maySee_28 rfl ?_
    refine r_iconst dX3_maySee_155 ic_1 ?_
    exact r_zret dX3_maySee_156 rfl nar_1 (ret_I hf)
  · refine r_iconst dX3_maySee_22 ic_0 ?_
    exact r_zret dX3_maySee_23 rfl nar_0 (ret_I hf)
theorem met_X3_maySee {zv : Int32} {zw : AW} {v1 : Int32} {v2 : Int32} {w : AW} (hf : mX3_maySee v1 v2 w = some (zv, zw)) : am_Met false KX3_maySee [vR 4 0, vI v1, vI v2] w (some (vI zv), zw) := am_met mok_X3_maySee.1 (Nat.le_of_ble_eq_true rfl) (ok_mX3_maySee  hf)

/-! SeenWorlds$Types.isFit(I)Z -/
noncomputable def mX3_isFit (v1 : Int32) (w : AW) : Option (Int32 × AW) :=
  if (w.1 4 0 7) = 2 then
    cl (mX3_maySee v1 v1 w) fun x_2 w_1 =>
    zr x_2 w_1
  else if (w.1 4 0 7) = 3 then
    some (1, w)
  else if (w.1 4 0 7) = 4 then
    cl (mX3_maySee v1 v1 w) fun x_4 w_3 =>
    zr x_4 w_3
  else if (w.1 4 0 7) = 5 then
    some (1, w)
  else if (w.1 4 0 7) = 6 then
    cl (mX3_maySee v1 v1 w) fun x_6 w_5 =>
    zr x_6 w_5
  else if (w.1 4 0 7) = 7 then
    cl (mX3_maySee v1 v1 w) fun x_8 w_7 =>
    zr x_8 w_7
  else if (w.1 4 0 7) = 8 then
    cl (mX3_maySee v1 v1 w) fun x_10 w_9 =>
    zr x_10 w_9
  else 
    some (1, w)
set_option maxRecDepth 100000 in
set_option maxHeartbeats 4000000 in
theorem ok_mX3_isFit {zv : Int32} {zw : AW} {v1 : Int32} {w : AW} (hf : mX3_isFit v1 w = some (zv, zw)) : RR false KX3_isFit (some (vI zv), zw) 0 [some (vR 4 0), some (vI v1)] [] w := by
  refine r_aload_n dX3_isFit_0 rfl rfl ?_
  refine g_getI dX3_isFit_1 fl_RX3_33 fk_3_7 (cl_false_4) ?_
  rcases Classical.em ((w.1 4 0 7) = 2) with c2 | c2
  · replace hf := br_pos c2 hf
    refine g_tabC (off := 44) (tgt := 48) c2 dX3_isFit_4 (by decide) rfl ?_
    refine r_aload_n dX3_isFit_48 rfl rfl ?_
    refine r_iload_n dX3_isFit_49 rfl rfl ?_
    refine r_iload_n dX3_isFit_50 rfl rfl ?_
    obtain ⟨x_2, w_1, hc, hf⟩ := cl_some hf
    refine g_cV (st := []) KX3_maySee [vI v1, vI v1] dX3_isFit_51 e_RX3_128 (cl_false_4) (rfl : vwCl[3]? = _) rfl mok_X3_maySee mw_X3_maySee ⟨Nat.le_of_ble_eq_true rfl, Nat.le_of_ble_eq_true rfl⟩ (met_X3_maySee hc) rfl (Nat.le_of_ble_eq_true rfl) ?_
    clear hc
    exact g_zret dX3_isFit_54 rfl hf
  replace hf := br_neg c2 hf
  rcases Classical.em ((w.1 4 0 7) = 3) with c3 | c3
  · replace hf := br_pos c3 hf
    refine g_tabC (off := 51) (tgt := 55) c3 dX3_isFit_4 (by decide) rfl ?_
    refine r_iconst dX3_isFit_55 ic_1 ?_
    exact r_zret dX3_isFit_56 rfl nar_1 (ret_I hf)
  replace hf := br_neg c3 hf
  rcases Classical.em ((w.1 4 0 7) = 4) with c4 | c4
  · replace hf := br_pos c4 hf
    refine g_tabC (off := 44) (tgt := 48) c4 dX3_isFit_4 (by decide) rfl ?_
    refine r_aload_n dX3_isFit_48 rfl rfl ?_
    refine r_iload_n dX3_isFit_49 rfl rfl ?_
    refine r_iload_n dX3_isFit_50 rfl rfl ?_
    obtain ⟨x_4, w_3, hc, hf⟩ := cl_some hf
    refine g_cV (st := []) KX3_maySee [vI v1, vI v1] dX3_isFit_51 e_RX3_128 (cl_false_4) (rfl : vwCl[3]? = _) rfl mok_X3_maySee mw_X3_maySee ⟨Nat.le_of_ble_eq_true rfl, Nat.le_of_ble_eq_true rfl⟩ (met_X3_maySee hc) rfl (Nat.le_of_ble_eq_true rfl) ?_
    clear hc
    exact g_zret dX3_isFit_54 rfl hf
  replace hf := br_neg c4 hf
  rcases Classical.em ((w.1 4 0 7) = 5) with c5 | c5
  · replace hf := br_pos c5 hf
    refine g_tabC (off := 51) (tgt := 55) c5 dX3_isFit_4 (by decide) rfl ?_
    refine r_iconst dX3_isFit_55 ic_1 ?_
    exact r_zret dX3_isFit_56 rfl nar_1 (ret_I hf)
  replace hf := br_neg c5 hf
  rcases Classical.em ((w.1 4 0 7) = 6) with c6 | c6
  · replace hf := br_pos c6 hf
    refine g_tabC (off := 44) (tgt := 48) c6 dX3_isFit_4 (by decide) rfl ?_
    refine r_aload_n dX3_isFit_48 rfl rfl ?_
    refine r_iload_n dX3_isFit_49 rfl rfl ?_
    refine r_iload_n dX3_isFit_50 rfl rfl ?_
    obtain ⟨x_6, w_5, hc, hf⟩ := cl_some hf
    refine g_cV (st := []) KX3_maySee [vI v1, vI v1] dX3_isFit_51 e_RX3_128 (cl_false_4) (rfl : vwCl[3]? = _) rfl mok_X3_maySee mw_X3_maySee ⟨Nat.le_of_ble_eq_true rfl, Nat.le_of_ble_eq_true rfl⟩ (met_X3_maySee hc) rfl (Nat.le_of_ble_eq_true rfl) ?_
    clear hc
    exact g_zret dX3_isFit_54 rfl hf
  replace hf := br_neg c6 hf
  rcases Classical.em ((w.1 4 0 7) = 7) with c7 | c7
  · replace hf := br_pos c7 hf
    refine g_tabC (off := 44) (tgt := 48) c7 dX3_isFit_4 (by decide) rfl ?_
    refine r_aload_n dX3_isFit_48 rfl rfl ?_
    refine r_iload_n dX3_isFit_49 rfl rfl ?_
    refine r_iload_n dX3_isFit_50 rfl rfl ?_
    obtain ⟨x_8, w_7, hc, hf⟩ := cl_some hf
    refine g_cV (st := []) KX3_maySee [vI v1, vI v1] dX3_isFit_51 e_RX3_128 (cl_false_4) (rfl : vwCl[3]? = _) rfl mok_X3_maySee mw_X3_maySee ⟨Nat.le_of_ble_eq_true rfl, Nat.le_of_ble_eq_true rfl⟩ (met_X3_maySee hc) rfl (Nat.le_of_ble_eq_true rfl) ?_
    clear hc
    exact g_zret dX3_isFit_54 rfl hf
  replace hf := br_neg c7 hf
  rcases Classical.em ((w.1 4 0 7) = 8) with c8 | c8
  · replace hf := br_pos c8 hf
    refine g_tabC (off := 44) (tgt := 48) c8 dX3_isFit_4 (by decide) rfl ?_
    refine r_aload_n dX3_isFit_48 rfl rfl ?_
    refine r_iload_n dX3_isFit_49 rfl rfl ?_
    refine r_iload_n dX3_isFit_50 rfl rfl ?_
    obtain ⟨x_10, w_9, hc, hf⟩ := cl_some hf
    refine g_cV (st := []) KX3_maySee [vI v1, vI v1] dX3_isFit_51 e_RX3_128 (cl_false_4) (rfl : vwCl[3]? = _) rfl mok_X3_maySee mw_X3_maySee ⟨Nat.le_of_ble_eq_true rfl, Nat.le_of_ble_eq_true rfl⟩ (met_X3_maySee hc) rfl (Nat.le_of_ble_eq_true rfl) ?_
    clear hc
    exact g_zret dX3_isFit_54 rfl hf
  replace hf := br_neg c8 hf
  refine g_tabD (tgt := 55) 7 (by decide) (fun j hj => by
    rcases (show j = 0 ∨ j = 1 ∨ j = 2 ∨ j = 3 ∨ j = 4 ∨ j = 5 ∨ j = 6 by omega) with rfl | rfl | rfl | rfl | rfl | rfl | rfl
    · exact am_neI c2 (by decide)
    · exact am_neI c3 (by decide)
    · exact am_neI c4 (by decide)
    · exact am_neI c5 (by decide)
    · exact am_neI c6 (by decide)
    · exact am_neI c7 (by decide)
    · exact am_neI c8 (by decide)) dX3_isFit_4 rfl ?_
  refine r_iconst dX3_isFit_55 ic_1 ?_
  exact r_zret dX3_isFit_56 rfl nar_1 (ret_I hf)
theorem met_X3_isFit {zv : Int32} {zw : AW} {v1 : Int32} {w : AW} (hf : mX3_isFit v1 w = some (zv, zw)) : am_Met false KX3_isFit [vR 4 0, vI v1] w (some (vI zv), zw) := am_met mok_X3_isFit.1 (Nat.le_of_ble_eq_true rfl) (ok_mX3_isFit  hf)

/-! SeenWorlds$Types.stay(I)V -/
noncomputable def mX3_stay (v1 : Int32) (w : AW) : Option (Unit × AW) :=
  cl (mX5_put 4 6 v1 (-9) w) fun x_2 w_1 =>
  cl (mX5_put 4 7 (w_1.1 4 0 13) v1 w_1) fun x_4 w_3 =>
  pu w_3 4 13 ((w_3.1 4 0 13) + 1) fun w_5 =>
  some ((), w_5)
set_option maxRecDepth 100000 in
set_option maxHeartbeats 4000000 in
theorem ok_mX3_stay {zv : Unit} {zw : AW} {v1 : Int32} {w : AW} (hf : mX3_stay v1 w = some (zv, zw)) : RR false KX3_stay (none, zw) 0 [some (vR 4 0), some (vI v1)] [] w := by
  refine r_aload_n dX3_stay_0 rfl rfl ?_
  refine g_getA dX3_stay_1 fl_RX3_27 fk_3_5 rfl (cl_false_4) ?_
  refine r_iload_n dX3_stay_4 rfl rfl ?_
  refine r_bipush dX3_stay_5 (bp_m9) ?_
  obtain ⟨x_2, w_1, hc, hf⟩ := cl_some hf
  refine g_cNv (st := []) KX5_put [vR 4 6, vI v1, vI (-9)] dX3_stay_7 e_RX3_94 mok_X5_put mw_X5_put ⟨Nat.le_of_ble_eq_true rfl, Nat.le_of_ble_eq_true rfl⟩ (met_X5_put aK_false_4_6 hc) rfl (Nat.le_of_ble_eq_true rfl) ?_
  clear hc
  refine r_aload_n dX3_stay_10 rfl rfl ?_
  refine g_getA dX3_stay_11 fl_RX3_30 fk_3_6 rfl (cl_false_4) ?_
  refine r_aload_n dX3_stay_14 rfl rfl ?_
  refine g_getI dX3_stay_15 fl_RX3_52 fk_3_13 (cl_false_4) ?_
  refine r_iload_n dX3_stay_18 rfl rfl ?_
  obtain ⟨x_4, w_3, hc, hf⟩ := cl_some hf
  refine g_cNv (st := []) KX5_put [vR 4 7, vI (w_1.1 4 0 13), vI v1] dX3_stay_19 e_RX3_94 mok_X5_put mw_X5_put ⟨Nat.le_of_ble_eq_true rfl, Nat.le_of_ble_eq_true rfl⟩ (met_X5_put aK_false_4_7 hc) rfl (Nat.le_of_ble_eq_true rfl) ?_
  clear hc
  refine r_aload_n dX3_stay_22 rfl rfl ?_
  refine r_dup dX3_stay_23 rfl ?_
  refine g_getI dX3_stay_24 fl_RX3_52 fk_3_13 (cl_false_4) ?_
  refine r_iconst dX3_stay_27 ic_1 ?_
  refine r_iadd dX3_stay_28 ?_
  refine g_putI dX3_stay_29 fl_RX3_52 fk_3_13 (cl_false_4) hf (fun w_5 hf => ?_)
  exact r_vret dX3_stay_32 rfl (ret_U hf)
theorem met_X3_stay {zv : Unit} {zw : AW} {v1 : Int32} {w : AW} (hf : mX3_stay v1 w = some (zv, zw)) : am_Met false KX3_stay [vR 4 0, vI v1] w (none, zw) := am_met mok_X3_stay.1 (Nat.le_of_ble_eq_true rfl) (ok_mX3_stay  hf)

/-! SeenWorlds$Types.beginWithFit()V -/
noncomputable def mX3_beginWithFit_37 (k7 : Int32 → AW → Option (Unit × AW)) (v1 : Int32) (w : AW) : Option (Unit × AW) :=
  nm (v1 + 1) fun v1_1 =>
  k7 v1_1 w
noncomputable def mX3_beginWithFit_7 : Nat → Int32 → AW → Option (Unit × AW)
  | 0, _, _ => none
  | n + 1, v1, w =>
    if (w.1 4 0 8) ≤ v1 then
      some ((), w)
    else
      cl (mX5_put 4 6 v1 0 w) fun x_2 w_1 =>
      cl (mX3_isFit v1 w_1) fun x_4 w_3 =>
      if x_4 = 0 then
        mX3_beginWithFit_37 (mX3_beginWithFit_7 n) v1 w_3
      else
        cl (mX3_stay v1 w_3) fun x_6 w_5 =>
        mX3_beginWithFit_37 (mX3_beginWithFit_7 n) v1 w_5
noncomputable def mX3_beginWithFit (w : AW) : Option (Unit × AW) :=
  pu w 4 13 0 fun w_1 =>
  mX3_beginWithFit_7 FU 0 w_1
set_option maxRecDepth 100000 in
set_option maxHeartbeats 4000000 in
theorem ok_mX3_beginWithFit_37 {zv : Unit} {zw : AW} {k7 : Int32 → AW → Option (Unit × AW)} {v1 : Int32} (hk7 : ∀ (v1 : Int32)  w, k7 v1 w = some (zv, zw) → RR false KX3_beginWithFit (none, zw) 7 [some (vR 4 0), some (vI v1)] [] w) {w : AW} (hf : mX3_beginWithFit_37 k7 v1 w = some (zv, zw)) : RR false KX3_beginWithFit (none, zw) 37 [some (vR 4 0), some (vI v1)] [] w := by
  refine g_iinc (fun v1_1 => [some (vR 4 0), some (vI v1_1)]) dX3_beginWithFit_37 ic_1 rfl rfl (fun _ => rfl) (Nat.le_of_ble_eq_true rfl) hf (fun v1_1 hf => ?_)
  refine r_goto (tgt := 7) dX3_beginWithFit_40 rfl ?_
  exact hk7 _ _ hf
set_option maxRecDepth 100000 in
set_option maxHeartbeats 4000000 in
theorem ok_mX3_beginWithFit_7 {zv : Unit} {zw : AW} : ∀ (n : Nat) (v1 : Int32) (w : AW), mX3_beginWithFit_7 n v1 w = some (zv, zw) → RR false KX3_beginWithFit (none, zw) 7 [some (vR 4 0), some (vI v1)] [] w := by
  intro n
  induction n with
  | zero => intro v1 w hf; cases hf
  | succ n ih =>
    intro v1 w hf
    refine r_iload_n dX3_beginWithFit_7 rfl rfl ?_
    refine r_aload_n dX3_beginWithFit_8 rfl rfl ?_
    refine g_getI dX3_beginWithFit_9 fl_RX3_37 fk_3_8 (cl_false_4) ?_
    refine g_icmp_ge (tgt := 43) dX3_beginWithFit_12 rfl hf (fun _ hf => ?_) (fun _ hf => ?_)
    · exact r_vret dX3_beginWithFit_43 rfl (ret_U hf)
    · refine r_aload_n dX3_beginWithFit_15 rfl rfl ?_
      refine g_getA dX3_beginWithFit_16 fl_RX3_27 fk_3_5 rfl (cl_false_4) ?_
      refine r_iload_n dX3_beginWithFit_19 rfl rfl ?_
      refine r_iconst dX3_beginWithFit_20 ic_0 ?_
      obtain ⟨x_2, w_1, hc, hf⟩ := cl_some hf
      refine g_cNv (st := []) KX5_put [vR 4 6, vI v1, vI 0] dX3_beginWithFit_21 e_RX3_94 mok_X5_put mw_X5_put ⟨Nat.le_of_ble_eq_true rfl, Nat.le_of_ble_eq_true rfl⟩ (met_X5_put aK_false_4_6 hc) rfl (Nat.le_of_ble_eq_true rfl) ?_
      clear hc
      refine r_aload_n dX3_beginWithFit_24 rfl rfl ?_
      refine r_iload_n dX3_beginWithFit_25 rfl rfl ?_
      obtain ⟨x_4, w_3, hc, hf⟩ := cl_some hf
      refine g_cV (st := []) KX3_isFit [vI v1] dX3_beginWithFit_26 e_RX3_131 (cl_false_4) (rfl : vwCl[3]? = _) rfl mok_X3_isFit mw_X3_isFit ⟨Nat.le_of_ble_eq_true rfl, Nat.le_of_ble_eq_true rfl⟩ (met_X3_isFit hc) rfl (Nat.le_of_ble_eq_true rfl) ?_
      clear hc
      refine g_if_eq (tgt := 37) dX3_beginWithFit_29 rfl hf (fun _ hf => ?_) (fun _ hf => ?_)
      · exact ok_mX3_beginWithFit_37 (fun v1 w hf => ih v1 w hf) hf
      · refine r_aload_n dX3_beginWithFit_32 rfl rfl ?_
        refine r_iload_n dX3_beginWithFit_33 rfl rfl ?_
        obtain ⟨x_6, w_5, hc, hf⟩ := cl_some hf
        refine g_cVv (st := []) KX3_stay [vI v1] dX3_beginWithFit_34 e_RX3_134 (cl_false_4) (rfl : vwCl[3]? = _) rfl mok_X3_stay mw_X3_stay ⟨Nat.le_of_ble_eq_true rfl, Nat.le_of_ble_eq_true rfl⟩ (met_X3_stay hc) rfl (Nat.le_of_ble_eq_true rfl) ?_
        clear hc
        exact ok_mX3_beginWithFit_37 (fun v1 w hf => ih v1 w hf) hf
set_option maxRecDepth 100000 in
set_option maxHeartbeats 4000000 in
theorem ok_mX3_beginWithFit {zv : Unit} {zw : AW} {w : AW} (hf : mX3_beginWithFit w = some (zv, zw)) : RR false KX3_beginWithFit (none, zw) 0 [some (vR 4 0), none] [] w := by
  refine r_aload_n dX3_beginWithFit_0 rfl rfl ?_
  refine r_iconst dX3_beginWithFit_1 ic_0 ?_
  refine g_putI dX3_beginWithFit_2 fl_RX3_52 fk_3_13 (cl_false_4) hf (fun w_1 hf => ?_)
  refine r_iconst dX3_beginWithFit_5 ic_0 ?_
  refine r_istore_n (ls2 := [some (vR 4 0), some (vI 0)]) dX3_beginWithFit_6 rfl rfl rfl (Nat.le_of_ble_eq_true rfl) ?_
  exact ok_mX3_beginWithFit_7 FU _ _ hf
theorem met_X3_beginWithFit {zv : Unit} {zw : AW} {w : AW} (hf : mX3_beginWithFit w = some (zv, zw)) : am_Met false KX3_beginWithFit [vR 4 0] w (none, zw) := am_met mok_X3_beginWithFit.1 (Nat.le_of_ble_eq_true rfl) (ok_mX3_beginWithFit  hf)

/-! SeenWorlds$Types.mustFall(I)Z -/
noncomputable def mX3_mustFall_90 (k33 : Int32 → Int32 → Int32 → AW → Option (Int32 × AW)) (v1 : Int32) (v2 : Int32) (v3 : Int32) (v4 : Int32) (w : AW) : Option (Int32 × AW) :=
  nm (v4 + 1) fun v4_1 =>
  k33 v2 v3 v4_1 w
noncomputable def mX3_mustFall_52 (k33 : Int32 → Int32 → Int32 → AW → Option (Int32 × AW)) (v1 : Int32) (v2 : Int32) (v3 : Int32) (v4 : Int32) (w : AW) : Option (Int32 × AW) :=
  cl (mX5_at 4 7 v4 w) fun x_2 w_1 =>
  cl (mX3_maySee v1 x_2 w_1) fun x_4 w_3 =>
  if x_4 ≠ 0 then
    cl (mX5_at 4 4 x_2 w_3) fun x_6 w_5 =>
    nm (v2 &&& x_6) fun v2_7 =>
    mX3_mustFall_90 k33 v1 v2_7 0 v4 w_5
  else
    mX3_mustFall_90 k33 v1 v2 v3 v4 w_3
noncomputable def mX3_mustFall_104 (w : AW) : Option (Int32 × AW) :=
  some (1, w)
noncomputable def mX3_mustFall_33 (v1 : Int32) : Nat → Int32 → Int32 → Int32 → AW → Option (Int32 × AW)
  | 0, _, _, _, _ => none
  | n + 1, v2, v3, v4, w =>
    if (w.1 4 0 13) ≤ v4 then
      if v2 ≠ 0 then
        mX3_mustFall_104 w
      else
        if v3 = 0 then
          some (0, w)
        else
          mX3_mustFall_104 w
    else
      if v2 ≠ 0 then
        mX3_mustFall_52 (mX3_mustFall_33 v1 n) v1 v2 v3 v4 w
      else
        if v3 ≠ 0 then
          mX3_mustFall_52 (mX3_mustFall_33 v1 n) v1 v2 v3 v4 w
        else
          some (0, w)
noncomputable def mX3_mustFall_29 (v1 : Int32) (v2 : Int32) (s0 : Int32) (w : AW) : Option (Int32 × AW) :=
  mX3_mustFall_33 v1 FU v2 s0 0 w
noncomputable def mX3_mustFall (v1 : Int32) (w : AW) : Option (Int32 × AW) :=
  cl (mX5_at 4 3 v1 w) fun x_2 w_1 =>
  nm ((w.1 4 0 11) &&& (x_2 ^^^ (-1))) fun v2_3 =>
  if (w_1.1 4 0 7) ≠ 1 then
    mX3_mustFall_29 v1 v2_3 0 w_1
  else
    mX3_mustFall_29 v1 v2_3 1 w_1
set_option maxRecDepth 100000 in
set_option maxHeartbeats 4000000 in
theorem ok_mX3_mustFall_90 {zv : Int32} {zw : AW} {k33 : Int32 → Int32 → Int32 → AW → Option (Int32 × AW)} {v1 : Int32} {v2 : Int32} {v3 : Int32} {v4 : Int32} (hk33 : ∀ (v2 : Int32) (v3 : Int32) (v4 : Int32)  w, k33 v2 v3 v4 w = some (zv, zw) → RR false KX3_mustFall (some (vI zv), zw) 33 [some (vR 4 0), some (vI v1), some (vI v2), some (vI v3), some (vI v4), none] [] w) {w : AW} (hf : mX3_mustFall_90 k33 v1 v2 v3 v4 w = some (zv, zw)) : RR false KX3_mustFall (some (vI zv), zw) 90 [some (vR 4 0), some (vI v1), some (vI v2), some (vI v3), some (vI v4), none] [] w := by
  refine g_iinc (fun v4_1 => [some (vR 4 0), some (vI v1), some (vI v2), some (vI v3), some (vI v4_1), none]) dX3_mustFall_90 ic_1 rfl rfl (fun _ => rfl) (Nat.le_of_ble_eq_true rfl) hf (fun v4_1 hf => ?_)
  refine r_goto (tgt := 33) dX3_mustFall_93 rfl ?_
  exact hk33 _ _ _ _ hf
set_option maxRecDepth 100000 in
set_option maxHeartbeats 4000000 in
theorem ok_mX3_mustFall_52 {zv : Int32} {zw : AW} {k33 : Int32 → Int32 → Int32 → AW → Option (Int32 × AW)} {v1 : Int32} {v2 : Int32} {v3 : Int32} {v4 : Int32} (hk33 : ∀ (v2 : Int32) (v3 : Int32) (v4 : Int32)  w, k33 v2 v3 v4 w = some (zv, zw) → RR false KX3_mustFall (some (vI zv), zw) 33 [some (vR 4 0), some (vI v1), some (vI v2), some (vI v3), some (vI v4), none] [] w) {w : AW} (hf : mX3_mustFall_52 k33 v1 v2 v3 v4 w = some (zv, zw)) : RR false KX3_mustFall (some (vI zv), zw) 52 [some (vR 4 0), some (vI v1), some (vI v2), some (vI v3), some (vI v4), none] [] w := by
  refine r_aload_n dX3_mustFall_52 rfl rfl ?_
  refine g_getA dX3_mustFall_53 fl_RX3_30 fk_3_6 rfl (cl_false_4) ?_
  refine r_iload dX3_mustFall_56 rfl ?_
  obtain ⟨x_2, w_1, hc, hf⟩ := cl_some hf
  refine g_cN (st := []) KX5_at [vR 4 7, vI v4] dX3_mustFall_58 e_RX3_104 mok_X5_at mw_X5_at ⟨Nat.le_of_ble_eq_true rfl, Nat.le_of_ble_eq_true rfl⟩ (met_X5_at (am_iaW aK_false_4_7) hc) rfl (Nat.le_of_ble_eq_true rfl) ?_
  clear hc
  refine r_istore (ls2 := [some (vR 4 0), some (vI v1), some (vI v2), some (vI v3), some (vI v4), some (vI x_2)]) dX3_mustFall_61 rfl rfl (Nat.le_of_ble_eq_true rfl) ?_
  refine r_aload_n dX3_mustFall_63 rfl rfl ?_
  refine r_iload_n dX3_mustFall_64 rfl rfl ?_
  refine r_iload dX3_mustFall_65 rfl ?_
  obtain ⟨x_4, w_3, hc, hf⟩ := cl_some hf
  refine g_cV (st := []) KX3_maySee [vI v1, vI x_2] dX3_mustFall_67 e_RX3_128 (cl_false_4) (rfl : vwCl[3]? = _) rfl mok_X3_maySee mw_X3_maySee ⟨Nat.le_of_ble_eq_true rfl, Nat.le_of_ble_eq_true rfl⟩ (met_X3_maySee hc) rfl (Nat.le_of_ble_eq_true rfl) ?_
  clear hc
  refine g_if_ne (tgt := 76) dX3_mustFall_70 rfl hf (fun _ hf => ?_) (fun _ hf => ?_)
  · refine r_iload_n dX3_mustFall_76 rfl rfl ?_
    refine r_aload_n dX3_mustFall_77 rfl rfl ?_
    refine g_getA dX3_mustFall_78 fl_RX3_21 fk_3_3 rfl (cl_false_4) ?_
    refine r_iload dX3_mustFall_81 rfl ?_
    obtain ⟨x_6, w_5, hc, hf⟩ := cl_some hf
    refine g_cN (st := [vI v2]) KX5_at [vR 4 4, vI x_2] dX3_mustFall_83 e_RX3_104 mok_X5_at mw_X5_at ⟨Nat.le_of_ble_eq_true rfl, Nat.le_of_ble_eq_true rfl⟩ (met_X5_at (am_iaW aK_false_4_4) hc) rfl (Nat.le_of_ble_eq_true rfl) ?_
    clear hc
    refine r_iand dX3_mustFall_86 ?_
    refine g_istore_n (fun v2_7 => [some (vR 4 0), some (vI v1), some (vI v2_7), some (vI v3), some (vI v4), some (vI x_2)]) dX3_mustFall_87 rfl rfl (fun _ => rfl) (Nat.le_of_ble_eq_true rfl) hf (fun v2_7 hf => ?_)
    refine r_iconst dX3_mustFall_88 ic_0 ?_
    refine r_istore_n (ls2 := [some (vR 4 0), some (vI v1), some (vI v2_7), some (vI 0), some (vI v4), some (vI x_2)]) dX3_mustFall_89 rfl rfl rfl (Nat.le_of_ble_eq_true rfl) ?_
    refine r_mask (bs := [true, true, true, true, true, false]) ?_
    exact ok_mX3_mustFall_90 hk33 hf
  · refine r_goto (tgt := 90) dX3_mustFall_73 rfl ?_
    refine r_mask (bs := [true, true, true, true, true, false]) ?_
    exact ok_mX3_mustFall_90 hk33 hf
set_option maxRecDepth 100000 in
set_option maxHeartbeats 4000000 in
theorem ok_mX3_mustFall_104 {zv : Int32} {zw : AW} {w : AW} (hf : mX3_mustFall_104 w = some (zv, zw)) : RR false KX3_mustFall (some (vI zv), zw) 104 [none, none, none, none, none, none] [] w := by
  refine r_iconst dX3_mustFall_104 ic_1 ?_
  refine r_goto (tgt := 109) dX3_mustFall_105 rfl ?_
  exact r_zret dX3_mustFall_109 rfl nar_1 (ret_I hf)
set_option maxRecDepth 100000 in
set_option maxHeartbeats 4000000 in
theorem ok_mX3_mustFall_33 {zv : Int32} {zw : AW} {v1 : Int32} : ∀ (n : Nat) (v2 : Int32) (v3 : Int32) (v4 : Int32) (w : AW), mX3_mustFall_33 v1 n v2 v3 v4 w = some (zv, zw) → RR false KX3_mustFall (some (vI zv), zw) 33 [some (vR 4 0), some (vI v1), some (vI v2), some (vI v3), some (vI v4), none] [] w := by
  intro n
  induction n with
  | zero => intro v2 v3 v4 w hf; cases hf
  | succ n ih =>
    intro v2 v3 v4 w hf
    refine r_iload dX3_mustFall_33 rfl ?_
    refine r_aload_n dX3_mustFall_35 rfl rfl ?_
    refine g_getI dX3_mustFall_36 fl_RX3_52 fk_3_13 (cl_false_4) ?_
    refine g_icmp_ge (tgt := 96) dX3_mustFall_39 rfl hf (fun _ hf => ?_) (fun _ hf => ?_)
    · refine r_iload_n dX3_mustFall_96 rfl rfl ?_
      refine g_if_ne (tgt := 104) dX3_mustFall_97 rfl hf (fun _ hf => ?_) (fun _ hf => ?_)
      · refine r_mask (bs := [false, false, false, false, false, false]) ?_
        exact ok_mX3_mustFall_104 hf
      · refine r_iload_n dX3_mustFall_100 rfl rfl ?_
        refine g_if_eq (tgt := 108) dX3_mustFall_101 rfl hf (fun _ hf => ?_) (fun _ hf => ?_)
        · refine r_iconst dX3_mustFall_108 ic_0 ?_
          exact r_zret dX3_mustFall_109 rfl nar_0 (ret_I hf)
        · refine r_mask (bs := [false, false, false, false, false, false]) ?_
          exact ok_mX3_mustFall_104 hf
    · refine r_iload_n dX3_mustFall_42 rfl rfl ?_
      refine g_if_ne (tgt := 52) dX3_mustFall_43 rfl hf (fun _ hf => ?_) (fun _ hf => ?_)
      · exact ok_mX3_mustFall_52 (fun v2 v3 v4 w hf => ih v2 v3 v4 w hf) hf
      · refine r_iload_n dX3_mustFall_46 rfl rfl ?_
        refine g_if_ne (tgt := 52) dX3_mustFall_47 rfl hf (fun _ hf => ?_) (fun _ hf => ?_)
        · exact ok_mX3_mustFall_52 (fun v2 v3 v4 w hf => ih v2 v3 v4 w hf) hf
        · refine r_iconst dX3_mustFall_50 ic_0 ?_
          exact r_zret dX3_mustFall_51 rfl nar_0 (ret_I hf)
set_option maxRecDepth 100000 in
set_option maxHeartbeats 4000000 in
theorem ok_mX3_mustFall_29 {zv : Int32} {zw : AW} {v1 : Int32} {v2 : Int32} {s0 : Int32} {w : AW} (hf : mX3_mustFall_29 v1 v2 s0 w = some (zv, zw)) : RR false KX3_mustFall (some (vI zv), zw) 29 [some (vR 4 0), some (vI v1), some (vI v2), none, none, none] [vI s0] w := by
  refine r_istore_n (ls2 := [some (vR 4 0), some (vI v1), some (vI v2), some (vI s0), none, none]) dX3_mustFall_29 rfl rfl rfl (Nat.le_of_ble_eq_true rfl) ?_
  refine r_iconst dX3_mustFall_30 ic_0 ?_
  refine r_istore (ls2 := [some (vR 4 0), some (vI v1), some (vI v2), some (vI s0), some (vI 0), none]) dX3_mustFall_31 rfl rfl (Nat.le_of_ble_eq_true rfl) ?_
  exact ok_mX3_mustFall_33 FU _ _ _ _ hf
set_option maxRecDepth 100000 in
set_option maxHeartbeats 4000000 in
theorem ok_mX3_mustFall {zv : Int32} {zw : AW} {v1 : Int32} {w : AW} (hf : mX3_mustFall v1 w = some (zv, zw)) : RR false KX3_mustFall (some (vI zv), zw) 0 [some (vR 4 0), some (vI v1), none, none, none, none] [] w := by
  refine r_aload_n dX3_mustFall_0 rfl rfl ?_
  refine g_getI dX3_mustFall_1 fl_RX3_46 fk_3_11 (cl_false_4) ?_
  refine r_aload_n dX3_mustFall_4 rfl rfl ?_
  refine g_getA dX3_mustFall_5 fl_RX3_18 fk_3_2 rfl (cl_false_4) ?_
  refine r_iload_n dX3_mustFall_8 rfl rfl ?_
  obtain ⟨x_2, w_1, hc, hf⟩ := cl_some hf
  refine g_cN (st := [vI (w.1 4 0 11)]) KX5_at [vR 4 3, vI v1] dX3_mustFall_9 e_RX3_104 mok_X5_at mw_X5_at ⟨Nat.le_of_ble_eq_true rfl, Nat.le_of_ble_eq_true rfl⟩ (met_X5_at (am_iaW aK_false_4_3) hc) rfl (Nat.le_of_ble_eq_true rfl) ?_
  clear hc
  refine r_iconst dX3_mustFall_12 ic_m1 ?_
  refine r_ixor dX3_mustFall_13 ?_
  refine r_iand dX3_mustFall_14 ?_
  refine g_istore_n (fun v2_3 => [some (vR 4 0), some (vI v1), some (vI v2_3), none, none, none]) dX3_mustFall_15 rfl rfl (fun _ => rfl) (Nat.le_of_ble_eq_true rfl) hf (fun v2_3 hf => ?_)
  refine r_aload_n dX3_mustFall_16 rfl rfl ?_
  refine g_getI dX3_mustFall_17 fl_RX3_33 fk_3_7 (cl_false_4) ?_
  refine r_iconst dX3_mustFall_20 ic_1 ?_
  refine g_icmp_ne (tgt := 28) dX3_mustFall_21 rfl hf (fun _ hf => ?_) (fun _ hf => ?_)
  · refine r_iconst dX3_mustFall_28 ic_0 ?_
    exact ok_mX3_mustFall_29 hf
  · refine r_iconst dX3_mustFall_24 ic_1 ?_
    refine r_goto (tgt := 29) dX3_mustFall_25 rfl ?_
    exact ok_mX3_mustFall_29 hf
theorem met_X3_mustFall {zv : Int32} {zw : AW} {v1 : Int32} {w : AW} (hf : mX3_mustFall v1 w = some (zv, zw)) : am_Met false KX3_mustFall [vR 4 0, vI v1] w (some (vI zv), zw) := am_met mok_X3_mustFall.1 (Nat.le_of_ble_eq_true rfl) (ok_mX3_mustFall  hf)

/-! SeenWorlds$Types.anyFall(I)Z -/
noncomputable def mX3_anyFall_41 (k7 : Int32 → AW → Option (Int32 × AW)) (v1 : Int32) (v2 : Int32) (v3 : Int32) (w : AW) : Option (Int32 × AW) :=
  nm (v3 + 1) fun v3_1 =>
  k7 v3_1 w
noncomputable def mX3_anyFall_89 (k54 : Int32 → AW → Option (Int32 × AW)) (v2 : Int32) (v3 : Int32) (w : AW) : Option (Int32 × AW) :=
  nm (v3 + 1) fun v3_1 =>
  k54 v3_1 w
noncomputable def mX3_anyFall_54 (v2 : Int32) : Nat → Int32 → AW → Option (Int32 × AW)
  | 0, _, _ => none
  | n + 1, v3, w =>
    if v2 ≤ v3 then
      if v2 ≤ (w.1 4 0 13) then
        some (0, w)
      else
        some (1, w)
    else
      cl (mX5_at 4 7 v3 w) fun x_2 w_1 =>
      cl (mX5_at 4 6 x_2 w_1) fun x_4 w_3 =>
      if x_4 ≠ (-9) then
        mX3_anyFall_89 (mX3_anyFall_54 v2 n) v2 v3 w_3
      else
        cl (mX3_stay x_2 w_3) fun x_6 w_5 =>
        mX3_anyFall_89 (mX3_anyFall_54 v2 n) v2 v3 w_5
noncomputable def mX3_anyFall_7 (v1 : Int32) (v2 : Int32) : Nat → Int32 → AW → Option (Int32 × AW)
  | 0, _, _ => none
  | n + 1, v3, w =>
    if v2 ≤ v3 then
      pu w 4 13 0 fun w_1 =>
      mX3_anyFall_54 v2 FU 0 w_1
    else
      cl (mX5_at 4 7 v3 w) fun x_3 w_2 =>
      cl (mX3_mustFall x_3 w_2) fun x_5 w_4 =>
      if x_5 = 0 then
        mX3_anyFall_41 (mX3_anyFall_7 v1 v2 n) v1 v2 v3 w_4
      else
        cl (mX5_put 4 6 x_3 v1 w_4) fun x_7 w_6 =>
        mX3_anyFall_41 (mX3_anyFall_7 v1 v2 n) v1 v2 v3 w_6
noncomputable def mX3_anyFall (v1 : Int32) (w : AW) : Option (Int32 × AW) :=
  nm (w.1 4 0 13) fun v2_1 =>
  mX3_anyFall_7 v1 v2_1 FU 0 w
set_option maxRecDepth 100000 in
set_option maxHeartbeats 4000000 in
theorem ok_mX3_anyFall_41 {zv : Int32} {zw : AW} {k7 : Int32 → AW → Option (Int32 × AW)} {v1 : Int32} {v2 : Int32} {v3 : Int32} (hk7 : ∀ (v3 : Int32)  w, k7 v3 w = some (zv, zw) → RR false KX3_anyFall (some (vI zv), zw) 7 [some (vR 4 0), some (vI v1), some (vI v2), some (vI v3), none] [] w) {w : AW} (hf : mX3_anyFall_41 k7 v1 v2 v3 w = some (zv, zw)) : RR false KX3_anyFall (some (vI zv), zw) 41 [some (vR 4 0), some (vI v1), some (vI v2), some (vI v3), none] [] w := by
  refine g_iinc (fun v3_1 => [some (vR 4 0), some (vI v1), some (vI v2), some (vI v3_1), none]) dX3_anyFall_41 ic_1 rfl rfl (fun _ => rfl) (Nat.le_of_ble_eq_true rfl) hf (fun v3_1 hf => ?_)
  refine r_goto (tgt := 7) dX3_anyFall_44 rfl ?_
  exact hk7 _ _ hf
set_option maxRecDepth 100000 in
set_option maxHeartbeats 4000000 in
theorem ok_mX3_anyFall_89 {zv : Int32} {zw : AW} {k54 : Int32 → AW → Option (Int32 × AW)} {v2 : Int32} {v3 : Int32} (hk54 : ∀ (v3 : Int32)  w, k54 v3 w = some (zv, zw) → RR false KX3_anyFall (some (vI zv), zw) 54 [some (vR 4 0), none, some (vI v2), some (vI v3), none] [] w) {w : AW} (hf : mX3_anyFall_89 k54 v2 v3 w = some (zv, zw)) : RR false KX3_anyFall (some (vI zv), zw) 89 [some (vR 4 0), none, some (vI v2), some (vI v3), none] [] w := by
  refine g_iinc (fun v3_1 => [some (vR 4 0), none, some (vI v2), some (vI v3_1), none]) dX3_anyFall_89 ic_1 rfl rfl (fun _ => rfl) (Nat.le_of_ble_eq_true rfl) hf (fun v3_1 hf => ?_)
  refine r_goto (tgt := 54) dX3_anyFall_92 rfl ?_
  exact hk54 _ _ hf
set_option maxRecDepth 100000 in
set_option maxHeartbeats 4000000 in
theorem ok_mX3_anyFall_54 {zv : Int32} {zw : AW} {v2 : Int32} : ∀ (n : Nat) (v3 : Int32) (w : AW), mX3_anyFall_54 v2 n v3 w = some (zv, zw) → RR false KX3_anyFall (some (vI zv), zw) 54 [some (vR 4 0), none, some (vI v2), some (vI v3), none] [] w := by
  intro n
  induction n with
  | zero => intro v3 w hf; cases hf
  | succ n ih =>
    intro v3 w hf
    refine r_iload_n dX3_anyFall_54 rfl rfl ?_
    refine r_iload_n dX3_anyFall_55 rfl rfl ?_
    refine g_icmp_ge (tgt := 95) dX3_anyFall_56 rfl hf (fun _ hf => ?_) (fun _ hf => ?_)
    · refine r_aload_n dX3_anyFall_95 rfl rfl ?_
      refine g_getI dX3_anyFall_96 fl_RX3_52 fk_3_13 (cl_false_4) ?_
      refine r_iload_n dX3_anyFall_99 rfl rfl ?_
      refine g_icmp_ge (tgt := 107) dX3_anyFall_100 rfl hf (fun _ hf => ?_) (fun _ hf => ?_)
      · refine r_iconst dX3_anyFall_107 ic_0 ?_
        exact r_zret dX3_anyFall_108 rfl nar_0 (ret_I hf)
      · refine r_iconst dX3_anyFall_103 ic_1 ?_
        refine r_goto (tgt := 108) dX3_anyFall_104 rfl ?_
        exact r_zret dX3_anyFall_108 rfl nar_1 (ret_I hf)
    · refine r_aload_n dX3_anyFall_59 rfl rfl ?_
      refine g_getA dX3_anyFall_60 fl_RX3_30 fk_3_6 rfl (cl_false_4) ?_
      refine r_iload_n dX3_anyFall_63 rfl rfl ?_
      obtain ⟨x_2, w_1, hc, hf⟩ := cl_some hf
      refine g_cN (st := []) KX5_at [vR 4 7, vI v3] dX3_anyFall_64 e_RX3_104 mok_X5_at mw_X5_at ⟨Nat.le_of_ble_eq_true rfl, Nat.le_of_ble_eq_true rfl⟩ (met_X5_at (am_iaW aK_false_4_7) hc) rfl (Nat.le_of_ble_eq_true rfl) ?_
      clear hc
      refine r_istore (ls2 := [some (vR 4 0), none, some (vI v2), some (vI v3), some (vI x_2)]) dX3_anyFall_67 rfl rfl (Nat.le_of_ble_eq_true rfl) ?_
      refine r_aload_n dX3_anyFall_69 rfl rfl ?_
      refine g_getA dX3_anyFall_70 fl_RX3_27 fk_3_5 rfl (cl_false_4) ?_
      refine r_iload dX3_anyFall_73 rfl ?_
      obtain ⟨x_4, w_3, hc, hf⟩ := cl_some hf
      refine g_cN (st := []) KX5_at [vR 4 6, vI x_2] dX3_anyFall_75 e_RX3_104 mok_X5_at mw_X5_at ⟨Nat.le_of_ble_eq_true rfl, Nat.le_of_ble_eq_true rfl⟩ (met_X5_at (am_iaW aK_false_4_6) hc) rfl (Nat.le_of_ble_eq_true rfl) ?_
      clear hc
      refine r_bipush dX3_anyFall_78 (bp_m9) ?_
      refine g_icmp_ne (tgt := 89) dX3_anyFall_80 rfl hf (fun _ hf => ?_) (fun _ hf => ?_)
      · refine r_mask (bs := [true, false, true, true, false]) ?_
        exact ok_mX3_anyFall_89 (fun v3 w hf => ih v3 w hf) hf
      · refine r_aload_n dX3_anyFall_83 rfl rfl ?_
        refine r_iload dX3_anyFall_84 rfl ?_
        obtain ⟨x_6, w_5, hc, hf⟩ := cl_some hf
        refine g_cVv (st := []) KX3_stay [vI x_2] dX3_anyFall_86 e_RX3_134 (cl_false_4) (rfl : vwCl[3]? = _) rfl mok_X3_stay mw_X3_stay ⟨Nat.le_of_ble_eq_true rfl, Nat.le_of_ble_eq_true rfl⟩ (met_X3_stay hc) rfl (Nat.le_of_ble_eq_true rfl) ?_
        clear hc
        refine r_mask (bs := [true, false, true, true, false]) ?_
        exact ok_mX3_anyFall_89 (fun v3 w hf => ih v3 w hf) hf
set_option maxRecDepth 100000 in
set_option maxHeartbeats 4000000 in
theorem ok_mX3_anyFall_7 {zv : Int32} {zw : AW} {v1 : Int32} {v2 : Int32} : ∀ (n : Nat) (v3 : Int32) (w : AW), mX3_anyFall_7 v1 v2 n v3 w = some (zv, zw) → RR false KX3_anyFall (some (vI zv), zw) 7 [some (vR 4 0), some (vI v1), some (vI v2), some (vI v3), none] [] w := by
  intro n
  induction n with
  | zero => intro v3 w hf; cases hf
  | succ n ih =>
    intro v3 w hf
    refine r_iload_n dX3_anyFall_7 rfl rfl ?_
    refine r_iload_n dX3_anyFall_8 rfl rfl ?_
    refine g_icmp_ge (tgt := 47) dX3_anyFall_9 rfl hf (fun _ hf => ?_) (fun _ hf => ?_)
    · refine r_aload_n dX3_anyFall_47 rfl rfl ?_
      refine r_iconst dX3_anyFall_48 ic_0 ?_
      refine g_putI dX3_anyFall_49 fl_RX3_52 fk_3_13 (cl_false_4) hf (fun w_1 hf => ?_)
      refine r_iconst dX3_anyFall_52 ic_0 ?_
      refine r_istore_n (ls2 := [some (vR 4 0), some (vI v1), some (vI v2), some (vI 0), none]) dX3_anyFall_53 rfl rfl rfl (Nat.le_of_ble_eq_true rfl) ?_
      refine r_mask (bs := [true, false, true, true, false]) ?_
      exact ok_mX3_anyFall_54 FU _ _ hf
    · refine r_aload_n dX3_anyFall_12 rfl rfl ?_
      refine g_getA dX3_anyFall_13 fl_RX3_30 fk_3_6 rfl (cl_false_4) ?_
      refine r_iload_n dX3_anyFall_16 rfl rfl ?_
      obtain ⟨x_3, w_2, hc, hf⟩ := cl_some hf
      refine g_cN (st := []) KX5_at [vR 4 7, vI v3] dX3_anyFall_17 e_RX3_104 mok_X5_at mw_X5_at ⟨Nat.le_of_ble_eq_true rfl, Nat.le_of_ble_eq_true rfl⟩ (met_X5_at (am_iaW aK_false_4_7) hc) rfl (Nat.le_of_ble_eq_true rfl) ?_
      clear hc
      refine r_istore (ls2 := [some (vR 4 0), some (vI v1), some (vI v2), some (vI v3), some (vI x_3)]) dX3_anyFall_20 rfl rfl (Nat.le_of_ble_eq_true rfl) ?_
      refine r_aload_n dX3_anyFall_22 rfl rfl ?_
      refine r_iload dX3_anyFall_23 rfl ?_
      obtain ⟨x_5, w_4, hc, hf⟩ := cl_some hf
      refine g_cV (st := []) KX3_mustFall [vI x_3] dX3_anyFall_25 e_RX3_138 (cl_false_4) (rfl : vwCl[3]? = _) rfl mok_X3_mustFall mw_X3_mustFall ⟨Nat.le_of_ble_eq_true rfl, Nat.le_of_ble_eq_true rfl⟩ (met_X3_mustFall hc) rfl (Nat.le_of_ble_eq_true rfl) ?_
      clear hc
      refine g_if_eq (tgt := 41) dX3_anyFall_28 rfl hf (fun _ hf => ?_) (fun _ hf => ?_)
      · refine r_mask (bs := [true, true, true, true, false]) ?_
        exact ok_mX3_anyFall_41 (fun v3 w hf => ih v3 w hf) hf
      · refine r_aload_n dX3_anyFall_31 rfl rfl ?_
        refine g_getA dX3_anyFall_32 fl_RX3_27 fk_3_5 rfl (cl_false_4) ?_
        refine r_iload dX3_anyFall_35 rfl ?_
        refine r_iload_n dX3_anyFall_37 rfl rfl ?_
        obtain ⟨x_7, w_6, hc, hf⟩ := cl_some hf
        refine g_cNv (st := []) KX5_put [vR 4 6, vI x_3, vI v1] dX3_anyFall_38 e_RX3_94 mok_X5_put mw_X5_put ⟨Nat.le_of_ble_eq_true rfl, Nat.le_of_ble_eq_true rfl⟩ (met_X5_put aK_false_4_6 hc) rfl (Nat.le_of_ble_eq_true rfl) ?_
        clear hc
        refine r_mask (bs := [true, true, true, true, false]) ?_
        exact ok_mX3_anyFall_41 (fun v3 w hf => ih v3 w hf) hf
set_option maxRecDepth 100000 in
set_option maxHeartbeats 4000000 in
theorem ok_mX3_anyFall {zv : Int32} {zw : AW} {v1 : Int32} {w : AW} (hf : mX3_anyFall v1 w = some (zv, zw)) : RR false KX3_anyFall (some (vI zv), zw) 0 [some (vR 4 0), some (vI v1), none, none, none] [] w := by
  refine r_aload_n dX3_anyFall_0 rfl rfl ?_
  refine g_getI dX3_anyFall_1 fl_RX3_52 fk_3_13 (cl_false_4) ?_
  refine g_istore_n (fun v2_1 => [some (vR 4 0), some (vI v1), some (vI v2_1), none, none]) dX3_anyFall_4 rfl rfl (fun _ => rfl) (Nat.le_of_ble_eq_true rfl) hf (fun v2_1 hf => ?_)
  refine r_iconst dX3_anyFall_5 ic_0 ?_
  refine r_istore_n (ls2 := [some (vR 4 0), some (vI v1), some (vI v2_1), some (vI 0), none]) dX3_anyFall_6 rfl rfl rfl (Nat.le_of_ble_eq_true rfl) ?_
  exact ok_mX3_anyFall_7 FU _ _ hf
theorem met_X3_anyFall {zv : Int32} {zw : AW} {v1 : Int32} {w : AW} (hf : mX3_anyFall v1 w = some (zv, zw)) : am_Met false KX3_anyFall [vR 4 0, vI v1] w (some (vI zv), zw) := am_met mok_X3_anyFall.1 (Nat.le_of_ble_eq_true rfl) (ok_mX3_anyFall  hf)

/-! SeenWorlds$Types.sortOut(LSeenWorlds$Sentence;I)Z -/
noncomputable def mX3_sortOut_65 : Nat → AW → Option (Int32 × AW)
  | 0, _ => none
  | n + 1, w =>
    if (w.1 4 0 8) ≤ (w.1 4 0 12) then
      some (1, w)
    else
      cl (mX3_anyFall ((w.1 4 0 12) + 1) w) fun x_2 w_1 =>
      if x_2 = 0 then
        some (1, w_1)
      else
        pu w_1 4 12 ((w_1.1 4 0 12) + 1) fun w_3 =>
        mX3_sortOut_65 n w_3
noncomputable def mX3_sortOut_34 (o1 : Nat) : Nat → Int32 → AW → Option (Int32 × AW)
  | 0, _, _ => none
  | n + 1, v4, w =>
    if (w.1 4 0 8) ≤ v4 then
      cl (mX3_beginWithFit w) fun x_2 w_1 =>
      pu w_1 4 12 0 fun w_3 =>
      mX3_sortOut_65 FU w_3
    else
      cl (mX3_weigh o1 v4 w) fun x_5 w_4 =>
      nm (v4 + 1) fun v4_6 =>
      mX3_sortOut_34 o1 n v4_6 w_4
noncomputable def mX3_sortOut (o1 : Nat) (v2 : Int32) (w : AW) : Option (Int32 × AW) :=
  cl (mX3_countBits o1 v2 w) fun x_2 w_1 =>
  if x_2 ≤ 10 then
    pu w_1 4 7 v2 fun w_3 =>
    pu w_3 4 8 (1 <<< (x_2 &&& 31)) fun w_4 =>
    cl (mX3_giveBits o1 w_4) fun x_6 w_5 =>
    mX3_sortOut_34 o1 FU 0 w_5
  else
    some (0, w_1)
set_option maxRecDepth 100000 in
set_option maxHeartbeats 4000000 in
theorem ok_mX3_sortOut_65 {zv : Int32} {zw : AW} : ∀ (n : Nat) (w : AW), mX3_sortOut_65 n w = some (zv, zw) → RR false KX3_sortOut (some (vI zv), zw) 65 [some (vR 4 0), none, none, none, none] [] w := by
  intro n
  induction n with
  | zero => intro  w hf; cases hf
  | succ n ih =>
    intro  w hf
    refine r_aload_n dX3_sortOut_65 rfl rfl ?_
    refine g_getI dX3_sortOut_66 fl_RX3_49 fk_3_12 (cl_false_4) ?_
    refine r_aload_n dX3_sortOut_69 rfl rfl ?_
    refine g_getI dX3_sortOut_70 fl_RX3_37 fk_3_8 (cl_false_4) ?_
    refine g_icmp_ge (tgt := 102) dX3_sortOut_73 rfl hf (fun _ hf => ?_) (fun _ hf => ?_)
    · refine r_iconst dX3_sortOut_102 ic_1 ?_
      exact r_zret dX3_sortOut_103 rfl nar_1 (ret_I hf)
    · refine r_aload_n dX3_sortOut_76 rfl rfl ?_
      refine r_aload_n dX3_sortOut_77 rfl rfl ?_
      refine g_getI dX3_sortOut_78 fl_RX3_49 fk_3_12 (cl_false_4) ?_
      refine r_iconst dX3_sortOut_81 ic_1 ?_
      refine r_iadd dX3_sortOut_82 ?_
      obtain ⟨x_2, w_1, hc, hf⟩ := cl_some hf
      refine g_cV (st := []) KX3_anyFall [vI ((w.1 4 0 12) + 1)] dX3_sortOut_83 e_RX3_70 (cl_false_4) (rfl : vwCl[3]? = _) rfl mok_X3_anyFall mw_X3_anyFall ⟨Nat.le_of_ble_eq_true rfl, Nat.le_of_ble_eq_true rfl⟩ (met_X3_anyFall hc) rfl (Nat.le_of_ble_eq_true rfl) ?_
      clear hc
      refine g_if_eq (tgt := 102) dX3_sortOut_86 rfl hf (fun _ hf => ?_) (fun _ hf => ?_)
      · refine r_iconst dX3_sortOut_102 ic_1 ?_
        exact r_zret dX3_sortOut_103 rfl nar_1 (ret_I hf)
      · refine r_aload_n dX3_sortOut_89 rfl rfl ?_
        refine r_dup dX3_sortOut_90 rfl ?_
        refine g_getI dX3_sortOut_91 fl_RX3_49 fk_3_12 (cl_false_4) ?_
        refine r_iconst dX3_sortOut_94 ic_1 ?_
        refine r_iadd dX3_sortOut_95 ?_
        refine g_putI dX3_sortOut_96 fl_RX3_49 fk_3_12 (cl_false_4) hf (fun w_3 hf => ?_)
        refine r_goto (tgt := 65) dX3_sortOut_99 rfl ?_
        exact ih _ hf
set_option maxRecDepth 100000 in
set_option maxHeartbeats 4000000 in
theorem ok_mX3_sortOut_34 {zv : Int32} {zw : AW} {o1 : Nat} (ho1 : am_cls false o1 = 2) : ∀ (n : Nat) (v4 : Int32) (w : AW), mX3_sortOut_34 o1 n v4 w = some (zv, zw) → RR false KX3_sortOut (some (vI zv), zw) 34 [some (vR 4 0), some (vR o1 0), none, none, some (vI v4)] [] w := by
  intro n
  induction n with
  | zero => intro v4 w hf; cases hf
  | succ n ih =>
    intro v4 w hf
    refine r_iload dX3_sortOut_34 rfl ?_
    refine r_aload_n dX3_sortOut_36 rfl rfl ?_
    refine g_getI dX3_sortOut_37 fl_RX3_37 fk_3_8 (cl_false_4) ?_
    refine g_icmp_ge (tgt := 56) dX3_sortOut_40 rfl hf (fun _ hf => ?_) (fun _ hf => ?_)
    · refine r_aload_n dX3_sortOut_56 rfl rfl ?_
      obtain ⟨x_2, w_1, hc, hf⟩ := cl_some hf
      refine g_cVv (st := []) KX3_beginWithFit [] dX3_sortOut_57 e_RX3_67 (cl_false_4) (rfl : vwCl[3]? = _) rfl mok_X3_beginWithFit mw_X3_beginWithFit ⟨Nat.le_of_ble_eq_true rfl, Nat.le_of_ble_eq_true rfl⟩ (met_X3_beginWithFit hc) rfl (Nat.le_of_ble_eq_true rfl) ?_
      clear hc
      refine r_aload_n dX3_sortOut_60 rfl rfl ?_
      refine r_iconst dX3_sortOut_61 ic_0 ?_
      refine g_putI dX3_sortOut_62 fl_RX3_49 fk_3_12 (cl_false_4) hf (fun w_3 hf => ?_)
      refine r_mask (bs := [true, false, false, false, false]) ?_
      exact ok_mX3_sortOut_65 FU _ hf
    · refine r_aload_n dX3_sortOut_43 rfl rfl ?_
      refine r_aload_n dX3_sortOut_44 rfl rfl ?_
      refine r_iload dX3_sortOut_45 rfl ?_
      obtain ⟨x_5, w_4, hc, hf⟩ := cl_some hf
      refine g_cVv (st := []) KX3_weigh [vR o1 0, vI v4] dX3_sortOut_47 e_RX3_63 (cl_false_4) (rfl : vwCl[3]? = _) rfl mok_X3_weigh mw_X3_weigh ⟨Nat.le_of_ble_eq_true rfl, Nat.le_of_ble_eq_true rfl⟩ (met_X3_weigh ho1 hc) rfl (Nat.le_of_ble_eq_true rfl) ?_
      clear hc
      refine g_iinc (fun v4_6 => [some (vR 4 0), some (vR o1 0), none, none, some (vI v4_6)]) dX3_sortOut_50 ic_1 rfl rfl (fun _ => rfl) (Nat.le_of_ble_eq_true rfl) hf (fun v4_6 hf => ?_)
      refine r_goto (tgt := 34) dX3_sortOut_53 rfl ?_
      exact ih _ _ hf
set_option maxRecDepth 100000 in
set_option maxHeartbeats 4000000 in
theorem ok_mX3_sortOut {zv : Int32} {zw : AW} {o1 : Nat} {v2 : Int32} (ho1 : am_cls false o1 = 2) {w : AW} (hf : mX3_sortOut o1 v2 w = some (zv, zw)) : RR false KX3_sortOut (some (vI zv), zw) 0 [some (vR 4 0), some (vR o1 0), some (vI v2), none, none] [] w := by
  refine r_aload_n dX3_sortOut_0 rfl rfl ?_
  refine r_iload_n dX3_sortOut_1 rfl rfl ?_
  obtain ⟨x_2, w_1, hc, hf⟩ := cl_some hf
  refine g_cS (st := []) KX3_countBits [vR o1 0, vI v2] dX3_sortOut_2 e_RX3_55 mok_X3_countBits mw_X3_countBits ⟨Nat.le_of_ble_eq_true rfl, Nat.le_of_ble_eq_true rfl⟩ (met_X3_countBits ho1 hc) rfl (Nat.le_of_ble_eq_true rfl) ?_
  clear hc
  refine r_istore_n (ls2 := [some (vR 4 0), some (vR o1 0), some (vI v2), some (vI x_2), none]) dX3_sortOut_5 rfl rfl rfl (Nat.le_of_ble_eq_true rfl) ?_
  refine r_iload_n dX3_sortOut_6 rfl rfl ?_
  refine r_bipush dX3_sortOut_7 (bp_10) ?_
  refine g_icmp_le (tgt := 14) dX3_sortOut_9 rfl hf (fun _ hf => ?_) (fun _ hf => ?_)
  · refine r_aload_n dX3_sortOut_14 rfl rfl ?_
    refine r_iload_n dX3_sortOut_15 rfl rfl ?_
    refine g_putI dX3_sortOut_16 fl_RX3_33 fk_3_7 (cl_false_4) hf (fun w_3 hf => ?_)
    refine r_aload_n dX3_sortOut_19 rfl rfl ?_
    refine r_iconst dX3_sortOut_20 ic_1 ?_
    refine r_iload_n dX3_sortOut_21 rfl rfl ?_
    refine r_ishl dX3_sortOut_22 ?_
    refine g_putI dX3_sortOut_23 fl_RX3_37 fk_3_8 (cl_false_4) hf (fun w_4 hf => ?_)
    refine r_aload_n dX3_sortOut_26 rfl rfl ?_
    refine r_aload_n dX3_sortOut_27 rfl rfl ?_
    obtain ⟨x_6, w_5, hc, hf⟩ := cl_some hf
    refine g_cVv (st := []) KX3_giveBits [vR o1 0] dX3_sortOut_28 e_RX3_59 (cl_false_4) (rfl : vwCl[3]? = _) rfl mok_X3_giveBits mw_X3_giveBits ⟨Nat.le_of_ble_eq_true rfl, Nat.le_of_ble_eq_true rfl⟩ (met_X3_giveBits ho1 hc) rfl (Nat.le_of_ble_eq_true rfl) ?_
    clear hc
    refine r_iconst dX3_sortOut_31 ic_0 ?_
    refine r_istore (ls2 := [some (vR 4 0), some (vR o1 0), some (vI v2), some (vI x_2), some (vI 0)]) dX3_sortOut_32 rfl rfl (Nat.le_of_ble_eq_true rfl) ?_
    refine r_mask (bs := [true, true, false, false, true]) ?_
    exact ok_mX3_sortOut_34 ho1 FU _ _ hf
  · refine r_iconst dX3_sortOut_12 ic_0 ?_
    exact r_zret dX3_sortOut_13 rfl nar_0 (ret_I hf)
theorem met_X3_sortOut {zv : Int32} {zw : AW} {o1 : Nat} {v2 : Int32} (ho1 : am_cls false o1 = 2) {w : AW} (hf : mX3_sortOut o1 v2 w = some (zv, zw)) : am_Met false KX3_sortOut [vR 4 0, vR o1 0, vI v2] w (some (vI zv), zw) := am_met mok_X3_sortOut.1 (Nat.le_of_ble_eq_true rfl) (ok_mX3_sortOut ho1 hf)

/-! SeenWorlds$Types.fallOf(I)I -/
noncomputable def mX3_fallOf (v1 : Int32) (w : AW) : Option (Int32 × AW) :=
  cl (mX5_at 4 6 v1 w) fun x_2 w_1 =>
  some (x_2, w_1)
set_option maxRecDepth 100000 in
set_option maxHeartbeats 4000000 in
theorem ok_mX3_fallOf {zv : Int32} {zw : AW} {v1 : Int32} {w : AW} (hf : mX3_fallOf v1 w = some (zv, zw)) : RR false KX3_fallOf (some (vI zv), zw) 0 [some (vR 4 0), some (vI v1)] [] w := by
  refine r_aload_n dX3_fallOf_0 rfl rfl ?_
  refine g_getA dX3_fallOf_1 fl_RX3_27 fk_3_5 rfl (cl_false_4) ?_
  refine r_iload_n dX3_fallOf_4 rfl rfl ?_
  obtain ⟨x_2, w_1, hc, hf⟩ := cl_some hf
  refine g_cN (st := []) KX5_at [vR 4 6, vI v1] dX3_fallOf_5 e_RX3_104 mok_X5_at mw_X5_at ⟨Nat.le_of_ble_eq_true rfl, Nat.le_of_ble_eq_true rfl⟩ (met_X5_at (am_iaW aK_false_4_6) hc) rfl (Nat.le_of_ble_eq_true rfl) ?_
  clear hc
  exact r_iret dX3_fallOf_8 rfl (ret_I hf)
theorem met_X3_fallOf {zv : Int32} {zw : AW} {v1 : Int32} {w : AW} (hf : mX3_fallOf v1 w = some (zv, zw)) : am_Met false KX3_fallOf [vR 4 0, vI v1] w (some (vI zv), zw) := am_met mok_X3_fallOf.1 (Nat.le_of_ble_eq_true rfl) (ok_mX3_fallOf  hf)

/-! SeenWorlds$Types.placeWhere(I)I -/
noncomputable def mX3_placeWhere_2 (v1 : Int32) : Nat → Int32 → AW → Option (Int32 × AW)
  | 0, _, _ => none
  | n + 1, v2, w =>
    if (w.1 4 0 13) ≤ v2 then
      some ((-9), w)
    else
      cl (mX5_at 4 7 v2 w) fun x_2 w_1 =>
      cl (mX5_at 4 5 x_2 w_1) fun x_4 w_3 =>
      if x_4 ≠ v1 then
        nm (v2 + 1) fun v2_5 =>
        mX3_placeWhere_2 v1 n v2_5 w_3
      else
        some (v2, w_3)
noncomputable def mX3_placeWhere (v1 : Int32) (w : AW) : Option (Int32 × AW) :=
  mX3_placeWhere_2 v1 FU 0 w
set_option maxRecDepth 100000 in
set_option maxHeartbeats 4000000 in
theorem ok_mX3_placeWhere_2 {zv : Int32} {zw : AW} {v1 : Int32} : ∀ (n : Nat) (v2 : Int32) (w : AW), mX3_placeWhere_2 v1 n v2 w = some (zv, zw) → RR false KX3_placeWhere (some (vI zv), zw) 2 [some (vR 4 0), some (vI v1), some (vI v2)] [] w := by
  intro n
  induction n with
  | zero => intro v2 w hf; cases hf
  | succ n ih =>
    intro v2 w hf
    refine r_iload_n dX3_placeWhere_2 rfl rfl ?_
    refine r_aload_n dX3_placeWhere_3 rfl rfl ?_
    refine g_getI dX3_placeWhere_4 fl_RX3_52 fk_3_13 (cl_false_4) ?_
    refine g_icmp_ge (tgt := 37) dX3_placeWhere_7 rfl hf (fun _ hf => ?_) (fun _ hf => ?_)
    · refine r_bipush dX3_placeWhere_37 (bp_m9) ?_
      exact r_iret dX3_placeWhere_39 rfl (ret_I hf)
    · refine r_aload_n dX3_placeWhere_10 rfl rfl ?_
      refine g_getA dX3_placeWhere_11 fl_RX3_24 fk_3_4 rfl (cl_false_4) ?_
      refine r_aload_n dX3_placeWhere_14 rfl rfl ?_
      refine g_getA dX3_placeWhere_15 fl_RX3_30 fk_3_6 rfl (cl_false_4) ?_
      refine r_iload_n dX3_placeWhere_18 rfl rfl ?_
      obtain ⟨x_2, w_1, hc, hf⟩ := cl_some hf
      refine g_cN (st := [vR 4 5]) KX5_at [vR 4 7, vI v2] dX3_placeWhere_19 e_RX3_104 mok_X5_at mw_X5_at ⟨Nat.le_of_ble_eq_true rfl, Nat.le_of_ble_eq_true rfl⟩ (met_X5_at (am_iaW aK_false_4_7) hc) rfl (Nat.le_of_ble_eq_true rfl) ?_
      clear hc
      obtain ⟨x_4, w_3, hc, hf⟩ := cl_some hf
      refine g_cN (st := []) KX5_at [vR 4 5, vI x_2] dX3_placeWhere_22 e_RX3_104 mok_X5_at mw_X5_at ⟨Nat.le_of_ble_eq_true rfl, Nat.le_of_ble_eq_true rfl⟩ (met_X5_at (am_iaW aK_false_4_5) hc) rfl (Nat.le_of_ble_eq_true rfl) ?_
      clear hc
      refine r_iload_n dX3_placeWhere_25 rfl rfl ?_
      refine g_icmp_ne (tgt := 31) dX3_placeWhere_26 rfl hf (fun _ hf => ?_) (fun _ hf => ?_)
      · refine g_iinc (fun v2_5 => [some (vR 4 0), some (vI v1), some (vI v2_5)]) dX3_placeWhere_31 ic_1 rfl rfl (fun _ => rfl) (Nat.le_of_ble_eq_true rfl) hf (fun v2_5 hf => ?_)
        refine r_goto (tgt := 2) dX3_placeWhere_34 rfl ?_
        exact ih _ _ hf
      · refine r_iload_n dX3_placeWhere_29 rfl rfl ?_
        exact r_iret dX3_placeWhere_30 rfl (ret_I hf)
set_option maxRecDepth 100000 in
set_option maxHeartbeats 4000000 in
theorem ok_mX3_placeWhere {zv : Int32} {zw : AW} {v1 : Int32} {w : AW} (hf : mX3_placeWhere v1 w = some (zv, zw)) : RR false KX3_placeWhere (some (vI zv), zw) 0 [some (vR 4 0), some (vI v1), none] [] w := by
  refine r_iconst dX3_placeWhere_0 ic_0 ?_
  refine r_istore_n (ls2 := [some (vR 4 0), some (vI v1), some (vI 0)]) dX3_placeWhere_1 rfl rfl rfl (Nat.le_of_ble_eq_true rfl) ?_
  exact ok_mX3_placeWhere_2 FU _ _ hf
theorem met_X3_placeWhere {zv : Int32} {zw : AW} {v1 : Int32} {w : AW} (hf : mX3_placeWhere v1 w = some (zv, zw)) : am_Met false KX3_placeWhere [vR 4 0, vI v1] w (some (vI zv), zw) := am_met mok_X3_placeWhere.1 (Nat.le_of_ble_eq_true rfl) (ok_mX3_placeWhere  hf)

/-! SeenWorlds$Types.swapStays(II)V -/
noncomputable def mX3_swapStays (v1 : Int32) (v2 : Int32) (w : AW) : Option (Unit × AW) :=
  cl (mX5_at 4 7 v1 w) fun x_2 w_1 =>
  cl (mX5_at 4 7 v2 w_1) fun x_4 w_3 =>
  cl (mX5_put 4 7 v1 x_4 w_3) fun x_6 w_5 =>
  cl (mX5_put 4 7 v2 x_2 w_5) fun x_8 w_7 =>
  some ((), w_7)
set_option maxRecDepth 100000 in
set_option maxHeartbeats 4000000 in
theorem ok_mX3_swapStays {zv : Unit} {zw : AW} {v1 : Int32} {v2 : Int32} {w : AW} (hf : mX3_swapStays v1 v2 w = some (zv, zw)) : RR false KX3_swapStays (none, zw) 0 [some (vR 4 0), some (vI v1), some (vI v2), none] [] w := by
  refine r_aload_n dX3_swapStays_0 rfl rfl ?_
  refine g_getA dX3_swapStays_1 fl_RX3_30 fk_3_6 rfl (cl_false_4) ?_
  refine r_iload_n dX3_swapStays_4 rfl rfl ?_
  obtain ⟨x_2, w_1, hc, hf⟩ := cl_some hf
  refine g_cN (st := []) KX5_at [vR 4 7, vI v1] dX3_swapStays_5 e_RX3_104 mok_X5_at mw_X5_at ⟨Nat.le_of_ble_eq_true rfl, Nat.le_of_ble_eq_true rfl⟩ (met_X5_at (am_iaW aK_false_4_7) hc) rfl (Nat.le_of_ble_eq_true rfl) ?_
  clear hc
  refine r_istore_n (ls2 := [some (vR 4 0), some (vI v1), some (vI v2), some (vI x_2)]) dX3_swapStays_8 rfl rfl rfl (Nat.le_of_ble_eq_true rfl) ?_
  refine r_aload_n dX3_swapStays_9 rfl rfl ?_
  refine g_getA dX3_swapStays_10 fl_RX3_30 fk_3_6 rfl (cl_false_4) ?_
  refine r_iload_n dX3_swapStays_13 rfl rfl ?_
  refine r_aload_n dX3_swapStays_14 rfl rfl ?_
  refine g_getA dX3_swapStays_15 fl_RX3_30 fk_3_6 rfl (cl_false_4) ?_
  refine r_iload_n dX3_swapStays_18 rfl rfl ?_
  obtain ⟨x_4, w_3, hc, hf⟩ := cl_some hf
  refine g_cN (st := [vI v1, vR 4 7]) KX5_at [vR 4 7, vI v2] dX3_swapStays_19 e_RX3_104 mok_X5_at mw_X5_at ⟨Nat.le_of_ble_eq_true rfl, Nat.le_of_ble_eq_true rfl⟩ (met_X5_at (am_iaW aK_false_4_7) hc) rfl (Nat.le_of_ble_eq_true rfl) ?_
  clear hc
  obtain ⟨x_6, w_5, hc, hf⟩ := cl_some hf
  refine g_cNv (st := []) KX5_put [vR 4 7, vI v1, vI x_4] dX3_swapStays_22 e_RX3_94 mok_X5_put mw_X5_put ⟨Nat.le_of_ble_eq_true rfl, Nat.le_of_ble_eq_true rfl⟩ (met_X5_put aK_false_4_7 hc) rfl (Nat.le_of_ble_eq_true rfl) ?_
  clear hc
  refine r_aload_n dX3_swapStays_25 rfl rfl ?_
  refine g_getA dX3_swapStays_26 fl_RX3_30 fk_3_6 rfl (cl_false_4) ?_
  refine r_iload_n dX3_swapStays_29 rfl rfl ?_
  refine r_iload_n dX3_swapStays_30 rfl rfl ?_
  obtain ⟨x_8, w_7, hc, hf⟩ := cl_some hf
  refine g_cNv (st := []) KX5_put [vR 4 7, vI v2, vI x_2] dX3_swapStays_31 e_RX3_94 mok_X5_put mw_X5_put ⟨Nat.le_of_ble_eq_true rfl, Nat.le_of_ble_eq_true rfl⟩ (met_X5_put aK_false_4_7 hc) rfl (Nat.le_of_ble_eq_true rfl) ?_
  clear hc
  exact r_vret dX3_swapStays_34 rfl (ret_U hf)
theorem met_X3_swapStays {zv : Unit} {zw : AW} {v1 : Int32} {v2 : Int32} {w : AW} (hf : mX3_swapStays v1 v2 w = some (zv, zw)) : am_Met false KX3_swapStays [vR 4 0, vI v1, vI v2] w (none, zw) := am_met mok_X3_swapStays.1 (Nat.le_of_ble_eq_true rfl) (ok_mX3_swapStays  hf)

/-! SeenWorlds$Types.howManyReached(I)I -/
noncomputable def mX3_howManyReached_80 (k18 : Int32 → Int32 → AW → Option (Int32 × AW)) (k34 : Int32 → Int32 → AW → Option (Int32 × AW)) (v2 : Int32) (v3 : Int32) (v4 : Int32) (w : AW) : Option (Int32 × AW) :=
  nm (v4 + 1) fun v4_1 =>
  k34 v2 v4_1 w
noncomputable def mX3_howManyReached_34 (k18 : Int32 → Int32 → AW → Option (Int32 × AW)) (v3 : Int32) : Nat → Int32 → Int32 → AW → Option (Int32 × AW)
  | 0, _, _, _ => none
  | n + 1, v2, v4, w =>
    if (w.1 4 0 13) ≤ v4 then
      nm (v3 + 1) fun v3_1 =>
      k18 v2 v3_1 w
    else
      cl (mX5_at 4 7 v3 w) fun x_3 w_2 =>
      cl (mX5_at 4 7 v4 w_2) fun x_5 w_4 =>
      cl (mX3_maySee x_3 x_5 w_4) fun x_7 w_6 =>
      if x_7 ≠ 0 then
        cl (mX3_swapStays v2 v4 w_6) fun x_9 w_8 =>
        nm (v2 + 1) fun v2_10 =>
        mX3_howManyReached_80 k18 (mX3_howManyReached_34 k18 v3 n) v2_10 v3 v4 w_8
      else
        mX3_howManyReached_80 k18 (mX3_howManyReached_34 k18 v3 n) v2 v3 v4 w_6
noncomputable def mX3_howManyReached_18 : Nat → Int32 → Int32 → AW → Option (Int32 × AW)
  | 0, _, _, _ => none
  | n + 1, v2, v3, w =>
    if v2 ≤ v3 then
      some (v2, w)
    else
      if (w.1 4 0 13) ≤ v3 then
        some (v2, w)
      else
        mX3_howManyReached_34 (mX3_howManyReached_18 n) v3 FU v2 v2 w
noncomputable def mX3_howManyReached (v1 : Int32) (w : AW) : Option (Int32 × AW) :=
  if v1 ≠ (-9) then
    cl (mX3_swapStays 0 v1 w) fun x_2 w_1 =>
    mX3_howManyReached_18 FU 1 0 w_1
  else
    some (0, w)
set_option maxRecDepth 100000 in
set_option maxHeartbeats 4000000 in
theorem ok_mX3_howManyReached_80 {zv : Int32} {zw : AW} {k18 : Int32 → Int32 → AW → Option (Int32 × AW)} {k34 : Int32 → Int32 → AW → Option (Int32 × AW)} {v2 : Int32} {v3 : Int32} {v4 : Int32} (hk18 : ∀ (v2 : Int32) (v3 : Int32)  w, k18 v2 v3 w = some (zv, zw) → RR false KX3_howManyReached (some (vI zv), zw) 18 [some (vR 4 0), none, some (vI v2), some (vI v3), none] [] w) (hk34 : ∀ (v2 : Int32) (v4 : Int32)  w, k34 v2 v4 w = some (zv, zw) → RR false KX3_howManyReached (some (vI zv), zw) 34 [some (vR 4 0), none, some (vI v2), some (vI v3), some (vI v4)] [] w) {w : AW} (hf : mX3_howManyReached_80 k18 k34 v2 v3 v4 w = some (zv, zw)) : RR false KX3_howManyReached (some (vI zv), zw) 80 [some (vR 4 0), none, some (vI v2), some (vI v3), some (vI v4)] [] w := by
  refine g_iinc (fun v4_1 => [some (vR 4 0), none, some (vI v2), some (vI v3), some (vI v4_1)]) dX3_howManyReached_80 ic_1 rfl rfl (fun _ => rfl) (Nat.le_of_ble_eq_true rfl) hf (fun v4_1 hf => ?_)
  refine r_goto (tgt := 34) dX3_howManyReached_83 rfl ?_
  exact hk34 _ _ _ hf
set_option maxRecDepth 100000 in
set_option maxHeartbeats 4000000 in
theorem ok_mX3_howManyReached_34 {zv : Int32} {zw : AW} {k18 : Int32 → Int32 → AW → Option (Int32 × AW)} {v3 : Int32} (hk18 : ∀ (v2 : Int32) (v3 : Int32)  w, k18 v2 v3 w = some (zv, zw) → RR false KX3_howManyReached (some (vI zv), zw) 18 [some (vR 4 0), none, some (vI v2), some (vI v3), none] [] w) : ∀ (n : Nat) (v2 : Int32) (v4 : Int32) (w : AW), mX3_howManyReached_34 k18 v3 n v2 v4 w = some (zv, zw) → RR false KX3_howManyReached (some (vI zv), zw) 34 [some (vR 4 0), none, some (vI v2), some (vI v3), some (vI v4)] [] w := by
  intro n
  induction n with
  | zero => intro v2 v4 w hf; cases hf
  | succ n ih =>
    intro v2 v4 w hf
    refine r_iload dX3_howManyReached_34 rfl ?_
    refine r_aload_n dX3_howManyReached_36 rfl rfl ?_
    refine g_getI dX3_howManyReached_37 fl_RX3_52 fk_3_13 (cl_false_4) ?_
    refine g_icmp_ge (tgt := 86) dX3_howManyReached_40 rfl hf (fun _ hf => ?_) (fun _ hf => ?_)
    · refine g_iinc (fun v3_1 => [some (vR 4 0), none, some (vI v2), some (vI v3_1), some (vI v4)]) dX3_howManyReached_86 ic_1 rfl rfl (fun _ => rfl) (Nat.le_of_ble_eq_true rfl) hf (fun v3_1 hf => ?_)
      refine r_goto (tgt := 18) dX3_howManyReached_89 rfl ?_
      refine r_mask (bs := [true, false, true, true, false]) ?_
      exact hk18 _ _ _ hf
    · refine r_aload_n dX3_howManyReached_43 rfl rfl ?_
      refine r_aload_n dX3_howManyReached_44 rfl rfl ?_
      refine g_getA dX3_howManyReached_45 fl_RX3_30 fk_3_6 rfl (cl_false_4) ?_
      refine r_iload_n dX3_howManyReached_48 rfl rfl ?_
      obtain ⟨x_3, w_2, hc, hf⟩ := cl_some hf
      refine g_cN (st := [vR 4 0]) KX5_at [vR 4 7, vI v3] dX3_howManyReached_49 e_RX3_104 mok_X5_at mw_X5_at ⟨Nat.le_of_ble_eq_true rfl, Nat.le_of_ble_eq_true rfl⟩ (met_X5_at (am_iaW aK_false_4_7) hc) rfl (Nat.le_of_ble_eq_true rfl) ?_
      clear hc
      refine r_aload_n dX3_howManyReached_52 rfl rfl ?_
      refine g_getA dX3_howManyReached_53 fl_RX3_30 fk_3_6 rfl (cl_false_4) ?_
      refine r_iload dX3_howManyReached_56 rfl ?_
      obtain ⟨x_5, w_4, hc, hf⟩ := cl_some hf
      refine g_cN (st := [vI x_3, vR 4 0]) KX5_at [vR 4 7, vI v4] dX3_howManyReached_58 e_RX3_104 mok_X5_at mw_X5_at ⟨Nat.le_of_ble_eq_true rfl, Nat.le_of_ble_eq_true rfl⟩ (met_X5_at (am_iaW aK_false_4_7) hc) rfl (Nat.le_of_ble_eq_true rfl) ?_
      clear hc
      obtain ⟨x_7, w_6, hc, hf⟩ := cl_some hf
      refine g_cV (st := []) KX3_maySee [vI x_3, vI x_5] dX3_howManyReached_61 e_RX3_128 (cl_false_4) (rfl : vwCl[3]? = _) rfl mok_X3_maySee mw_X3_maySee ⟨Nat.le_of_ble_eq_true rfl, Nat.le_of_ble_eq_true rfl⟩ (met_X3_maySee hc) rfl (Nat.le_of_ble_eq_true rfl) ?_
      clear hc
      refine g_if_ne (tgt := 70) dX3_howManyReached_64 rfl hf (fun _ hf => ?_) (fun _ hf => ?_)
      · refine r_aload_n dX3_howManyReached_70 rfl rfl ?_
        refine r_iload_n dX3_howManyReached_71 rfl rfl ?_
        refine r_iload dX3_howManyReached_72 rfl ?_
        obtain ⟨x_9, w_8, hc, hf⟩ := cl_some hf
        refine g_cVv (st := []) KX3_swapStays [vI v2, vI v4] dX3_howManyReached_74 e_RX3_154 (cl_false_4) (rfl : vwCl[3]? = _) rfl mok_X3_swapStays mw_X3_swapStays ⟨Nat.le_of_ble_eq_true rfl, Nat.le_of_ble_eq_true rfl⟩ (met_X3_swapStays hc) rfl (Nat.le_of_ble_eq_true rfl) ?_
        clear hc
        refine g_iinc (fun v2_10 => [some (vR 4 0), none, some (vI v2_10), some (vI v3), some (vI v4)]) dX3_howManyReached_77 ic_1 rfl rfl (fun _ => rfl) (Nat.le_of_ble_eq_true rfl) hf (fun v2_10 hf => ?_)
        exact ok_mX3_howManyReached_80 hk18 (fun v2 v4 w hf => ih v2 v4 w hf) hf
      · refine r_goto (tgt := 80) dX3_howManyReached_67 rfl ?_
        exact ok_mX3_howManyReached_80 hk18 (fun v2 v4 w hf => ih v2 v4 w hf) hf
set_option maxRecDepth 100000 in
set_option maxHeartbeats 4000000 in
theorem ok_mX3_howManyReached_18 {zv : Int32} {zw : AW} : ∀ (n : Nat) (v2 : Int32) (v3 : Int32) (w : AW), mX3_howManyReached_18 n v2 v3 w = some (zv, zw) → RR false KX3_howManyReached (some (vI zv), zw) 18 [some (vR 4 0), none, some (vI v2), some (vI v3), none] [] w := by
  intro n
  induction n with
  | zero => intro v2 v3 w hf; cases hf
  | succ n ih =>
    intro v2 v3 w hf
    refine r_iload_n dX3_howManyReached_18 rfl rfl ?_
    refine r_iload_n dX3_howManyReached_19 rfl rfl ?_
    refine g_icmp_ge (tgt := 92) dX3_howManyReached_20 rfl hf (fun _ hf => ?_) (fun _ hf => ?_)
    · refine r_iload_n dX3_howManyReached_92 rfl rfl ?_
      exact r_iret dX3_howManyReached_93 rfl (ret_I hf)
    · refine r_iload_n dX3_howManyReached_23 rfl rfl ?_
      refine r_aload_n dX3_howManyReached_24 rfl rfl ?_
      refine g_getI dX3_howManyReached_25 fl_RX3_52 fk_3_13 (cl_false_4) ?_
      refine g_icmp_ge (tgt := 92) dX3_howManyReached_28 rfl hf (fun _ hf => ?_) (fun _ hf => ?_)
      · refine r_iload_n dX3_howManyReached_92 rfl rfl ?_
        exact r_iret dX3_howManyReached_93 rfl (ret_I hf)
      · refine r_iload_n dX3_howManyReached_31 rfl rfl ?_
        refine r_istore (ls2 := [some (vR 4 0), none, some (vI v2), some (vI v3), some (vI v2)]) dX3_howManyReached_32 rfl rfl (Nat.le_of_ble_eq_true rfl) ?_
        exact ok_mX3_howManyReached_34 (fun v2 v3 w hf => ih v2 v3 w hf) FU _ _ _ hf
set_option maxRecDepth 100000 in
set_option maxHeartbeats 4000000 in
theorem ok_mX3_howManyReached {zv : Int32} {zw : AW} {v1 : Int32} {w : AW} (hf : mX3_howManyReached v1 w = some (zv, zw)) : RR false KX3_howManyReached (some (vI zv), zw) 0 [some (vR 4 0), some (vI v1), none, none, none] [] w := by
  refine r_iload_n dX3_howManyReached_0 rfl rfl ?_
  refine r_bipush dX3_howManyReached_1 (bp_m9) ?_
  refine g_icmp_ne (tgt := 8) dX3_howManyReached_3 rfl hf (fun _ hf => ?_) (fun _ hf => ?_)
  · refine r_aload_n dX3_howManyReached_8 rfl rfl ?_
    refine r_iconst dX3_howManyReached_9 ic_0 ?_
    refine r_iload_n dX3_howManyReached_10 rfl rfl ?_
    obtain ⟨x_2, w_1, hc, hf⟩ := cl_some hf
    refine g_cVv (st := []) KX3_swapStays [vI 0, vI v1] dX3_howManyReached_11 e_RX3_154 (cl_false_4) (rfl : vwCl[3]? = _) rfl mok_X3_swapStays mw_X3_swapStays ⟨Nat.le_of_ble_eq_true rfl, Nat.le_of_ble_eq_true rfl⟩ (met_X3_swapStays hc) rfl (Nat.le_of_ble_eq_true rfl) ?_
    clear hc
    refine r_iconst dX3_howManyReached_14 ic_1 ?_
    refine r_istore_n (ls2 := [some (vR 4 0), some (vI v1), some (vI 1), none, none]) dX3_howManyReached_15 rfl rfl rfl (Nat.le_of_ble_eq_true rfl) ?_
    refine r_iconst dX3_howManyReached_16 ic_0 ?_
    refine r_istore_n (ls2 := [some (vR 4 0), some (vI v1), some (vI 1), some (vI 0), none]) dX3_howManyReached_17 rfl rfl rfl (Nat.le_of_ble_eq_true rfl) ?_
    refine r_mask (bs := [true, false, true, true, false]) ?_
    exact ok_mX3_howManyReached_18 FU _ _ _ hf
  · refine r_iconst dX3_howManyReached_6 ic_0 ?_
    exact r_iret dX3_howManyReached_7 rfl (ret_I hf)
theorem met_X3_howManyReached {zv : Int32} {zw : AW} {v1 : Int32} {w : AW} (hf : mX3_howManyReached v1 w = some (zv, zw)) : am_Met false KX3_howManyReached [vR 4 0, vI v1] w (some (vI zv), zw) := am_met mok_X3_howManyReached.1 (Nat.le_of_ble_eq_true rfl) (ok_mX3_howManyReached  hf)

/-! SeenWorlds$Types.howManyFit()I -/
noncomputable def mX3_howManyFit_26 (k4 : Int32 → Int32 → AW → Option (Int32 × AW)) (v1 : Int32) (v2 : Int32) (w : AW) : Option (Int32 × AW) :=
  nm (v2 + 1) fun v2_1 =>
  k4 v1 v2_1 w
noncomputable def mX3_howManyFit_4 : Nat → Int32 → Int32 → AW → Option (Int32 × AW)
  | 0, _, _, _ => none
  | n + 1, v1, v2, w =>
    if (w.1 4 0 8) ≤ v2 then
      some (v1, w)
    else
      cl (mX5_at 4 6 v2 w) fun x_2 w_1 =>
      if x_2 = 0 then
        mX3_howManyFit_26 (mX3_howManyFit_4 n) v1 v2 w_1
      else
        nm (v1 + 1) fun v1_3 =>
        mX3_howManyFit_26 (mX3_howManyFit_4 n) v1_3 v2 w_1
noncomputable def mX3_howManyFit (w : AW) : Option (Int32 × AW) :=
  mX3_howManyFit_4 FU 0 0 w
set_option maxRecDepth 100000 in
set_option maxHeartbeats 4000000 in
theorem ok_mX3_howManyFit_26 {zv : Int32} {zw : AW} {k4 : Int32 → Int32 → AW → Option (Int32 × AW)} {v1 : Int32} {v2 : Int32} (hk4 : ∀ (v1 : Int32) (v2 : Int32)  w, k4 v1 v2 w = some (zv, zw) → RR false KX3_howManyFit (some (vI zv), zw) 4 [some (vR 4 0), some (vI v1), some (vI v2)] [] w) {w : AW} (hf : mX3_howManyFit_26 k4 v1 v2 w = some (zv, zw)) : RR false KX3_howManyFit (some (vI zv), zw) 26 [some (vR 4 0), some (vI v1), some (vI v2)] [] w := by
  refine g_iinc (fun v2_1 => [some (vR 4 0), some (vI v1), some (vI v2_1)]) dX3_howManyFit_26 ic_1 rfl rfl (fun _ => rfl) (Nat.le_of_ble_eq_true rfl) hf (fun v2_1 hf => ?_)
  refine r_goto (tgt := 4) dX3_howManyFit_29 rfl ?_
  exact hk4 _ _ _ hf
set_option maxRecDepth 100000 in
set_option maxHeartbeats 4000000 in
theorem ok_mX3_howManyFit_4 {zv : Int32} {zw : AW} : ∀ (n : Nat) (v1 : Int32) (v2 : Int32) (w : AW), mX3_howManyFit_4 n v1 v2 w = some (zv, zw) → RR false KX3_howManyFit (some (vI zv), zw) 4 [some (vR 4 0), some (vI v1), some (vI v2)] [] w := by
  intro n
  induction n with
  | zero => intro v1 v2 w hf; cases hf
  | succ n ih =>
    intro v1 v2 w hf
    refine r_iload_n dX3_howManyFit_4 rfl rfl ?_
    refine r_aload_n dX3_howManyFit_5 rfl rfl ?_
    refine g_getI dX3_howManyFit_6 fl_RX3_37 fk_3_8 (cl_false_4) ?_
    refine g_icmp_ge (tgt := 32) dX3_howManyFit_9 rfl hf (fun _ hf => ?_) (fun _ hf => ?_)
    · refine r_iload_n dX3_howManyFit_32 rfl rfl ?_
      exact r_iret dX3_howManyFit_33 rfl (ret_I hf)
    · refine r_aload_n dX3_howManyFit_12 rfl rfl ?_
      refine g_getA dX3_howManyFit_13 fl_RX3_27 fk_3_5 rfl (cl_false_4) ?_
      refine r_iload_n dX3_howManyFit_16 rfl rfl ?_
      obtain ⟨x_2, w_1, hc, hf⟩ := cl_some hf
      refine g_cN (st := []) KX5_at [vR 4 6, vI v2] dX3_howManyFit_17 e_RX3_104 mok_X5_at mw_X5_at ⟨Nat.le_of_ble_eq_true rfl, Nat.le_of_ble_eq_true rfl⟩ (met_X5_at (am_iaW aK_false_4_6) hc) rfl (Nat.le_of_ble_eq_true rfl) ?_
      clear hc
      refine g_if_eq (tgt := 26) dX3_howManyFit_20 rfl hf (fun _ hf => ?_) (fun _ hf => ?_)
      · exact ok_mX3_howManyFit_26 (fun v1 v2 w hf => ih v1 v2 w hf) hf
      · refine g_iinc (fun v1_3 => [some (vR 4 0), some (vI v1_3), some (vI v2)]) dX3_howManyFit_23 ic_1 rfl rfl (fun _ => rfl) (Nat.le_of_ble_eq_true rfl) hf (fun v1_3 hf => ?_)
        exact ok_mX3_howManyFit_26 (fun v1 v2 w hf => ih v1 v2 w hf) hf
set_option maxRecDepth 100000 in
set_option maxHeartbeats 4000000 in
theorem ok_mX3_howManyFit {zv : Int32} {zw : AW} {w : AW} (hf : mX3_howManyFit w = some (zv, zw)) : RR false KX3_howManyFit (some (vI zv), zw) 0 [some (vR 4 0), none, none] [] w := by
  refine r_iconst dX3_howManyFit_0 ic_0 ?_
  refine r_istore_n (ls2 := [some (vR 4 0), some (vI 0), none]) dX3_howManyFit_1 rfl rfl rfl (Nat.le_of_ble_eq_true rfl) ?_
  refine r_iconst dX3_howManyFit_2 ic_0 ?_
  refine r_istore_n (ls2 := [some (vR 4 0), some (vI 0), some (vI 0)]) dX3_howManyFit_3 rfl rfl rfl (Nat.le_of_ble_eq_true rfl) ?_
  exact ok_mX3_howManyFit_4 FU _ _ _ hf
theorem met_X3_howManyFit {zv : Int32} {zw : AW} {w : AW} (hf : mX3_howManyFit w = some (zv, zw)) : am_Met false KX3_howManyFit [vR 4 0] w (some (vI zv), zw) := am_met mok_X3_howManyFit.1 (Nat.le_of_ble_eq_true rfl) (ok_mX3_howManyFit  hf)

/-! SeenWorlds$Types.answer(I)I -/
noncomputable def mX3_answer_55 (s0 : Int32) (w : AW) : Option (Int32 × AW) :=
  cl (mX5_whether s0 w) fun x_2 w_1 =>
  some (x_2, w_1)
noncomputable def mX3_answer_74 (s0 : Int32) (w : AW) : Option (Int32 × AW) :=
  cl (mX5_whether s0 w) fun x_2 w_1 =>
  some (x_2, w_1)
noncomputable def mX3_answer (v1 : Int32) (w : AW) : Option (Int32 × AW) :=
  if v1 = 0 then
    cl (mX3_placeWhere 1 w) fun x_2 w_1 =>
    if x_2 = (-9) then
      mX3_answer_55 0 w_1
    else
      mX3_answer_55 1 w_1
  else if v1 = 1 then
    cl (mX3_placeWhere 0 w) fun x_4 w_3 =>
    if x_4 ≠ (-9) then
      mX3_answer_74 0 w_3
    else
      mX3_answer_74 1 w_3
  else if v1 = 2 then
    cl (mX3_placeWhere 1 w) fun x_6 w_5 =>
    if x_6 ≠ (-9) then
      cl (mX3_placeWhere 1 w_5) fun x_8 w_7 =>
      cl (mX5_at 4 7 x_8 w_7) fun x_10 w_9 =>
      some (x_10, w_9)
    else
      some ((-9), w_5)
  else if v1 = 3 then
    cl (mX3_placeWhere 1 w) fun x_12 w_11 =>
    cl (mX3_howManyReached x_12 w_11) fun x_14 w_13 =>
    some (x_14, w_13)
  else if v1 = 4 then
    cl (mX3_howManyFit w) fun x_16 w_15 =>
    some (x_16, w_15)
  else if v1 = 5 then
    some (w.1 4 0 13, w)
  else 
    some (w.1 4 0 12, w)
set_option maxRecDepth 100000 in
set_option maxHeartbeats 4000000 in
theorem ok_mX3_answer_55 {zv : Int32} {zw : AW} {s0 : Int32} {w : AW} (hf : mX3_answer_55 s0 w = some (zv, zw)) : RR false KX3_answer (some (vI zv), zw) 55 [none, none] [vI s0] w := by
  obtain ⟨x_2, w_1, hc, hf⟩ := cl_some hf
  refine g_cN (st := []) KX5_whether [vI s0] dX3_answer_55 e_RX3_144 mok_X5_whether mw_X5_whether ⟨Nat.le_of_ble_eq_true rfl, Nat.le_of_ble_eq_true rfl⟩ (met_X5_whether hc) rfl (Nat.le_of_ble_eq_true rfl) ?_
  clear hc
  exact r_iret dX3_answer_58 rfl (ret_I hf)
set_option maxRecDepth 100000 in
set_option maxHeartbeats 4000000 in
theorem ok_mX3_answer_74 {zv : Int32} {zw : AW} {s0 : Int32} {w : AW} (hf : mX3_answer_74 s0 w = some (zv, zw)) : RR false KX3_answer (some (vI zv), zw) 74 [none, none] [vI s0] w := by
  obtain ⟨x_2, w_1, hc, hf⟩ := cl_some hf
  refine g_cN (st := []) KX5_whether [vI s0] dX3_answer_74 e_RX3_144 mok_X5_whether mw_X5_whether ⟨Nat.le_of_ble_eq_true rfl, Nat.le_of_ble_eq_true rfl⟩ (met_X5_whether hc) rfl (Nat.le_of_ble_eq_true rfl) ?_
  clear hc
  exact r_iret dX3_answer_77 rfl (ret_I hf)
set_option maxRecDepth 100000 in
set_option maxHeartbeats 4000000 in
theorem ok_mX3_answer {zv : Int32} {zw : AW} {v1 : Int32} {w : AW} (hf : mX3_answer v1 w = some (zv, zw)) : RR false KX3_answer (some (vI zv), zw) 0 [some (vR 4 0), some (vI v1)] [] w := by
  refine r_iload_n dX3_answer_0 rfl rfl ?_
  rcases Classical.em (v1 = 0) with c0 | c0
  · replace hf := br_pos c0 hf
    refine g_tabC (off := 39) (tgt := 40) c0 dX3_answer_1 (by decide) rfl ?_
    refine r_aload_n dX3_answer_40 rfl rfl ?_
    refine r_iconst dX3_answer_41 ic_1 ?_
    obtain ⟨x_2, w_1, hc, hf⟩ := cl_some hf
    refine g_cV (st := []) KX3_placeWhere [vI 1] dX3_answer_42 e_RX3_141 (cl_false_4) (rfl : vwCl[3]? = _) rfl mok_X3_placeWhere mw_X3_placeWhere ⟨Nat.le_of_ble_eq_true rfl, Nat.le_of_ble_eq_true rfl⟩ (met_X3_placeWhere hc) rfl (Nat.le_of_ble_eq_true rfl) ?_
    clear hc
    refine r_bipush dX3_answer_45 (bp_m9) ?_
    refine g_icmp_eq (tgt := 54) dX3_answer_47 rfl hf (fun _ hf => ?_) (fun _ hf => ?_)
    · refine r_iconst dX3_answer_54 ic_0 ?_
      refine r_mask (bs := [false, false]) ?_
      exact ok_mX3_answer_55 hf
    · refine r_iconst dX3_answer_50 ic_1 ?_
      refine r_goto (tgt := 55) dX3_answer_51 rfl ?_
      refine r_mask (bs := [false, false]) ?_
      exact ok_mX3_answer_55 hf
  replace hf := br_neg c0 hf
  rcases Classical.em (v1 = 1) with c1 | c1
  · replace hf := br_pos c1 hf
    refine g_tabC (off := 58) (tgt := 59) c1 dX3_answer_1 (by decide) rfl ?_
    refine r_aload_n dX3_answer_59 rfl rfl ?_
    refine r_iconst dX3_answer_60 ic_0 ?_
    obtain ⟨x_4, w_3, hc, hf⟩ := cl_some hf
    refine g_cV (st := []) KX3_placeWhere [vI 0] dX3_answer_61 e_RX3_141 (cl_false_4) (rfl : vwCl[3]? = _) rfl mok_X3_placeWhere mw_X3_placeWhere ⟨Nat.le_of_ble_eq_true rfl, Nat.le_of_ble_eq_true rfl⟩ (met_X3_placeWhere hc) rfl (Nat.le_of_ble_eq_true rfl) ?_
    clear hc
    refine r_bipush dX3_answer_64 (bp_m9) ?_
    refine g_icmp_ne (tgt := 73) dX3_answer_66 rfl hf (fun _ hf => ?_) (fun _ hf => ?_)
    · refine r_iconst dX3_answer_73 ic_0 ?_
      refine r_mask (bs := [false, false]) ?_
      exact ok_mX3_answer_74 hf
    · refine r_iconst dX3_answer_69 ic_1 ?_
      refine r_goto (tgt := 74) dX3_answer_70 rfl ?_
      refine r_mask (bs := [false, false]) ?_
      exact ok_mX3_answer_74 hf
  replace hf := br_neg c1 hf
  rcases Classical.em (v1 = 2) with c2 | c2
  · replace hf := br_pos c2 hf
    refine g_tabC (off := 77) (tgt := 78) c2 dX3_answer_1 (by decide) rfl ?_
    refine r_aload_n dX3_answer_78 rfl rfl ?_
    refine r_iconst dX3_answer_79 ic_1 ?_
    obtain ⟨x_6, w_5, hc, hf⟩ := cl_some hf
    refine g_cV (st := []) KX3_placeWhere [vI 1] dX3_answer_80 e_RX3_141 (cl_false_4) (rfl : vwCl[3]? = _) rfl mok_X3_placeWhere mw_X3_placeWhere ⟨Nat.le_of_ble_eq_true rfl, Nat.le_of_ble_eq_true rfl⟩ (met_X3_placeWhere hc) rfl (Nat.le_of_ble_eq_true rfl) ?_
    clear hc
    refine r_bipush dX3_answer_83 (bp_m9) ?_
    refine g_icmp_ne (tgt := 93) dX3_answer_85 rfl hf (fun _ hf => ?_) (fun _ hf => ?_)
    · refine r_aload_n dX3_answer_93 rfl rfl ?_
      refine g_getA dX3_answer_94 fl_RX3_30 fk_3_6 rfl (cl_false_4) ?_
      refine r_aload_n dX3_answer_97 rfl rfl ?_
      refine r_iconst dX3_answer_98 ic_1 ?_
      obtain ⟨x_8, w_7, hc, hf⟩ := cl_some hf
      refine g_cV (st := [vR 4 7]) KX3_placeWhere [vI 1] dX3_answer_99 e_RX3_141 (cl_false_4) (rfl : vwCl[3]? = _) rfl mok_X3_placeWhere mw_X3_placeWhere ⟨Nat.le_of_ble_eq_true rfl, Nat.le_of_ble_eq_true rfl⟩ (met_X3_placeWhere hc) rfl (Nat.le_of_ble_eq_true rfl) ?_
      clear hc
      obtain ⟨x_10, w_9, hc, hf⟩ := cl_some hf
      refine g_cN (st := []) KX5_at [vR 4 7, vI x_8] dX3_answer_102 e_RX3_104 mok_X5_at mw_X5_at ⟨Nat.le_of_ble_eq_true rfl, Nat.le_of_ble_eq_true rfl⟩ (met_X5_at (am_iaW aK_false_4_7) hc) rfl (Nat.le_of_ble_eq_true rfl) ?_
      clear hc
      exact r_iret dX3_answer_105 rfl (ret_I hf)
    · refine r_bipush dX3_answer_88 (bp_m9) ?_
      refine r_goto (tgt := 105) dX3_answer_90 rfl ?_
      exact r_iret dX3_answer_105 rfl (ret_I hf)
  replace hf := br_neg c2 hf
  rcases Classical.em (v1 = 3) with c3 | c3
  · replace hf := br_pos c3 hf
    refine g_tabC (off := 105) (tgt := 106) c3 dX3_answer_1 (by decide) rfl ?_
    refine r_aload_n dX3_answer_106 rfl rfl ?_
    refine r_aload_n dX3_answer_107 rfl rfl ?_
    refine r_iconst dX3_answer_108 ic_1 ?_
    obtain ⟨x_12, w_11, hc, hf⟩ := cl_some hf
    refine g_cV (st := [vR 4 0]) KX3_placeWhere [vI 1] dX3_answer_109 e_RX3_141 (cl_false_4) (rfl : vwCl[3]? = _) rfl mok_X3_placeWhere mw_X3_placeWhere ⟨Nat.le_of_ble_eq_true rfl, Nat.le_of_ble_eq_true rfl⟩ (met_X3_placeWhere hc) rfl (Nat.le_of_ble_eq_true rfl) ?_
    clear hc
    obtain ⟨x_14, w_13, hc, hf⟩ := cl_some hf
    refine g_cV (st := []) KX3_howManyReached [vI x_12] dX3_answer_112 e_RX3_148 (cl_false_4) (rfl : vwCl[3]? = _) rfl mok_X3_howManyReached mw_X3_howManyReached ⟨Nat.le_of_ble_eq_true rfl, Nat.le_of_ble_eq_true rfl⟩ (met_X3_howManyReached hc) rfl (Nat.le_of_ble_eq_true rfl) ?_
    clear hc
    exact r_iret dX3_answer_115 rfl (ret_I hf)
  replace hf := br_neg c3 hf
  rcases Classical.em (v1 = 4) with c4 | c4
  · replace hf := br_pos c4 hf
    refine g_tabC (off := 115) (tgt := 116) c4 dX3_answer_1 (by decide) rfl ?_
    refine r_aload_n dX3_answer_116 rfl rfl ?_
    obtain ⟨x_16, w_15, hc, hf⟩ := cl_some hf
    refine g_cV (st := []) KX3_howManyFit [] dX3_answer_117 e_RX3_151 (cl_false_4) (rfl : vwCl[3]? = _) rfl mok_X3_howManyFit mw_X3_howManyFit ⟨Nat.le_of_ble_eq_true rfl, Nat.le_of_ble_eq_true rfl⟩ (met_X3_howManyFit hc) rfl (Nat.le_of_ble_eq_true rfl) ?_
    clear hc
    exact r_iret dX3_answer_120 rfl (ret_I hf)
  replace hf := br_neg c4 hf
  rcases Classical.em (v1 = 5) with c5 | c5
  · replace hf := br_pos c5 hf
    refine g_tabC (off := 120) (tgt := 121) c5 dX3_answer_1 (by decide) rfl ?_
    refine r_aload_n dX3_answer_121 rfl rfl ?_
    refine g_getI dX3_answer_122 fl_RX3_52 fk_3_13 (cl_false_4) ?_
    exact r_iret dX3_answer_125 rfl (ret_I hf)
  replace hf := br_neg c5 hf
  refine g_tabD (tgt := 126) 6 (by decide) (fun j hj => by
    rcases (show j = 0 ∨ j = 1 ∨ j = 2 ∨ j = 3 ∨ j = 4 ∨ j = 5 by omega) with rfl | rfl | rfl | rfl | rfl | rfl
    · exact am_neI c0 (by decide)
    · exact am_neI c1 (by decide)
    · exact am_neI c2 (by decide)
    · exact am_neI c3 (by decide)
    · exact am_neI c4 (by decide)
    · exact am_neI c5 (by decide)) dX3_answer_1 rfl ?_
  refine r_aload_n dX3_answer_126 rfl rfl ?_
  refine g_getI dX3_answer_127 fl_RX3_49 fk_3_12 (cl_false_4) ?_
  exact r_iret dX3_answer_130 rfl (ret_I hf)
theorem met_X3_answer {zv : Int32} {zw : AW} {v1 : Int32} {w : AW} (hf : mX3_answer v1 w = some (zv, zw)) : am_Met false KX3_answer [vR 4 0, vI v1] w (some (vI zv), zw) := am_met mok_X3_answer.1 (Nat.le_of_ble_eq_true rfl) (ok_mX3_answer  hf)

/-! SeenWorlds$View.look(LSeenWorlds$Net;I)V -/
noncomputable def mX4_look_10 (v2 : Int32) : Nat → Int32 → AW → Option (Unit × AW)
  | 0, _, _ => none
  | n + 1, v3, w =>
    if (w.1 2 0 4) ≤ v3 then
      some ((), w)
    else
      cl (mX0_seenBy v2 v3 w) fun x_2 w_1 =>
      cl (mX5_put 2 1 v3 x_2 w_1) fun x_4 w_3 =>
      nm (v3 + 1) fun v3_5 =>
      mX4_look_10 v2 n v3_5 w_3
noncomputable def mX4_look (v2 : Int32) (w : AW) : Option (Unit × AW) :=
  cl (mX0_size w) fun x_2 w_1 =>
  pu w_1 2 4 x_2 fun w_3 =>
  mX4_look_10 v2 FU 0 w_3
set_option maxRecDepth 100000 in
set_option maxHeartbeats 4000000 in
theorem ok_mX4_look_10 {zv : Unit} {zw : AW} {v2 : Int32} : ∀ (n : Nat) (v3 : Int32) (w : AW), mX4_look_10 v2 n v3 w = some (zv, zw) → RR false KX4_look (none, zw) 10 [some (vR 2 0), some (vR 1 0), some (vI v2), some (vI v3)] [] w := by
  intro n
  induction n with
  | zero => intro v3 w hf; cases hf
  | succ n ih =>
    intro v3 w hf
    refine r_iload_n dX4_look_10 rfl rfl ?_
    refine r_aload_n dX4_look_11 rfl rfl ?_
    refine g_getI dX4_look_12 fl_RX4_24 fk_4_4 (cl_false_2) ?_
    refine g_icmp_ge (tgt := 38) dX4_look_15 rfl hf (fun _ hf => ?_) (fun _ hf => ?_)
    · exact r_vret dX4_look_38 rfl (ret_U hf)
    · refine r_aload_n dX4_look_18 rfl rfl ?_
      refine g_getA dX4_look_19 fl_RX4_9 fk_4_0 rfl (cl_false_2) ?_
      refine r_iload_n dX4_look_22 rfl rfl ?_
      refine r_aload_n dX4_look_23 rfl rfl ?_
      refine r_iload_n dX4_look_24 rfl rfl ?_
      refine r_iload_n dX4_look_25 rfl rfl ?_
      obtain ⟨x_2, w_1, hc, hf⟩ := cl_some hf
      refine g_cV (st := [vI v3, vR 2 1]) KX0_seenBy [vI v2, vI v3] dX4_look_26 e_RX4_33 (cl_false_1) (rfl : vwCl[0]? = _) rfl mok_X0_seenBy mw_X0_seenBy ⟨Nat.le_of_ble_eq_true rfl, Nat.le_of_ble_eq_true rfl⟩ (met_X0_seenBy hc) rfl (Nat.le_of_ble_eq_true rfl) ?_
      clear hc
      obtain ⟨x_4, w_3, hc, hf⟩ := cl_some hf
      refine g_cNv (st := []) KX5_put [vR 2 1, vI v3, vI x_2] dX4_look_29 e_RX4_37 mok_X5_put mw_X5_put ⟨Nat.le_of_ble_eq_true rfl, Nat.le_of_ble_eq_true rfl⟩ (met_X5_put aK_false_2_1 hc) rfl (Nat.le_of_ble_eq_true rfl) ?_
      clear hc
      refine g_iinc (fun v3_5 => [some (vR 2 0), some (vR 1 0), some (vI v2), some (vI v3_5)]) dX4_look_32 ic_1 rfl rfl (fun _ => rfl) (Nat.le_of_ble_eq_true rfl) hf (fun v3_5 hf => ?_)
      refine r_goto (tgt := 10) dX4_look_35 rfl ?_
      exact ih _ _ hf
set_option maxRecDepth 100000 in
set_option maxHeartbeats 4000000 in
theorem ok_mX4_look {zv : Unit} {zw : AW} {v2 : Int32} {w : AW} (hf : mX4_look v2 w = some (zv, zw)) : RR false KX4_look (none, zw) 0 [some (vR 2 0), some (vR 1 0), some (vI v2), none] [] w := by
  refine r_aload_n dX4_look_0 rfl rfl ?_
  refine r_aload_n dX4_look_1 rfl rfl ?_
  obtain ⟨x_2, w_1, hc, hf⟩ := cl_some hf
  refine g_cV (st := [vR 2 0]) KX0_size [] dX4_look_2 e_RX4_28 (cl_false_1) (rfl : vwCl[0]? = _) rfl mok_X0_size mw_X0_size ⟨Nat.le_of_ble_eq_true rfl, Nat.le_of_ble_eq_true rfl⟩ (met_X0_size hc) rfl (Nat.le_of_ble_eq_true rfl) ?_
  clear hc
  refine g_putI dX4_look_5 fl_RX4_24 fk_4_4 (cl_false_2) hf (fun w_3 hf => ?_)
  refine r_iconst dX4_look_8 ic_0 ?_
  refine r_istore_n (ls2 := [some (vR 2 0), some (vR 1 0), some (vI v2), some (vI 0)]) dX4_look_9 rfl rfl rfl (Nat.le_of_ble_eq_true rfl) ?_
  exact ok_mX4_look_10 FU _ _ hf
theorem met_X4_look {zv : Unit} {zw : AW} {v2 : Int32} {w : AW} (hf : mX4_look v2 w = some (zv, zw)) : am_Met false KX4_look [vR 2 0, vR 1 0, vI v2] w (none, zw) := am_met mok_X4_look.1 (Nat.le_of_ble_eq_true rfl) (ok_mX4_look  hf)

/-! SeenWorlds$View.must(I)I -/
noncomputable def mX4_must_33 (k4 : Int32 → Int32 → AW → Option (Int32 × AW)) (v1 : Int32) (v2 : Int32) (v3 : Int32) (w : AW) : Option (Int32 × AW) :=
  nm (v3 + 1) fun v3_1 =>
  k4 v2 v3_1 w
noncomputable def mX4_must_4 (v1 : Int32) : Nat → Int32 → Int32 → AW → Option (Int32 × AW)
  | 0, _, _, _ => none
  | n + 1, v2, v3, w =>
    if (w.1 2 0 4) ≤ v3 then
      some (v2, w)
    else
      cl (mX5_at 2 1 v3 w) fun x_2 w_1 =>
      cl (mX5_within x_2 v1 w_1) fun x_4 w_3 =>
      if x_4 = 0 then
        mX4_must_33 (mX4_must_4 v1 n) v1 v2 v3 w_3
      else
        nm (v2 ||| (1 <<< (v3 &&& 31))) fun v2_5 =>
        mX4_must_33 (mX4_must_4 v1 n) v1 v2_5 v3 w_3
noncomputable def mX4_must (v1 : Int32) (w : AW) : Option (Int32 × AW) :=
  mX4_must_4 v1 FU 0 0 w
set_option maxRecDepth 100000 in
set_option maxHeartbeats 4000000 in
theorem ok_mX4_must_33 {zv : Int32} {zw : AW} {k4 : Int32 → Int32 → AW → Option (Int32 × AW)} {v1 : Int32} {v2 : Int32} {v3 : Int32} (hk4 : ∀ (v2 : Int32) (v3 : Int32)  w, k4 v2 v3 w = some (zv, zw) → RR false KX4_must (some (vI zv), zw) 4 [some (vR 2 0), some (vI v1), some (vI v2), some (vI v3)] [] w) {w : AW} (hf : mX4_must_33 k4 v1 v2 v3 w = some (zv, zw)) : RR false KX4_must (some (vI zv), zw) 33 [some (vR 2 0), some (vI v1), some (vI v2), some (vI v3)] [] w := by
  refine g_iinc (fun v3_1 => [some (vR 2 0), some (vI v1), some (vI v2), some (vI v3_1)]) dX4_must_33 ic_1 rfl rfl (fun _ => rfl) (Nat.le_of_ble_eq_true rfl) hf (fun v3_1 hf => ?_)
  refine r_goto (tgt := 4) dX4_must_36 rfl ?_
  exact hk4 _ _ _ hf
set_option maxRecDepth 100000 in
set_option maxHeartbeats 4000000 in
theorem ok_mX4_must_4 {zv : Int32} {zw : AW} {v1 : Int32} : ∀ (n : Nat) (v2 : Int32) (v3 : Int32) (w : AW), mX4_must_4 v1 n v2 v3 w = some (zv, zw) → RR false KX4_must (some (vI zv), zw) 4 [some (vR 2 0), some (vI v1), some (vI v2), some (vI v3)] [] w := by
  intro n
  induction n with
  | zero => intro v2 v3 w hf; cases hf
  | succ n ih =>
    intro v2 v3 w hf
    refine r_iload_n dX4_must_4 rfl rfl ?_
    refine r_aload_n dX4_must_5 rfl rfl ?_
    refine g_getI dX4_must_6 fl_RX4_24 fk_4_4 (cl_false_2) ?_
    refine g_icmp_ge (tgt := 39) dX4_must_9 rfl hf (fun _ hf => ?_) (fun _ hf => ?_)
    · refine r_iload_n dX4_must_39 rfl rfl ?_
      exact r_iret dX4_must_40 rfl (ret_I hf)
    · refine r_aload_n dX4_must_12 rfl rfl ?_
      refine g_getA dX4_must_13 fl_RX4_9 fk_4_0 rfl (cl_false_2) ?_
      refine r_iload_n dX4_must_16 rfl rfl ?_
      obtain ⟨x_2, w_1, hc, hf⟩ := cl_some hf
      refine g_cN (st := []) KX5_at [vR 2 1, vI v3] dX4_must_17 e_RX4_53 mok_X5_at mw_X5_at ⟨Nat.le_of_ble_eq_true rfl, Nat.le_of_ble_eq_true rfl⟩ (met_X5_at (am_iaW aK_false_2_1) hc) rfl (Nat.le_of_ble_eq_true rfl) ?_
      clear hc
      refine r_iload_n dX4_must_20 rfl rfl ?_
      obtain ⟨x_4, w_3, hc, hf⟩ := cl_some hf
      refine g_cN (st := []) KX5_within [vI x_2, vI v1] dX4_must_21 e_RX4_71 mok_X5_within mw_X5_within ⟨Nat.le_of_ble_eq_true rfl, Nat.le_of_ble_eq_true rfl⟩ (met_X5_within hc) rfl (Nat.le_of_ble_eq_true rfl) ?_
      clear hc
      refine g_if_eq (tgt := 33) dX4_must_24 rfl hf (fun _ hf => ?_) (fun _ hf => ?_)
      · exact ok_mX4_must_33 (fun v2 v3 w hf => ih v2 v3 w hf) hf
      · refine r_iload_n dX4_must_27 rfl rfl ?_
        refine r_iconst dX4_must_28 ic_1 ?_
        refine r_iload_n dX4_must_29 rfl rfl ?_
        refine r_ishl dX4_must_30 ?_
        refine r_ior dX4_must_31 ?_
        refine g_istore_n (fun v2_5 => [some (vR 2 0), some (vI v1), some (vI v2_5), some (vI v3)]) dX4_must_32 rfl rfl (fun _ => rfl) (Nat.le_of_ble_eq_true rfl) hf (fun v2_5 hf => ?_)
        exact ok_mX4_must_33 (fun v2 v3 w hf => ih v2 v3 w hf) hf
set_option maxRecDepth 100000 in
set_option maxHeartbeats 4000000 in
theorem ok_mX4_must {zv : Int32} {zw : AW} {v1 : Int32} {w : AW} (hf : mX4_must v1 w = some (zv, zw)) : RR false KX4_must (some (vI zv), zw) 0 [some (vR 2 0), some (vI v1), none, none] [] w := by
  refine r_iconst dX4_must_0 ic_0 ?_
  refine r_istore_n (ls2 := [some (vR 2 0), some (vI v1), some (vI 0), none]) dX4_must_1 rfl rfl rfl (Nat.le_of_ble_eq_true rfl) ?_
  refine r_iconst dX4_must_2 ic_0 ?_
  refine r_istore_n (ls2 := [some (vR 2 0), some (vI v1), some (vI 0), some (vI 0)]) dX4_must_3 rfl rfl rfl (Nat.le_of_ble_eq_true rfl) ?_
  exact ok_mX4_must_4 FU _ _ _ hf
theorem met_X4_must {zv : Int32} {zw : AW} {v1 : Int32} {w : AW} (hf : mX4_must v1 w = some (zv, zw)) : am_Met false KX4_must [vR 2 0, vI v1] w (some (vI zv), zw) := am_met mok_X4_must.1 (Nat.le_of_ble_eq_true rfl) (ok_mX4_must  hf)

/-! SeenWorlds$View.judge(LSeenWorlds$Sentence;[IZ)I -/
noncomputable def mX4_judge_156 (k13 : Int32 → AW → Option (Int32 × AW)) (o1 : Nat) (ro2 : Nat) (ra2 : Nat) (v3 : Int32) (v4 : Int32) (v5 : Int32) (v9 : Int32) (w : AW) : Option (Int32 × AW) :=
  cl (mX5_put 2 2 v5 v9 w) fun x_2 w_1 =>
  nm (v5 + 1) fun v5_3 =>
  k13 v5_3 w_1
noncomputable def mX4_judge_148 (k13 : Int32 → AW → Option (Int32 × AW)) (o1 : Nat) (ro2 : Nat) (ra2 : Nat) (v3 : Int32) (v4 : Int32) (v5 : Int32) (v9 : Int32) (w : AW) : Option (Int32 × AW) :=
  cl (mX4_must v9 w) fun x_2 w_1 =>
  mX4_judge_156 k13 o1 ro2 ra2 v3 v4 v5 x_2 w_1
noncomputable def mX4_judge_130 (k13 : Int32 → AW → Option (Int32 × AW)) (o1 : Nat) (ro2 : Nat) (ra2 : Nat) (v3 : Int32) (v4 : Int32) (v5 : Int32) (v6 : Int32) (v9 : Int32) (w : AW) : Option (Int32 × AW) :=
  if v3 = 0 then
    mX4_judge_156 k13 o1 ro2 ra2 v3 v4 v5 v9 w
  else
    if v6 = 62 then
      mX4_judge_148 k13 o1 ro2 ra2 v3 v4 v5 v9 w
    else
      if v6 ≠ 33 then
        mX4_judge_156 k13 o1 ro2 ra2 v3 v4 v5 v9 w
      else
        mX4_judge_148 k13 o1 ro2 ra2 v3 v4 v5 v9 w
noncomputable def mX4_judge_108 (k13 : Int32 → AW → Option (Int32 × AW)) (o1 : Nat) (ro2 : Nat) (ra2 : Nat) (v3 : Int32) (v4 : Int32) (v5 : Int32) (v6 : Int32) (v7 : Int32) (v9 : Int32) (w : AW) : Option (Int32 × AW) :=
  if v6 ≠ 123 then
    mX4_judge_130 k13 o1 ro2 ra2 v3 v4 v5 v6 v9 w
  else
    cl (mX4_must (v7 ^^^ (-1)) w) fun x_2 w_1 =>
    nm (v4 &&& (x_2 ^^^ (-1))) fun v9_3 =>
    mX4_judge_130 k13 o1 ro2 ra2 v3 v4 v5 v6 v9_3 w_1
noncomputable def mX4_judge_91 (k13 : Int32 → AW → Option (Int32 × AW)) (o1 : Nat) (ro2 : Nat) (ra2 : Nat) (v3 : Int32) (v4 : Int32) (v5 : Int32) (v6 : Int32) (v7 : Int32) (s0 : Int32) (w : AW) : Option (Int32 × AW) :=
  if v6 ≠ 91 then
    mX4_judge_108 k13 o1 ro2 ra2 v3 v4 v5 v6 v7 s0 w
  else
    cl (mX4_must v7 w) fun x_2 w_1 =>
    mX4_judge_108 k13 o1 ro2 ra2 v3 v4 v5 v6 v7 x_2 w_1
noncomputable def mX4_judge_13 (o1 : Nat) (ro2 : Nat) (ra2 : Nat) (v3 : Int32) (v4 : Int32) : Nat → Int32 → AW → Option (Int32 × AW)
  | 0, _, _ => none
  | n + 1, v5, w =>
    cl (mX2_parts o1 w) fun x_2 w_1 =>
    if x_2 ≤ v5 then
      cl (mX2_parts o1 w_1) fun x_4 w_3 =>
      cl (mX5_at 2 2 (x_4 - 1) w_3) fun x_6 w_5 =>
      some (x_6, w_5)
    else
      cl (mX2_sign o1 v5 w_1) fun x_8 w_7 =>
      cl (mX2_first o1 v5 w_7) fun x_10 w_9 =>
      cl (mX5_at 2 2 x_10 w_9) fun x_12 w_11 =>
      cl (mX2_second o1 v5 w_11) fun x_14 w_13 =>
      cl (mX5_at 2 2 x_14 w_13) fun x_16 w_15 =>
      cl (mX5_isAtom x_8 w_15) fun x_18 w_17 =>
      if x_18 = 0 then
        cl (mX5_joined x_8 x_12 x_16 v4 w_17) fun x_20 w_19 =>
        mX4_judge_91 (mX4_judge_13 o1 ro2 ra2 v3 v4 n) o1 ro2 ra2 v3 v4 v5 x_8 x_12 x_20 w_19
      else
        cl (mX5_at ro2 ra2 (x_8 - 112) w_17) fun x_22 w_21 =>
        mX4_judge_91 (mX4_judge_13 o1 ro2 ra2 v3 v4 n) o1 ro2 ra2 v3 v4 v5 x_8 x_12 x_22 w_21
noncomputable def mX4_judge (o1 : Nat) (ro2 ra2 : Nat) (v3 : Int32) (w : AW) : Option (Int32 × AW) :=
  nm ((1 <<< ((w.1 2 0 4) &&& 31)) - 1) fun v4_1 =>
  mX4_judge_13 o1 ro2 ra2 v3 v4_1 FU 0 w
set_option maxRecDepth 100000 in
set_option maxHeartbeats 4000000 in
theorem ok_mX4_judge_156 {zv : Int32} {zw : AW} {k13 : Int32 → AW → Option (Int32 × AW)} {o1 : Nat} {ro2 : Nat} {ra2 : Nat} {v3 : Int32} {v4 : Int32} {v5 : Int32} {v9 : Int32} (hk13 : ∀ (v5 : Int32)  w, k13 v5 w = some (zv, zw) → RR false KX4_judge (some (vI zv), zw) 13 [some (vR 2 0), some (vR o1 0), some (vR ro2 ra2), some (vI v3), some (vI v4), some (vI v5), none, none, none, none] [] w) (ho1 : am_cls false o1 = 2) (hr2 : am_ia false ro2 ra2) {w : AW} (hf : mX4_judge_156 k13 o1 ro2 ra2 v3 v4 v5 v9 w = some (zv, zw)) : RR false KX4_judge (some (vI zv), zw) 156 [some (vR 2 0), some (vR o1 0), some (vR ro2 ra2), some (vI v3), some (vI v4), some (vI v5), none, none, none, some (vI v9)] [] w := by
  refine r_aload_n dX4_judge_156 rfl rfl ?_
  refine g_getA dX4_judge_157 fl_RX4_15 fk_4_1 rfl (cl_false_2) ?_
  refine r_iload dX4_judge_160 rfl ?_
  refine r_iload dX4_judge_162 rfl ?_
  obtain ⟨x_2, w_1, hc, hf⟩ := cl_some hf
  refine g_cNv (st := []) KX5_put [vR 2 2, vI v5, vI v9] dX4_judge_164 e_RX4_37 mok_X5_put mw_X5_put ⟨Nat.le_of_ble_eq_true rfl, Nat.le_of_ble_eq_true rfl⟩ (met_X5_put aK_false_2_2 hc) rfl (Nat.le_of_ble_eq_true rfl) ?_
  clear hc
  refine g_iinc (fun v5_3 => [some (vR 2 0), some (vR o1 0), some (vR ro2 ra2), some (vI v3), some (vI v4), some (vI v5_3), none, none, none, some (vI v9)]) dX4_judge_167 ic_1 rfl rfl (fun _ => rfl) (Nat.le_of_ble_eq_true rfl) hf (fun v5_3 hf => ?_)
  refine r_goto (tgt := 13) dX4_judge_170 rfl ?_
  refine r_mask (bs := [true, true, true, true, true, true, false, false, false, false]) ?_
  exact hk13 _ _ hf
set_option maxRecDepth 100000 in
set_option maxHeartbeats 4000000 in
theorem ok_mX4_judge_148 {zv : Int32} {zw : AW} {k13 : Int32 → AW → Option (Int32 × AW)} {o1 : Nat} {ro2 : Nat} {ra2 : Nat} {v3 : Int32} {v4 : Int32} {v5 : Int32} {v9 : Int32} (hk13 : ∀ (v5 : Int32)  w, k13 v5 w = some (zv, zw) → RR false KX4_judge (some (vI zv), zw) 13 [some (vR 2 0), some (vR o1 0), some (vR ro2 ra2), some (vI v3), some (vI v4), some (vI v5), none, none, none, none] [] w) (ho1 : am_cls false o1 = 2) (hr2 : am_ia false ro2 ra2) {w : AW} (hf : mX4_judge_148 k13 o1 ro2 ra2 v3 v4 v5 v9 w = some (zv, zw)) : RR false KX4_judge (some (vI zv), zw) 148 [some (vR 2 0), some (vR o1 0), some (vR ro2 ra2), some (vI v3), some (vI v4), some (vI v5), none, none, none, some (vI v9)] [] w := by
  refine r_aload_n dX4_judge_148 rfl rfl ?_
  refine r_iload dX4_judge_149 rfl ?_
  obtain ⟨x_2, w_1, hc, hf⟩ := cl_some hf
  refine g_cV (st := []) KX4_must [vI v9] dX4_judge_151 e_RX4_68 (cl_false_2) (rfl : vwCl[4]? = _) rfl mok_X4_must mw_X4_must ⟨Nat.le_of_ble_eq_true rfl, Nat.le_of_ble_eq_true rfl⟩ (met_X4_must hc) rfl (Nat.le_of_ble_eq_true rfl) ?_
  clear hc
  refine r_istore (ls2 := [some (vR 2 0), some (vR o1 0), some (vR ro2 ra2), some (vI v3), some (vI v4), some (vI v5), none, none, none, some (vI x_2)]) dX4_judge_154 rfl rfl (Nat.le_of_ble_eq_true rfl) ?_
  exact ok_mX4_judge_156 hk13 ho1 hr2 hf
set_option maxRecDepth 100000 in
set_option maxHeartbeats 4000000 in
theorem ok_mX4_judge_130 {zv : Int32} {zw : AW} {k13 : Int32 → AW → Option (Int32 × AW)} {o1 : Nat} {ro2 : Nat} {ra2 : Nat} {v3 : Int32} {v4 : Int32} {v5 : Int32} {v6 : Int32} {v9 : Int32} (hk13 : ∀ (v5 : Int32)  w, k13 v5 w = some (zv, zw) → RR false KX4_judge (some (vI zv), zw) 13 [some (vR 2 0), some (vR o1 0), some (vR ro2 ra2), some (vI v3), some (vI v4), some (vI v5), none, none, none, none] [] w) (ho1 : am_cls false o1 = 2) (hr2 : am_ia false ro2 ra2) {w : AW} (hf : mX4_judge_130 k13 o1 ro2 ra2 v3 v4 v5 v6 v9 w = some (zv, zw)) : RR false KX4_judge (some (vI zv), zw) 130 [some (vR 2 0), some (vR o1 0), some (vR ro2 ra2), some (vI v3), some (vI v4), some (vI v5), some (vI v6), none, none, some (vI v9)] [] w := by
  refine r_iload_n dX4_judge_130 rfl rfl ?_
  refine g_if_eq (tgt := 156) dX4_judge_131 rfl hf (fun _ hf => ?_) (fun _ hf => ?_)
  · refine r_mask (bs := [true, true, true, true, true, true, false, false, false, true]) ?_
    exact ok_mX4_judge_156 hk13 ho1 hr2 hf
  · refine r_iload dX4_judge_134 rfl ?_
    refine r_bipush dX4_judge_136 (bp_62) ?_
    refine g_icmp_eq (tgt := 148) dX4_judge_138 rfl hf (fun _ hf => ?_) (fun _ hf => ?_)
    · refine r_mask (bs := [true, true, true, true, true, true, false, false, false, true]) ?_
      exact ok_mX4_judge_148 hk13 ho1 hr2 hf
    · refine r_iload dX4_judge_141 rfl ?_
      refine r_bipush dX4_judge_143 (bp_33) ?_
      refine g_icmp_ne (tgt := 156) dX4_judge_145 rfl hf (fun _ hf => ?_) (fun _ hf => ?_)
      · refine r_mask (bs := [true, true, true, true, true, true, false, false, false, true]) ?_
        exact ok_mX4_judge_156 hk13 ho1 hr2 hf
      · refine r_mask (bs := [true, true, true, true, true, true, false, false, false, true]) ?_
        exact ok_mX4_judge_148 hk13 ho1 hr2 hf
set_option maxRecDepth 100000 in
set_option maxHeartbeats 4000000 in
theorem ok_mX4_judge_108 {zv : Int32} {zw : AW} {k13 : Int32 → AW → Option (Int32 × AW)} {o1 : Nat} {ro2 : Nat} {ra2 : Nat} {v3 : Int32} {v4 : Int32} {v5 : Int32} {v6 : Int32} {v7 : Int32} {v9 : Int32} (hk13 : ∀ (v5 : Int32)  w, k13 v5 w = some (zv, zw) → RR false KX4_judge (some (vI zv), zw) 13 [some (vR 2 0), some (vR o1 0), some (vR ro2 ra2), some (vI v3), some (vI v4), some (vI v5), none, none, none, none] [] w) (ho1 : am_cls false o1 = 2) (hr2 : am_ia false ro2 ra2) {w : AW} (hf : mX4_judge_108 k13 o1 ro2 ra2 v3 v4 v5 v6 v7 v9 w = some (zv, zw)) : RR false KX4_judge (some (vI zv), zw) 108 [some (vR 2 0), some (vR o1 0), some (vR ro2 ra2), some (vI v3), some (vI v4), some (vI v5), some (vI v6), some (vI v7), none, some (vI v9)] [] w := by
  refine r_iload dX4_judge_108 rfl ?_
  refine r_bipush dX4_judge_110 (bp_123) ?_
  refine g_icmp_ne (tgt := 130) dX4_judge_112 rfl hf (fun _ hf => ?_) (fun _ hf => ?_)
  · refine r_mask (bs := [true, true, true, true, true, true, true, false, false, true]) ?_
    exact ok_mX4_judge_130 hk13 ho1 hr2 hf
  · refine r_iload dX4_judge_115 rfl ?_
    refine r_aload_n dX4_judge_117 rfl rfl ?_
    refine r_iload dX4_judge_118 rfl ?_
    refine r_iconst dX4_judge_120 ic_m1 ?_
    refine r_ixor dX4_judge_121 ?_
    obtain ⟨x_2, w_1, hc, hf⟩ := cl_some hf
    refine g_cV (st := [vI v4]) KX4_must [vI (v7 ^^^ (-1))] dX4_judge_122 e_RX4_68 (cl_false_2) (rfl : vwCl[4]? = _) rfl mok_X4_must mw_X4_must ⟨Nat.le_of_ble_eq_true rfl, Nat.le_of_ble_eq_true rfl⟩ (met_X4_must hc) rfl (Nat.le_of_ble_eq_true rfl) ?_
    clear hc
    refine r_iconst dX4_judge_125 ic_m1 ?_
    refine r_ixor dX4_judge_126 ?_
    refine r_iand dX4_judge_127 ?_
    refine g_istore (fun v9_3 => [some (vR 2 0), some (vR o1 0), some (vR ro2 ra2), some (vI v3), some (vI v4), some (vI v5), some (vI v6), some (vI v7), none, some (vI v9_3)]) dX4_judge_128 rfl (fun _ => rfl) (Nat.le_of_ble_eq_true rfl) hf (fun v9_3 hf => ?_)
    refine r_mask (bs := [true, true, true, true, true, true, true, false, false, true]) ?_
    exact ok_mX4_judge_130 hk13 ho1 hr2 hf
set_option maxRecDepth 100000 in
set_option maxHeartbeats 4000000 in
theorem ok_mX4_judge_91 {zv : Int32} {zw : AW} {k13 : Int32 → AW → Option (Int32 × AW)} {o1 : Nat} {ro2 : Nat} {ra2 : Nat} {v3 : Int32} {v4 : Int32} {v5 : Int32} {v6 : Int32} {v7 : Int32} {s0 : Int32} (hk13 : ∀ (v5 : Int32)  w, k13 v5 w = some (zv, zw) → RR false KX4_judge (some (vI zv), zw) 13 [some (vR 2 0), some (vR o1 0), some (vR ro2 ra2), some (vI v3), some (vI v4), some (vI v5), none, none, none, none] [] w) (ho1 : am_cls false o1 = 2) (hr2 : am_ia false ro2 ra2) {w : AW} (hf : mX4_judge_91 k13 o1 ro2 ra2 v3 v4 v5 v6 v7 s0 w = some (zv, zw)) : RR false KX4_judge (some (vI zv), zw) 91 [some (vR 2 0), some (vR o1 0), some (vR ro2 ra2), some (vI v3), some (vI v4), some (vI v5), some (vI v6), some (vI v7), none, none] [vI s0] w := by
  refine r_istore (ls2 := [some (vR 2 0), some (vR o1 0), some (vR ro2 ra2), some (vI v3), some (vI v4), some (vI v5), some (vI v6), some (vI v7), none, some (vI s0)]) dX4_judge_91 rfl rfl (Nat.le_of_ble_eq_true rfl) ?_
  refine r_iload dX4_judge_93 rfl ?_
  refine r_bipush dX4_judge_95 (bp_91) ?_
  refine g_icmp_ne (tgt := 108) dX4_judge_97 rfl hf (fun _ hf => ?_) (fun _ hf => ?_)
  · exact ok_mX4_judge_108 hk13 ho1 hr2 hf
  · refine r_aload_n dX4_judge_100 rfl rfl ?_
    refine r_iload dX4_judge_101 rfl ?_
    obtain ⟨x_2, w_1, hc, hf⟩ := cl_some hf
    refine g_cV (st := []) KX4_must [vI v7] dX4_judge_103 e_RX4_68 (cl_false_2) (rfl : vwCl[4]? = _) rfl mok_X4_must mw_X4_must ⟨Nat.le_of_ble_eq_true rfl, Nat.le_of_ble_eq_true rfl⟩ (met_X4_must hc) rfl (Nat.le_of_ble_eq_true rfl) ?_
    clear hc
    refine r_istore (ls2 := [some (vR 2 0), some (vR o1 0), some (vR ro2 ra2), some (vI v3), some (vI v4), some (vI v5), some (vI v6), some (vI v7), none, some (vI x_2)]) dX4_judge_106 rfl rfl (Nat.le_of_ble_eq_true rfl) ?_
    exact ok_mX4_judge_108 hk13 ho1 hr2 hf
set_option maxRecDepth 100000 in
set_option maxHeartbeats 4000000 in
theorem ok_mX4_judge_13 {zv : Int32} {zw : AW} {o1 : Nat} {ro2 : Nat} {ra2 : Nat} {v3 : Int32} {v4 : Int32} (ho1 : am_cls false o1 = 2) (hr2 : am_ia false ro2 ra2) : ∀ (n : Nat) (v5 : Int32) (w : AW), mX4_judge_13 o1 ro2 ra2 v3 v4 n v5 w = some (zv, zw) → RR false KX4_judge (some (vI zv), zw) 13 [some (vR 2 0), some (vR o1 0), some (vR ro2 ra2), some (vI v3), some (vI v4), some (vI v5), none, none, none, none] [] w := by
  intro n
  induction n with
  | zero => intro v5 w hf; cases hf
  | succ n ih =>
    intro v5 w hf
    refine r_iload dX4_judge_13 rfl ?_
    refine r_aload_n dX4_judge_15 rfl rfl ?_
    obtain ⟨x_2, w_1, hc, hf⟩ := cl_some hf
    refine g_cV (st := [vI v5]) KX2_parts [] dX4_judge_16 e_RX4_41 ho1 (rfl : vwCl[2]? = _) rfl mok_X2_parts mw_X2_parts ⟨Nat.le_of_ble_eq_true rfl, Nat.le_of_ble_eq_true rfl⟩ (met_X2_parts ho1 hc) rfl (Nat.le_of_ble_eq_true rfl) ?_
    clear hc
    refine g_icmp_ge (tgt := 173) dX4_judge_19 rfl hf (fun _ hf => ?_) (fun _ hf => ?_)
    · refine r_aload_n dX4_judge_173 rfl rfl ?_
      refine g_getA dX4_judge_174 fl_RX4_15 fk_4_1 rfl (cl_false_2) ?_
      refine r_aload_n dX4_judge_177 rfl rfl ?_
      obtain ⟨x_4, w_3, hc, hf⟩ := cl_some hf
      refine g_cV (st := [vR 2 2]) KX2_parts [] dX4_judge_178 e_RX4_41 ho1 (rfl : vwCl[2]? = _) rfl mok_X2_parts mw_X2_parts ⟨Nat.le_of_ble_eq_true rfl, Nat.le_of_ble_eq_true rfl⟩ (met_X2_parts ho1 hc) rfl (Nat.le_of_ble_eq_true rfl) ?_
      clear hc
      refine r_iconst dX4_judge_181 ic_1 ?_
      refine r_isub dX4_judge_182 ?_
      obtain ⟨x_6, w_5, hc, hf⟩ := cl_some hf
      refine g_cN (st := []) KX5_at [vR 2 2, vI (x_4 - 1)] dX4_judge_183 e_RX4_53 mok_X5_at mw_X5_at ⟨Nat.le_of_ble_eq_true rfl, Nat.le_of_ble_eq_true rfl⟩ (met_X5_at (am_iaW aK_false_2_2) hc) rfl (Nat.le_of_ble_eq_true rfl) ?_
      clear hc
      exact r_iret dX4_judge_186 rfl (ret_I hf)
    · refine r_aload_n dX4_judge_22 rfl rfl ?_
      refine r_iload dX4_judge_23 rfl ?_
      obtain ⟨x_8, w_7, hc, hf⟩ := cl_some hf
      refine g_cV (st := []) KX2_sign [vI v5] dX4_judge_25 e_RX4_46 ho1 (rfl : vwCl[2]? = _) rfl mok_X2_sign mw_X2_sign ⟨Nat.le_of_ble_eq_true rfl, Nat.le_of_ble_eq_true rfl⟩ (met_X2_sign ho1 hc) rfl (Nat.le_of_ble_eq_true rfl) ?_
      clear hc
      refine r_istore (ls2 := [some (vR 2 0), some (vR o1 0), some (vR ro2 ra2), some (vI v3), some (vI v4), some (vI v5), some (vI x_8), none, none, none]) dX4_judge_28 rfl rfl (Nat.le_of_ble_eq_true rfl) ?_
      refine r_aload_n dX4_judge_30 rfl rfl ?_
      refine g_getA dX4_judge_31 fl_RX4_15 fk_4_1 rfl (cl_false_2) ?_
      refine r_aload_n dX4_judge_34 rfl rfl ?_
      refine r_iload dX4_judge_35 rfl ?_
      obtain ⟨x_10, w_9, hc, hf⟩ := cl_some hf
      refine g_cV (st := [vR 2 2]) KX2_first [vI v5] dX4_judge_37 e_RX4_50 ho1 (rfl : vwCl[2]? = _) rfl mok_X2_first mw_X2_first ⟨Nat.le_of_ble_eq_true rfl, Nat.le_of_ble_eq_true rfl⟩ (met_X2_first ho1 hc) rfl (Nat.le_of_ble_eq_true rfl) ?_
      clear hc
      obtain ⟨x_12, w_11, hc, hf⟩ := cl_some hf
      refine g_cN (st := []) KX5_at [vR 2 2, vI x_10] dX4_judge_40 e_RX4_53 mok_X5_at mw_X5_at ⟨Nat.le_of_ble_eq_true rfl, Nat.le_of_ble_eq_true rfl⟩ (met_X5_at (am_iaW aK_false_2_2) hc) rfl (Nat.le_of_ble_eq_true rfl) ?_
      clear hc
      refine r_istore (ls2 := [some (vR 2 0), some (vR o1 0), some (vR ro2 ra2), some (vI v3), some (vI v4), some (vI v5), some (vI x_8), some (vI x_12), none, none]) dX4_judge_43 rfl rfl (Nat.le_of_ble_eq_true rfl) ?_
      refine r_aload_n dX4_judge_45 rfl rfl ?_
      refine g_getA dX4_judge_46 fl_RX4_15 fk_4_1 rfl (cl_false_2) ?_
      refine r_aload_n dX4_judge_49 rfl rfl ?_
      refine r_iload dX4_judge_50 rfl ?_
      obtain ⟨x_14, w_13, hc, hf⟩ := cl_some hf
      refine g_cV (st := [vR 2 2]) KX2_second [vI v5] dX4_judge_52 e_RX4_57 ho1 (rfl : vwCl[2]? = _) rfl mok_X2_second mw_X2_second ⟨Nat.le_of_ble_eq_true rfl, Nat.le_of_ble_eq_true rfl⟩ (met_X2_second ho1 hc) rfl (Nat.le_of_ble_eq_true rfl) ?_
      clear hc
      obtain ⟨x_16, w_15, hc, hf⟩ := cl_some hf
      refine g_cN (st := []) KX5_at [vR 2 2, vI x_14] dX4_judge_55 e_RX4_53 mok_X5_at mw_X5_at ⟨Nat.le_of_ble_eq_true rfl, Nat.le_of_ble_eq_true rfl⟩ (met_X5_at (am_iaW aK_false_2_2) hc) rfl (Nat.le_of_ble_eq_true rfl) ?_
      clear hc
      refine r_istore (ls2 := [some (vR 2 0), some (vR o1 0), some (vR ro2 ra2), some (vI v3), some (vI v4), some (vI v5), some (vI x_8), some (vI x_12), some (vI x_16), none]) dX4_judge_58 rfl rfl (Nat.le_of_ble_eq_true rfl) ?_
      refine r_iload dX4_judge_60 rfl ?_
      obtain ⟨x_18, w_17, hc, hf⟩ := cl_some hf
      refine g_cN (st := []) KX5_isAtom [vI x_8] dX4_judge_62 e_RX4_60 mok_X5_isAtom mw_X5_isAtom ⟨Nat.le_of_ble_eq_true rfl, Nat.le_of_ble_eq_true rfl⟩ (met_X5_isAtom hc) rfl (Nat.le_of_ble_eq_true rfl) ?_
      clear hc
      refine g_if_eq (tgt := 80) dX4_judge_65 rfl hf (fun _ hf => ?_) (fun _ hf => ?_)
      · refine r_iload dX4_judge_80 rfl ?_
        refine r_iload dX4_judge_82 rfl ?_
        refine r_iload dX4_judge_84 rfl ?_
        refine r_iload dX4_judge_86 rfl ?_
        obtain ⟨x_20, w_19, hc, hf⟩ := cl_some hf
        refine g_cN (st := []) KX5_joined [vI x_8, vI x_12, vI x_16, vI v4] dX4_judge_88 e_RX4_64 mok_X5_joined mw_X5_joined ⟨Nat.le_of_ble_eq_true rfl, Nat.le_of_ble_eq_true rfl⟩ (met_X5_joined hc) rfl (Nat.le_of_ble_eq_true rfl) ?_
        clear hc
        refine r_mask (bs := [true, true, true, true, true, true, true, true, false, false]) ?_
        exact ok_mX4_judge_91 (fun v5 w hf => ih v5 w hf) ho1 hr2 hf
      · refine r_aload_n dX4_judge_68 rfl rfl ?_
        refine r_iload dX4_judge_69 rfl ?_
        refine r_bipush dX4_judge_71 (bp_112) ?_
        refine r_isub dX4_judge_73 ?_
        obtain ⟨x_22, w_21, hc, hf⟩ := cl_some hf
        refine g_cN (st := []) KX5_at [vR ro2 ra2, vI (x_8 - 112)] dX4_judge_74 e_RX4_53 mok_X5_at mw_X5_at ⟨Nat.le_of_ble_eq_true rfl, Nat.le_of_ble_eq_true rfl⟩ (met_X5_at hr2 hc) rfl (Nat.le_of_ble_eq_true rfl) ?_
        clear hc
        refine r_goto (tgt := 91) dX4_judge_77 rfl ?_
        refine r_mask (bs := [true, true, true, true, true, true, true, true, false, false]) ?_
        exact ok_mX4_judge_91 (fun v5 w hf => ih v5 w hf) ho1 hr2 hf
set_option maxRecDepth 100000 in
set_option maxHeartbeats 4000000 in
theorem ok_mX4_judge {zv : Int32} {zw : AW} {o1 : Nat} {ro2 ra2 : Nat} {v3 : Int32} (ho1 : am_cls false o1 = 2) (hr2 : am_ia false ro2 ra2) {w : AW} (hf : mX4_judge o1 ro2 ra2 v3 w = some (zv, zw)) : RR false KX4_judge (some (vI zv), zw) 0 [some (vR 2 0), some (vR o1 0), some (vR ro2 ra2), some (vI v3), none, none, none, none, none, none] [] w := by
  refine r_iconst dX4_judge_0 ic_1 ?_
  refine r_aload_n dX4_judge_1 rfl rfl ?_
  refine g_getI dX4_judge_2 fl_RX4_24 fk_4_4 (cl_false_2) ?_
  refine r_ishl dX4_judge_5 ?_
  refine r_iconst dX4_judge_6 ic_1 ?_
  refine r_isub dX4_judge_7 ?_
  refine g_istore (fun v4_1 => [some (vR 2 0), some (vR o1 0), some (vR ro2 ra2), some (vI v3), some (vI v4_1), none, none, none, none, none]) dX4_judge_8 rfl (fun _ => rfl) (Nat.le_of_ble_eq_true rfl) hf (fun v4_1 hf => ?_)
  refine r_iconst dX4_judge_10 ic_0 ?_
  refine r_istore (ls2 := [some (vR 2 0), some (vR o1 0), some (vR ro2 ra2), some (vI v3), some (vI v4_1), some (vI 0), none, none, none, none]) dX4_judge_11 rfl rfl (Nat.le_of_ble_eq_true rfl) ?_
  exact ok_mX4_judge_13 ho1 hr2 FU _ _ hf
theorem met_X4_judge {zv : Int32} {zw : AW} {o1 : Nat} {ro2 ra2 : Nat} {v3 : Int32} (ho1 : am_cls false o1 = 2) (hr2 : am_ia false ro2 ra2) {w : AW} (hf : mX4_judge o1 ro2 ra2 v3 w = some (zv, zw)) : am_Met false KX4_judge [vR 2 0, vR o1 0, vR ro2 ra2, vI v3] w (some (vI zv), zw) := am_met mok_X4_judge.1 (Nat.le_of_ble_eq_true rfl) (ok_mX4_judge ho1 hr2 hf)

/-! SeenWorlds$View.sameAtoms(LSeenWorlds$Net;II)Z -/
noncomputable def mX4_sameAtoms_2 (v1 : Int32) (v2 : Int32) : Nat → Int32 → AW → Option (Int32 × AW)
  | 0, _, _ => none
  | n + 1, v3, w =>
    if 4 ≤ v3 then
      some (1, w)
    else
      cl (mX0_atoms w) fun x_2 w_1 =>
      cl (mX5_at 1 2 v3 w_1) fun x_4 w_3 =>
      cl (mX5_bit x_4 v1 w_3) fun x_6 w_5 =>
      cl (mX5_bit x_4 v2 w_5) fun x_8 w_7 =>
      if x_6 = x_8 then
        nm (v3 + 1) fun v3_9 =>
        mX4_sameAtoms_2 v1 v2 n v3_9 w_7
      else
        some (0, w_7)
noncomputable def mX4_sameAtoms (v1 : Int32) (v2 : Int32) (w : AW) : Option (Int32 × AW) :=
  mX4_sameAtoms_2 v1 v2 FU 0 w
set_option maxRecDepth 100000 in
set_option maxHeartbeats 4000000 in
theorem ok_mX4_sameAtoms_2 {zv : Int32} {zw : AW} {v1 : Int32} {v2 : Int32} : ∀ (n : Nat) (v3 : Int32) (w : AW), mX4_sameAtoms_2 v1 v2 n v3 w = some (zv, zw) → RR false KX4_sameAtoms (some (vI zv), zw) 2 [some (vR 1 0), some (vI v1), some (vI v2), some (vI v3), none] [] w := by
  intro n
  induction n with
  | zero => intro v3 w hf; cases hf
  | succ n ih =>
    intro v3 w hf
    refine r_iload_n dX4_sameAtoms_2 rfl rfl ?_
    refine r_iconst dX4_sameAtoms_3 ic_4 ?_
    refine g_icmp_ge (tgt := 40) dX4_sameAtoms_4 rfl hf (fun _ hf => ?_) (fun _ hf => ?_)
    · refine r_iconst dX4_sameAtoms_40 ic_1 ?_
      exact r_zret dX4_sameAtoms_41 rfl nar_1 (ret_I hf)
    · refine r_aload_n dX4_sameAtoms_7 rfl rfl ?_
      obtain ⟨x_2, w_1, hc, hf⟩ := cl_some hf
      refine g_cV (st := []) KX0_atoms [] dX4_sameAtoms_8 e_RX4_86 (cl_false_1) (rfl : vwCl[0]? = _) rfl mok_X0_atoms mw_X0_atoms ⟨Nat.le_of_ble_eq_true rfl, Nat.le_of_ble_eq_true rfl⟩ (met_X0_atoms hc) rfl (Nat.le_of_ble_eq_true rfl) ?_
      clear hc
      refine r_iload_n dX4_sameAtoms_11 rfl rfl ?_
      obtain ⟨x_4, w_3, hc, hf⟩ := cl_some hf
      refine g_cN (st := []) KX5_at [vR 1 2, vI v3] dX4_sameAtoms_12 e_RX4_53 mok_X5_at mw_X5_at ⟨Nat.le_of_ble_eq_true rfl, Nat.le_of_ble_eq_true rfl⟩ (met_X5_at (am_iaW aK_false_1_2) hc) rfl (Nat.le_of_ble_eq_true rfl) ?_
      clear hc
      refine r_istore (ls2 := [some (vR 1 0), some (vI v1), some (vI v2), some (vI v3), some (vI x_4)]) dX4_sameAtoms_15 rfl rfl (Nat.le_of_ble_eq_true rfl) ?_
      refine r_iload dX4_sameAtoms_17 rfl ?_
      refine r_iload_n dX4_sameAtoms_19 rfl rfl ?_
      obtain ⟨x_6, w_5, hc, hf⟩ := cl_some hf
      refine g_cN (st := []) KX5_bit [vI x_4, vI v1] dX4_sameAtoms_20 e_RX4_90 mok_X5_bit mw_X5_bit ⟨Nat.le_of_ble_eq_true rfl, Nat.le_of_ble_eq_true rfl⟩ (met_X5_bit hc) rfl (Nat.le_of_ble_eq_true rfl) ?_
      clear hc
      refine r_iload dX4_sameAtoms_23 rfl ?_
      refine r_iload_n dX4_sameAtoms_25 rfl rfl ?_
      obtain ⟨x_8, w_7, hc, hf⟩ := cl_some hf
      refine g_cN (st := [vI x_6]) KX5_bit [vI x_4, vI v2] dX4_sameAtoms_26 e_RX4_90 mok_X5_bit mw_X5_bit ⟨Nat.le_of_ble_eq_true rfl, Nat.le_of_ble_eq_true rfl⟩ (met_X5_bit hc) rfl (Nat.le_of_ble_eq_true rfl) ?_
      clear hc
      refine g_icmp_eq (tgt := 34) dX4_sameAtoms_29 rfl hf (fun _ hf => ?_) (fun _ hf => ?_)
      · refine g_iinc (fun v3_9 => [some (vR 1 0), some (vI v1), some (vI v2), some (vI v3_9), some (vI x_4)]) dX4_sameAtoms_34 ic_1 rfl rfl (fun _ => rfl) (Nat.le_of_ble_eq_true rfl) hf (fun v3_9 hf => ?_)
        refine r_goto (tgt := 2) dX4_sameAtoms_37 rfl ?_
        refine r_mask (bs := [true, true, true, true, false]) ?_
        exact ih _ _ hf
      · refine r_iconst dX4_sameAtoms_32 ic_0 ?_
        exact r_zret dX4_sameAtoms_33 rfl nar_0 (ret_I hf)
set_option maxRecDepth 100000 in
set_option maxHeartbeats 4000000 in
theorem ok_mX4_sameAtoms {zv : Int32} {zw : AW} {v1 : Int32} {v2 : Int32} {w : AW} (hf : mX4_sameAtoms v1 v2 w = some (zv, zw)) : RR false KX4_sameAtoms (some (vI zv), zw) 0 [some (vR 1 0), some (vI v1), some (vI v2), none, none] [] w := by
  refine r_iconst dX4_sameAtoms_0 ic_0 ?_
  refine r_istore_n (ls2 := [some (vR 1 0), some (vI v1), some (vI v2), some (vI 0), none]) dX4_sameAtoms_1 rfl rfl rfl (Nat.le_of_ble_eq_true rfl) ?_
  exact ok_mX4_sameAtoms_2 FU _ _ hf
theorem met_X4_sameAtoms {zv : Int32} {zw : AW} {v1 : Int32} {v2 : Int32} {w : AW} (hf : mX4_sameAtoms v1 v2 w = some (zv, zw)) : am_Met false KX4_sameAtoms [vR 1 0, vI v1, vI v2] w (some (vI zv), zw) := am_met mok_X4_sameAtoms.1 (Nat.le_of_ble_eq_true rfl) (ok_mX4_sameAtoms  hf)

/-! SeenWorlds$View.heapByAtoms(LSeenWorlds$Net;)V -/
noncomputable def mX4_heapByAtoms_32 (k2 : Int32 → AW → Option (Unit × AW)) (v2 : Int32) (v3 : Int32) (w : AW) : Option (Unit × AW) :=
  cl (mX5_put 2 3 v2 v3 w) fun x_2 w_1 =>
  nm (v2 + 1) fun v2_3 =>
  k2 v2_3 w_1
noncomputable def mX4_heapByAtoms_12 (k2 : Int32 → AW → Option (Unit × AW)) (v2 : Int32) : Nat → Int32 → AW → Option (Unit × AW)
  | 0, _, _ => none
  | n + 1, v3, w =>
    if v2 ≤ v3 then
      mX4_heapByAtoms_32 k2 v2 v3 w
    else
      cl (mX4_sameAtoms v3 v2 w) fun x_2 w_1 =>
      if x_2 ≠ 0 then
        mX4_heapByAtoms_32 k2 v2 v3 w_1
      else
        nm (v3 + 1) fun v3_3 =>
        mX4_heapByAtoms_12 k2 v2 n v3_3 w_1
noncomputable def mX4_heapByAtoms_2 : Nat → Int32 → AW → Option (Unit × AW)
  | 0, _, _ => none
  | n + 1, v2, w =>
    if (w.1 2 0 4) ≤ v2 then
      some ((), w)
    else
      mX4_heapByAtoms_12 (mX4_heapByAtoms_2 n) v2 FU 0 w
noncomputable def mX4_heapByAtoms (w : AW) : Option (Unit × AW) :=
  mX4_heapByAtoms_2 FU 0 w
set_option maxRecDepth 100000 in
set_option maxHeartbeats 4000000 in
theorem ok_mX4_heapByAtoms_32 {zv : Unit} {zw : AW} {k2 : Int32 → AW → Option (Unit × AW)} {v2 : Int32} {v3 : Int32} (hk2 : ∀ (v2 : Int32)  w, k2 v2 w = some (zv, zw) → RR false KX4_heapByAtoms (none, zw) 2 [some (vR 2 0), some (vR 1 0), some (vI v2), none] [] w) {w : AW} (hf : mX4_heapByAtoms_32 k2 v2 v3 w = some (zv, zw)) : RR false KX4_heapByAtoms (none, zw) 32 [some (vR 2 0), some (vR 1 0), some (vI v2), some (vI v3)] [] w := by
  refine r_aload_n dX4_heapByAtoms_32 rfl rfl ?_
  refine g_getA dX4_heapByAtoms_33 fl_RX4_18 fk_4_2 rfl (cl_false_2) ?_
  refine r_iload_n dX4_heapByAtoms_36 rfl rfl ?_
  refine r_iload_n dX4_heapByAtoms_37 rfl rfl ?_
  obtain ⟨x_2, w_1, hc, hf⟩ := cl_some hf
  refine g_cNv (st := []) KX5_put [vR 2 3, vI v2, vI v3] dX4_heapByAtoms_38 e_RX4_37 mok_X5_put mw_X5_put ⟨Nat.le_of_ble_eq_true rfl, Nat.le_of_ble_eq_true rfl⟩ (met_X5_put aK_false_2_3 hc) rfl (Nat.le_of_ble_eq_true rfl) ?_
  clear hc
  refine g_iinc (fun v2_3 => [some (vR 2 0), some (vR 1 0), some (vI v2_3), some (vI v3)]) dX4_heapByAtoms_41 ic_1 rfl rfl (fun _ => rfl) (Nat.le_of_ble_eq_true rfl) hf (fun v2_3 hf => ?_)
  refine r_goto (tgt := 2) dX4_heapByAtoms_44 rfl ?_
  refine r_mask (bs := [true, true, true, false]) ?_
  exact hk2 _ _ hf
set_option maxRecDepth 100000 in
set_option maxHeartbeats 4000000 in
theorem ok_mX4_heapByAtoms_12 {zv : Unit} {zw : AW} {k2 : Int32 → AW → Option (Unit × AW)} {v2 : Int32} (hk2 : ∀ (v2 : Int32)  w, k2 v2 w = some (zv, zw) → RR false KX4_heapByAtoms (none, zw) 2 [some (vR 2 0), some (vR 1 0), some (vI v2), none] [] w) : ∀ (n : Nat) (v3 : Int32) (w : AW), mX4_heapByAtoms_12 k2 v2 n v3 w = some (zv, zw) → RR false KX4_heapByAtoms (none, zw) 12 [some (vR 2 0), some (vR 1 0), some (vI v2), some (vI v3)] [] w := by
  intro n
  induction n with
  | zero => intro v3 w hf; cases hf
  | succ n ih =>
    intro v3 w hf
    refine r_iload_n dX4_heapByAtoms_12 rfl rfl ?_
    refine r_iload_n dX4_heapByAtoms_13 rfl rfl ?_
    refine g_icmp_ge (tgt := 32) dX4_heapByAtoms_14 rfl hf (fun _ hf => ?_) (fun _ hf => ?_)
    · exact ok_mX4_heapByAtoms_32 hk2 hf
    · refine r_aload_n dX4_heapByAtoms_17 rfl rfl ?_
      refine r_iload_n dX4_heapByAtoms_18 rfl rfl ?_
      refine r_iload_n dX4_heapByAtoms_19 rfl rfl ?_
      obtain ⟨x_2, w_1, hc, hf⟩ := cl_some hf
      refine g_cS (st := []) KX4_sameAtoms [vR 1 0, vI v3, vI v2] dX4_heapByAtoms_20 e_RX4_82 mok_X4_sameAtoms mw_X4_sameAtoms ⟨Nat.le_of_ble_eq_true rfl, Nat.le_of_ble_eq_true rfl⟩ (met_X4_sameAtoms hc) rfl (Nat.le_of_ble_eq_true rfl) ?_
      clear hc
      refine g_if_ne (tgt := 32) dX4_heapByAtoms_23 rfl hf (fun _ hf => ?_) (fun _ hf => ?_)
      · exact ok_mX4_heapByAtoms_32 hk2 hf
      · refine g_iinc (fun v3_3 => [some (vR 2 0), some (vR 1 0), some (vI v2), some (vI v3_3)]) dX4_heapByAtoms_26 ic_1 rfl rfl (fun _ => rfl) (Nat.le_of_ble_eq_true rfl) hf (fun v3_3 hf => ?_)
        refine r_goto (tgt := 12) dX4_heapByAtoms_29 rfl ?_
        exact ih _ _ hf
set_option maxRecDepth 100000 in
set_option maxHeartbeats 4000000 in
theorem ok_mX4_heapByAtoms_2 {zv : Unit} {zw : AW} : ∀ (n : Nat) (v2 : Int32) (w : AW), mX4_heapByAtoms_2 n v2 w = some (zv, zw) → RR false KX4_heapByAtoms (none, zw) 2 [some (vR 2 0), some (vR 1 0), some (vI v2), none] [] w := by
  intro n
  induction n with
  | zero => intro v2 w hf; cases hf
  | succ n ih =>
    intro v2 w hf
    refine r_iload_n dX4_heapByAtoms_2 rfl rfl ?_
    refine r_aload_n dX4_heapByAtoms_3 rfl rfl ?_
    refine g_getI dX4_heapByAtoms_4 fl_RX4_24 fk_4_4 (cl_false_2) ?_
    refine g_icmp_ge (tgt := 47) dX4_heapByAtoms_7 rfl hf (fun _ hf => ?_) (fun _ hf => ?_)
    · exact r_vret dX4_heapByAtoms_47 rfl (ret_U hf)
    · refine r_iconst dX4_heapByAtoms_10 ic_0 ?_
      refine r_istore_n (ls2 := [some (vR 2 0), some (vR 1 0), some (vI v2), some (vI 0)]) dX4_heapByAtoms_11 rfl rfl rfl (Nat.le_of_ble_eq_true rfl) ?_
      exact ok_mX4_heapByAtoms_12 (fun v2 w hf => ih v2 w hf) FU _ _ hf
set_option maxRecDepth 100000 in
set_option maxHeartbeats 4000000 in
theorem ok_mX4_heapByAtoms {zv : Unit} {zw : AW} {w : AW} (hf : mX4_heapByAtoms w = some (zv, zw)) : RR false KX4_heapByAtoms (none, zw) 0 [some (vR 2 0), some (vR 1 0), none, none] [] w := by
  refine r_iconst dX4_heapByAtoms_0 ic_0 ?_
  refine r_istore_n (ls2 := [some (vR 2 0), some (vR 1 0), some (vI 0), none]) dX4_heapByAtoms_1 rfl rfl rfl (Nat.le_of_ble_eq_true rfl) ?_
  exact ok_mX4_heapByAtoms_2 FU _ _ hf
theorem met_X4_heapByAtoms {zv : Unit} {zw : AW} {w : AW} (hf : mX4_heapByAtoms w = some (zv, zw)) : am_Met false KX4_heapByAtoms [vR 2 0, vR 1 0] w (none, zw) := am_met mok_X4_heapByAtoms.1 (Nat.le_of_ble_eq_true rfl) (ok_mX4_heapByAtoms  hf)

/-! SeenWorlds$View.heapsSeen(I)I -/
noncomputable def mX4_heapsSeen_41 (k4 : Int32 → Int32 → AW → Option (Int32 × AW)) (v1 : Int32) (v2 : Int32) (v3 : Int32) (w : AW) : Option (Int32 × AW) :=
  nm (v3 + 1) fun v3_1 =>
  k4 v2 v3_1 w
noncomputable def mX4_heapsSeen_4 (v1 : Int32) : Nat → Int32 → Int32 → AW → Option (Int32 × AW)
  | 0, _, _, _ => none
  | n + 1, v2, v3, w =>
    if (w.1 2 0 4) ≤ v3 then
      some (v2, w)
    else
      cl (mX5_at 2 1 v1 w) fun x_2 w_1 =>
      cl (mX5_bit x_2 v3 w_1) fun x_4 w_3 =>
      if x_4 ≠ 1 then
        mX4_heapsSeen_41 (mX4_heapsSeen_4 v1 n) v1 v2 v3 w_3
      else
        cl (mX5_at 2 3 v3 w_3) fun x_6 w_5 =>
        nm (v2 ||| (1 <<< (x_6 &&& 31))) fun v2_7 =>
        mX4_heapsSeen_41 (mX4_heapsSeen_4 v1 n) v1 v2_7 v3 w_5
noncomputable def mX4_heapsSeen (v1 : Int32) (w : AW) : Option (Int32 × AW) :=
  mX4_heapsSeen_4 v1 FU 0 0 w
set_option maxRecDepth 100000 in
set_option maxHeartbeats 4000000 in
theorem ok_mX4_heapsSeen_41 {zv : Int32} {zw : AW} {k4 : Int32 → Int32 → AW → Option (Int32 × AW)} {v1 : Int32} {v2 : Int32} {v3 : Int32} (hk4 : ∀ (v2 : Int32) (v3 : Int32)  w, k4 v2 v3 w = some (zv, zw) → RR false KX4_heapsSeen (some (vI zv), zw) 4 [some (vR 2 0), some (vI v1), some (vI v2), some (vI v3)] [] w) {w : AW} (hf : mX4_heapsSeen_41 k4 v1 v2 v3 w = some (zv, zw)) : RR false KX4_heapsSeen (some (vI zv), zw) 41 [some (vR 2 0), some (vI v1), some (vI v2), some (vI v3)] [] w := by
  refine g_iinc (fun v3_1 => [some (vR 2 0), some (vI v1), some (vI v2), some (vI v3_1)]) dX4_heapsSeen_41 ic_1 rfl rfl (fun _ => rfl) (Nat.le_of_ble_eq_true rfl) hf (fun v3_1 hf => ?_)
  refine r_goto (tgt := 4) dX4_heapsSeen_44 rfl ?_
  exact hk4 _ _ _ hf
set_option maxRecDepth 100000 in
set_option maxHeartbeats 4000000 in
theorem ok_mX4_heapsSeen_4 {zv : Int32} {zw : AW} {v1 : Int32} : ∀ (n : Nat) (v2 : Int32) (v3 : Int32) (w : AW), mX4_heapsSeen_4 v1 n v2 v3 w = some (zv, zw) → RR false KX4_heapsSeen (some (vI zv), zw) 4 [some (vR 2 0), some (vI v1), some (vI v2), some (vI v3)] [] w := by
  intro n
  induction n with
  | zero => intro v2 v3 w hf; cases hf
  | succ n ih =>
    intro v2 v3 w hf
    refine r_iload_n dX4_heapsSeen_4 rfl rfl ?_
    refine r_aload_n dX4_heapsSeen_5 rfl rfl ?_
    refine g_getI dX4_heapsSeen_6 fl_RX4_24 fk_4_4 (cl_false_2) ?_
    refine g_icmp_ge (tgt := 47) dX4_heapsSeen_9 rfl hf (fun _ hf => ?_) (fun _ hf => ?_)
    · refine r_iload_n dX4_heapsSeen_47 rfl rfl ?_
      exact r_iret dX4_heapsSeen_48 rfl (ret_I hf)
    · refine r_aload_n dX4_heapsSeen_12 rfl rfl ?_
      refine g_getA dX4_heapsSeen_13 fl_RX4_9 fk_4_0 rfl (cl_false_2) ?_
      refine r_iload_n dX4_heapsSeen_16 rfl rfl ?_
      obtain ⟨x_2, w_1, hc, hf⟩ := cl_some hf
      refine g_cN (st := []) KX5_at [vR 2 1, vI v1] dX4_heapsSeen_17 e_RX4_53 mok_X5_at mw_X5_at ⟨Nat.le_of_ble_eq_true rfl, Nat.le_of_ble_eq_true rfl⟩ (met_X5_at (am_iaW aK_false_2_1) hc) rfl (Nat.le_of_ble_eq_true rfl) ?_
      clear hc
      refine r_iload_n dX4_heapsSeen_20 rfl rfl ?_
      obtain ⟨x_4, w_3, hc, hf⟩ := cl_some hf
      refine g_cN (st := []) KX5_bit [vI x_2, vI v3] dX4_heapsSeen_21 e_RX4_90 mok_X5_bit mw_X5_bit ⟨Nat.le_of_ble_eq_true rfl, Nat.le_of_ble_eq_true rfl⟩ (met_X5_bit hc) rfl (Nat.le_of_ble_eq_true rfl) ?_
      clear hc
      refine r_iconst dX4_heapsSeen_24 ic_1 ?_
      refine g_icmp_ne (tgt := 41) dX4_heapsSeen_25 rfl hf (fun _ hf => ?_) (fun _ hf => ?_)
      · exact ok_mX4_heapsSeen_41 (fun v2 v3 w hf => ih v2 v3 w hf) hf
      · refine r_iload_n dX4_heapsSeen_28 rfl rfl ?_
        refine r_iconst dX4_heapsSeen_29 ic_1 ?_
        refine r_aload_n dX4_heapsSeen_30 rfl rfl ?_
        refine g_getA dX4_heapsSeen_31 fl_RX4_18 fk_4_2 rfl (cl_false_2) ?_
        refine r_iload_n dX4_heapsSeen_34 rfl rfl ?_
        obtain ⟨x_6, w_5, hc, hf⟩ := cl_some hf
        refine g_cN (st := [vI 1, vI v2]) KX5_at [vR 2 3, vI v3] dX4_heapsSeen_35 e_RX4_53 mok_X5_at mw_X5_at ⟨Nat.le_of_ble_eq_true rfl, Nat.le_of_ble_eq_true rfl⟩ (met_X5_at (am_iaW aK_false_2_3) hc) rfl (Nat.le_of_ble_eq_true rfl) ?_
        clear hc
        refine r_ishl dX4_heapsSeen_38 ?_
        refine r_ior dX4_heapsSeen_39 ?_
        refine g_istore_n (fun v2_7 => [some (vR 2 0), some (vI v1), some (vI v2_7), some (vI v3)]) dX4_heapsSeen_40 rfl rfl (fun _ => rfl) (Nat.le_of_ble_eq_true rfl) hf (fun v2_7 hf => ?_)
        exact ok_mX4_heapsSeen_41 (fun v2 v3 w hf => ih v2 v3 w hf) hf
set_option maxRecDepth 100000 in
set_option maxHeartbeats 4000000 in
theorem ok_mX4_heapsSeen {zv : Int32} {zw : AW} {v1 : Int32} {w : AW} (hf : mX4_heapsSeen v1 w = some (zv, zw)) : RR false KX4_heapsSeen (some (vI zv), zw) 0 [some (vR 2 0), some (vI v1), none, none] [] w := by
  refine r_iconst dX4_heapsSeen_0 ic_0 ?_
  refine r_istore_n (ls2 := [some (vR 2 0), some (vI v1), some (vI 0), none]) dX4_heapsSeen_1 rfl rfl rfl (Nat.le_of_ble_eq_true rfl) ?_
  refine r_iconst dX4_heapsSeen_2 ic_0 ?_
  refine r_istore_n (ls2 := [some (vR 2 0), some (vI v1), some (vI 0), some (vI 0)]) dX4_heapsSeen_3 rfl rfl rfl (Nat.le_of_ble_eq_true rfl) ?_
  exact ok_mX4_heapsSeen_4 FU _ _ _ hf
theorem met_X4_heapsSeen {zv : Int32} {zw : AW} {v1 : Int32} {w : AW} (hf : mX4_heapsSeen v1 w = some (zv, zw)) : am_Met false KX4_heapsSeen [vR 2 0, vI v1] w (some (vI zv), zw) := am_met mok_X4_heapsSeen.1 (Nat.le_of_ble_eq_true rfl) (ok_mX4_heapsSeen  hf)

/-! SeenWorlds$View.sameHeaps(II)Z -/
noncomputable def mX4_sameHeaps (v1 : Int32) (v2 : Int32) (w : AW) : Option (Int32 × AW) :=
  cl (mX5_at 2 3 v1 w) fun x_2 w_1 =>
  cl (mX5_at 2 3 v2 w_1) fun x_4 w_3 =>
  if x_2 ≠ x_4 then
    some (0, w_3)
  else
    cl (mX4_heapsSeen v1 w_3) fun x_6 w_5 =>
    cl (mX4_heapsSeen v2 w_5) fun x_8 w_7 =>
    if x_6 ≠ x_8 then
      some (0, w_7)
    else
      some (1, w_7)
set_option maxRecDepth 100000 in
set_option maxHeartbeats 4000000 in
theorem ok_mX4_sameHeaps {zv : Int32} {zw : AW} {v1 : Int32} {v2 : Int32} {w : AW} (hf : mX4_sameHeaps v1 v2 w = some (zv, zw)) : RR false KX4_sameHeaps (some (vI zv), zw) 0 [some (vR 2 0), some (vI v1), some (vI v2)] [] w := by
  refine r_aload_n dX4_sameHeaps_0 rfl rfl ?_
  refine g_getA dX4_sameHeaps_1 fl_RX4_18 fk_4_2 rfl (cl_false_2) ?_
  refine r_iload_n dX4_sameHeaps_4 rfl rfl ?_
  obtain ⟨x_2, w_1, hc, hf⟩ := cl_some hf
  refine g_cN (st := []) KX5_at [vR 2 3, vI v1] dX4_sameHeaps_5 e_RX4_53 mok_X5_at mw_X5_at ⟨Nat.le_of_ble_eq_true rfl, Nat.le_of_ble_eq_true rfl⟩ (met_X5_at (am_iaW aK_false_2_3) hc) rfl (Nat.le_of_ble_eq_true rfl) ?_
  clear hc
  refine r_aload_n dX4_sameHeaps_8 rfl rfl ?_
  refine g_getA dX4_sameHeaps_9 fl_RX4_18 fk_4_2 rfl (cl_false_2) ?_
  refine r_iload_n dX4_sameHeaps_12 rfl rfl ?_
  obtain ⟨x_4, w_3, hc, hf⟩ := cl_some hf
  refine g_cN (st := [vI x_2]) KX5_at [vR 2 3, vI v2] dX4_sameHeaps_13 e_RX4_53 mok_X5_at mw_X5_at ⟨Nat.le_of_ble_eq_true rfl, Nat.le_of_ble_eq_true rfl⟩ (met_X5_at (am_iaW aK_false_2_3) hc) rfl (Nat.le_of_ble_eq_true rfl) ?_
  clear hc
  refine g_icmp_ne (tgt := 36) dX4_sameHeaps_16 rfl hf (fun _ hf => ?_) (fun _ hf => ?_)
  · refine r_iconst dX4_sameHeaps_36 ic_0 ?_
    exact r_zret dX4_sameHeaps_37 rfl nar_0 (ret_I hf)
  · refine r_aload_n dX4_sameHeaps_19 rfl rfl ?_
    refine r_iload_n dX4_sameHeaps_20 rfl rfl ?_
    obtain ⟨x_6, w_5, hc, hf⟩ := cl_some hf
    refine g_cV (st := []) KX4_heapsSeen [vI v1] dX4_sameHeaps_21 e_RX4_96 (cl_false_2) (rfl : vwCl[4]? = _) rfl mok_X4_heapsSeen mw_X4_heapsSeen ⟨Nat.le_of_ble_eq_true rfl, Nat.le_of_ble_eq_true rfl⟩ (met_X4_heapsSeen hc) rfl (Nat.le_of_ble_eq_true rfl) ?_
    clear hc
    refine r_aload_n dX4_sameHeaps_24 rfl rfl ?_
    refine r_iload_n dX4_sameHeaps_25 rfl rfl ?_
    obtain ⟨x_8, w_7, hc, hf⟩ := cl_some hf
    refine g_cV (st := [vI x_6]) KX4_heapsSeen [vI v2] dX4_sameHeaps_26 e_RX4_96 (cl_false_2) (rfl : vwCl[4]? = _) rfl mok_X4_heapsSeen mw_X4_heapsSeen ⟨Nat.le_of_ble_eq_true rfl, Nat.le_of_ble_eq_true rfl⟩ (met_X4_heapsSeen hc) rfl (Nat.le_of_ble_eq_true rfl) ?_
    clear hc
    refine g_icmp_ne (tgt := 36) dX4_sameHeaps_29 rfl hf (fun _ hf => ?_) (fun _ hf => ?_)
    · refine r_iconst dX4_sameHeaps_36 ic_0 ?_
      exact r_zret dX4_sameHeaps_37 rfl nar_0 (ret_I hf)
    · refine r_iconst dX4_sameHeaps_32 ic_1 ?_
      refine r_goto (tgt := 37) dX4_sameHeaps_33 rfl ?_
      exact r_zret dX4_sameHeaps_37 rfl nar_1 (ret_I hf)
theorem met_X4_sameHeaps {zv : Int32} {zw : AW} {v1 : Int32} {v2 : Int32} {w : AW} (hf : mX4_sameHeaps v1 v2 w = some (zv, zw)) : am_Met false KX4_sameHeaps [vR 2 0, vI v1, vI v2] w (some (vI zv), zw) := am_met mok_X4_sameHeaps.1 (Nat.le_of_ble_eq_true rfl) (ok_mX4_sameHeaps  hf)

/-! SeenWorlds$View.heapFiner()V -/
noncomputable def mX4_heapFiner_32 (k2 : Int32 → AW → Option (Unit × AW)) (v1 : Int32) (v2 : Int32) (w : AW) : Option (Unit × AW) :=
  cl (mX5_put 2 4 v1 v2 w) fun x_2 w_1 =>
  nm (v1 + 1) fun v1_3 =>
  k2 v1_3 w_1
noncomputable def mX4_heapFiner_12 (k2 : Int32 → AW → Option (Unit × AW)) (v1 : Int32) : Nat → Int32 → AW → Option (Unit × AW)
  | 0, _, _ => none
  | n + 1, v2, w =>
    if v1 ≤ v2 then
      mX4_heapFiner_32 k2 v1 v2 w
    else
      cl (mX4_sameHeaps v2 v1 w) fun x_2 w_1 =>
      if x_2 ≠ 0 then
        mX4_heapFiner_32 k2 v1 v2 w_1
      else
        nm (v2 + 1) fun v2_3 =>
        mX4_heapFiner_12 k2 v1 n v2_3 w_1
noncomputable def mX4_heapFiner_49 : Nat → Int32 → AW → Option (Unit × AW)
  | 0, _, _ => none
  | n + 1, v1, w =>
    if (w.1 2 0 4) ≤ v1 then
      some ((), w)
    else
      cl (mX5_at 2 4 v1 w) fun x_2 w_1 =>
      cl (mX5_put 2 3 v1 x_2 w_1) fun x_4 w_3 =>
      nm (v1 + 1) fun v1_5 =>
      mX4_heapFiner_49 n v1_5 w_3
noncomputable def mX4_heapFiner_2 : Nat → Int32 → AW → Option (Unit × AW)
  | 0, _, _ => none
  | n + 1, v1, w =>
    if (w.1 2 0 4) ≤ v1 then
      mX4_heapFiner_49 FU 0 w
    else
      mX4_heapFiner_12 (mX4_heapFiner_2 n) v1 FU 0 w
noncomputable def mX4_heapFiner (w : AW) : Option (Unit × AW) :=
  mX4_heapFiner_2 FU 0 w
set_option maxRecDepth 100000 in
set_option maxHeartbeats 4000000 in
theorem ok_mX4_heapFiner_32 {zv : Unit} {zw : AW} {k2 : Int32 → AW → Option (Unit × AW)} {v1 : Int32} {v2 : Int32} (hk2 : ∀ (v1 : Int32)  w, k2 v1 w = some (zv, zw) → RR false KX4_heapFiner (none, zw) 2 [some (vR 2 0), some (vI v1), none] [] w) {w : AW} (hf : mX4_heapFiner_32 k2 v1 v2 w = some (zv, zw)) : RR false KX4_heapFiner (none, zw) 32 [some (vR 2 0), some (vI v1), some (vI v2)] [] w := by
  refine r_aload_n dX4_heapFiner_32 rfl rfl ?_
  refine g_getA dX4_heapFiner_33 fl_RX4_21 fk_4_3 rfl (cl_false_2) ?_
  refine r_iload_n dX4_heapFiner_36 rfl rfl ?_
  refine r_iload_n dX4_heapFiner_37 rfl rfl ?_
  obtain ⟨x_2, w_1, hc, hf⟩ := cl_some hf
  refine g_cNv (st := []) KX5_put [vR 2 4, vI v1, vI v2] dX4_heapFiner_38 e_RX4_37 mok_X5_put mw_X5_put ⟨Nat.le_of_ble_eq_true rfl, Nat.le_of_ble_eq_true rfl⟩ (met_X5_put aK_false_2_4 hc) rfl (Nat.le_of_ble_eq_true rfl) ?_
  clear hc
  refine g_iinc (fun v1_3 => [some (vR 2 0), some (vI v1_3), some (vI v2)]) dX4_heapFiner_41 ic_1 rfl rfl (fun _ => rfl) (Nat.le_of_ble_eq_true rfl) hf (fun v1_3 hf => ?_)
  refine r_goto (tgt := 2) dX4_heapFiner_44 rfl ?_
  refine r_mask (bs := [true, true, false]) ?_
  exact hk2 _ _ hf
set_option maxRecDepth 100000 in
set_option maxHeartbeats 4000000 in
theorem ok_mX4_heapFiner_12 {zv : Unit} {zw : AW} {k2 : Int32 → AW → Option (Unit × AW)} {v1 : Int32} (hk2 : ∀ (v1 : Int32)  w, k2 v1 w = some (zv, zw) → RR false KX4_heapFiner (none, zw) 2 [some (vR 2 0), some (vI v1), none] [] w) : ∀ (n : Nat) (v2 : Int32) (w : AW), mX4_heapFiner_12 k2 v1 n v2 w = some (zv, zw) → RR false KX4_heapFiner (none, zw) 12 [some (vR 2 0), some (vI v1), some (vI v2)] [] w := by
  intro n
  induction n with
  | zero => intro v2 w hf; cases hf
  | succ n ih =>
    intro v2 w hf
    refine r_iload_n dX4_heapFiner_12 rfl rfl ?_
    refine r_iload_n dX4_heapFiner_13 rfl rfl ?_
    refine g_icmp_ge (tgt := 32) dX4_heapFiner_14 rfl hf (fun _ hf => ?_) (fun _ hf => ?_)
    · exact ok_mX4_heapFiner_32 hk2 hf
    · refine r_aload_n dX4_heapFiner_17 rfl rfl ?_
      refine r_iload_n dX4_heapFiner_18 rfl rfl ?_
      refine r_iload_n dX4_heapFiner_19 rfl rfl ?_
      obtain ⟨x_2, w_1, hc, hf⟩ := cl_some hf
      refine g_cV (st := []) KX4_sameHeaps [vI v2, vI v1] dX4_heapFiner_20 e_RX4_93 (cl_false_2) (rfl : vwCl[4]? = _) rfl mok_X4_sameHeaps mw_X4_sameHeaps ⟨Nat.le_of_ble_eq_true rfl, Nat.le_of_ble_eq_true rfl⟩ (met_X4_sameHeaps hc) rfl (Nat.le_of_ble_eq_true rfl) ?_
      clear hc
      refine g_if_ne (tgt := 32) dX4_heapFiner_23 rfl hf (fun _ hf => ?_) (fun _ hf => ?_)
      · exact ok_mX4_heapFiner_32 hk2 hf
      · refine g_iinc (fun v2_3 => [some (vR 2 0), some (vI v1), some (vI v2_3)]) dX4_heapFiner_26 ic_1 rfl rfl (fun _ => rfl) (Nat.le_of_ble_eq_true rfl) hf (fun v2_3 hf => ?_)
        refine r_goto (tgt := 12) dX4_heapFiner_29 rfl ?_
        exact ih _ _ hf
set_option maxRecDepth 100000 in
set_option maxHeartbeats 4000000 in
theorem ok_mX4_heapFiner_49 {zv : Unit} {zw : AW} : ∀ (n : Nat) (v1 : Int32) (w : AW), mX4_heapFiner_49 n v1 w = some (zv, zw) → RR false KX4_heapFiner (none, zw) 49 [some (vR 2 0), some (vI v1), none] [] w := by
  intro n
  induction n with
  | zero => intro v1 w hf; cases hf
  | succ n ih =>
    intro v1 w hf
    refine r_iload_n dX4_heapFiner_49 rfl rfl ?_
    refine r_aload_n dX4_heapFiner_50 rfl rfl ?_
    refine g_getI dX4_heapFiner_51 fl_RX4_24 fk_4_4 (cl_false_2) ?_
    refine g_icmp_ge (tgt := 79) dX4_heapFiner_54 rfl hf (fun _ hf => ?_) (fun _ hf => ?_)
    · exact r_vret dX4_heapFiner_79 rfl (ret_U hf)
    · refine r_aload_n dX4_heapFiner_57 rfl rfl ?_
      refine g_getA dX4_heapFiner_58 fl_RX4_18 fk_4_2 rfl (cl_false_2) ?_
      refine r_iload_n dX4_heapFiner_61 rfl rfl ?_
      refine r_aload_n dX4_heapFiner_62 rfl rfl ?_
      refine g_getA dX4_heapFiner_63 fl_RX4_21 fk_4_3 rfl (cl_false_2) ?_
      refine r_iload_n dX4_heapFiner_66 rfl rfl ?_
      obtain ⟨x_2, w_1, hc, hf⟩ := cl_some hf
      refine g_cN (st := [vI v1, vR 2 3]) KX5_at [vR 2 4, vI v1] dX4_heapFiner_67 e_RX4_53 mok_X5_at mw_X5_at ⟨Nat.le_of_ble_eq_true rfl, Nat.le_of_ble_eq_true rfl⟩ (met_X5_at (am_iaW aK_false_2_4) hc) rfl (Nat.le_of_ble_eq_true rfl) ?_
      clear hc
      obtain ⟨x_4, w_3, hc, hf⟩ := cl_some hf
      refine g_cNv (st := []) KX5_put [vR 2 3, vI v1, vI x_2] dX4_heapFiner_70 e_RX4_37 mok_X5_put mw_X5_put ⟨Nat.le_of_ble_eq_true rfl, Nat.le_of_ble_eq_true rfl⟩ (met_X5_put aK_false_2_3 hc) rfl (Nat.le_of_ble_eq_true rfl) ?_
      clear hc
      refine g_iinc (fun v1_5 => [some (vR 2 0), some (vI v1_5), none]) dX4_heapFiner_73 ic_1 rfl rfl (fun _ => rfl) (Nat.le_of_ble_eq_true rfl) hf (fun v1_5 hf => ?_)
      refine r_goto (tgt := 49) dX4_heapFiner_76 rfl ?_
      exact ih _ _ hf
set_option maxRecDepth 100000 in
set_option maxHeartbeats 4000000 in
theorem ok_mX4_heapFiner_2 {zv : Unit} {zw : AW} : ∀ (n : Nat) (v1 : Int32) (w : AW), mX4_heapFiner_2 n v1 w = some (zv, zw) → RR false KX4_heapFiner (none, zw) 2 [some (vR 2 0), some (vI v1), none] [] w := by
  intro n
  induction n with
  | zero => intro v1 w hf; cases hf
  | succ n ih =>
    intro v1 w hf
    refine r_iload_n dX4_heapFiner_2 rfl rfl ?_
    refine r_aload_n dX4_heapFiner_3 rfl rfl ?_
    refine g_getI dX4_heapFiner_4 fl_RX4_24 fk_4_4 (cl_false_2) ?_
    refine g_icmp_ge (tgt := 47) dX4_heapFiner_7 rfl hf (fun _ hf => ?_) (fun _ hf => ?_)
    · refine r_iconst dX4_heapFiner_47 ic_0 ?_
      refine r_istore_n (ls2 := [some (vR 2 0), some (vI 0), none]) dX4_heapFiner_48 rfl rfl rfl (Nat.le_of_ble_eq_true rfl) ?_
      exact ok_mX4_heapFiner_49 FU _ _ hf
    · refine r_iconst dX4_heapFiner_10 ic_0 ?_
      refine r_istore_n (ls2 := [some (vR 2 0), some (vI v1), some (vI 0)]) dX4_heapFiner_11 rfl rfl rfl (Nat.le_of_ble_eq_true rfl) ?_
      exact ok_mX4_heapFiner_12 (fun v1 w hf => ih v1 w hf) FU _ _ hf
set_option maxRecDepth 100000 in
set_option maxHeartbeats 4000000 in
theorem ok_mX4_heapFiner {zv : Unit} {zw : AW} {w : AW} (hf : mX4_heapFiner w = some (zv, zw)) : RR false KX4_heapFiner (none, zw) 0 [some (vR 2 0), none, none] [] w := by
  refine r_iconst dX4_heapFiner_0 ic_0 ?_
  refine r_istore_n (ls2 := [some (vR 2 0), some (vI 0), none]) dX4_heapFiner_1 rfl rfl rfl (Nat.le_of_ble_eq_true rfl) ?_
  exact ok_mX4_heapFiner_2 FU _ _ hf
theorem met_X4_heapFiner {zv : Unit} {zw : AW} {w : AW} (hf : mX4_heapFiner w = some (zv, zw)) : am_Met false KX4_heapFiner [vR 2 0] w (none, zw) := am_met mok_X4_heapFiner.1 (Nat.le_of_ble_eq_true rfl) (ok_mX4_heapFiner  hf)

/-! SeenWorlds$View.depthApart(LSeenWorlds$Net;II)I -/
noncomputable def mX4_depthApart_8 (v2 : Int32) (v3 : Int32) : Nat → Int32 → AW → Option (Int32 × AW)
  | 0, _, _ => none
  | n + 1, v4, w =>
    if (w.1 2 0 4) < v4 then
      some ((-9), w)
    else
      cl (mX5_at 2 3 v2 w) fun x_2 w_1 =>
      cl (mX5_at 2 3 v3 w_1) fun x_4 w_3 =>
      if x_2 = x_4 then
        cl (mX4_heapFiner w_3) fun x_6 w_5 =>
        nm (v4 + 1) fun v4_7 =>
        mX4_depthApart_8 v2 v3 n v4_7 w_5
      else
        some (v4, w_3)
noncomputable def mX4_depthApart (v2 : Int32) (v3 : Int32) (w : AW) : Option (Int32 × AW) :=
  cl (mX4_heapByAtoms w) fun x_2 w_1 =>
  mX4_depthApart_8 v2 v3 FU 0 w_1
set_option maxRecDepth 100000 in
set_option maxHeartbeats 4000000 in
theorem ok_mX4_depthApart_8 {zv : Int32} {zw : AW} {v2 : Int32} {v3 : Int32} : ∀ (n : Nat) (v4 : Int32) (w : AW), mX4_depthApart_8 v2 v3 n v4 w = some (zv, zw) → RR false KX4_depthApart (some (vI zv), zw) 8 [some (vR 2 0), none, some (vI v2), some (vI v3), some (vI v4)] [] w := by
  intro n
  induction n with
  | zero => intro v4 w hf; cases hf
  | succ n ih =>
    intro v4 w hf
    refine r_iload dX4_depthApart_8 rfl ?_
    refine r_aload_n dX4_depthApart_10 rfl rfl ?_
    refine g_getI dX4_depthApart_11 fl_RX4_24 fk_4_4 (cl_false_2) ?_
    refine g_icmp_gt (tgt := 49) dX4_depthApart_14 rfl hf (fun _ hf => ?_) (fun _ hf => ?_)
    · refine r_bipush dX4_depthApart_49 (bp_m9) ?_
      exact r_iret dX4_depthApart_51 rfl (ret_I hf)
    · refine r_aload_n dX4_depthApart_17 rfl rfl ?_
      refine g_getA dX4_depthApart_18 fl_RX4_18 fk_4_2 rfl (cl_false_2) ?_
      refine r_iload_n dX4_depthApart_21 rfl rfl ?_
      obtain ⟨x_2, w_1, hc, hf⟩ := cl_some hf
      refine g_cN (st := []) KX5_at [vR 2 3, vI v2] dX4_depthApart_22 e_RX4_53 mok_X5_at mw_X5_at ⟨Nat.le_of_ble_eq_true rfl, Nat.le_of_ble_eq_true rfl⟩ (met_X5_at (am_iaW aK_false_2_3) hc) rfl (Nat.le_of_ble_eq_true rfl) ?_
      clear hc
      refine r_aload_n dX4_depthApart_25 rfl rfl ?_
      refine g_getA dX4_depthApart_26 fl_RX4_18 fk_4_2 rfl (cl_false_2) ?_
      refine r_iload_n dX4_depthApart_29 rfl rfl ?_
      obtain ⟨x_4, w_3, hc, hf⟩ := cl_some hf
      refine g_cN (st := [vI x_2]) KX5_at [vR 2 3, vI v3] dX4_depthApart_30 e_RX4_53 mok_X5_at mw_X5_at ⟨Nat.le_of_ble_eq_true rfl, Nat.le_of_ble_eq_true rfl⟩ (met_X5_at (am_iaW aK_false_2_3) hc) rfl (Nat.le_of_ble_eq_true rfl) ?_
      clear hc
      refine g_icmp_eq (tgt := 39) dX4_depthApart_33 rfl hf (fun _ hf => ?_) (fun _ hf => ?_)
      · refine r_aload_n dX4_depthApart_39 rfl rfl ?_
        obtain ⟨x_6, w_5, hc, hf⟩ := cl_some hf
        refine g_cVv (st := []) KX4_heapFiner [] dX4_depthApart_40 e_RX4_79 (cl_false_2) (rfl : vwCl[4]? = _) rfl mok_X4_heapFiner mw_X4_heapFiner ⟨Nat.le_of_ble_eq_true rfl, Nat.le_of_ble_eq_true rfl⟩ (met_X4_heapFiner hc) rfl (Nat.le_of_ble_eq_true rfl) ?_
        clear hc
        refine g_iinc (fun v4_7 => [some (vR 2 0), none, some (vI v2), some (vI v3), some (vI v4_7)]) dX4_depthApart_43 ic_1 rfl rfl (fun _ => rfl) (Nat.le_of_ble_eq_true rfl) hf (fun v4_7 hf => ?_)
        refine r_goto (tgt := 8) dX4_depthApart_46 rfl ?_
        exact ih _ _ hf
      · refine r_iload dX4_depthApart_36 rfl ?_
        exact r_iret dX4_depthApart_38 rfl (ret_I hf)
set_option maxRecDepth 100000 in
set_option maxHeartbeats 4000000 in
theorem ok_mX4_depthApart {zv : Int32} {zw : AW} {v2 : Int32} {v3 : Int32} {w : AW} (hf : mX4_depthApart v2 v3 w = some (zv, zw)) : RR false KX4_depthApart (some (vI zv), zw) 0 [some (vR 2 0), some (vR 1 0), some (vI v2), some (vI v3), none] [] w := by
  refine r_aload_n dX4_depthApart_0 rfl rfl ?_
  refine r_aload_n dX4_depthApart_1 rfl rfl ?_
  obtain ⟨x_2, w_1, hc, hf⟩ := cl_some hf
  refine g_cVv (st := []) KX4_heapByAtoms [vR 1 0] dX4_depthApart_2 e_RX4_75 (cl_false_2) (rfl : vwCl[4]? = _) rfl mok_X4_heapByAtoms mw_X4_heapByAtoms ⟨Nat.le_of_ble_eq_true rfl, Nat.le_of_ble_eq_true rfl⟩ (met_X4_heapByAtoms hc) rfl (Nat.le_of_ble_eq_true rfl) ?_
  clear hc
  refine r_iconst dX4_depthApart_5 ic_0 ?_
  refine r_istore (ls2 := [some (vR 2 0), some (vR 1 0), some (vI v2), some (vI v3), some (vI 0)]) dX4_depthApart_6 rfl rfl (Nat.le_of_ble_eq_true rfl) ?_
  refine r_mask (bs := [true, false, true, true, true]) ?_
  exact ok_mX4_depthApart_8 FU _ _ hf
theorem met_X4_depthApart {zv : Int32} {zw : AW} {v2 : Int32} {v3 : Int32} {w : AW} (hf : mX4_depthApart v2 v3 w = some (zv, zw)) : am_Met false KX4_depthApart [vR 2 0, vR 1 0, vI v2, vI v3] w (some (vI zv), zw) := am_met mok_X4_depthApart.1 (Nat.le_of_ble_eq_true rfl) (ok_mX4_depthApart  hf)

/-! SeenWorlds$View.heapUp(LSeenWorlds$Net;)V -/
noncomputable def mX4_heapUp_7 : Nat → Int32 → AW → Option (Unit × AW)
  | 0, _, _ => none
  | n + 1, v2, w =>
    if (w.1 2 0 4) ≤ v2 then
      some ((), w)
    else
      cl (mX4_heapFiner w) fun x_2 w_1 =>
      nm (v2 + 1) fun v2_3 =>
      mX4_heapUp_7 n v2_3 w_1
noncomputable def mX4_heapUp (w : AW) : Option (Unit × AW) :=
  cl (mX4_heapByAtoms w) fun x_2 w_1 =>
  mX4_heapUp_7 FU 0 w_1
set_option maxRecDepth 100000 in
set_option maxHeartbeats 4000000 in
theorem ok_mX4_heapUp_7 {zv : Unit} {zw : AW} : ∀ (n : Nat) (v2 : Int32) (w : AW), mX4_heapUp_7 n v2 w = some (zv, zw) → RR false KX4_heapUp (none, zw) 7 [some (vR 2 0), none, some (vI v2)] [] w := by
  intro n
  induction n with
  | zero => intro v2 w hf; cases hf
  | succ n ih =>
    intro v2 w hf
    refine r_iload_n dX4_heapUp_7 rfl rfl ?_
    refine r_aload_n dX4_heapUp_8 rfl rfl ?_
    refine g_getI dX4_heapUp_9 fl_RX4_24 fk_4_4 (cl_false_2) ?_
    refine g_icmp_ge (tgt := 25) dX4_heapUp_12 rfl hf (fun _ hf => ?_) (fun _ hf => ?_)
    · exact r_vret dX4_heapUp_25 rfl (ret_U hf)
    · refine r_aload_n dX4_heapUp_15 rfl rfl ?_
      obtain ⟨x_2, w_1, hc, hf⟩ := cl_some hf
      refine g_cVv (st := []) KX4_heapFiner [] dX4_heapUp_16 e_RX4_79 (cl_false_2) (rfl : vwCl[4]? = _) rfl mok_X4_heapFiner mw_X4_heapFiner ⟨Nat.le_of_ble_eq_true rfl, Nat.le_of_ble_eq_true rfl⟩ (met_X4_heapFiner hc) rfl (Nat.le_of_ble_eq_true rfl) ?_
      clear hc
      refine g_iinc (fun v2_3 => [some (vR 2 0), none, some (vI v2_3)]) dX4_heapUp_19 ic_1 rfl rfl (fun _ => rfl) (Nat.le_of_ble_eq_true rfl) hf (fun v2_3 hf => ?_)
      refine r_goto (tgt := 7) dX4_heapUp_22 rfl ?_
      exact ih _ _ hf
set_option maxRecDepth 100000 in
set_option maxHeartbeats 4000000 in
theorem ok_mX4_heapUp {zv : Unit} {zw : AW} {w : AW} (hf : mX4_heapUp w = some (zv, zw)) : RR false KX4_heapUp (none, zw) 0 [some (vR 2 0), some (vR 1 0), none] [] w := by
  refine r_aload_n dX4_heapUp_0 rfl rfl ?_
  refine r_aload_n dX4_heapUp_1 rfl rfl ?_
  obtain ⟨x_2, w_1, hc, hf⟩ := cl_some hf
  refine g_cVv (st := []) KX4_heapByAtoms [vR 1 0] dX4_heapUp_2 e_RX4_75 (cl_false_2) (rfl : vwCl[4]? = _) rfl mok_X4_heapByAtoms mw_X4_heapByAtoms ⟨Nat.le_of_ble_eq_true rfl, Nat.le_of_ble_eq_true rfl⟩ (met_X4_heapByAtoms hc) rfl (Nat.le_of_ble_eq_true rfl) ?_
  clear hc
  refine r_iconst dX4_heapUp_5 ic_0 ?_
  refine r_istore_n (ls2 := [some (vR 2 0), some (vR 1 0), some (vI 0)]) dX4_heapUp_6 rfl rfl rfl (Nat.le_of_ble_eq_true rfl) ?_
  refine r_mask (bs := [true, false, true]) ?_
  exact ok_mX4_heapUp_7 FU _ _ hf
theorem met_X4_heapUp {zv : Unit} {zw : AW} {w : AW} (hf : mX4_heapUp w = some (zv, zw)) : am_Met false KX4_heapUp [vR 2 0, vR 1 0] w (none, zw) := am_met mok_X4_heapUp.1 (Nat.le_of_ble_eq_true rfl) (ok_mX4_heapUp  hf)

/-! SeenWorlds$View.howManyHeaps()I -/
noncomputable def mX4_howManyHeaps_27 (k4 : Int32 → Int32 → AW → Option (Int32 × AW)) (v1 : Int32) (v2 : Int32) (w : AW) : Option (Int32 × AW) :=
  nm (v2 + 1) fun v2_1 =>
  k4 v1 v2_1 w
noncomputable def mX4_howManyHeaps_4 : Nat → Int32 → Int32 → AW → Option (Int32 × AW)
  | 0, _, _, _ => none
  | n + 1, v1, v2, w =>
    if (w.1 2 0 4) ≤ v2 then
      some (v1, w)
    else
      cl (mX5_at 2 3 v2 w) fun x_2 w_1 =>
      if x_2 ≠ v2 then
        mX4_howManyHeaps_27 (mX4_howManyHeaps_4 n) v1 v2 w_1
      else
        nm (v1 + 1) fun v1_3 =>
        mX4_howManyHeaps_27 (mX4_howManyHeaps_4 n) v1_3 v2 w_1
noncomputable def mX4_howManyHeaps (w : AW) : Option (Int32 × AW) :=
  mX4_howManyHeaps_4 FU 0 0 w
set_option maxRecDepth 100000 in
set_option maxHeartbeats 4000000 in
theorem ok_mX4_howManyHeaps_27 {zv : Int32} {zw : AW} {k4 : Int32 → Int32 → AW → Option (Int32 × AW)} {v1 : Int32} {v2 : Int32} (hk4 : ∀ (v1 : Int32) (v2 : Int32)  w, k4 v1 v2 w = some (zv, zw) → RR false KX4_howManyHeaps (some (vI zv), zw) 4 [some (vR 2 0), some (vI v1), some (vI v2)] [] w) {w : AW} (hf : mX4_howManyHeaps_27 k4 v1 v2 w = some (zv, zw)) : RR false KX4_howManyHeaps (some (vI zv), zw) 27 [some (vR 2 0), some (vI v1), some (vI v2)] [] w := by
  refine g_iinc (fun v2_1 => [some (vR 2 0), some (vI v1), some (vI v2_1)]) dX4_howManyHeaps_27 ic_1 rfl rfl (fun _ => rfl) (Nat.le_of_ble_eq_true rfl) hf (fun v2_1 hf => ?_)
  refine r_goto (tgt := 4) dX4_howManyHeaps_30 rfl ?_
  exact hk4 _ _ _ hf
set_option maxRecDepth 100000 in
set_option maxHeartbeats 4000000 in
theorem ok_mX4_howManyHeaps_4 {zv : Int32} {zw : AW} : ∀ (n : Nat) (v1 : Int32) (v2 : Int32) (w : AW), mX4_howManyHeaps_4 n v1 v2 w = some (zv, zw) → RR false KX4_howManyHeaps (some (vI zv), zw) 4 [some (vR 2 0), some (vI v1), some (vI v2)] [] w := by
  intro n
  induction n with
  | zero => intro v1 v2 w hf; cases hf
  | succ n ih =>
    intro v1 v2 w hf
    refine r_iload_n dX4_howManyHeaps_4 rfl rfl ?_
    refine r_aload_n dX4_howManyHeaps_5 rfl rfl ?_
    refine g_getI dX4_howManyHeaps_6 fl_RX4_24 fk_4_4 (cl_false_2) ?_
    refine g_icmp_ge (tgt := 33) dX4_howManyHeaps_9 rfl hf (fun _ hf => ?_) (fun _ hf => ?_)
    · refine r_iload_n dX4_howManyHeaps_33 rfl rfl ?_
      exact r_iret dX4_howManyHeaps_34 rfl (ret_I hf)
    · refine r_aload_n dX4_howManyHeaps_12 rfl rfl ?_
      refine g_getA dX4_howManyHeaps_13 fl_RX4_18 fk_4_2 rfl (cl_false_2) ?_
      refine r_iload_n dX4_howManyHeaps_16 rfl rfl ?_
      obtain ⟨x_2, w_1, hc, hf⟩ := cl_some hf
      refine g_cN (st := []) KX5_at [vR 2 3, vI v2] dX4_howManyHeaps_17 e_RX4_53 mok_X5_at mw_X5_at ⟨Nat.le_of_ble_eq_true rfl, Nat.le_of_ble_eq_true rfl⟩ (met_X5_at (am_iaW aK_false_2_3) hc) rfl (Nat.le_of_ble_eq_true rfl) ?_
      clear hc
      refine r_iload_n dX4_howManyHeaps_20 rfl rfl ?_
      refine g_icmp_ne (tgt := 27) dX4_howManyHeaps_21 rfl hf (fun _ hf => ?_) (fun _ hf => ?_)
      · exact ok_mX4_howManyHeaps_27 (fun v1 v2 w hf => ih v1 v2 w hf) hf
      · refine g_iinc (fun v1_3 => [some (vR 2 0), some (vI v1_3), some (vI v2)]) dX4_howManyHeaps_24 ic_1 rfl rfl (fun _ => rfl) (Nat.le_of_ble_eq_true rfl) hf (fun v1_3 hf => ?_)
        exact ok_mX4_howManyHeaps_27 (fun v1 v2 w hf => ih v1 v2 w hf) hf
set_option maxRecDepth 100000 in
set_option maxHeartbeats 4000000 in
theorem ok_mX4_howManyHeaps {zv : Int32} {zw : AW} {w : AW} (hf : mX4_howManyHeaps w = some (zv, zw)) : RR false KX4_howManyHeaps (some (vI zv), zw) 0 [some (vR 2 0), none, none] [] w := by
  refine r_iconst dX4_howManyHeaps_0 ic_0 ?_
  refine r_istore_n (ls2 := [some (vR 2 0), some (vI 0), none]) dX4_howManyHeaps_1 rfl rfl rfl (Nat.le_of_ble_eq_true rfl) ?_
  refine r_iconst dX4_howManyHeaps_2 ic_0 ?_
  refine r_istore_n (ls2 := [some (vR 2 0), some (vI 0), some (vI 0)]) dX4_howManyHeaps_3 rfl rfl rfl (Nat.le_of_ble_eq_true rfl) ?_
  exact ok_mX4_howManyHeaps_4 FU _ _ _ hf
theorem met_X4_howManyHeaps {zv : Int32} {zw : AW} {w : AW} (hf : mX4_howManyHeaps w = some (zv, zw)) : am_Met false KX4_howManyHeaps [vR 2 0] w (some (vI zv), zw) := am_met mok_X4_howManyHeaps.1 (Nat.le_of_ble_eq_true rfl) (ok_mX4_howManyHeaps  hf)

/-! SeenWorlds.worlds(I)I -/
noncomputable def mX5_worlds (v1 : Int32) (w : AW) : Option (Int32 × AW) :=
  if v1 < 1 then
    some ((-1), w)
  else
    if v1 ≤ 8 then
      cl (mX0_size w) fun x_2 w_1 =>
      cl (mX0_begin v1 w_1) fun x_4 w_3 =>
      some (x_2, w_3)
    else
      some ((-1), w)
set_option maxRecDepth 100000 in
set_option maxHeartbeats 4000000 in
theorem ok_mX5_worlds {zv : Int32} {zw : AW} {v1 : Int32} {w : AW} (hf : mX5_worlds v1 w = some (zv, zw)) : RR false KX5_worlds (some (vI zv), zw) 0 [some (vR 0 0), some (vI v1), none] [] w := by
  refine r_iload_n dX5_worlds_0 rfl rfl ?_
  refine r_iconst dX5_worlds_1 ic_1 ?_
  refine g_icmp_lt (tgt := 11) dX5_worlds_2 rfl hf (fun _ hf => ?_) (fun _ hf => ?_)
  · refine r_iconst dX5_worlds_11 ic_m1 ?_
    exact r_iret dX5_worlds_12 rfl (ret_I hf)
  · refine r_iload_n dX5_worlds_5 rfl rfl ?_
    refine r_bipush dX5_worlds_6 (bp_8) ?_
    refine g_icmp_le (tgt := 13) dX5_worlds_8 rfl hf (fun _ hf => ?_) (fun _ hf => ?_)
    · refine r_aload_n dX5_worlds_13 rfl rfl ?_
      refine r_getO dX5_worlds_14 fl_RX5_12 fk_5_0 (cl_false_0) ?_
      obtain ⟨x_2, w_1, hc, hf⟩ := cl_some hf
      refine g_cV (st := []) KX0_size [] dX5_worlds_17 e_RX5_68 (cl_false_1) (rfl : vwCl[0]? = _) rfl mok_X0_size mw_X0_size ⟨Nat.le_of_ble_eq_true rfl, Nat.le_of_ble_eq_true rfl⟩ (met_X0_size hc) rfl (Nat.le_of_ble_eq_true rfl) ?_
      clear hc
      refine r_istore_n (ls2 := [some (vR 0 0), some (vI v1), some (vI x_2)]) dX5_worlds_20 rfl rfl rfl (Nat.le_of_ble_eq_true rfl) ?_
      refine r_aload_n dX5_worlds_21 rfl rfl ?_
      refine r_getO dX5_worlds_22 fl_RX5_12 fk_5_0 (cl_false_0) ?_
      refine r_iload_n dX5_worlds_25 rfl rfl ?_
      obtain ⟨x_4, w_3, hc, hf⟩ := cl_some hf
      refine g_cVv (st := []) KX0_begin [vI v1] dX5_worlds_26 e_RX5_72 (cl_false_1) (rfl : vwCl[0]? = _) rfl mok_X0_begin mw_X0_begin ⟨Nat.le_of_ble_eq_true rfl, Nat.le_of_ble_eq_true rfl⟩ (met_X0_begin hc) rfl (Nat.le_of_ble_eq_true rfl) ?_
      clear hc
      refine r_iload_n dX5_worlds_29 rfl rfl ?_
      exact r_iret dX5_worlds_30 rfl (ret_I hf)
    · refine r_iconst dX5_worlds_11 ic_m1 ?_
      exact r_iret dX5_worlds_12 rfl (ret_I hf)
theorem met_X5_worlds {zv : Int32} {zw : AW} {v1 : Int32} {w : AW} (hf : mX5_worlds v1 w = some (zv, zw)) : am_Met false KX5_worlds [vR 0 0, vI v1] w (some (vI zv), zw) := am_met mok_X5_worlds.1 (Nat.le_of_ble_eq_true rfl) (ok_mX5_worlds  hf)
