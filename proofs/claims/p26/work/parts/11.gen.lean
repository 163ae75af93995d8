/-! SeenWorldsModel.tells(Z)Z -/
noncomputable def mX6_tells_166 (k31 : Int32 → AW → Option (Int32 × AW)) (k41 : Int32 → AW → Option (Int32 × AW)) (k119 : Int32 → AW → Option (Int32 × AW)) (v1 : Int32) (v2 : Int32) (v3 : Int32) (v6 : Int32) (s0 : Int32) (s1 : Int32) (w : AW) : Option (Int32 × AW) :=
  wr 90 w 0 35 s1 s0 fun w_1 =>
  nm (v6 + 1) fun v6_2 =>
  k119 v6_2 w_1
noncomputable def mX6_tells_225 (k31 : Int32 → AW → Option (Int32 × AW)) (k41 : Int32 → AW → Option (Int32 × AW)) (v1 : Int32) (v2 : Int32) (v3 : Int32) (w : AW) : Option (Int32 × AW) :=
  nm (v3 + 1) fun v3_1 =>
  k41 v3_1 w
noncomputable def mX6_tells_173 (k31 : Int32 → AW → Option (Int32 × AW)) (k41 : Int32 → AW → Option (Int32 × AW)) (v1 : Int32) (v2 : Int32) (v3 : Int32) (w : AW) : Option (Int32 × AW) :=
  rd 90 (w.1 0 35) v3 fun x_1 =>
  if x_1 ≠ (-9) then
    mX6_tells_225 k31 k41 v1 v2 v3 w
  else
    if (w.1 0 0 35) ≠ 10 then
      wr 90 w 0 35 v3 (w.1 0 0 35) fun w_2 =>
      wr 10 w_2 0 37 (w_2.1 0 0 35) v3 fun w_3 =>
      pu w_3 0 35 ((w_3.1 0 0 35) + 1) fun w_4 =>
      mX6_tells_225 k31 k41 v1 v2 v3 w_4
    else
      some (0, w)
noncomputable def mX6_tells_119 (k31 : Int32 → AW → Option (Int32 × AW)) (k41 : Int32 → AW → Option (Int32 × AW)) (v1 : Int32) (v2 : Int32) (v3 : Int32) : Nat → Int32 → AW → Option (Int32 × AW)
  | 0, _, _ => none
  | n + 1, v6, w =>
    if (w.1 0 0 35) ≤ v6 then
      mX6_tells_173 k31 k41 v1 v2 v3 w
    else
      rd 90 (w.1 0 35) v3 fun x_1 =>
      if x_1 ≠ (-9) then
        mX6_tells_173 k31 k41 v1 v2 v3 w
      else
        rd 10 (w.1 0 37) v6 fun x_2 =>
        cl (mX6_isLike x_2 v3 w) fun x_4 w_3 =>
        if x_4 = 0 then
          mX6_tells_166 k31 k41 (mX6_tells_119 k31 k41 v1 v2 v3 n) v1 v2 v3 v6 (-9) v3 w_3
        else
          mX6_tells_166 k31 k41 (mX6_tells_119 k31 k41 v1 v2 v3 n) v1 v2 v3 v6 v6 v3 w_3
noncomputable def mX6_tells_99 (k31 : Int32 → AW → Option (Int32 × AW)) (k41 : Int32 → AW → Option (Int32 × AW)) (v1 : Int32) (v2 : Int32) (v3 : Int32) (s0 : Int32) (w : AW) : Option (Int32 × AW) :=
  if s0 = 0 then
    mX6_tells_225 k31 k41 v1 v2 v3 w
  else
    rd 90 (w.1 0 33) v3 fun x_1 =>
    if x_1 ≠ v2 then
      mX6_tells_225 k31 k41 v1 v2 v3 w
    else
      mX6_tells_119 k31 k41 v1 v2 v3 FU 0 w
noncomputable def mX6_tells_94 (k31 : Int32 → AW → Option (Int32 × AW)) (k41 : Int32 → AW → Option (Int32 × AW)) (v1 : Int32) (v2 : Int32) (v3 : Int32) (w : AW) : Option (Int32 × AW) :=
  mX6_tells_99 k31 k41 v1 v2 v3 1 w
noncomputable def mX6_tells_98 (k31 : Int32 → AW → Option (Int32 × AW)) (k41 : Int32 → AW → Option (Int32 × AW)) (v1 : Int32) (v2 : Int32) (v3 : Int32) (w : AW) : Option (Int32 × AW) :=
  mX6_tells_99 k31 k41 v1 v2 v3 0 w
noncomputable def mX6_tells_41 (k31 : Int32 → AW → Option (Int32 × AW)) (v1 : Int32) (v2 : Int32) : Nat → Int32 → AW → Option (Int32 × AW)
  | 0, _, _ => none
  | n + 1, v3, w =>
    if (w.1 0 0 26) ≤ v3 then
      nm (v2 + 1) fun v2_1 =>
      k31 v2_1 w
    else
      rd 90 (w.1 0 30) v3 fun x_2 =>
      cl (mX6_isAtom x_2 w) fun x_4 w_3 =>
      if x_4 ≠ 0 then
        mX6_tells_94 k31 (mX6_tells_41 k31 v1 v2 n) v1 v2 v3 w_3
      else
        if v1 = 0 then
          cl (mX6_isModal v3 w_3) fun x_6 w_5 =>
          if x_6 = 0 then
            mX6_tells_98 k31 (mX6_tells_41 k31 v1 v2 n) v1 v2 v3 w_5
          else
            mX6_tells_94 k31 (mX6_tells_41 k31 v1 v2 n) v1 v2 v3 w_5
        else
          if x_2 = 62 then
            mX6_tells_94 k31 (mX6_tells_41 k31 v1 v2 n) v1 v2 v3 w_3
          else
            if x_2 ≠ 33 then
              mX6_tells_98 k31 (mX6_tells_41 k31 v1 v2 n) v1 v2 v3 w_3
            else
              mX6_tells_94 k31 (mX6_tells_41 k31 v1 v2 n) v1 v2 v3 w_3
noncomputable def mX6_tells_31 (v1 : Int32) : Nat → Int32 → AW → Option (Int32 × AW)
  | 0, _, _ => none
  | n + 1, v2, w =>
    if (w.1 0 0 27) ≤ v2 then
      some (1, w)
    else
      mX6_tells_41 (mX6_tells_31 v1 n) v1 v2 FU 0 w
noncomputable def mX6_tells_7 (v1 : Int32) : Nat → Int32 → AW → Option (Int32 × AW)
  | 0, _, _ => none
  | n + 1, v2, w =>
    if (w.1 0 0 26) ≤ v2 then
      mX6_tells_31 v1 FU 0 w
    else
      wr 90 w 0 35 v2 (-9) fun w_1 =>
      nm (v2 + 1) fun v2_2 =>
      mX6_tells_7 v1 n v2_2 w_1
noncomputable def mX6_tells (v1 : Int32) (w : AW) : Option (Int32 × AW) :=
  pu w 0 35 0 fun w_1 =>
  mX6_tells_7 v1 FU 0 w_1
set_option maxRecDepth 100000 in
set_option maxHeartbeats 4000000 in
theorem ok_mX6_tells_166 {zv : Int32} {zw : AW} {k31 : Int32 → AW → Option (Int32 × AW)} {k41 : Int32 → AW → Option (Int32 × AW)} {k119 : Int32 → AW → Option (Int32 × AW)} {v1 : Int32} {v2 : Int32} {v3 : Int32} {v6 : Int32} {s0 : Int32} {s1 : Int32} (hk31 : ∀ (v2 : Int32)  w, k31 v2 w = some (zv, zw) → RR true KX6_tells (some (vI zv), zw) 31 [some (vR 0 0), some (vI v1), some (vI v2), none, none, none, none] [] w) (hk41 : ∀ (v3 : Int32)  w, k41 v3 w = some (zv, zw) → RR true KX6_tells (some (vI zv), zw) 41 [some (vR 0 0), some (vI v1), some (vI v2), some (vI v3), none, none, none] [] w) (hk119 : ∀ (v6 : Int32)  w, k119 v6 w = some (zv, zw) → RR true KX6_tells (some (vI zv), zw) 119 [some (vR 0 0), some (vI v1), some (vI v2), some (vI v3), none, none, some (vI v6)] [] w) {w : AW} (hf : mX6_tells_166 k31 k41 k119 v1 v2 v3 v6 s0 s1 w = some (zv, zw)) : RR true KX6_tells (some (vI zv), zw) 166 [some (vR 0 0), some (vI v1), some (vI v2), some (vI v3), none, none, some (vI v6)] [vI s0, vI s1, vR 0 35] w := by
  refine g_iast dX6_tells_166 aK_true_0_35 aL_true_0_35 hf (fun w_1 hf => ?_)
  refine g_iinc (fun v6_2 => [some (vR 0 0), some (vI v1), some (vI v2), some (vI v3), none, none, some (vI v6_2)]) dX6_tells_167 ic_1 rfl rfl (fun _ => rfl) (Nat.le_of_ble_eq_true rfl) hf (fun v6_2 hf => ?_)
  refine r_goto (tgt := 119) dX6_tells_170 rfl ?_
  exact hk119 _ _ hf
set_option maxRecDepth 100000 in
set_option maxHeartbeats 4000000 in
theorem ok_mX6_tells_225 {zv : Int32} {zw : AW} {k31 : Int32 → AW → Option (Int32 × AW)} {k41 : Int32 → AW → Option (Int32 × AW)} {v1 : Int32} {v2 : Int32} {v3 : Int32} (hk31 : ∀ (v2 : Int32)  w, k31 v2 w = some (zv, zw) → RR true KX6_tells (some (vI zv), zw) 31 [some (vR 0 0), some (vI v1), some (vI v2), none, none, none, none] [] w) (hk41 : ∀ (v3 : Int32)  w, k41 v3 w = some (zv, zw) → RR true KX6_tells (some (vI zv), zw) 41 [some (vR 0 0), some (vI v1), some (vI v2), some (vI v3), none, none, none] [] w) {w : AW} (hf : mX6_tells_225 k31 k41 v1 v2 v3 w = some (zv, zw)) : RR true KX6_tells (some (vI zv), zw) 225 [some (vR 0 0), some (vI v1), some (vI v2), some (vI v3), none, none, none] [] w := by
  refine g_iinc (fun v3_1 => [some (vR 0 0), some (vI v1), some (vI v2), some (vI v3_1), none, none, none]) dX6_tells_225 ic_1 rfl rfl (fun _ => rfl) (Nat.le_of_ble_eq_true rfl) hf (fun v3_1 hf => ?_)
  refine r_goto (tgt := 41) dX6_tells_228 rfl ?_
  exact hk41 _ _ hf
set_option maxRecDepth 100000 in
set_option maxHeartbeats 4000000 in
theorem ok_mX6_tells_173 {zv : Int32} {zw : AW} {k31 : Int32 → AW → Option (Int32 × AW)} {k41 : Int32 → AW → Option (Int32 × AW)} {v1 : Int32} {v2 : Int32} {v3 : Int32} (hk31 : ∀ (v2 : Int32)  w, k31 v2 w = some (zv, zw) → RR true KX6_tells (some (vI zv), zw) 31 [some (vR 0 0), some (vI v1), some (vI v2), none, none, none, none] [] w) (hk41 : ∀ (v3 : Int32)  w, k41 v3 w = some (zv, zw) → RR true KX6_tells (some (vI zv), zw) 41 [some (vR 0 0), some (vI v1), some (vI v2), some (vI v3), none, none, none] [] w) {w : AW} (hf : mX6_tells_173 k31 k41 v1 v2 v3 w = some (zv, zw)) : RR true KX6_tells (some (vI zv), zw) 173 [some (vR 0 0), some (vI v1), some (vI v2), some (vI v3), none, none, none] [] w := by
  refine r_aload_n dX6_tells_173 rfl rfl ?_
  refine g_getA dX6_tells_174 fl_RX6_92 fk_6_34 rfl (cl_true_0) ?_
  refine r_iload_n dX6_tells_177 rfl rfl ?_
  refine g_iald dX6_tells_178 aK_true_0_35 aL_true_0_35 hf (fun x_1 hf => ?_)
  refine r_bipush dX6_tells_179 (bp_m9) ?_
  refine g_icmp_ne (tgt := 225) dX6_tells_181 rfl hf (fun _ hf => ?_) (fun _ hf => ?_)
  · exact ok_mX6_tells_225 hk31 hk41 hf
  · refine r_aload_n dX6_tells_184 rfl rfl ?_
    refine g_getI dX6_tells_185 fl_RX6_240 fk_6_35 (cl_true_0) ?_
    refine r_bipush dX6_tells_188 (bp_10) ?_
    refine g_icmp_ne (tgt := 195) dX6_tells_190 rfl hf (fun _ hf => ?_) (fun _ hf => ?_)
    · refine r_aload_n dX6_tells_195 rfl rfl ?_
      refine g_getA dX6_tells_196 fl_RX6_92 fk_6_34 rfl (cl_true_0) ?_
      refine r_iload_n dX6_tells_199 rfl rfl ?_
      refine r_aload_n dX6_tells_200 rfl rfl ?_
      refine g_getI dX6_tells_201 fl_RX6_240 fk_6_35 (cl_true_0) ?_
      refine g_iast dX6_tells_204 aK_true_0_35 aL_true_0_35 hf (fun w_2 hf => ?_)
      refine r_aload_n dX6_tells_205 rfl rfl ?_
      refine g_getA dX6_tells_206 fl_RX6_95 fk_6_36 rfl (cl_true_0) ?_
      refine r_aload_n dX6_tells_209 rfl rfl ?_
      refine g_getI dX6_tells_210 fl_RX6_240 fk_6_35 (cl_true_0) ?_
      refine r_iload_n dX6_tells_213 rfl rfl ?_
      refine g_iast dX6_tells_214 aK_true_0_37 aL_true_0_37 hf (fun w_3 hf => ?_)
      refine r_aload_n dX6_tells_215 rfl rfl ?_
      refine r_dup dX6_tells_216 rfl ?_
      refine g_getI dX6_tells_217 fl_RX6_240 fk_6_35 (cl_true_0) ?_
      refine r_iconst dX6_tells_220 ic_1 ?_
      refine r_iadd dX6_tells_221 ?_
      refine g_putI dX6_tells_222 fl_RX6_240 fk_6_35 (cl_true_0) hf (fun w_4 hf => ?_)
      exact ok_mX6_tells_225 hk31 hk41 hf
    · refine r_iconst dX6_tells_193 ic_0 ?_
      exact r_zret dX6_tells_194 rfl nar_0 (ret_I hf)
set_option maxRecDepth 100000 in
set_option maxHeartbeats 4000000 in
theorem ok_mX6_tells_119 {zv : Int32} {zw : AW} {k31 : Int32 → AW → Option (Int32 × AW)} {k41 : Int32 → AW → Option (Int32 × AW)} {v1 : Int32} {v2 : Int32} {v3 : Int32} (hk31 : ∀ (v2 : Int32)  w, k31 v2 w = some (zv, zw) → RR true KX6_tells (some (vI zv), zw) 31 [some (vR 0 0), some (vI v1), some (vI v2), none, none, none, none] [] w) (hk41 : ∀ (v3 : Int32)  w, k41 v3 w = some (zv, zw) → RR true KX6_tells (some (vI zv), zw) 41 [some (vR 0 0), some (vI v1), some (vI v2), some (vI v3), none, none, none] [] w) : ∀ (n : Nat) (v6 : Int32) (w : AW), mX6_tells_119 k31 k41 v1 v2 v3 n v6 w = some (zv, zw) → RR true KX6_tells (some (vI zv), zw) 119 [some (vR 0 0), some (vI v1), some (vI v2), some (vI v3), none, none, some (vI v6)] [] w := by
  intro n
  induction n with
  | zero => intro v6 w hf; cases hf
  | succ n ih =>
    intro v6 w hf
    refine r_iload dX6_tells_119 rfl ?_
    refine r_aload_n dX6_tells_121 rfl rfl ?_
    refine g_getI dX6_tells_122 fl_RX6_240 fk_6_35 (cl_true_0) ?_
    refine g_icmp_ge (tgt := 173) dX6_tells_125 rfl hf (fun _ hf => ?_) (fun _ hf => ?_)
    · refine r_mask (bs := [true, true, true, true, false, false, false]) ?_
      exact ok_mX6_tells_173 hk31 hk41 hf
    · refine r_aload_n dX6_tells_128 rfl rfl ?_
      refine g_getA dX6_tells_129 fl_RX6_92 fk_6_34 rfl (cl_true_0) ?_
      refine r_iload_n dX6_tells_132 rfl rfl ?_
      refine g_iald dX6_tells_133 aK_true_0_35 aL_true_0_35 hf (fun x_1 hf => ?_)
      refine r_bipush dX6_tells_134 (bp_m9) ?_
      refine g_icmp_ne (tgt := 173) dX6_tells_136 rfl hf (fun _ hf => ?_) (fun _ hf => ?_)
      · refine r_mask (bs := [true, true, true, true, false, false, false]) ?_
        exact ok_mX6_tells_173 hk31 hk41 hf
      · refine r_aload_n dX6_tells_139 rfl rfl ?_
        refine g_getA dX6_tells_140 fl_RX6_92 fk_6_34 rfl (cl_true_0) ?_
        refine r_iload_n dX6_tells_143 rfl rfl ?_
        refine r_aload_n dX6_tells_144 rfl rfl ?_
        refine r_aload_n dX6_tells_145 rfl rfl ?_
        refine g_getA dX6_tells_146 fl_RX6_95 fk_6_36 rfl (cl_true_0) ?_
        refine r_iload dX6_tells_149 rfl ?_
        refine g_iald dX6_tells_151 aK_true_0_37 aL_true_0_37 hf (fun x_2 hf => ?_)
        refine r_iload_n dX6_tells_152 rfl rfl ?_
        obtain ⟨x_4, w_3, hc, hf⟩ := cl_some hf
        refine g_cV (st := [vI v3, vR 0 35]) KX6_isLike [vI x_2, vI v3] dX6_tells_153 e_RX6_227 (cl_true_0) (rfl : vwCl[6]? = _) rfl mok_X6_isLike mw_X6_isLike ⟨Nat.le_of_ble_eq_true rfl, Nat.le_of_ble_eq_true rfl⟩ (met_X6_isLike hc) rfl (Nat.le_of_ble_eq_true rfl) ?_
        clear hc
        refine g_if_eq (tgt := 164) dX6_tells_156 rfl hf (fun _ hf => ?_) (fun _ hf => ?_)
        · refine r_bipush dX6_tells_164 (bp_m9) ?_
          exact ok_mX6_tells_166 hk31 hk41 (fun v6 w hf => ih v6 w hf) hf
        · refine r_iload dX6_tells_159 rfl ?_
          refine r_goto (tgt := 166) dX6_tells_161 rfl ?_
          exact ok_mX6_tells_166 hk31 hk41 (fun v6 w hf => ih v6 w hf) hf
set_option maxRecDepth 100000 in
set_option maxHeartbeats 4000000 in
theorem ok_mX6_tells_99 {zv : Int32} {zw : AW} {k31 : Int32 → AW → Option (Int32 × AW)} {k41 : Int32 → AW → Option (Int32 × AW)} {v1 : Int32} {v2 : Int32} {v3 : Int32} {s0 : Int32} (hk31 : ∀ (v2 : Int32)  w, k31 v2 w = some (zv, zw) → RR true KX6_tells (some (vI zv), zw) 31 [some (vR 0 0), some (vI v1), some (vI v2), none, none, none, none] [] w) (hk41 : ∀ (v3 : Int32)  w, k41 v3 w = some (zv, zw) → RR true KX6_tells (some (vI zv), zw) 41 [some (vR 0 0), some (vI v1), some (vI v2), some (vI v3), none, none, none] [] w) {w : AW} (hf : mX6_tells_99 k31 k41 v1 v2 v3 s0 w = some (zv, zw)) : RR true KX6_tells (some (vI zv), zw) 99 [some (vR 0 0), some (vI v1), some (vI v2), some (vI v3), none, none, none] [vI s0] w := by
  refine r_istore (ls2 := [some (vR 0 0), some (vI v1), some (vI v2), some (vI v3), none, some (vI s0), none]) dX6_tells_99 rfl rfl (Nat.le_of_ble_eq_true rfl) ?_
  refine r_iload dX6_tells_101 rfl ?_
  refine g_if_eq (tgt := 225) dX6_tells_103 rfl hf (fun _ hf => ?_) (fun _ hf => ?_)
  · refine r_mask (bs := [true, true, true, true, false, false, false]) ?_
    exact ok_mX6_tells_225 hk31 hk41 hf
  · refine r_aload_n dX6_tells_106 rfl rfl ?_
    refine g_getA dX6_tells_107 fl_RX6_86 fk_6_32 rfl (cl_true_0) ?_
    refine r_iload_n dX6_tells_110 rfl rfl ?_
    refine g_iald dX6_tells_111 aK_true_0_33 aL_true_0_33 hf (fun x_1 hf => ?_)
    refine r_iload_n dX6_tells_112 rfl rfl ?_
    refine g_icmp_ne (tgt := 225) dX6_tells_113 rfl hf (fun _ hf => ?_) (fun _ hf => ?_)
    · refine r_mask (bs := [true, true, true, true, false, false, false]) ?_
      exact ok_mX6_tells_225 hk31 hk41 hf
    · refine r_iconst dX6_tells_116 ic_0 ?_
      refine r_istore (ls2 := [some (vR 0 0), some (vI v1), some (vI v2), some (vI v3), none, some (vI s0), some (vI 0)]) dX6_tells_117 rfl rfl (Nat.le_of_ble_eq_true rfl) ?_
      refine r_mask (bs := [true, true, true, true, false, false, true]) ?_
      exact ok_mX6_tells_119 hk31 hk41 FU _ _ hf
set_option maxRecDepth 100000 in
set_option maxHeartbeats 4000000 in
theorem ok_mX6_tells_94 {zv : Int32} {zw : AW} {k31 : Int32 → AW → Option (Int32 × AW)} {k41 : Int32 → AW → Option (Int32 × AW)} {v1 : Int32} {v2 : Int32} {v3 : Int32} (hk31 : ∀ (v2 : Int32)  w, k31 v2 w = some (zv, zw) → RR true KX6_tells (some (vI zv), zw) 31 [some (vR 0 0), some (vI v1), some (vI v2), none, none, none, none] [] w) (hk41 : ∀ (v3 : Int32)  w, k41 v3 w = some (zv, zw) → RR true KX6_tells (some (vI zv), zw) 41 [some (vR 0 0), some (vI v1), some (vI v2), some (vI v3), none, none, none] [] w) {w : AW} (hf : mX6_tells_94 k31 k41 v1 v2 v3 w = some (zv, zw)) : RR true KX6_tells (some (vI zv), zw) 94 [some (vR 0 0), some (vI v1), some (vI v2), some (vI v3), none, none, none] [] w := by
  refine r_iconst dX6_tells_94 ic_1 ?_
  refine r_goto (tgt := 99) dX6_tells_95 rfl ?_
  exact ok_mX6_tells_99 hk31 hk41 hf
set_option maxRecDepth 100000 in
set_option maxHeartbeats 4000000 in
theorem ok_mX6_tells_98 {zv : Int32} {zw : AW} {k31 : Int32 → AW → Option (Int32 × AW)} {k41 : Int32 → AW → Option (Int32 × AW)} {v1 : Int32} {v2 : Int32} {v3 : Int32} (hk31 : ∀ (v2 : Int32)  w, k31 v2 w = some (zv, zw) → RR true KX6_tells (some (vI zv), zw) 31 [some (vR 0 0), some (vI v1), some (vI v2), none, none, none, none] [] w) (hk41 : ∀ (v3 : Int32)  w, k41 v3 w = some (zv, zw) → RR true KX6_tells (some (vI zv), zw) 41 [some (vR 0 0), some (vI v1), some (vI v2), some (vI v3), none, none, none] [] w) {w : AW} (hf : mX6_tells_98 k31 k41 v1 v2 v3 w = some (zv, zw)) : RR true KX6_tells (some (vI zv), zw) 98 [some (vR 0 0), some (vI v1), some (vI v2), some (vI v3), none, none, none] [] w := by
  refine r_iconst dX6_tells_98 ic_0 ?_
  exact ok_mX6_tells_99 hk31 hk41 hf
set_option maxRecDepth 100000 in
set_option maxHeartbeats 4000000 in
theorem ok_mX6_tells_41 {zv : Int32} {zw : AW} {k31 : Int32 → AW → Option (Int32 × AW)} {v1 : Int32} {v2 : Int32} (hk31 : ∀ (v2 : Int32)  w, k31 v2 w = some (zv, zw) → RR true KX6_tells (some (vI zv), zw) 31 [some (vR 0 0), some (vI v1), some (vI v2), none, none, none, none] [] w) : ∀ (n : Nat) (v3 : Int32) (w : AW), mX6_tells_41 k31 v1 v2 n v3 w = some (zv, zw) → RR true KX6_tells (some (vI zv), zw) 41 [some (vR 0 0), some (vI v1), some (vI v2), some (vI v3), none, none, none] [] w := by
  intro n
  induction n with
  | zero => intro v3 w hf; cases hf
  | succ n ih =>
    intro v3 w hf
    refine r_iload_n dX6_tells_41 rfl rfl ?_
    refine r_aload_n dX6_tells_42 rfl rfl ?_
    refine g_getI dX6_tells_43 fl_RX6_202 fk_6_26 (cl_true_0) ?_
    refine g_icmp_ge (tgt := 231) dX6_tells_46 rfl hf (fun _ hf => ?_) (fun _ hf => ?_)
    · refine g_iinc (fun v2_1 => [some (vR 0 0), some (vI v1), some (vI v2_1), some (vI v3), none, none, none]) dX6_tells_231 ic_1 rfl rfl (fun _ => rfl) (Nat.le_of_ble_eq_true rfl) hf (fun v2_1 hf => ?_)
      refine r_goto (tgt := 31) dX6_tells_234 rfl ?_
      refine r_mask (bs := [true, true, true, false, false, false, false]) ?_
      exact hk31 _ _ hf
    · refine r_aload_n dX6_tells_49 rfl rfl ?_
      refine g_getA dX6_tells_50 fl_RX6_77 fk_6_29 rfl (cl_true_0) ?_
      refine r_iload_n dX6_tells_53 rfl rfl ?_
      refine g_iald dX6_tells_54 aK_true_0_30 aL_true_0_30 hf (fun x_2 hf => ?_)
      refine r_istore (ls2 := [some (vR 0 0), some (vI v1), some (vI v2), some (vI v3), some (vI x_2), none, none]) dX6_tells_55 rfl rfl (Nat.le_of_ble_eq_true rfl) ?_
      refine r_iload dX6_tells_57 rfl ?_
      obtain ⟨x_4, w_3, hc, hf⟩ := cl_some hf
      refine g_cS (st := []) KX6_isAtom [vI x_2] dX6_tells_59 e_RX6_185 mok_X6_isAtom mw_X6_isAtom ⟨Nat.le_of_ble_eq_true rfl, Nat.le_of_ble_eq_true rfl⟩ (met_X6_isAtom hc) rfl (Nat.le_of_ble_eq_true rfl) ?_
      clear hc
      refine g_if_ne (tgt := 94) dX6_tells_62 rfl hf (fun _ hf => ?_) (fun _ hf => ?_)
      · refine r_mask (bs := [true, true, true, true, false, false, false]) ?_
        exact ok_mX6_tells_94 hk31 (fun v3 w hf => ih v3 w hf) hf
      · refine r_iload_n dX6_tells_65 rfl rfl ?_
        refine g_if_eq (tgt := 86) dX6_tells_66 rfl hf (fun _ hf => ?_) (fun _ hf => ?_)
        · refine r_aload_n dX6_tells_86 rfl rfl ?_
          refine r_iload_n dX6_tells_87 rfl rfl ?_
          obtain ⟨x_6, w_5, hc, hf⟩ := cl_some hf
          refine g_cV (st := []) KX6_isModal [vI v3] dX6_tells_88 e_RX6_212 (cl_true_0) (rfl : vwCl[6]? = _) rfl mok_X6_isModal mw_X6_isModal ⟨Nat.le_of_ble_eq_true rfl, Nat.le_of_ble_eq_true rfl⟩ (met_X6_isModal hc) rfl (Nat.le_of_ble_eq_true rfl) ?_
          clear hc
          refine g_if_eq (tgt := 98) dX6_tells_91 rfl hf (fun _ hf => ?_) (fun _ hf => ?_)
          · refine r_mask (bs := [true, true, true, true, false, false, false]) ?_
            exact ok_mX6_tells_98 hk31 (fun v3 w hf => ih v3 w hf) hf
          · refine r_mask (bs := [true, true, true, true, false, false, false]) ?_
            exact ok_mX6_tells_94 hk31 (fun v3 w hf => ih v3 w hf) hf
        · refine r_iload dX6_tells_69 rfl ?_
          refine r_bipush dX6_tells_71 (bp_62) ?_
          refine g_icmp_eq (tgt := 94) dX6_tells_73 rfl hf (fun _ hf => ?_) (fun _ hf => ?_)
          · refine r_mask (bs := [true, true, true, true, false, false, false]) ?_
            exact ok_mX6_tells_94 hk31 (fun v3 w hf => ih v3 w hf) hf
          · refine r_iload dX6_tells_76 rfl ?_
            refine r_bipush dX6_tells_78 (bp_33) ?_
            refine g_icmp_ne (tgt := 98) dX6_tells_80 rfl hf (fun _ hf => ?_) (fun _ hf => ?_)
            · refine r_mask (bs := [true, true, true, true, false, false, false]) ?_
              exact ok_mX6_tells_98 hk31 (fun v3 w hf => ih v3 w hf) hf
            · refine r_goto (tgt := 94) dX6_tells_83 rfl ?_
              refine r_mask (bs := [true, true, true, true, false, false, false]) ?_
              exact ok_mX6_tells_94 hk31 (fun v3 w hf => ih v3 w hf) hf
set_option maxRecDepth 100000 in
set_option maxHeartbeats 4000000 in
theorem ok_mX6_tells_31 {zv : Int32} {zw : AW} {v1 : Int32} : ∀ (n : Nat) (v2 : Int32) (w : AW), mX6_tells_31 v1 n v2 w = some (zv, zw) → RR true KX6_tells (some (vI zv), zw) 31 [some (vR 0 0), some (vI v1), some (vI v2), none, none, none, none] [] w := by
  intro n
  induction n with
  | zero => intro v2 w hf; cases hf
  | succ n ih =>
    intro v2 w hf
    refine r_iload_n dX6_tells_31 rfl rfl ?_
    refine r_aload_n dX6_tells_32 rfl rfl ?_
    refine g_getI dX6_tells_33 fl_RX6_205 fk_6_27 (cl_true_0) ?_
    refine g_icmp_ge (tgt := 237) dX6_tells_36 rfl hf (fun _ hf => ?_) (fun _ hf => ?_)
    · refine r_iconst dX6_tells_237 ic_1 ?_
      exact r_zret dX6_tells_238 rfl nar_1 (ret_I hf)
    · refine r_iconst dX6_tells_39 ic_0 ?_
      refine r_istore_n (ls2 := [some (vR 0 0), some (vI v1), some (vI v2), some (vI 0), none, none, none]) dX6_tells_40 rfl rfl rfl (Nat.le_of_ble_eq_true rfl) ?_
      exact ok_mX6_tells_41 (fun v2 w hf => ih v2 w hf) FU _ _ hf
set_option maxRecDepth 100000 in
set_option maxHeartbeats 4000000 in
theorem ok_mX6_tells_7 {zv : Int32} {zw : AW} {v1 : Int32} : ∀ (n : Nat) (v2 : Int32) (w : AW), mX6_tells_7 v1 n v2 w = some (zv, zw) → RR true KX6_tells (some (vI zv), zw) 7 [some (vR 0 0), some (vI v1), some (vI v2), none, none, none, none] [] w := by
  intro n
  induction n with
  | zero => intro v2 w hf; cases hf
  | succ n ih =>
    intro v2 w hf
    refine r_iload_n dX6_tells_7 rfl rfl ?_
    refine r_aload_n dX6_tells_8 rfl rfl ?_
    refine g_getI dX6_tells_9 fl_RX6_202 fk_6_26 (cl_true_0) ?_
    refine g_icmp_ge (tgt := 29) dX6_tells_12 rfl hf (fun _ hf => ?_) (fun _ hf => ?_)
    · refine r_iconst dX6_tells_29 ic_0 ?_
      refine r_istore_n (ls2 := [some (vR 0 0), some (vI v1), some (vI 0), none, none, none, none]) dX6_tells_30 rfl rfl rfl (Nat.le_of_ble_eq_true rfl) ?_
      exact ok_mX6_tells_31 FU _ _ hf
    · refine r_aload_n dX6_tells_15 rfl rfl ?_
      refine g_getA dX6_tells_16 fl_RX6_92 fk_6_34 rfl (cl_true_0) ?_
      refine r_iload_n dX6_tells_19 rfl rfl ?_
      refine r_bipush dX6_tells_20 (bp_m9) ?_
      refine g_iast dX6_tells_22 aK_true_0_35 aL_true_0_35 hf (fun w_1 hf => ?_)
      refine g_iinc (fun v2_2 => [some (vR 0 0), some (vI v1), some (vI v2_2), none, none, none, none]) dX6_tells_23 ic_1 rfl rfl (fun _ => rfl) (Nat.le_of_ble_eq_true rfl) hf (fun v2_2 hf => ?_)
      refine r_goto (tgt := 7) dX6_tells_26 rfl ?_
      exact ih _ _ hf
set_option maxRecDepth 100000 in
set_option maxHeartbeats 4000000 in
theorem ok_mX6_tells {zv : Int32} {zw : AW} {v1 : Int32} {w : AW} (hf : mX6_tells v1 w = some (zv, zw)) : RR true KX6_tells (some (vI zv), zw) 0 [some (vR 0 0), some (vI v1), none, none, none, none, none] [] w := by
  refine r_aload_n dX6_tells_0 rfl rfl ?_
  refine r_iconst dX6_tells_1 ic_0 ?_
  refine g_putI dX6_tells_2 fl_RX6_240 fk_6_35 (cl_true_0) hf (fun w_1 hf => ?_)
  refine r_iconst dX6_tells_5 ic_0 ?_
  refine r_istore_n (ls2 := [some (vR 0 0), some (vI v1), some (vI 0), none, none, none, none]) dX6_tells_6 rfl rfl rfl (Nat.le_of_ble_eq_true rfl) ?_
  exact ok_mX6_tells_7 FU _ _ hf
theorem met_X6_tells {zv : Int32} {zw : AW} {v1 : Int32} {w : AW} (hf : mX6_tells v1 w = some (zv, zw)) : am_Met true KX6_tells [vR 0 0, vI v1] w (some (vI zv), zw) := am_met mok_X6_tells.1 (Nat.le_of_ble_eq_true rfl) (ok_mX6_tells  hf)

/-! SeenWorldsModel.judges(I)V -/
noncomputable def mX6_judges_175 (k4 : Int32 → Int32 → AW → Option (Unit × AW)) (v1 : Int32) (v3 : Int32) (s0 : Int32) (w : AW) : Option (Unit × AW) :=
  wr 90 w 0 38 v3 s0 fun w_1 =>
  nm (v3 + 1) fun v3_2 =>
  k4 s0 v3_2 w_1
noncomputable def mX6_judges_76 (k4 : Int32 → Int32 → AW → Option (Unit × AW)) (v1 : Int32) (v3 : Int32) (v4 : Int32) (v5 : Int32) (s0 : Int32) (w : AW) : Option (Unit × AW) :=
  rd 90 (w.1 0 35) v3 fun x_1 =>
  if x_1 = (-9) then
    if v4 ≠ 84 then
      if v4 ≠ 70 then
        if v4 ≠ 33 then
          if v4 ≠ 38 then
            if v4 ≠ 124 then
              mX6_judges_175 k4 v1 v3 ((1 - v5) ||| s0) w
            else
              mX6_judges_175 k4 v1 v3 (v5 ||| s0) w
          else
            mX6_judges_175 k4 v1 v3 (v5 &&& s0) w
        else
          mX6_judges_175 k4 v1 v3 (1 - v5) w
      else
        mX6_judges_175 k4 v1 v3 0 w
    else
      mX6_judges_175 k4 v1 v3 1 w
  else
    rd 90 (w.1 0 35) v3 fun x_2 =>
    mX6_judges_175 k4 v1 v3 ((v1 >>> (x_2 &&& 31)) &&& 1) w
noncomputable def mX6_judges_51 (k4 : Int32 → Int32 → AW → Option (Unit × AW)) (v1 : Int32) (v3 : Int32) (v4 : Int32) (s0 : Int32) (w : AW) : Option (Unit × AW) :=
  cl (mX6_isJoin v4 w) fun x_2 w_1 =>
  if x_2 = 0 then
    mX6_judges_76 k4 v1 v3 v4 s0 0 w_1
  else
    rd 90 (w_1.1 0 32) v3 fun x_3 =>
    rd 90 (w_1.1 0 38) x_3 fun x_4 =>
    mX6_judges_76 k4 v1 v3 v4 s0 x_4 w_1
noncomputable def mX6_judges_36 (k4 : Int32 → Int32 → AW → Option (Unit × AW)) (v1 : Int32) (v3 : Int32) (v4 : Int32) (w : AW) : Option (Unit × AW) :=
  rd 90 (w.1 0 31) v3 fun x_1 =>
  rd 90 (w.1 0 38) x_1 fun x_2 =>
  mX6_judges_51 k4 v1 v3 v4 x_2 w
noncomputable def mX6_judges_204 (s0 : Int32) (s1 : Int32) (w : AW) : Option (Unit × AW) :=
  wr 1024 w 0 41 s1 (vp_nar .boolean s0) fun w_1 =>
  some ((), w_1)
noncomputable def mX6_judges_4 (v1 : Int32) : Nat → Int32 → Int32 → AW → Option (Unit × AW)
  | 0, _, _, _ => none
  | n + 1, v2, v3, w =>
    if (w.1 0 0 26) ≤ v3 then
      if v2 ≠ 1 then
        mX6_judges_204 0 v1 w
      else
        mX6_judges_204 1 v1 w
    else
      rd 90 (w.1 0 30) v3 fun x_1 =>
      cl (mX6_isPrefix x_1 w) fun x_3 w_2 =>
      if x_3 ≠ 0 then
        mX6_judges_36 (mX6_judges_4 v1 n) v1 v3 x_1 w_2
      else
        cl (mX6_isJoin x_1 w_2) fun x_5 w_4 =>
        if x_5 = 0 then
          mX6_judges_51 (mX6_judges_4 v1 n) v1 v3 x_1 0 w_4
        else
          mX6_judges_36 (mX6_judges_4 v1 n) v1 v3 x_1 w_4
noncomputable def mX6_judges (v1 : Int32) (w : AW) : Option (Unit × AW) :=
  mX6_judges_4 v1 FU 0 0 w
set_option maxRecDepth 100000 in
set_option maxHeartbeats 4000000 in
theorem ok_mX6_judges_175 {zv : Unit} {zw : AW} {k4 : Int32 → Int32 → AW → Option (Unit × AW)} {v1 : Int32} {v3 : Int32} {s0 : Int32} (hk4 : ∀ (v2 : Int32) (v3 : Int32)  w, k4 v2 v3 w = some (zv, zw) → RR true KX6_judges (none, zw) 4 [some (vR 0 0), some (vI v1), some (vI v2), some (vI v3), none, none, none] [] w) {w : AW} (hf : mX6_judges_175 k4 v1 v3 s0 w = some (zv, zw)) : RR true KX6_judges (none, zw) 175 [some (vR 0 0), some (vI v1), none, some (vI v3), none, none, none] [vI s0] w := by
  refine r_istore_n (ls2 := [some (vR 0 0), some (vI v1), some (vI s0), some (vI v3), none, none, none]) dX6_judges_175 rfl rfl rfl (Nat.le_of_ble_eq_true rfl) ?_
  refine r_aload_n dX6_judges_176 rfl rfl ?_
  refine g_getA dX6_judges_177 fl_RX6_98 fk_6_37 rfl (cl_true_0) ?_
  refine r_iload_n dX6_judges_180 rfl rfl ?_
  refine r_iload_n dX6_judges_181 rfl rfl ?_
  refine g_iast dX6_judges_182 aK_true_0_38 aL_true_0_38 hf (fun w_1 hf => ?_)
  refine g_iinc (fun v3_2 => [some (vR 0 0), some (vI v1), some (vI s0), some (vI v3_2), none, none, none]) dX6_judges_183 ic_1 rfl rfl (fun _ => rfl) (Nat.le_of_ble_eq_true rfl) hf (fun v3_2 hf => ?_)
  refine r_goto (tgt := 4) dX6_judges_186 rfl ?_
  exact hk4 _ _ _ hf
set_option maxRecDepth 100000 in
set_option maxHeartbeats 4000000 in
theorem ok_mX6_judges_76 {zv : Unit} {zw : AW} {k4 : Int32 → Int32 → AW → Option (Unit × AW)} {v1 : Int32} {v3 : Int32} {v4 : Int32} {v5 : Int32} {s0 : Int32} (hk4 : ∀ (v2 : Int32) (v3 : Int32)  w, k4 v2 v3 w = some (zv, zw) → RR true KX6_judges (none, zw) 4 [some (vR 0 0), some (vI v1), some (vI v2), some (vI v3), none, none, none] [] w) {w : AW} (hf : mX6_judges_76 k4 v1 v3 v4 v5 s0 w = some (zv, zw)) : RR true KX6_judges (none, zw) 76 [some (vR 0 0), some (vI v1), none, some (vI v3), some (vI v4), some (vI v5), none] [vI s0] w := by
  refine r_istore (ls2 := [some (vR 0 0), some (vI v1), none, some (vI v3), some (vI v4), some (vI v5), some (vI s0)]) dX6_judges_76 rfl rfl (Nat.le_of_ble_eq_true rfl) ?_
  refine r_aload_n dX6_judges_78 rfl rfl ?_
  refine g_getA dX6_judges_79 fl_RX6_92 fk_6_34 rfl (cl_true_0) ?_
  refine r_iload_n dX6_judges_82 rfl rfl ?_
  refine g_iald dX6_judges_83 aK_true_0_35 aL_true_0_35 hf (fun x_1 hf => ?_)
  refine r_bipush dX6_judges_84 (bp_m9) ?_
  refine g_icmp_eq (tgt := 102) dX6_judges_86 rfl hf (fun _ hf => ?_) (fun _ hf => ?_)
  · refine r_iload dX6_judges_102 rfl ?_
    refine r_bipush dX6_judges_104 (bp_84) ?_
    refine g_icmp_ne (tgt := 113) dX6_judges_106 rfl hf (fun _ hf => ?_) (fun _ hf => ?_)
    · refine r_iload dX6_judges_113 rfl ?_
      refine r_bipush dX6_judges_115 (bp_70) ?_
      refine g_icmp_ne (tgt := 124) dX6_judges_117 rfl hf (fun _ hf => ?_) (fun _ hf => ?_)
      · refine r_iload dX6_judges_124 rfl ?_
        refine r_bipush dX6_judges_126 (bp_33) ?_
        refine g_icmp_ne (tgt := 138) dX6_judges_128 rfl hf (fun _ hf => ?_) (fun _ hf => ?_)
        · refine r_iload dX6_judges_138 rfl ?_
          refine r_bipush dX6_judges_140 (bp_38) ?_
          refine g_icmp_ne (tgt := 153) dX6_judges_142 rfl hf (fun _ hf => ?_) (fun _ hf => ?_)
          · refine r_iload dX6_judges_153 rfl ?_
            refine r_bipush dX6_judges_155 (bp_124) ?_
            refine g_icmp_ne (tgt := 168) dX6_judges_157 rfl hf (fun _ hf => ?_) (fun _ hf => ?_)
            · refine r_iconst dX6_judges_168 ic_1 ?_
              refine r_iload dX6_judges_169 rfl ?_
              refine r_isub dX6_judges_171 ?_
              refine r_iload dX6_judges_172 rfl ?_
              refine r_ior dX6_judges_174 ?_
              refine r_mask (bs := [true, true, false, true, false, false, false]) ?_
              exact ok_mX6_judges_175 hk4 hf
            · refine r_iload dX6_judges_160 rfl ?_
              refine r_iload dX6_judges_162 rfl ?_
              refine r_ior dX6_judges_164 ?_
              refine r_goto (tgt := 175) dX6_judges_165 rfl ?_
              refine r_mask (bs := [true, true, false, true, false, false, false]) ?_
              exact ok_mX6_judges_175 hk4 hf
          · refine r_iload dX6_judges_145 rfl ?_
            refine r_iload dX6_judges_147 rfl ?_
            refine r_iand dX6_judges_149 ?_
            refine r_goto (tgt := 175) dX6_judges_150 rfl ?_
            refine r_mask (bs := [true, true, false, true, false, false, false]) ?_
            exact ok_mX6_judges_175 hk4 hf
        · refine r_iconst dX6_judges_131 ic_1 ?_
          refine r_iload dX6_judges_132 rfl ?_
          refine r_isub dX6_judges_134 ?_
          refine r_goto (tgt := 175) dX6_judges_135 rfl ?_
          refine r_mask (bs := [true, true, false, true, false, false, false]) ?_
          exact ok_mX6_judges_175 hk4 hf
      · refine r_iconst dX6_judges_120 ic_0 ?_
        refine r_goto (tgt := 175) dX6_judges_121 rfl ?_
        refine r_mask (bs := [true, true, false, true, false, false, false]) ?_
        exact ok_mX6_judges_175 hk4 hf
    · refine r_iconst dX6_judges_109 ic_1 ?_
      refine r_goto (tgt := 175) dX6_judges_110 rfl ?_
      refine r_mask (bs := [true, true, false, true, false, false, false]) ?_
      exact ok_mX6_judges_175 hk4 hf
  · refine r_iload_n dX6_judges_89 rfl rfl ?_
    refine r_aload_n dX6_judges_90 rfl rfl ?_
    refine g_getA dX6_judges_91 fl_RX6_92 fk_6_34 rfl (cl_true_0) ?_
    refine r_iload_n dX6_judges_94 rfl rfl ?_
    refine g_iald dX6_judges_95 aK_true_0_35 aL_true_0_35 hf (fun x_2 hf => ?_)
    refine r_ishr dX6_judges_96 ?_
    refine r_iconst dX6_judges_97 ic_1 ?_
    refine r_iand dX6_judges_98 ?_
    refine r_goto (tgt := 175) dX6_judges_99 rfl ?_
    refine r_mask (bs := [true, true, false, true, false, false, false]) ?_
    exact ok_mX6_judges_175 hk4 hf
set_option maxRecDepth 100000 in
set_option maxHeartbeats 4000000 in
theorem ok_mX6_judges_51 {zv : Unit} {zw : AW} {k4 : Int32 → Int32 → AW → Option (Unit × AW)} {v1 : Int32} {v3 : Int32} {v4 : Int32} {s0 : Int32} (hk4 : ∀ (v2 : Int32) (v3 : Int32)  w, k4 v2 v3 w = some (zv, zw) → RR true KX6_judges (none, zw) 4 [some (vR 0 0), some (vI v1), some (vI v2), some (vI v3), none, none, none] [] w) {w : AW} (hf : mX6_judges_51 k4 v1 v3 v4 s0 w = some (zv, zw)) : RR true KX6_judges (none, zw) 51 [some (vR 0 0), some (vI v1), none, some (vI v3), some (vI v4), none, none] [vI s0] w := by
  refine r_istore (ls2 := [some (vR 0 0), some (vI v1), none, some (vI v3), some (vI v4), some (vI s0), none]) dX6_judges_51 rfl rfl (Nat.le_of_ble_eq_true rfl) ?_
  refine r_iload dX6_judges_53 rfl ?_
  obtain ⟨x_2, w_1, hc, hf⟩ := cl_some hf
  refine g_cS (st := []) KX6_isJoin [vI v4] dX6_judges_55 e_RX6_192 mok_X6_isJoin mw_X6_isJoin ⟨Nat.le_of_ble_eq_true rfl, Nat.le_of_ble_eq_true rfl⟩ (met_X6_isJoin hc) rfl (Nat.le_of_ble_eq_true rfl) ?_
  clear hc
  refine g_if_eq (tgt := 75) dX6_judges_58 rfl hf (fun _ hf => ?_) (fun _ hf => ?_)
  · refine r_iconst dX6_judges_75 ic_0 ?_
    exact ok_mX6_judges_76 hk4 hf
  · refine r_aload_n dX6_judges_61 rfl rfl ?_
    refine g_getA dX6_judges_62 fl_RX6_98 fk_6_37 rfl (cl_true_0) ?_
    refine r_aload_n dX6_judges_65 rfl rfl ?_
    refine g_getA dX6_judges_66 fl_RX6_83 fk_6_31 rfl (cl_true_0) ?_
    refine r_iload_n dX6_judges_69 rfl rfl ?_
    refine g_iald dX6_judges_70 aK_true_0_32 aL_true_0_32 hf (fun x_3 hf => ?_)
    refine g_iald dX6_judges_71 aK_true_0_38 aL_true_0_38 hf (fun x_4 hf => ?_)
    refine r_goto (tgt := 76) dX6_judges_72 rfl ?_
    exact ok_mX6_judges_76 hk4 hf
set_option maxRecDepth 100000 in
set_option maxHeartbeats 4000000 in
theorem ok_mX6_judges_36 {zv : Unit} {zw : AW} {k4 : Int32 → Int32 → AW → Option (Unit × AW)} {v1 : Int32} {v3 : Int32} {v4 : Int32} (hk4 : ∀ (v2 : Int32) (v3 : Int32)  w, k4 v2 v3 w = some (zv, zw) → RR true KX6_judges (none, zw) 4 [some (vR 0 0), some (vI v1), some (vI v2), some (vI v3), none, none, none] [] w) {w : AW} (hf : mX6_judges_36 k4 v1 v3 v4 w = some (zv, zw)) : RR true KX6_judges (none, zw) 36 [some (vR 0 0), some (vI v1), none, some (vI v3), some (vI v4), none, none] [] w := by
  refine r_aload_n dX6_judges_36 rfl rfl ?_
  refine g_getA dX6_judges_37 fl_RX6_98 fk_6_37 rfl (cl_true_0) ?_
  refine r_aload_n dX6_judges_40 rfl rfl ?_
  refine g_getA dX6_judges_41 fl_RX6_80 fk_6_30 rfl (cl_true_0) ?_
  refine r_iload_n dX6_judges_44 rfl rfl ?_
  refine g_iald dX6_judges_45 aK_true_0_31 aL_true_0_31 hf (fun x_1 hf => ?_)
  refine g_iald dX6_judges_46 aK_true_0_38 aL_true_0_38 hf (fun x_2 hf => ?_)
  refine r_goto (tgt := 51) dX6_judges_47 rfl ?_
  exact ok_mX6_judges_51 hk4 hf
set_option maxRecDepth 100000 in
set_option maxHeartbeats 4000000 in
theorem ok_mX6_judges_204 {zv : Unit} {zw : AW} {s0 : Int32} {s1 : Int32} {w : AW} (hf : mX6_judges_204 s0 s1 w = some (zv, zw)) : RR true KX6_judges (none, zw) 204 [none, none, none, none, none, none, none] [vI s0, vI s1, vR 0 41] w := by
  refine g_bast dX6_judges_204 aK_true_0_41 aL_true_0_41 hf (fun w_1 hf => ?_)
  exact r_vret dX6_judges_205 rfl (ret_U hf)
set_option maxRecDepth 100000 in
set_option maxHeartbeats 4000000 in
theorem ok_mX6_judges_4 {zv : Unit} {zw : AW} {v1 : Int32} : ∀ (n : Nat) (v2 : Int32) (v3 : Int32) (w : AW), mX6_judges_4 v1 n v2 v3 w = some (zv, zw) → RR true KX6_judges (none, zw) 4 [some (vR 0 0), some (vI v1), some (vI v2), some (vI v3), none, none, none] [] w := by
  intro n
  induction n with
  | zero => intro v2 v3 w hf; cases hf
  | succ n ih =>
    intro v2 v3 w hf
    refine r_iload_n dX6_judges_4 rfl rfl ?_
    refine r_aload_n dX6_judges_5 rfl rfl ?_
    refine g_getI dX6_judges_6 fl_RX6_202 fk_6_26 (cl_true_0) ?_
    refine g_icmp_ge (tgt := 189) dX6_judges_9 rfl hf (fun _ hf => ?_) (fun _ hf => ?_)
    · refine r_aload_n dX6_judges_189 rfl rfl ?_
      refine g_getA dX6_judges_190 fl_RX6_107 fk_6_40 rfl (cl_true_0) ?_
      refine r_iload_n dX6_judges_193 rfl rfl ?_
      refine r_iload_n dX6_judges_194 rfl rfl ?_
      refine r_iconst dX6_judges_195 ic_1 ?_
      refine g_icmp_ne (tgt := 203) dX6_judges_196 rfl hf (fun _ hf => ?_) (fun _ hf => ?_)
      · refine r_iconst dX6_judges_203 ic_0 ?_
        refine r_mask (bs := [false, false, false, false, false, false, false]) ?_
        exact ok_mX6_judges_204 hf
      · refine r_iconst dX6_judges_199 ic_1 ?_
        refine r_goto (tgt := 204) dX6_judges_200 rfl ?_
        refine r_mask (bs := [false, false, false, false, false, false, false]) ?_
        exact ok_mX6_judges_204 hf
    · refine r_aload_n dX6_judges_12 rfl rfl ?_
      refine g_getA dX6_judges_13 fl_RX6_77 fk_6_29 rfl (cl_true_0) ?_
      refine r_iload_n dX6_judges_16 rfl rfl ?_
      refine g_iald dX6_judges_17 aK_true_0_30 aL_true_0_30 hf (fun x_1 hf => ?_)
      refine r_istore (ls2 := [some (vR 0 0), some (vI v1), some (vI v2), some (vI v3), some (vI x_1), none, none]) dX6_judges_18 rfl rfl (Nat.le_of_ble_eq_true rfl) ?_
      refine r_iload dX6_judges_20 rfl ?_
      obtain ⟨x_3, w_2, hc, hf⟩ := cl_some hf
      refine g_cS (st := []) KX6_isPrefix [vI x_1] dX6_judges_22 e_RX6_182 mok_X6_isPrefix mw_X6_isPrefix ⟨Nat.le_of_ble_eq_true rfl, Nat.le_of_ble_eq_true rfl⟩ (met_X6_isPrefix hc) rfl (Nat.le_of_ble_eq_true rfl) ?_
      clear hc
      refine g_if_ne (tgt := 36) dX6_judges_25 rfl hf (fun _ hf => ?_) (fun _ hf => ?_)
      · refine r_mask (bs := [true, true, false, true, true, false, false]) ?_
        exact ok_mX6_judges_36 (fun v2 v3 w hf => ih v2 v3 w hf) hf
      · refine r_iload dX6_judges_28 rfl ?_
        obtain ⟨x_5, w_4, hc, hf⟩ := cl_some hf
        refine g_cS (st := []) KX6_isJoin [vI x_1] dX6_judges_30 e_RX6_192 mok_X6_isJoin mw_X6_isJoin ⟨Nat.le_of_ble_eq_true rfl, Nat.le_of_ble_eq_true rfl⟩ (met_X6_isJoin hc) rfl (Nat.le_of_ble_eq_true rfl) ?_
        clear hc
        refine g_if_eq (tgt := 50) dX6_judges_33 rfl hf (fun _ hf => ?_) (fun _ hf => ?_)
        · refine r_iconst dX6_judges_50 ic_0 ?_
          refine r_mask (bs := [true, true, false, true, true, false, false]) ?_
          exact ok_mX6_judges_51 (fun v2 v3 w hf => ih v2 v3 w hf) hf
        · refine r_mask (bs := [true, true, false, true, true, false, false]) ?_
          exact ok_mX6_judges_36 (fun v2 v3 w hf => ih v2 v3 w hf) hf
set_option maxRecDepth 100000 in
set_option maxHeartbeats 4000000 in
theorem ok_mX6_judges {zv : Unit} {zw : AW} {v1 : Int32} {w : AW} (hf : mX6_judges v1 w = some (zv, zw)) : RR true KX6_judges (none, zw) 0 [some (vR 0 0), some (vI v1), none, none, none, none, none] [] w := by
  refine r_iconst dX6_judges_0 ic_0 ?_
  refine r_istore_n (ls2 := [some (vR 0 0), some (vI v1), some (vI 0), none, none, none, none]) dX6_judges_1 rfl rfl rfl (Nat.le_of_ble_eq_true rfl) ?_
  refine r_iconst dX6_judges_2 ic_0 ?_
  refine r_istore_n (ls2 := [some (vR 0 0), some (vI v1), some (vI 0), some (vI 0), none, none, none]) dX6_judges_3 rfl rfl rfl (Nat.le_of_ble_eq_true rfl) ?_
  exact ok_mX6_judges_4 FU _ _ _ hf
theorem met_X6_judges {zv : Unit} {zw : AW} {v1 : Int32} {w : AW} (hf : mX6_judges v1 w = some (zv, zw)) : am_Met true KX6_judges [vR 0 0, vI v1] w (none, zw) := am_met mok_X6_judges.1 (Nat.le_of_ble_eq_true rfl) (ok_mX6_judges  hf)

/-! SeenWorldsModel.types()V -/
noncomputable def mX6_types_80 (k12 : Int32 → AW → Option (Unit × AW)) (v1 : Int32) (s0 : Int32) (s1 : Int32) (w : AW) : Option (Unit × AW) :=
  pu w 0 45 (s1 ||| s0) fun w_1 =>
  nm (v1 + 1) fun v1_2 =>
  k12 v1_2 w_1
noncomputable def mX6_types_48 (k12 : Int32 → AW → Option (Unit × AW)) (v1 : Int32) (s0 : Int32) (s1 : Int32) (w : AW) : Option (Unit × AW) :=
  pu w 0 44 (s1 ||| s0) fun w_1 =>
  rd 10 (w_1.1 0 37) v1 fun x_2 =>
  rd 90 (w_1.1 0 30) x_2 fun x_3 =>
  if x_3 ≠ 123 then
    mX6_types_80 k12 v1 0 (w_1.1 0 0 45) w_1
  else
    mX6_types_80 k12 v1 (1 <<< (v1 &&& 31)) (w_1.1 0 0 45) w_1
noncomputable def mX6_types_202 (k92 : Int32 → AW → Option (Unit × AW)) (k133 : Int32 → AW → Option (Unit × AW)) (v1 : Int32) (v2 : Int32) (s0 : Int32) (s1 : Int32) (s2 : Int32) (w : AW) : Option (Unit × AW) :=
  wr 1024 w 0 40 s2 (s1 ||| s0) fun w_1 =>
  nm (v2 + 1) fun v2_2 =>
  k133 v2_2 w_1
noncomputable def mX6_types_183 (k92 : Int32 → AW → Option (Unit × AW)) (k133 : Int32 → AW → Option (Unit × AW)) (v1 : Int32) (v2 : Int32) (s0 : Int32) (w : AW) : Option (Unit × AW) :=
  rd 1024 (w.1 0 40) v1 fun x_1 =>
  if s0 = 0 then
    mX6_types_202 k92 k133 v1 v2 0 x_1 v1 w
  else
    mX6_types_202 k92 k133 v1 v2 (1 <<< (v2 &&& 31)) x_1 v1 w
noncomputable def mX6_types_182 (k92 : Int32 → AW → Option (Unit × AW)) (k133 : Int32 → AW → Option (Unit × AW)) (v1 : Int32) (v2 : Int32) (w : AW) : Option (Unit × AW) :=
  mX6_types_183 k92 k133 v1 v2 0 w
noncomputable def mX6_types_133 (k92 : Int32 → AW → Option (Unit × AW)) (v1 : Int32) : Nat → Int32 → AW → Option (Unit × AW)
  | 0, _, _ => none
  | n + 1, v2, w =>
    if (w.1 0 0 35) ≤ v2 then
      nm (v1 + 1) fun v1_1 =>
      k92 v1_1 w
    else
      if ((((w.1 0 0 44) ||| (w.1 0 0 45)) >>> (v2 &&& 31)) &&& 1) ≠ 1 then
        mX6_types_182 k92 (mX6_types_133 k92 v1 n) v1 v2 w
      else
        rd 10 (w.1 0 37) v2 fun x_2 =>
        rd 90 (w.1 0 31) x_2 fun x_3 =>
        rd 90 (w.1 0 38) x_3 fun x_4 =>
        if x_4 ≠ 1 then
          mX6_types_182 k92 (mX6_types_133 k92 v1 n) v1 v2 w
        else
          mX6_types_183 k92 (mX6_types_133 k92 v1 n) v1 v2 1 w
noncomputable def mX6_types_92 : Nat → Int32 → AW → Option (Unit × AW)
  | 0, _, _ => none
  | n + 1, v1, w =>
    if (1 <<< ((w.1 0 0 35) &&& 31)) ≤ v1 then
      some ((), w)
    else
      cl (mX6_judges v1 w) fun x_2 w_1 =>
      wr 1024 w_1 0 39 v1 (v1 &&& ((w_1.1 0 0 44) ||| (w_1.1 0 0 45))) fun w_3 =>
      wr 1024 w_3 0 40 v1 0 fun w_4 =>
      mX6_types_133 (mX6_types_92 n) v1 FU 0 w_4
noncomputable def mX6_types_12 : Nat → Int32 → AW → Option (Unit × AW)
  | 0, _, _ => none
  | n + 1, v1, w =>
    if (w.1 0 0 35) ≤ v1 then
      mX6_types_92 FU 0 w
    else
      rd 10 (w.1 0 37) v1 fun x_1 =>
      rd 90 (w.1 0 30) x_1 fun x_2 =>
      if x_2 ≠ 91 then
        mX6_types_48 (mX6_types_12 n) v1 0 (w.1 0 0 44) w
      else
        mX6_types_48 (mX6_types_12 n) v1 (1 <<< (v1 &&& 31)) (w.1 0 0 44) w
noncomputable def mX6_types (w : AW) : Option (Unit × AW) :=
  pu w 0 44 0 fun w_1 =>
  pu w_1 0 45 0 fun w_2 =>
  mX6_types_12 FU 0 w_2
set_option maxRecDepth 100000 in
set_option maxHeartbeats 4000000 in
theorem ok_mX6_types_80 {zv : Unit} {zw : AW} {k12 : Int32 → AW → Option (Unit × AW)} {v1 : Int32} {s0 : Int32} {s1 : Int32} (hk12 : ∀ (v1 : Int32)  w, k12 v1 w = some (zv, zw) → RR true KX6_types (none, zw) 12 [some (vR 0 0), some (vI v1), none, none] [] w) {w : AW} (hf : mX6_types_80 k12 v1 s0 s1 w = some (zv, zw)) : RR true KX6_types (none, zw) 80 [some (vR 0 0), some (vI v1), none, none] [vI s0, vI s1, vR 0 0] w := by
  refine r_ior dX6_types_80 ?_
  refine g_putI dX6_types_81 fl_RX6_246 fk_6_45 (cl_true_0) hf (fun w_1 hf => ?_)
  refine g_iinc (fun v1_2 => [some (vR 0 0), some (vI v1_2), none, none]) dX6_types_84 ic_1 rfl rfl (fun _ => rfl) (Nat.le_of_ble_eq_true rfl) hf (fun v1_2 hf => ?_)
  refine r_goto (tgt := 12) dX6_types_87 rfl ?_
  exact hk12 _ _ hf
set_option maxRecDepth 100000 in
set_option maxHeartbeats 4000000 in
theorem ok_mX6_types_48 {zv : Unit} {zw : AW} {k12 : Int32 → AW → Option (Unit × AW)} {v1 : Int32} {s0 : Int32} {s1 : Int32} (hk12 : ∀ (v1 : Int32)  w, k12 v1 w = some (zv, zw) → RR true KX6_types (none, zw) 12 [some (vR 0 0), some (vI v1), none, none] [] w) {w : AW} (hf : mX6_types_48 k12 v1 s0 s1 w = some (zv, zw)) : RR true KX6_types (none, zw) 48 [some (vR 0 0), some (vI v1), none, none] [vI s0, vI s1, vR 0 0] w := by
  refine r_ior dX6_types_48 ?_
  refine g_putI dX6_types_49 fl_RX6_243 fk_6_44 (cl_true_0) hf (fun w_1 hf => ?_)
  refine r_aload_n dX6_types_52 rfl rfl ?_
  refine r_dup dX6_types_53 rfl ?_
  refine g_getI dX6_types_54 fl_RX6_246 fk_6_45 (cl_true_0) ?_
  refine r_aload_n dX6_types_57 rfl rfl ?_
  refine g_getA dX6_types_58 fl_RX6_77 fk_6_29 rfl (cl_true_0) ?_
  refine r_aload_n dX6_types_61 rfl rfl ?_
  refine g_getA dX6_types_62 fl_RX6_95 fk_6_36 rfl (cl_true_0) ?_
  refine r_iload_n dX6_types_65 rfl rfl ?_
  refine g_iald dX6_types_66 aK_true_0_37 aL_true_0_37 hf (fun x_2 hf => ?_)
  refine g_iald dX6_types_67 aK_true_0_30 aL_true_0_30 hf (fun x_3 hf => ?_)
  refine r_bipush dX6_types_68 (bp_123) ?_
  refine g_icmp_ne (tgt := 79) dX6_types_70 rfl hf (fun _ hf => ?_) (fun _ hf => ?_)
  · refine r_iconst dX6_types_79 ic_0 ?_
    exact ok_mX6_types_80 hk12 hf
  · refine r_iconst dX6_types_73 ic_1 ?_
    refine r_iload_n dX6_types_74 rfl rfl ?_
    refine r_ishl dX6_types_75 ?_
    refine r_goto (tgt := 80) dX6_types_76 rfl ?_
    exact ok_mX6_types_80 hk12 hf
set_option maxRecDepth 100000 in
set_option maxHeartbeats 4000000 in
theorem ok_mX6_types_202 {zv : Unit} {zw : AW} {k92 : Int32 → AW → Option (Unit × AW)} {k133 : Int32 → AW → Option (Unit × AW)} {v1 : Int32} {v2 : Int32} {s0 : Int32} {s1 : Int32} {s2 : Int32} (hk92 : ∀ (v1 : Int32)  w, k92 v1 w = some (zv, zw) → RR true KX6_types (none, zw) 92 [some (vR 0 0), some (vI v1), none, none] [] w) (hk133 : ∀ (v2 : Int32)  w, k133 v2 w = some (zv, zw) → RR true KX6_types (none, zw) 133 [some (vR 0 0), some (vI v1), some (vI v2), none] [] w) {w : AW} (hf : mX6_types_202 k92 k133 v1 v2 s0 s1 s2 w = some (zv, zw)) : RR true KX6_types (none, zw) 202 [some (vR 0 0), some (vI v1), some (vI v2), none] [vI s0, vI s1, vI s2, vR 0 40] w := by
  refine r_ior dX6_types_202 ?_
  refine g_iast dX6_types_203 aK_true_0_40 aL_true_0_40 hf (fun w_1 hf => ?_)
  refine g_iinc (fun v2_2 => [some (vR 0 0), some (vI v1), some (vI v2_2), none]) dX6_types_204 ic_1 rfl rfl (fun _ => rfl) (Nat.le_of_ble_eq_true rfl) hf (fun v2_2 hf => ?_)
  refine r_goto (tgt := 133) dX6_types_207 rfl ?_
  exact hk133 _ _ hf
set_option maxRecDepth 100000 in
set_option maxHeartbeats 4000000 in
theorem ok_mX6_types_183 {zv : Unit} {zw : AW} {k92 : Int32 → AW → Option (Unit × AW)} {k133 : Int32 → AW → Option (Unit × AW)} {v1 : Int32} {v2 : Int32} {s0 : Int32} (hk92 : ∀ (v1 : Int32)  w, k92 v1 w = some (zv, zw) → RR true KX6_types (none, zw) 92 [some (vR 0 0), some (vI v1), none, none] [] w) (hk133 : ∀ (v2 : Int32)  w, k133 v2 w = some (zv, zw) → RR true KX6_types (none, zw) 133 [some (vR 0 0), some (vI v1), some (vI v2), none] [] w) {w : AW} (hf : mX6_types_183 k92 k133 v1 v2 s0 w = some (zv, zw)) : RR true KX6_types (none, zw) 183 [some (vR 0 0), some (vI v1), some (vI v2), none] [vI s0] w := by
  refine r_istore_n (ls2 := [some (vR 0 0), some (vI v1), some (vI v2), some (vI s0)]) dX6_types_183 rfl rfl rfl (Nat.le_of_ble_eq_true rfl) ?_
  refine r_aload_n dX6_types_184 rfl rfl ?_
  refine g_getA dX6_types_185 fl_RX6_104 fk_6_39 rfl (cl_true_0) ?_
  refine r_iload_n dX6_types_188 rfl rfl ?_
  refine r_dup2 dX6_types_189 rfl rfl ?_
  refine g_iald dX6_types_190 aK_true_0_40 aL_true_0_40 hf (fun x_1 hf => ?_)
  refine r_iload_n dX6_types_191 rfl rfl ?_
  refine g_if_eq (tgt := 201) dX6_types_192 rfl hf (fun _ hf => ?_) (fun _ hf => ?_)
  · refine r_iconst dX6_types_201 ic_0 ?_
    refine r_mask (bs := [true, true, true, false]) ?_
    exact ok_mX6_types_202 hk92 hk133 hf
  · refine r_iconst dX6_types_195 ic_1 ?_
    refine r_iload_n dX6_types_196 rfl rfl ?_
    refine r_ishl dX6_types_197 ?_
    refine r_goto (tgt := 202) dX6_types_198 rfl ?_
    refine r_mask (bs := [true, true, true, false]) ?_
    exact ok_mX6_types_202 hk92 hk133 hf
set_option maxRecDepth 100000 in
set_option maxHeartbeats 4000000 in
theorem ok_mX6_types_182 {zv : Unit} {zw : AW} {k92 : Int32 → AW → Option (Unit × AW)} {k133 : Int32 → AW → Option (Unit × AW)} {v1 : Int32} {v2 : Int32} (hk92 : ∀ (v1 : Int32)  w, k92 v1 w = some (zv, zw) → RR true KX6_types (none, zw) 92 [some (vR 0 0), some (vI v1), none, none] [] w) (hk133 : ∀ (v2 : Int32)  w, k133 v2 w = some (zv, zw) → RR true KX6_types (none, zw) 133 [some (vR 0 0), some (vI v1), some (vI v2), none] [] w) {w : AW} (hf : mX6_types_182 k92 k133 v1 v2 w = some (zv, zw)) : RR true KX6_types (none, zw) 182 [some (vR 0 0), some (vI v1), some (vI v2), none] [] w := by
  refine r_iconst dX6_types_182 ic_0 ?_
  exact ok_mX6_types_183 hk92 hk133 hf
set_option maxRecDepth 100000 in
set_option maxHeartbeats 4000000 in
theorem ok_mX6_types_133 {zv : Unit} {zw : AW} {k92 : Int32 → AW → Option (Unit × AW)} {v1 : Int32} (hk92 : ∀ (v1 : Int32)  w, k92 v1 w = some (zv, zw) → RR true KX6_types (none, zw) 92 [some (vR 0 0), some (vI v1), none, none] [] w) : ∀ (n : Nat) (v2 : Int32) (w : AW), mX6_types_133 k92 v1 n v2 w = some (zv, zw) → RR true KX6_types (none, zw) 133 [some (vR 0 0), some (vI v1), some (vI v2), none] [] w := by
  intro n
  induction n with
  | zero => intro v2 w hf; cases hf
  | succ n ih =>
    intro v2 w hf
    refine r_iload_n dX6_types_133 rfl rfl ?_
    refine r_aload_n dX6_types_134 rfl rfl ?_
    refine g_getI dX6_types_135 fl_RX6_240 fk_6_35 (cl_true_0) ?_
    refine g_icmp_ge (tgt := 210) dX6_types_138 rfl hf (fun _ hf => ?_) (fun _ hf => ?_)
    · refine g_iinc (fun v1_1 => [some (vR 0 0), some (vI v1_1), some (vI v2), none]) dX6_types_210 ic_1 rfl rfl (fun _ => rfl) (Nat.le_of_ble_eq_true rfl) hf (fun v1_1 hf => ?_)
      refine r_goto (tgt := 92) dX6_types_213 rfl ?_
      refine r_mask (bs := [true, true, false, false]) ?_
      exact hk92 _ _ hf
    · refine r_aload_n dX6_types_141 rfl rfl ?_
      refine g_getI dX6_types_142 fl_RX6_243 fk_6_44 (cl_true_0) ?_
      refine r_aload_n dX6_types_145 rfl rfl ?_
      refine g_getI dX6_types_146 fl_RX6_246 fk_6_45 (cl_true_0) ?_
      refine r_ior dX6_types_149 ?_
      refine r_iload_n dX6_types_150 rfl rfl ?_
      refine r_ishr dX6_types_151 ?_
      refine r_iconst dX6_types_152 ic_1 ?_
      refine r_iand dX6_types_153 ?_
      refine r_iconst dX6_types_154 ic_1 ?_
      refine g_icmp_ne (tgt := 182) dX6_types_155 rfl hf (fun _ hf => ?_) (fun _ hf => ?_)
      · exact ok_mX6_types_182 hk92 (fun v2 w hf => ih v2 w hf) hf
      · refine r_aload_n dX6_types_158 rfl rfl ?_
        refine g_getA dX6_types_159 fl_RX6_98 fk_6_37 rfl (cl_true_0) ?_
        refine r_aload_n dX6_types_162 rfl rfl ?_
        refine g_getA dX6_types_163 fl_RX6_80 fk_6_30 rfl (cl_true_0) ?_
        refine r_aload_n dX6_types_166 rfl rfl ?_
        refine g_getA dX6_types_167 fl_RX6_95 fk_6_36 rfl (cl_true_0) ?_
        refine r_iload_n dX6_types_170 rfl rfl ?_
        refine g_iald dX6_types_171 aK_true_0_37 aL_true_0_37 hf (fun x_2 hf => ?_)
        refine g_iald dX6_types_172 aK_true_0_31 aL_true_0_31 hf (fun x_3 hf => ?_)
        refine g_iald dX6_types_173 aK_true_0_38 aL_true_0_38 hf (fun x_4 hf => ?_)
        refine r_iconst dX6_types_174 ic_1 ?_
        refine g_icmp_ne (tgt := 182) dX6_types_175 rfl hf (fun _ hf => ?_) (fun _ hf => ?_)
        · exact ok_mX6_types_182 hk92 (fun v2 w hf => ih v2 w hf) hf
        · refine r_iconst dX6_types_178 ic_1 ?_
          refine r_goto (tgt := 183) dX6_types_179 rfl ?_
          exact ok_mX6_types_183 hk92 (fun v2 w hf => ih v2 w hf) hf
set_option maxRecDepth 100000 in
set_option maxHeartbeats 4000000 in
theorem ok_mX6_types_92 {zv : Unit} {zw : AW} : ∀ (n : Nat) (v1 : Int32) (w : AW), mX6_types_92 n v1 w = some (zv, zw) → RR true KX6_types (none, zw) 92 [some (vR 0 0), some (vI v1), none, none] [] w := by
  intro n
  induction n with
  | zero => intro v1 w hf; cases hf
  | succ n ih =>
    intro v1 w hf
    refine r_iload_n dX6_types_92 rfl rfl ?_
    refine r_iconst dX6_types_93 ic_1 ?_
    refine r_aload_n dX6_types_94 rfl rfl ?_
    refine g_getI dX6_types_95 fl_RX6_240 fk_6_35 (cl_true_0) ?_
    refine r_ishl dX6_types_98 ?_
    refine g_icmp_ge (tgt := 216) dX6_types_99 rfl hf (fun _ hf => ?_) (fun _ hf => ?_)
    · exact r_vret dX6_types_216 rfl (ret_U hf)
    · refine r_aload_n dX6_types_102 rfl rfl ?_
      refine r_iload_n dX6_types_103 rfl rfl ?_
      obtain ⟨x_2, w_1, hc, hf⟩ := cl_some hf
      refine g_cVv (st := []) KX6_judges [vI v1] dX6_types_104 e_RX6_249 (cl_true_0) (rfl : vwCl[6]? = _) rfl mok_X6_judges mw_X6_judges ⟨Nat.le_of_ble_eq_true rfl, Nat.le_of_ble_eq_true rfl⟩ (met_X6_judges hc) rfl (Nat.le_of_ble_eq_true rfl) ?_
      clear hc
      refine r_aload_n dX6_types_107 rfl rfl ?_
      refine g_getA dX6_types_108 fl_RX6_101 fk_6_38 rfl (cl_true_0) ?_
      refine r_iload_n dX6_types_111 rfl rfl ?_
      refine r_iload_n dX6_types_112 rfl rfl ?_
      refine r_aload_n dX6_types_113 rfl rfl ?_
      refine g_getI dX6_types_114 fl_RX6_243 fk_6_44 (cl_true_0) ?_
      refine r_aload_n dX6_types_117 rfl rfl ?_
      refine g_getI dX6_types_118 fl_RX6_246 fk_6_45 (cl_true_0) ?_
      refine r_ior dX6_types_121 ?_
      refine r_iand dX6_types_122 ?_
      refine g_iast dX6_types_123 aK_true_0_39 aL_true_0_39 hf (fun w_3 hf => ?_)
      refine r_aload_n dX6_types_124 rfl rfl ?_
      refine g_getA dX6_types_125 fl_RX6_104 fk_6_39 rfl (cl_true_0) ?_
      refine r_iload_n dX6_types_128 rfl rfl ?_
      refine r_iconst dX6_types_129 ic_0 ?_
      refine g_iast dX6_types_130 aK_true_0_40 aL_true_0_40 hf (fun w_4 hf => ?_)
      refine r_iconst dX6_types_131 ic_0 ?_
      refine r_istore_n (ls2 := [some (vR 0 0), some (vI v1), some (vI 0), none]) dX6_types_132 rfl rfl rfl (Nat.le_of_ble_eq_true rfl) ?_
      exact ok_mX6_types_133 (fun v1 w hf => ih v1 w hf) FU _ _ hf
set_option maxRecDepth 100000 in
set_option maxHeartbeats 4000000 in
theorem ok_mX6_types_12 {zv : Unit} {zw : AW} : ∀ (n : Nat) (v1 : Int32) (w : AW), mX6_types_12 n v1 w = some (zv, zw) → RR true KX6_types (none, zw) 12 [some (vR 0 0), some (vI v1), none, none] [] w := by
  intro n
  induction n with
  | zero => intro v1 w hf; cases hf
  | succ n ih =>
    intro v1 w hf
    refine r_iload_n dX6_types_12 rfl rfl ?_
    refine r_aload_n dX6_types_13 rfl rfl ?_
    refine g_getI dX6_types_14 fl_RX6_240 fk_6_35 (cl_true_0) ?_
    refine g_icmp_ge (tgt := 90) dX6_types_17 rfl hf (fun _ hf => ?_) (fun _ hf => ?_)
    · refine r_iconst dX6_types_90 ic_0 ?_
      refine r_istore_n (ls2 := [some (vR 0 0), some (vI 0), none, none]) dX6_types_91 rfl rfl rfl (Nat.le_of_ble_eq_true rfl) ?_
      exact ok_mX6_types_92 FU _ _ hf
    · refine r_aload_n dX6_types_20 rfl rfl ?_
      refine r_dup dX6_types_21 rfl ?_
      refine g_getI dX6_types_22 fl_RX6_243 fk_6_44 (cl_true_0) ?_
      refine r_aload_n dX6_types_25 rfl rfl ?_
      refine g_getA dX6_types_26 fl_RX6_77 fk_6_29 rfl (cl_true_0) ?_
      refine r_aload_n dX6_types_29 rfl rfl ?_
      refine g_getA dX6_types_30 fl_RX6_95 fk_6_36 rfl (cl_true_0) ?_
      refine r_iload_n dX6_types_33 rfl rfl ?_
      refine g_iald dX6_types_34 aK_true_0_37 aL_true_0_37 hf (fun x_1 hf => ?_)
      refine g_iald dX6_types_35 aK_true_0_30 aL_true_0_30 hf (fun x_2 hf => ?_)
      refine r_bipush dX6_types_36 (bp_91) ?_
      refine g_icmp_ne (tgt := 47) dX6_types_38 rfl hf (fun _ hf => ?_) (fun _ hf => ?_)
      · refine r_iconst dX6_types_47 ic_0 ?_
        exact ok_mX6_types_48 (fun v1 w hf => ih v1 w hf) hf
      · refine r_iconst dX6_types_41 ic_1 ?_
        refine r_iload_n dX6_types_42 rfl rfl ?_
        refine r_ishl dX6_types_43 ?_
        refine r_goto (tgt := 48) dX6_types_44 rfl ?_
        exact ok_mX6_types_48 (fun v1 w hf => ih v1 w hf) hf
set_option maxRecDepth 100000 in
set_option maxHeartbeats 4000000 in
theorem ok_mX6_types {zv : Unit} {zw : AW} {w : AW} (hf : mX6_types w = some (zv, zw)) : RR true KX6_types (none, zw) 0 [some (vR 0 0), none, none, none] [] w := by
  refine r_aload_n dX6_types_0 rfl rfl ?_
  refine r_iconst dX6_types_1 ic_0 ?_
  refine g_putI dX6_types_2 fl_RX6_243 fk_6_44 (cl_true_0) hf (fun w_1 hf => ?_)
  refine r_aload_n dX6_types_5 rfl rfl ?_
  refine r_iconst dX6_types_6 ic_0 ?_
  refine g_putI dX6_types_7 fl_RX6_246 fk_6_45 (cl_true_0) hf (fun w_2 hf => ?_)
  refine r_iconst dX6_types_10 ic_0 ?_
  refine r_istore_n (ls2 := [some (vR 0 0), some (vI 0), none, none]) dX6_types_11 rfl rfl rfl (Nat.le_of_ble_eq_true rfl) ?_
  exact ok_mX6_types_12 FU _ _ hf
theorem met_X6_types {zv : Unit} {zw : AW} {w : AW} (hf : mX6_types w = some (zv, zw)) : am_Met true KX6_types [vR 0 0] w (none, zw) := am_met mok_X6_types.1 (Nat.le_of_ble_eq_true rfl) (ok_mX6_types  hf)

/-! SeenWorldsModel.lets(IIZ)Z -/
noncomputable def mX6_lets_96 (w : AW) : Option (Int32 × AW) :=
  some (1, w)
noncomputable def mX6_lets_59 (v2 : Int32) (v3 : Int32) (v4 : Int32) (v5 : Int32) (s0 : Int32) (w : AW) : Option (Int32 × AW) :=
  if s0 = 0 then
    some (0, w)
  else
    if v3 = 0 then
      mX6_lets_96 w
    else
      rd 1024 (w.1 0 39) v2 fun x_1 =>
      if (v4 &&& (x_1 ^^^ (-1))) ≠ 0 then
        some (0, w)
      else
        rd 1024 (w.1 0 39) v2 fun x_2 =>
        if (v5 &&& x_2) ≠ 0 then
          some (0, w)
        else
          mX6_lets_96 w
noncomputable def mX6_lets_58 (v2 : Int32) (v3 : Int32) (v4 : Int32) (v5 : Int32) (w : AW) : Option (Int32 × AW) :=
  mX6_lets_59 v2 v3 v4 v5 0 w
noncomputable def mX6_lets (v1 : Int32) (v2 : Int32) (v3 : Int32) (w : AW) : Option (Int32 × AW) :=
  rd 1024 (w.1 0 39) v1 fun x_1 =>
  nm (x_1 &&& (w.1 0 0 44)) fun v4_2 =>
  rd 1024 (w.1 0 39) v1 fun x_3 =>
  nm ((x_3 ^^^ (-1)) &&& (w.1 0 0 45)) fun v5_4 =>
  rd 1024 (w.1 0 40) v2 fun x_5 =>
  if (v4_2 &&& (x_5 ^^^ (-1))) ≠ 0 then
    mX6_lets_58 v2 v3 v4_2 v5_4 w
  else
    rd 1024 (w.1 0 40) v2 fun x_6 =>
    if (v5_4 &&& x_6) ≠ 0 then
      mX6_lets_58 v2 v3 v4_2 v5_4 w
    else
      mX6_lets_59 v2 v3 v4_2 v5_4 1 w
set_option maxRecDepth 100000 in
set_option maxHeartbeats 4000000 in
theorem ok_mX6_lets_96 {zv : Int32} {zw : AW} {w : AW} (hf : mX6_lets_96 w = some (zv, zw)) : RR true KX6_lets (some (vI zv), zw) 96 [none, none, none, none, none, none, none] [] w := by
  refine r_iconst dX6_lets_96 ic_1 ?_
  refine r_goto (tgt := 101) dX6_lets_97 rfl ?_
  exact r_zret dX6_lets_101 rfl nar_1 (ret_I hf)
set_option maxRecDepth 100000 in
set_option maxHeartbeats 4000000 in
theorem ok_mX6_lets_59 {zv : Int32} {zw : AW} {v2 : Int32} {v3 : Int32} {v4 : Int32} {v5 : Int32} {s0 : Int32} {w : AW} (hf : mX6_lets_59 v2 v3 v4 v5 s0 w = some (zv, zw)) : RR true KX6_lets (some (vI zv), zw) 59 [some (vR 0 0), none, some (vI v2), some (vI v3), some (vI v4), some (vI v5), none] [vI s0] w := by
  refine r_istore (ls2 := [some (vR 0 0), none, some (vI v2), some (vI v3), some (vI v4), some (vI v5), some (vI s0)]) dX6_lets_59 rfl rfl (Nat.le_of_ble_eq_true rfl) ?_
  refine r_iload dX6_lets_61 rfl ?_
  refine g_if_eq (tgt := 100) dX6_lets_63 rfl hf (fun _ hf => ?_) (fun _ hf => ?_)
  · refine r_iconst dX6_lets_100 ic_0 ?_
    exact r_zret dX6_lets_101 rfl nar_0 (ret_I hf)
  · refine r_iload_n dX6_lets_66 rfl rfl ?_
    refine g_if_eq (tgt := 96) dX6_lets_67 rfl hf (fun _ hf => ?_) (fun _ hf => ?_)
    · refine r_mask (bs := [false, false, false, false, false, false, false]) ?_
      exact ok_mX6_lets_96 hf
    · refine r_iload dX6_lets_70 rfl ?_
      refine r_aload_n dX6_lets_72 rfl rfl ?_
      refine g_getA dX6_lets_73 fl_RX6_101 fk_6_38 rfl (cl_true_0) ?_
      refine r_iload_n dX6_lets_76 rfl rfl ?_
      refine g_iald dX6_lets_77 aK_true_0_39 aL_true_0_39 hf (fun x_1 hf => ?_)
      refine r_iconst dX6_lets_78 ic_m1 ?_
      refine r_ixor dX6_lets_79 ?_
      refine r_iand dX6_lets_80 ?_
      refine g_if_ne (tgt := 100) dX6_lets_81 rfl hf (fun _ hf => ?_) (fun _ hf => ?_)
      · refine r_iconst dX6_lets_100 ic_0 ?_
        exact r_zret dX6_lets_101 rfl nar_0 (ret_I hf)
      · refine r_iload dX6_lets_84 rfl ?_
        refine r_aload_n dX6_lets_86 rfl rfl ?_
        refine g_getA dX6_lets_87 fl_RX6_101 fk_6_38 rfl (cl_true_0) ?_
        refine r_iload_n dX6_lets_90 rfl rfl ?_
        refine g_iald dX6_lets_91 aK_true_0_39 aL_true_0_39 hf (fun x_2 hf => ?_)
        refine r_iand dX6_lets_92 ?_
        refine g_if_ne (tgt := 100) dX6_lets_93 rfl hf (fun _ hf => ?_) (fun _ hf => ?_)
        · refine r_iconst dX6_lets_100 ic_0 ?_
          exact r_zret dX6_lets_101 rfl nar_0 (ret_I hf)
        · refine r_mask (bs := [false, false, false, false, false, false, false]) ?_
          exact ok_mX6_lets_96 hf
set_option maxRecDepth 100000 in
set_option maxHeartbeats 4000000 in
theorem ok_mX6_lets_58 {zv : Int32} {zw : AW} {v2 : Int32} {v3 : Int32} {v4 : Int32} {v5 : Int32} {w : AW} (hf : mX6_lets_58 v2 v3 v4 v5 w = some (zv, zw)) : RR true KX6_lets (some (vI zv), zw) 58 [some (vR 0 0), none, some (vI v2), some (vI v3), some (vI v4), some (vI v5), none] [] w := by
  refine r_iconst dX6_lets_58 ic_0 ?_
  exact ok_mX6_lets_59 hf
set_option maxRecDepth 100000 in
set_option maxHeartbeats 4000000 in
theorem ok_mX6_lets {zv : Int32} {zw : AW} {v1 : Int32} {v2 : Int32} {v3 : Int32} {w : AW} (hf : mX6_lets v1 v2 v3 w = some (zv, zw)) : RR true KX6_lets (some (vI zv), zw) 0 [some (vR 0 0), some (vI v1), some (vI v2), some (vI v3), none, none, none] [] w := by
  refine r_aload_n dX6_lets_0 rfl rfl ?_
  refine g_getA dX6_lets_1 fl_RX6_101 fk_6_38 rfl (cl_true_0) ?_
  refine r_iload_n dX6_lets_4 rfl rfl ?_
  refine g_iald dX6_lets_5 aK_true_0_39 aL_true_0_39 hf (fun x_1 hf => ?_)
  refine r_aload_n dX6_lets_6 rfl rfl ?_
  refine g_getI dX6_lets_7 fl_RX6_243 fk_6_44 (cl_true_0) ?_
  refine r_iand dX6_lets_10 ?_
  refine g_istore (fun v4_2 => [some (vR 0 0), some (vI v1), some (vI v2), some (vI v3), some (vI v4_2), none, none]) dX6_lets_11 rfl (fun _ => rfl) (Nat.le_of_ble_eq_true rfl) hf (fun v4_2 hf => ?_)
  refine r_aload_n dX6_lets_13 rfl rfl ?_
  refine g_getA dX6_lets_14 fl_RX6_101 fk_6_38 rfl (cl_true_0) ?_
  refine r_iload_n dX6_lets_17 rfl rfl ?_
  refine g_iald dX6_lets_18 aK_true_0_39 aL_true_0_39 hf (fun x_3 hf => ?_)
  refine r_iconst dX6_lets_19 ic_m1 ?_
  refine r_ixor dX6_lets_20 ?_
  refine r_aload_n dX6_lets_21 rfl rfl ?_
  refine g_getI dX6_lets_22 fl_RX6_246 fk_6_45 (cl_true_0) ?_
  refine r_iand dX6_lets_25 ?_
  refine g_istore (fun v5_4 => [some (vR 0 0), some (vI v1), some (vI v2), some (vI v3), some (vI v4_2), some (vI v5_4), none]) dX6_lets_26 rfl (fun _ => rfl) (Nat.le_of_ble_eq_true rfl) hf (fun v5_4 hf => ?_)
  refine r_iload dX6_lets_28 rfl ?_
  refine r_aload_n dX6_lets_30 rfl rfl ?_
  refine g_getA dX6_lets_31 fl_RX6_104 fk_6_39 rfl (cl_true_0) ?_
  refine r_iload_n dX6_lets_34 rfl rfl ?_
  refine g_iald dX6_lets_35 aK_true_0_40 aL_true_0_40 hf (fun x_5 hf => ?_)
  refine r_iconst dX6_lets_36 ic_m1 ?_
  refine r_ixor dX6_lets_37 ?_
  refine r_iand dX6_lets_38 ?_
  refine g_if_ne (tgt := 58) dX6_lets_39 rfl hf (fun _ hf => ?_) (fun _ hf => ?_)
  · refine r_mask (bs := [true, false, true, true, true, true, false]) ?_
    exact ok_mX6_lets_58 hf
  · refine r_iload dX6_lets_42 rfl ?_
    refine r_aload_n dX6_lets_44 rfl rfl ?_
    refine g_getA dX6_lets_45 fl_RX6_104 fk_6_39 rfl (cl_true_0) ?_
    refine r_iload_n dX6_lets_48 rfl rfl ?_
    refine g_iald dX6_lets_49 aK_true_0_40 aL_true_0_40 hf (fun x_6 hf => ?_)
    refine r_iand dX6_lets_50 ?_
    refine g_if_ne (tgt := 58) dX6_lets_51 rfl hf (fun _ hf => ?_) (fun _ hf => ?_)
    · refine r_mask (bs := [true, false, true, true, true, true, false]) ?_
      exact ok_mX6_lets_58 hf
    · refine r_iconst dX6_lets_54 ic_1 ?_
      refine r_goto (tgt := 59) dX6_lets_55 rfl ?_
      refine r_mask (bs := [true, false, true, true, true, true, false]) ?_
      exact ok_mX6_lets_59 hf
theorem met_X6_lets {zv : Int32} {zw : AW} {v1 : Int32} {v2 : Int32} {v3 : Int32} {w : AW} (hf : mX6_lets v1 v2 v3 w = some (zv, zw)) : am_Met true KX6_lets [vR 0 0, vI v1, vI v2, vI v3] w (some (vI zv), zw) := am_met mok_X6_lets.1 (Nat.le_of_ble_eq_true rfl) (ok_mX6_lets  hf)

/-! SeenWorldsModel.maySee(III)Z -/
noncomputable def mX6_maySee_76 (w : AW) : Option (Int32 × AW) :=
  some (1, w)
noncomputable def mX6_maySee_50 (v1 : Int32) (v2 : Int32) (v3 : Int32) (v4 : Int32) (w : AW) : Option (Int32 × AW) :=
  if v4 = 0 then
    some (0, w)
  else
    if v1 ≠ 7 then
      mX6_maySee_76 w
    else
      rd 1024 (w.1 0 39) v2 fun x_1 =>
      rd 1024 (w.1 0 39) v3 fun x_2 =>
      if x_1 ≠ x_2 then
        some (0, w)
      else
        mX6_maySee_76 w
noncomputable def mX6_maySee_48 (v1 : Int32) (v2 : Int32) (v3 : Int32) (s0 : Int32) (w : AW) : Option (Int32 × AW) :=
  mX6_maySee_50 v1 v2 v3 s0 w
noncomputable def mX6_maySee_47 (v1 : Int32) (v2 : Int32) (v3 : Int32) (w : AW) : Option (Int32 × AW) :=
  mX6_maySee_48 v1 v2 v3 0 w
noncomputable def mX6_maySee_18 (v1 : Int32) (v2 : Int32) (v3 : Int32) (s0 : Int32) (s1 : Int32) (s2 : Int32) (w : AW) : Option (Int32 × AW) :=
  cl (mX6_lets s2 s1 s0 w) fun x_2 w_1 =>
  if v1 ≤ 4 then
    mX6_maySee_50 v1 v2 v3 x_2 w_1
  else
    if x_2 = 0 then
      mX6_maySee_47 v1 v2 v3 w_1
    else
      cl (mX6_lets v3 v2 0 w_1) fun x_4 w_3 =>
      if x_4 = 0 then
        mX6_maySee_47 v1 v2 v3 w_3
      else
        mX6_maySee_48 v1 v2 v3 1 w_3
noncomputable def mX6_maySee_13 (v1 : Int32) (v2 : Int32) (v3 : Int32) (s0 : Int32) (s1 : Int32) (w : AW) : Option (Int32 × AW) :=
  mX6_maySee_18 v1 v2 v3 1 s0 s1 w
noncomputable def mX6_maySee (v1 : Int32) (v2 : Int32) (v3 : Int32) (w : AW) : Option (Int32 × AW) :=
  if v1 = 3 then
    mX6_maySee_13 v1 v2 v3 v3 v2 w
  else
    if v1 ≠ 4 then
      mX6_maySee_18 v1 v2 v3 0 v3 v2 w
    else
      mX6_maySee_13 v1 v2 v3 v3 v2 w
set_option maxRecDepth 100000 in
set_option maxHeartbeats 4000000 in
theorem ok_mX6_maySee_76 {zv : Int32} {zw : AW} {w : AW} (hf : mX6_maySee_76 w = some (zv, zw)) : RR true KX6_maySee (some (vI zv), zw) 76 [none, none, none, none, none] [] w := by
  refine r_iconst dX6_maySee_76 ic_1 ?_
  refine r_goto (tgt := 81) dX6_maySee_77 rfl ?_
  exact r_zret dX6_maySee_81 rfl nar_1 (ret_I hf)
set_option maxRecDepth 100000 in
set_option maxHeartbeats 4000000 in
theorem ok_mX6_maySee_50 {zv : Int32} {zw : AW} {v1 : Int32} {v2 : Int32} {v3 : Int32} {v4 : Int32} {w : AW} (hf : mX6_maySee_50 v1 v2 v3 v4 w = some (zv, zw)) : RR true KX6_maySee (some (vI zv), zw) 50 [some (vR 0 0), some (vI v1), some (vI v2), some (vI v3), some (vI v4)] [] w := by
  refine r_iload dX6_maySee_50 rfl ?_
  refine g_if_eq (tgt := 80) dX6_maySee_52 rfl hf (fun _ hf => ?_) (fun _ hf => ?_)
  · refine r_iconst dX6_maySee_80 ic_0 ?_
    exact r_zret dX6_maySee_81 rfl nar_0 (ret_I hf)
  · refine r_iload_n dX6_maySee_55 rfl rfl ?_
    refine r_bipush dX6_maySee_56 (bp_7) ?_
    refine g_icmp_ne (tgt := 76) dX6_maySee_58 rfl hf (fun _ hf => ?_) (fun _ hf => ?_)
    · refine r_mask (bs := [false, false, false, false, false]) ?_
      exact ok_mX6_maySee_76 hf
    · refine r_aload_n dX6_maySee_61 rfl rfl ?_
      refine g_getA dX6_maySee_62 fl_RX6_101 fk_6_38 rfl (cl_true_0) ?_
      refine r_iload_n dX6_maySee_65 rfl rfl ?_
      refine g_iald dX6_maySee_66 aK_true_0_39 aL_true_0_39 hf (fun x_1 hf => ?_)
      refine r_aload_n dX6_maySee_67 rfl rfl ?_
      refine g_getA dX6_maySee_68 fl_RX6_101 fk_6_38 rfl (cl_true_0) ?_
      refine r_iload_n dX6_maySee_71 rfl rfl ?_
      refine g_iald dX6_maySee_72 aK_true_0_39 aL_true_0_39 hf (fun x_2 hf => ?_)
      refine g_icmp_ne (tgt := 80) dX6_maySee_73 rfl hf (fun _ hf => ?_) (fun _ hf => ?_)
      · refine r_iconst dX6_maySee_80 ic_0 ?_
        exact r_zret dX6_maySee_81 rfl nar_0 (ret_I hf)
      · refine r_mask (bs := [false, false, false, false, false]) ?_
        exact ok_mX6_maySee_76 hf
set_option maxRecDepth 100000 in
set_option maxHeartbeats 4000000 in
theorem ok_mX6_maySee_48 {zv : Int32} {zw : AW} {v1 : Int32} {v2 : Int32} {v3 : Int32} {s0 : Int32} {w : AW} (hf : mX6_maySee_48 v1 v2 v3 s0 w = some (zv, zw)) : RR true KX6_maySee (some (vI zv), zw) 48 [some (vR 0 0), some (vI v1), some (vI v2), some (vI v3), none] [vI s0] w := by
  refine r_istore (ls2 := [some (vR 0 0), some (vI v1), some (vI v2), some (vI v3), some (vI s0)]) dX6_maySee_48 rfl rfl (Nat.le_of_ble_eq_true rfl) ?_
  exact ok_mX6_maySee_50 hf
set_option maxRecDepth 100000 in
set_option maxHeartbeats 4000000 in
theorem ok_mX6_maySee_47 {zv : Int32} {zw : AW} {v1 : Int32} {v2 : Int32} {v3 : Int32} {w : AW} (hf : mX6_maySee_47 v1 v2 v3 w = some (zv, zw)) : RR true KX6_maySee (some (vI zv), zw) 47 [some (vR 0 0), some (vI v1), some (vI v2), some (vI v3), none] [] w := by
  refine r_iconst dX6_maySee_47 ic_0 ?_
  exact ok_mX6_maySee_48 hf
set_option maxRecDepth 100000 in
set_option maxHeartbeats 4000000 in
theorem ok_mX6_maySee_18 {zv : Int32} {zw : AW} {v1 : Int32} {v2 : Int32} {v3 : Int32} {s0 : Int32} {s1 : Int32} {s2 : Int32} {w : AW} (hf : mX6_maySee_18 v1 v2 v3 s0 s1 s2 w = some (zv, zw)) : RR true KX6_maySee (some (vI zv), zw) 18 [some (vR 0 0), some (vI v1), some (vI v2), some (vI v3), none] [vI s0, vI s1, vI s2, vR 0 0] w := by
  obtain ⟨x_2, w_1, hc, hf⟩ := cl_some hf
  refine g_cV (st := []) KX6_lets [vI s2, vI s1, vI s0] dX6_maySee_18 e_RX6_252 (cl_true_0) (rfl : vwCl[6]? = _) rfl mok_X6_lets mw_X6_lets ⟨Nat.le_of_ble_eq_true rfl, Nat.le_of_ble_eq_true rfl⟩ (met_X6_lets hc) rfl (Nat.le_of_ble_eq_true rfl) ?_
  clear hc
  refine r_istore (ls2 := [some (vR 0 0), some (vI v1), some (vI v2), some (vI v3), some (vI x_2)]) dX6_maySee_21 rfl rfl (Nat.le_of_ble_eq_true rfl) ?_
  refine r_iload_n dX6_maySee_23 rfl rfl ?_
  refine r_iconst dX6_maySee_24 ic_4 ?_
  refine g_icmp_le (tgt := 50) dX6_maySee_25 rfl hf (fun _ hf => ?_) (fun _ hf => ?_)
  · exact ok_mX6_maySee_50 hf
  · refine r_iload dX6_maySee_28 rfl ?_
    refine g_if_eq (tgt := 47) dX6_maySee_30 rfl hf (fun _ hf => ?_) (fun _ hf => ?_)
    · refine r_mask (bs := [true, true, true, true, false]) ?_
      exact ok_mX6_maySee_47 hf
    · refine r_aload_n dX6_maySee_33 rfl rfl ?_
      refine r_iload_n dX6_maySee_34 rfl rfl ?_
      refine r_iload_n dX6_maySee_35 rfl rfl ?_
      refine r_iconst dX6_maySee_36 ic_0 ?_
      obtain ⟨x_4, w_3, hc, hf⟩ := cl_some hf
      refine g_cV (st := []) KX6_lets [vI v3, vI v2, vI 0] dX6_maySee_37 e_RX6_252 (cl_true_0) (rfl : vwCl[6]? = _) rfl mok_X6_lets mw_X6_lets ⟨Nat.le_of_ble_eq_true rfl, Nat.le_of_ble_eq_true rfl⟩ (met_X6_lets hc) rfl (Nat.le_of_ble_eq_true rfl) ?_
      clear hc
      refine g_if_eq (tgt := 47) dX6_maySee_40 rfl hf (fun _ hf => ?_) (fun _ hf => ?_)
      · refine r_mask (bs := [true, true, true, true, false]) ?_
        exact ok_mX6_maySee_47 hf
      · refine r_iconst dX6_maySee_43 ic_1 ?_
        refine r_goto (tgt := 48) dX6_maySee_44 rfl ?_
        refine r_mask (bs := [true, true, true, true, false]) ?_
        exact ok_mX6_maySee_48 hf
set_option maxRecDepth 100000 in
set_option maxHeartbeats 4000000 in
theorem ok_mX6_maySee_13 {zv : Int32} {zw : AW} {v1 : Int32} {v2 : Int32} {v3 : Int32} {s0 : Int32} {s1 : Int32} {w : AW} (hf : mX6_maySee_13 v1 v2 v3 s0 s1 w = some (zv, zw)) : RR true KX6_maySee (some (vI zv), zw) 13 [some (vR 0 0), some (vI v1), some (vI v2), some (vI v3), none] [vI s0, vI s1, vR 0 0] w := by
  refine r_iconst dX6_maySee_13 ic_1 ?_
  refine r_goto (tgt := 18) dX6_maySee_14 rfl ?_
  exact ok_mX6_maySee_18 hf
set_option maxRecDepth 100000 in
set_option maxHeartbeats 4000000 in
theorem ok_mX6_maySee {zv : Int32} {zw : AW} {v1 : Int32} {v2 : Int32} {v3 : Int32} {w : AW} (hf : mX6_maySee v1 v2 v3 w = some (zv, zw)) : RR true KX6_maySee (some (vI zv), zw) 0 [some (vR 0 0), some (vI v1), some (vI v2), some (vI v3), none] [] w := by
  refine r_aload_n dX6_maySee_0 rfl rfl ?_
  refine r_iload_n dX6_maySee_1 rfl rfl ?_
  refine r_iload_n dX6_maySee_2 rfl rfl ?_
  refine r_iload_n dX6_maySee_3 rfl rfl ?_
  refine r_iconst dX6_maySee_4 ic_3 ?_
  refine g_icmp_eq (tgt := 13) dX6_maySee_5 rfl hf (fun _ hf => ?_) (fun _ hf => ?_)
  · exact ok_mX6_maySee_13 hf
  · refine r_iload_n dX6_maySee_8 rfl rfl ?_
    refine r_iconst dX6_maySee_9 ic_4 ?_
    refine g_icmp_ne (tgt := 17) dX6_maySee_10 rfl hf (fun _ hf => ?_) (fun _ hf => ?_)
    · refine r_iconst dX6_maySee_17 ic_0 ?_
      exact ok_mX6_maySee_18 hf
    · exact ok_mX6_maySee_13 hf
theorem met_X6_maySee {zv : Int32} {zw : AW} {v1 : Int32} {v2 : Int32} {v3 : Int32} {w : AW} (hf : mX6_maySee v1 v2 v3 w = some (zv, zw)) : am_Met true KX6_maySee [vR 0 0, vI v1, vI v2, vI v3] w (some (vI zv), zw) := am_met mok_X6_maySee.1 (Nat.le_of_ble_eq_true rfl) (ok_mX6_maySee  hf)

/-! SeenWorldsModel.isThere(I)Z -/
noncomputable def mX6_isThere (v1 : Int32) (w : AW) : Option (Int32 × AW) :=
  rd 1024 (w.1 0 42) v1 fun x_1 =>
  if x_1 ≠ (-9) then
    some (0, w)
  else
    some (1, w)
set_option maxRecDepth 100000 in
set_option maxHeartbeats 4000000 in
theorem ok_mX6_isThere {zv : Int32} {zw : AW} {v1 : Int32} {w : AW} (hf : mX6_isThere v1 w = some (zv, zw)) : RR true KX6_isThere (some (vI zv), zw) 0 [some (vR 0 0), some (vI v1)] [] w := by
  refine r_aload_n dX6_isThere_0 rfl rfl ?_
  refine g_getA dX6_isThere_1 fl_RX6_111 fk_6_41 rfl (cl_true_0) ?_
  refine r_iload_n dX6_isThere_4 rfl rfl ?_
  refine g_iald dX6_isThere_5 aK_true_0_42 aL_true_0_42 hf (fun x_1 hf => ?_)
  refine r_bipush dX6_isThere_6 (bp_m9) ?_
  refine g_icmp_ne (tgt := 15) dX6_isThere_8 rfl hf (fun _ hf => ?_) (fun _ hf => ?_)
  · refine r_iconst dX6_isThere_15 ic_0 ?_
    exact r_zret dX6_isThere_16 rfl nar_0 (ret_I hf)
  · refine r_iconst dX6_isThere_11 ic_1 ?_
    refine r_goto (tgt := 16) dX6_isThere_12 rfl ?_
    exact r_zret dX6_isThere_16 rfl nar_1 (ret_I hf)
theorem met_X6_isThere {zv : Int32} {zw : AW} {v1 : Int32} {w : AW} (hf : mX6_isThere v1 w = some (zv, zw)) : am_Met true KX6_isThere [vR 0 0, vI v1] w (some (vI zv), zw) := am_met mok_X6_isThere.1 (Nat.le_of_ble_eq_true rfl) (ok_mX6_isThere  hf)

/-! SeenWorldsModel.isFalling(II)Z -/
noncomputable def mX6_isFalling_116 (k41 : Int32 → Int32 → Int32 → AW → Option (Int32 × AW)) (v1 : Int32) (v2 : Int32) (v3 : Int32) (v4 : Int32) (v5 : Int32) (w : AW) : Option (Int32 × AW) :=
  nm (v5 + 1) fun v5_1 =>
  k41 v3 v4 v5_1 w
noncomputable def mX6_isFalling_61 (k41 : Int32 → Int32 → Int32 → AW → Option (Int32 × AW)) (v1 : Int32) (v2 : Int32) (v3 : Int32) (v4 : Int32) (v5 : Int32) (w : AW) : Option (Int32 × AW) :=
  cl (mX6_isThere v5 w) fun x_2 w_1 =>
  if x_2 = 0 then
    mX6_isFalling_116 k41 v1 v2 v3 v4 v5 w_1
  else
    cl (mX6_maySee v1 v2 v5 w_1) fun x_4 w_3 =>
    if x_4 = 0 then
      mX6_isFalling_116 k41 v1 v2 v3 v4 v5 w_3
    else
      rd 1024 (w_3.1 0 40) v5 fun x_5 =>
      rd 1024 (w_3.1 0 40) v5 fun x_6 =>
      nm (v3 &&& (((x_5 &&& (w_3.1 0 0 45)) ||| ((x_6 ^^^ (-1)) &&& (w_3.1 0 0 44))) ^^^ (-1))) fun v3_7 =>
      mX6_isFalling_116 k41 v1 v2 v3_7 1 v5 w_3
noncomputable def mX6_isFalling_131 (w : AW) : Option (Int32 × AW) :=
  some (1, w)
noncomputable def mX6_isFalling_122 (v3 : Int32) (v4 : Int32) (w : AW) : Option (Int32 × AW) :=
  if v3 ≠ 0 then
    mX6_isFalling_131 w
  else
    if v4 ≠ 0 then
      some (0, w)
    else
      mX6_isFalling_131 w
noncomputable def mX6_isFalling_41 (v1 : Int32) (v2 : Int32) : Nat → Int32 → Int32 → Int32 → AW → Option (Int32 × AW)
  | 0, _, _, _, _ => none
  | n + 1, v3, v4, v5, w =>
    if (1 <<< ((w.1 0 0 35) &&& 31)) ≤ v5 then
      mX6_isFalling_122 v3 v4 w
    else
      if v3 ≠ 0 then
        mX6_isFalling_61 (mX6_isFalling_41 v1 v2 n) v1 v2 v3 v4 v5 w
      else
        if v4 ≠ 0 then
          mX6_isFalling_122 v3 v4 w
        else
          mX6_isFalling_61 (mX6_isFalling_41 v1 v2 n) v1 v2 v3 v4 v5 w
noncomputable def mX6_isFalling_36 (v1 : Int32) (v2 : Int32) (v3 : Int32) (s0 : Int32) (w : AW) : Option (Int32 × AW) :=
  mX6_isFalling_41 v1 v2 FU v3 s0 0 w
noncomputable def mX6_isFalling (v1 : Int32) (v2 : Int32) (w : AW) : Option (Int32 × AW) :=
  rd 1024 (w.1 0 39) v2 fun x_1 =>
  rd 1024 (w.1 0 39) v2 fun x_2 =>
  nm ((x_1 &&& (w.1 0 0 45)) ||| ((x_2 ^^^ (-1)) &&& (w.1 0 0 44))) fun v3_3 =>
  if v1 = 1 then
    mX6_isFalling_36 v1 v2 v3_3 0 w
  else
    mX6_isFalling_36 v1 v2 v3_3 1 w
set_option maxRecDepth 100000 in
set_option maxHeartbeats 4000000 in
theorem ok_mX6_isFalling_116 {zv : Int32} {zw : AW} {k41 : Int32 → Int32 → Int32 → AW → Option (Int32 × AW)} {v1 : Int32} {v2 : Int32} {v3 : Int32} {v4 : Int32} {v5 : Int32} (hk41 : ∀ (v3 : Int32) (v4 : Int32) (v5 : Int32)  w, k41 v3 v4 v5 w = some (zv, zw) → RR true KX6_isFalling (some (vI zv), zw) 41 [some (vR 0 0), some (vI v1), some (vI v2), some (vI v3), some (vI v4), some (vI v5)] [] w) {w : AW} (hf : mX6_isFalling_116 k41 v1 v2 v3 v4 v5 w = some (zv, zw)) : RR true KX6_isFalling (some (vI zv), zw) 116 [some (vR 0 0), some (vI v1), some (vI v2), some (vI v3), some (vI v4), some (vI v5)] [] w := by
  refine g_iinc (fun v5_1 => [some (vR 0 0), some (vI v1), some (vI v2), some (vI v3), some (vI v4), some (vI v5_1)]) dX6_isFalling_116 ic_1 rfl rfl (fun _ => rfl) (Nat.le_of_ble_eq_true rfl) hf (fun v5_1 hf => ?_)
  refine r_goto (tgt := 41) dX6_isFalling_119 rfl ?_
  exact hk41 _ _ _ _ hf
set_option maxRecDepth 100000 in
set_option maxHeartbeats 4000000 in
theorem ok_mX6_isFalling_61 {zv : Int32} {zw : AW} {k41 : Int32 → Int32 → Int32 → AW → Option (Int32 × AW)} {v1 : Int32} {v2 : Int32} {v3 : Int32} {v4 : Int32} {v5 : Int32} (hk41 : ∀ (v3 : Int32) (v4 : Int32) (v5 : Int32)  w, k41 v3 v4 v5 w = some (zv, zw) → RR true KX6_isFalling (some (vI zv), zw) 41 [some (vR 0 0), some (vI v1), some (vI v2), some (vI v3), some (vI v4), some (vI v5)] [] w) {w : AW} (hf : mX6_isFalling_61 k41 v1 v2 v3 v4 v5 w = some (zv, zw)) : RR true KX6_isFalling (some (vI zv), zw) 61 [some (vR 0 0), some (vI v1), some (vI v2), some (vI v3), some (vI v4), some (vI v5)] [] w := by
  refine r_aload_n dX6_isFalling_61 rfl rfl ?_
  refine r_iload dX6_isFalling_62 rfl ?_
  obtain ⟨x_2, w_1, hc, hf⟩ := cl_some hf
  refine g_cV (st := []) KX6_isThere [vI v5] dX6_isFalling_64 e_RX6_256 (cl_true_0) (rfl : vwCl[6]? = _) rfl mok_X6_isThere mw_X6_isThere ⟨Nat.le_of_ble_eq_true rfl, Nat.le_of_ble_eq_true rfl⟩ (met_X6_isThere hc) rfl (Nat.le_of_ble_eq_true rfl) ?_
  clear hc
  refine g_if_eq (tgt := 116) dX6_isFalling_67 rfl hf (fun _ hf => ?_) (fun _ hf => ?_)
  · exact ok_mX6_isFalling_116 hk41 hf
  · refine r_aload_n dX6_isFalling_70 rfl rfl ?_
    refine r_iload_n dX6_isFalling_71 rfl rfl ?_
    refine r_iload_n dX6_isFalling_72 rfl rfl ?_
    refine r_iload dX6_isFalling_73 rfl ?_
    obtain ⟨x_4, w_3, hc, hf⟩ := cl_some hf
    refine g_cV (st := []) KX6_maySee [vI v1, vI v2, vI v5] dX6_isFalling_75 e_RX6_259 (cl_true_0) (rfl : vwCl[6]? = _) rfl mok_X6_maySee mw_X6_maySee ⟨Nat.le_of_ble_eq_true rfl, Nat.le_of_ble_eq_true rfl⟩ (met_X6_maySee hc) rfl (Nat.le_of_ble_eq_true rfl) ?_
    clear hc
    refine g_if_eq (tgt := 116) dX6_isFalling_78 rfl hf (fun _ hf => ?_) (fun _ hf => ?_)
    · exact ok_mX6_isFalling_116 hk41 hf
    · refine r_iconst dX6_isFalling_81 ic_1 ?_
      refine r_istore (ls2 := [some (vR 0 0), some (vI v1), some (vI v2), some (vI v3), some (vI 1), some (vI v5)]) dX6_isFalling_82 rfl rfl (Nat.le_of_ble_eq_true rfl) ?_
      refine r_iload_n dX6_isFalling_84 rfl rfl ?_
      refine r_aload_n dX6_isFalling_85 rfl rfl ?_
      refine g_getA dX6_isFalling_86 fl_RX6_104 fk_6_39 rfl (cl_true_0) ?_
      refine r_iload dX6_isFalling_89 rfl ?_
      refine g_iald dX6_isFalling_91 aK_true_0_40 aL_true_0_40 hf (fun x_5 hf => ?_)
      refine r_aload_n dX6_isFalling_92 rfl rfl ?_
      refine g_getI dX6_isFalling_93 fl_RX6_246 fk_6_45 (cl_true_0) ?_
      refine r_iand dX6_isFalling_96 ?_
      refine r_aload_n dX6_isFalling_97 rfl rfl ?_
      refine g_getA dX6_isFalling_98 fl_RX6_104 fk_6_39 rfl (cl_true_0) ?_
      refine r_iload dX6_isFalling_101 rfl ?_
      refine g_iald dX6_isFalling_103 aK_true_0_40 aL_true_0_40 hf (fun x_6 hf => ?_)
      refine r_iconst dX6_isFalling_104 ic_m1 ?_
      refine r_ixor dX6_isFalling_105 ?_
      refine r_aload_n dX6_isFalling_106 rfl rfl ?_
      refine g_getI dX6_isFalling_107 fl_RX6_243 fk_6_44 (cl_true_0) ?_
      refine r_iand dX6_isFalling_110 ?_
      refine r_ior dX6_isFalling_111 ?_
      refine r_iconst dX6_isFalling_112 ic_m1 ?_
      refine r_ixor dX6_isFalling_113 ?_
      refine r_iand dX6_isFalling_114 ?_
      refine g_istore_n (fun v3_7 => [some (vR 0 0), some (vI v1), some (vI v2), some (vI v3_7), some (vI 1), some (vI v5)]) dX6_isFalling_115 rfl rfl (fun _ => rfl) (Nat.le_of_ble_eq_true rfl) hf (fun v3_7 hf => ?_)
      exact ok_mX6_isFalling_116 hk41 hf
set_option maxRecDepth 100000 in
set_option maxHeartbeats 4000000 in
theorem ok_mX6_isFalling_131 {zv : Int32} {zw : AW} {w : AW} (hf : mX6_isFalling_131 w = some (zv, zw)) : RR true KX6_isFalling (some (vI zv), zw) 131 [none, none, none, none, none, none] [] w := by
  refine r_iconst dX6_isFalling_131 ic_1 ?_
  refine r_goto (tgt := 136) dX6_isFalling_132 rfl ?_
  exact r_zret dX6_isFalling_136 rfl nar_1 (ret_I hf)
set_option maxRecDepth 100000 in
set_option maxHeartbeats 4000000 in
theorem ok_mX6_isFalling_122 {zv : Int32} {zw : AW} {v3 : Int32} {v4 : Int32} {w : AW} (hf : mX6_isFalling_122 v3 v4 w = some (zv, zw)) : RR true KX6_isFalling (some (vI zv), zw) 122 [none, none, none, some (vI v3), some (vI v4), none] [] w := by
  refine r_iload_n dX6_isFalling_122 rfl rfl ?_
  refine g_if_ne (tgt := 131) dX6_isFalling_123 rfl hf (fun _ hf => ?_) (fun _ hf => ?_)
  · refine r_mask (bs := [false, false, false, false, false, false]) ?_
    exact ok_mX6_isFalling_131 hf
  · refine r_iload dX6_isFalling_126 rfl ?_
    refine g_if_ne (tgt := 135) dX6_isFalling_128 rfl hf (fun _ hf => ?_) (fun _ hf => ?_)
    · refine r_iconst dX6_isFalling_135 ic_0 ?_
      exact r_zret dX6_isFalling_136 rfl nar_0 (ret_I hf)
    · refine r_mask (bs := [false, false, false, false, false, false]) ?_
      exact ok_mX6_isFalling_131 hf
set_option maxRecDepth 100000 in
set_option maxHeartbeats 4000000 in
theorem ok_mX6_isFalling_41 {zv : Int32} {zw : AW} {v1 : Int32} {v2 : Int32} : ∀ (n : Nat) (v3 : Int32) (v4 : Int32) (v5 : Int32) (w : AW), mX6_isFalling_41 v1 v2 n v3 v4 v5 w = some (zv, zw) → RR true KX6_isFalling (some (vI zv), zw) 41 [some (vR 0 0), some (vI v1), some (vI v2), some (vI v3), some (vI v4), some (vI v5)] [] w := by
  intro n
  induction n with
  | zero => intro v3 v4 v5 w hf; cases hf
  | succ n ih =>
    intro v3 v4 v5 w hf
    refine r_iload dX6_isFalling_41 rfl ?_
    refine r_iconst dX6_isFalling_43 ic_1 ?_
    refine r_aload_n dX6_isFalling_44 rfl rfl ?_
    refine g_getI dX6_isFalling_45 fl_RX6_240 fk_6_35 (cl_true_0) ?_
    refine r_ishl dX6_isFalling_48 ?_
    refine g_icmp_ge (tgt := 122) dX6_isFalling_49 rfl hf (fun _ hf => ?_) (fun _ hf => ?_)
    · refine r_mask (bs := [false, false, false, true, true, false]) ?_
      exact ok_mX6_isFalling_122 hf
    · refine r_iload_n dX6_isFalling_52 rfl rfl ?_
      refine g_if_ne (tgt := 61) dX6_isFalling_53 rfl hf (fun _ hf => ?_) (fun _ hf => ?_)
      · exact ok_mX6_isFalling_61 (fun v3 v4 v5 w hf => ih v3 v4 v5 w hf) hf
      · refine r_iload dX6_isFalling_56 rfl ?_
        refine g_if_ne (tgt := 122) dX6_isFalling_58 rfl hf (fun _ hf => ?_) (fun _ hf => ?_)
        · refine r_mask (bs := [false, false, false, true, true, false]) ?_
          exact ok_mX6_isFalling_122 hf
        · exact ok_mX6_isFalling_61 (fun v3 v4 v5 w hf => ih v3 v4 v5 w hf) hf
set_option maxRecDepth 100000 in
set_option maxHeartbeats 4000000 in
theorem ok_mX6_isFalling_36 {zv : Int32} {zw : AW} {v1 : Int32} {v2 : Int32} {v3 : Int32} {s0 : Int32} {w : AW} (hf : mX6_isFalling_36 v1 v2 v3 s0 w = some (zv, zw)) : RR true KX6_isFalling (some (vI zv), zw) 36 [some (vR 0 0), some (vI v1), some (vI v2), some (vI v3), none, none] [vI s0] w := by
  refine r_istore (ls2 := [some (vR 0 0), some (vI v1), some (vI v2), some (vI v3), some (vI s0), none]) dX6_isFalling_36 rfl rfl (Nat.le_of_ble_eq_true rfl) ?_
  refine r_iconst dX6_isFalling_38 ic_0 ?_
  refine r_istore (ls2 := [some (vR 0 0), some (vI v1), some (vI v2), some (vI v3), some (vI s0), some (vI 0)]) dX6_isFalling_39 rfl rfl (Nat.le_of_ble_eq_true rfl) ?_
  exact ok_mX6_isFalling_41 FU _ _ _ _ hf
set_option maxRecDepth 100000 in
set_option maxHeartbeats 4000000 in
theorem ok_mX6_isFalling {zv : Int32} {zw : AW} {v1 : Int32} {v2 : Int32} {w : AW} (hf : mX6_isFalling v1 v2 w = some (zv, zw)) : RR true KX6_isFalling (some (vI zv), zw) 0 [some (vR 0 0), some (vI v1), some (vI v2), none, none, none] [] w := by
  refine r_aload_n dX6_isFalling_0 rfl rfl ?_
  refine g_getA dX6_isFalling_1 fl_RX6_101 fk_6_38 rfl (cl_true_0) ?_
  refine r_iload_n dX6_isFalling_4 rfl rfl ?_
  refine g_iald dX6_isFalling_5 aK_true_0_39 aL_true_0_39 hf (fun x_1 hf => ?_)
  refine r_aload_n dX6_isFalling_6 rfl rfl ?_
  refine g_getI dX6_isFalling_7 fl_RX6_246 fk_6_45 (cl_true_0) ?_
  refine r_iand dX6_isFalling_10 ?_
  refine r_aload_n dX6_isFalling_11 rfl rfl ?_
  refine g_getA dX6_isFalling_12 fl_RX6_101 fk_6_38 rfl (cl_true_0) ?_
  refine r_iload_n dX6_isFalling_15 rfl rfl ?_
  refine g_iald dX6_isFalling_16 aK_true_0_39 aL_true_0_39 hf (fun x_2 hf => ?_)
  refine r_iconst dX6_isFalling_17 ic_m1 ?_
  refine r_ixor dX6_isFalling_18 ?_
  refine r_aload_n dX6_isFalling_19 rfl rfl ?_
  refine g_getI dX6_isFalling_20 fl_RX6_243 fk_6_44 (cl_true_0) ?_
  refine r_iand dX6_isFalling_23 ?_
  refine r_ior dX6_isFalling_24 ?_
  refine g_istore_n (fun v3_3 => [some (vR 0 0), some (vI v1), some (vI v2), some (vI v3_3), none, none]) dX6_isFalling_25 rfl rfl (fun _ => rfl) (Nat.le_of_ble_eq_true rfl) hf (fun v3_3 hf => ?_)
  refine r_iload_n dX6_isFalling_26 rfl rfl ?_
  refine r_iconst dX6_isFalling_27 ic_1 ?_
  refine g_icmp_eq (tgt := 35) dX6_isFalling_28 rfl hf (fun _ hf => ?_) (fun _ hf => ?_)
  · refine r_iconst dX6_isFalling_35 ic_0 ?_
    exact ok_mX6_isFalling_36 hf
  · refine r_iconst dX6_isFalling_31 ic_1 ?_
    refine r_goto (tgt := 36) dX6_isFalling_32 rfl ?_
    exact ok_mX6_isFalling_36 hf
theorem met_X6_isFalling {zv : Int32} {zw : AW} {v1 : Int32} {v2 : Int32} {w : AW} (hf : mX6_isFalling v1 v2 w = some (zv, zw)) : am_Met true KX6_isFalling [vR 0 0, vI v1, vI v2] w (some (vI zv), zw) := am_met mok_X6_isFalling.1 (Nat.le_of_ble_eq_true rfl) (ok_mX6_isFalling  hf)

/-! SeenWorldsModel.rounds(I)I -/
noncomputable def mX6_rounds_58 (k23 : Int32 → AW → Option (Int32 × AW)) (v1 : Int32) (v2 : Int32) (v3 : Int32) (s0 : Int32) (s1 : Int32) (w : AW) : Option (Int32 × AW) :=
  wr 1024 w 0 42 s1 s0 fun w_1 =>
  nm (v3 + 1) fun v3_2 =>
  k23 v3_2 w_1
noncomputable def mX6_rounds_56 (k23 : Int32 → AW → Option (Int32 × AW)) (v1 : Int32) (v2 : Int32) (v3 : Int32) (s0 : Int32) (w : AW) : Option (Int32 × AW) :=
  mX6_rounds_58 k23 v1 v2 v3 (-9) s0 w
noncomputable def mX6_rounds_122 (k70 : Int32 → Int32 → AW → Option (Int32 × AW)) (k81 : Int32 → Int32 → AW → Option (Int32 × AW)) (v1 : Int32) (v3 : Int32) (v4 : Int32) (v5 : Int32) (s0 : Int32) (s1 : Int32) (w : AW) : Option (Int32 × AW) :=
  wr 1024 w 0 43 s1 (vp_nar .boolean s0) fun w_1 =>
  rd 1024 (w_1.1 0 43) v5 fun x_2 =>
  nm (v4 ||| x_2) fun v4_3 =>
  nm (v5 + 1) fun v5_4 =>
  k81 v4_3 v5_4 w_1
noncomputable def mX6_rounds_121 (k70 : Int32 → Int32 → AW → Option (Int32 × AW)) (k81 : Int32 → Int32 → AW → Option (Int32 × AW)) (v1 : Int32) (v3 : Int32) (v4 : Int32) (v5 : Int32) (s0 : Int32) (w : AW) : Option (Int32 × AW) :=
  mX6_rounds_122 k70 k81 v1 v3 v4 v5 0 s0 w
noncomputable def mX6_rounds_195 (k70 : Int32 → Int32 → AW → Option (Int32 × AW)) (k157 : Int32 → AW → Option (Int32 × AW)) (v1 : Int32) (v3 : Int32) (v4 : Int32) (v5 : Int32) (s0 : Int32) (s1 : Int32) (w : AW) : Option (Int32 × AW) :=
  wr 1024 w 0 42 s1 s0 fun w_1 =>
  nm (v5 + 1) fun v5_2 =>
  k157 v5_2 w_1
noncomputable def mX6_rounds_157 (k70 : Int32 → Int32 → AW → Option (Int32 × AW)) (v1 : Int32) (v3 : Int32) (v4 : Int32) : Nat → Int32 → AW → Option (Int32 × AW)
  | 0, _, _ => none
  | n + 1, v5, w =>
    if (1 <<< ((w.1 0 0 35) &&& 31)) ≤ v5 then
      k70 v3 v4 w
    else
      rd 1024 (w.1 0 43) v5 fun x_1 =>
      if x_1 = 0 then
        rd 1024 (w.1 0 42) v5 fun x_2 =>
        mX6_rounds_195 k70 (mX6_rounds_157 k70 v1 v3 v4 n) v1 v3 v4 v5 x_2 v5 w
      else
        mX6_rounds_195 k70 (mX6_rounds_157 k70 v1 v3 v4 n) v1 v3 v4 v5 v3 v5 w
noncomputable def mX6_rounds_152 (k70 : Int32 → Int32 → AW → Option (Int32 × AW)) (v1 : Int32) (v4 : Int32) (s0 : Int32) (s1 : Int32) (w : AW) : Option (Int32 × AW) :=
  nm (s1 + s0) fun v3_1 =>
  mX6_rounds_157 k70 v1 v3_1 v4 FU 0 w
noncomputable def mX6_rounds_81 (k70 : Int32 → Int32 → AW → Option (Int32 × AW)) (v1 : Int32) (v3 : Int32) : Nat → Int32 → Int32 → AW → Option (Int32 × AW)
  | 0, _, _, _ => none
  | n + 1, v4, v5, w =>
    if (1 <<< ((w.1 0 0 35) &&& 31)) ≤ v5 then
      if v4 = 0 then
        mX6_rounds_152 k70 v1 v4 0 v3 w
      else
        mX6_rounds_152 k70 v1 v4 1 v3 w
    else
      cl (mX6_isThere v5 w) fun x_2 w_1 =>
      if x_2 = 0 then
        mX6_rounds_121 k70 (mX6_rounds_81 k70 v1 v3 n) v1 v3 v4 v5 v5 w_1
      else
        cl (mX6_isFalling v1 v5 w_1) fun x_4 w_3 =>
        if x_4 = 0 then
          mX6_rounds_121 k70 (mX6_rounds_81 k70 v1 v3 n) v1 v3 v4 v5 v5 w_3
        else
          mX6_rounds_122 k70 (mX6_rounds_81 k70 v1 v3 n) v1 v3 v4 v5 1 v5 w_3
noncomputable def mX6_rounds_70 (v1 : Int32) : Nat → Int32 → Int32 → AW → Option (Int32 × AW)
  | 0, _, _, _ => none
  | n + 1, v3, v4, w =>
    if v4 = 0 then
      some (v3, w)
    else
      mX6_rounds_81 (mX6_rounds_70 v1 n) v1 v3 FU 0 0 w
noncomputable def mX6_rounds_23 (v1 : Int32) (v2 : Int32) : Nat → Int32 → AW → Option (Int32 × AW)
  | 0, _, _ => none
  | n + 1, v3, w =>
    if (1 <<< ((w.1 0 0 35) &&& 31)) ≤ v3 then
      mX6_rounds_70 v1 FU 0 1 w
    else
      if v2 = 0 then
        mX6_rounds_56 (mX6_rounds_23 v1 v2 n) v1 v2 v3 v3 w
      else
        cl (mX6_maySee v1 v3 v3 w) fun x_2 w_1 =>
        if x_2 ≠ 0 then
          mX6_rounds_56 (mX6_rounds_23 v1 v2 n) v1 v2 v3 v3 w_1
        else
          mX6_rounds_58 (mX6_rounds_23 v1 v2 n) v1 v2 v3 0 v3 w_1
noncomputable def mX6_rounds_20 (v1 : Int32) (s0 : Int32) (w : AW) : Option (Int32 × AW) :=
  mX6_rounds_23 v1 s0 FU 0 w
noncomputable def mX6_rounds_15 (v1 : Int32) (w : AW) : Option (Int32 × AW) :=
  mX6_rounds_20 v1 1 w
noncomputable def mX6_rounds (v1 : Int32) (w : AW) : Option (Int32 × AW) :=
  if v1 = 2 then
    mX6_rounds_15 v1 w
  else
    if v1 = 4 then
      mX6_rounds_15 v1 w
    else
      if v1 ≤ 5 then
        mX6_rounds_20 v1 0 w
      else
        mX6_rounds_15 v1 w
set_option maxRecDepth 100000 in
set_option maxHeartbeats 4000000 in
theorem ok_mX6_rounds_58 {zv : Int32} {zw : AW} {k23 : Int32 → AW → Option (Int32 × AW)} {v1 : Int32} {v2 : Int32} {v3 : Int32} {s0 : Int32} {s1 : Int32} (hk23 : ∀ (v3 : Int32)  w, k23 v3 w = some (zv, zw) → RR true KX6_rounds (some (vI zv), zw) 23 [some (vR 0 0), some (vI v1), some (vI v2), some (vI v3), none, none] [] w) {w : AW} (hf : mX6_rounds_58 k23 v1 v2 v3 s0 s1 w = some (zv, zw)) : RR true KX6_rounds (some (vI zv), zw) 58 [some (vR 0 0), some (vI v1), some (vI v2), some (vI v3), none, none] [vI s0, vI s1, vR 0 42] w := by
  refine g_iast dX6_rounds_58 aK_true_0_42 aL_true_0_42 hf (fun w_1 hf => ?_)
  refine g_iinc (fun v3_2 => [some (vR 0 0), some (vI v1), some (vI v2), some (vI v3_2), none, none]) dX6_rounds_59 ic_1 rfl rfl (fun _ => rfl) (Nat.le_of_ble_eq_true rfl) hf (fun v3_2 hf => ?_)
  refine r_goto (tgt := 23) dX6_rounds_62 rfl ?_
  exact hk23 _ _ hf
set_option maxRecDepth 100000 in
set_option maxHeartbeats 4000000 in
theorem ok_mX6_rounds_56 {zv : Int32} {zw : AW} {k23 : Int32 → AW → Option (Int32 × AW)} {v1 : Int32} {v2 : Int32} {v3 : Int32} {s0 : Int32} (hk23 : ∀ (v3 : Int32)  w, k23 v3 w = some (zv, zw) → RR true KX6_rounds (some (vI zv), zw) 23 [some (vR 0 0), some (vI v1), some (vI v2), some (vI v3), none, none] [] w) {w : AW} (hf : mX6_rounds_56 k23 v1 v2 v3 s0 w = some (zv, zw)) : RR true KX6_rounds (some (vI zv), zw) 56 [some (vR 0 0), some (vI v1), some (vI v2), some (vI v3), none, none] [vI s0, vR 0 42] w := by
  refine r_bipush dX6_rounds_56 (bp_m9) ?_
  exact ok_mX6_rounds_58 hk23 hf
set_option maxRecDepth 100000 in
set_option maxHeartbeats 4000000 in
theorem ok_mX6_rounds_122 {zv : Int32} {zw : AW} {k70 : Int32 → Int32 → AW → Option (Int32 × AW)} {k81 : Int32 → Int32 → AW → Option (Int32 × AW)} {v1 : Int32} {v3 : Int32} {v4 : Int32} {v5 : Int32} {s0 : Int32} {s1 : Int32} (hk70 : ∀ (v3 : Int32) (v4 : Int32)  w, k70 v3 v4 w = some (zv, zw) → RR true KX6_rounds (some (vI zv), zw) 70 [some (vR 0 0), some (vI v1), none, some (vI v3), some (vI v4), none] [] w) (hk81 : ∀ (v4 : Int32) (v5 : Int32)  w, k81 v4 v5 w = some (zv, zw) → RR true KX6_rounds (some (vI zv), zw) 81 [some (vR 0 0), some (vI v1), none, some (vI v3), some (vI v4), some (vI v5)] [] w) {w : AW} (hf : mX6_rounds_122 k70 k81 v1 v3 v4 v5 s0 s1 w = some (zv, zw)) : RR true KX6_rounds (some (vI zv), zw) 122 [some (vR 0 0), some (vI v1), none, some (vI v3), some (vI v4), some (vI v5)] [vI s0, vI s1, vR 0 43] w := by
  refine g_bast dX6_rounds_122 aK_true_0_43 aL_true_0_43 hf (fun w_1 hf => ?_)
  refine r_iload dX6_rounds_123 rfl ?_
  refine r_aload_n dX6_rounds_125 rfl rfl ?_
  refine g_getA dX6_rounds_126 fl_RX6_114 fk_6_42 rfl (cl_true_0) ?_
  refine r_iload dX6_rounds_129 rfl ?_
  refine g_bald dX6_rounds_131 aK_true_0_43 aL_true_0_43 hf (fun x_2 hf => ?_)
  refine r_ior dX6_rounds_132 ?_
  refine g_istore (fun v4_3 => [some (vR 0 0), some (vI v1), none, some (vI v3), some (vI v4_3), some (vI v5)]) dX6_rounds_133 rfl (fun _ => rfl) (Nat.le_of_ble_eq_true rfl) hf (fun v4_3 hf => ?_)
  refine g_iinc (fun v5_4 => [some (vR 0 0), some (vI v1), none, some (vI v3), some (vI v4_3), some (vI v5_4)]) dX6_rounds_135 ic_1 rfl rfl (fun _ => rfl) (Nat.le_of_ble_eq_true rfl) hf (fun v5_4 hf => ?_)
  refine r_goto (tgt := 81) dX6_rounds_138 rfl ?_
  exact hk81 _ _ _ hf
set_option maxRecDepth 100000 in
set_option maxHeartbeats 4000000 in
theorem ok_mX6_rounds_121 {zv : Int32} {zw : AW} {k70 : Int32 → Int32 → AW → Option (Int32 × AW)} {k81 : Int32 → Int32 → AW → Option (Int32 × AW)} {v1 : Int32} {v3 : Int32} {v4 : Int32} {v5 : Int32} {s0 : Int32} (hk70 : ∀ (v3 : Int32) (v4 : Int32)  w, k70 v3 v4 w = some (zv, zw) → RR true KX6_rounds (some (vI zv), zw) 70 [some (vR 0 0), some (vI v1), none, some (vI v3), some (vI v4), none] [] w) (hk81 : ∀ (v4 : Int32) (v5 : Int32)  w, k81 v4 v5 w = some (zv, zw) → RR true KX6_rounds (some (vI zv), zw) 81 [some (vR 0 0), some (vI v1), none, some (vI v3), some (vI v4), some (vI v5)] [] w) {w : AW} (hf : mX6_rounds_121 k70 k81 v1 v3 v4 v5 s0 w = some (zv, zw)) : RR true KX6_rounds (some (vI zv), zw) 121 [some (vR 0 0), some (vI v1), none, some (vI v3), some (vI v4), some (vI v5)] [vI s0, vR 0 43] w := by
  refine r_iconst dX6_rounds_121 ic_0 ?_
  exact ok_mX6_rounds_122 hk70 hk81 hf
set_option maxRecDepth 100000 in
set_option maxHeartbeats 4000000 in
theorem ok_mX6_rounds_195 {zv : Int32} {zw : AW} {k70 : Int32 → Int32 → AW → Option (Int32 × AW)} {k157 : Int32 → AW → Option (Int32 × AW)} {v1 : Int32} {v3 : Int32} {v4 : Int32} {v5 : Int32} {s0 : Int32} {s1 : Int32} (hk70 : ∀ (v3 : Int32) (v4 : Int32)  w, k70 v3 v4 w = some (zv, zw) → RR true KX6_rounds (some (vI zv), zw) 70 [some (vR 0 0), some (vI v1), none, some (vI v3), some (vI v4), none] [] w) (hk157 : ∀ (v5 : Int32)  w, k157 v5 w = some (zv, zw) → RR true KX6_rounds (some (vI zv), zw) 157 [some (vR 0 0), some (vI v1), none, some (vI v3), some (vI v4), some (vI v5)] [] w) {w : AW} (hf : mX6_rounds_195 k70 k157 v1 v3 v4 v5 s0 s1 w = some (zv, zw)) : RR true KX6_rounds (some (vI zv), zw) 195 [some (vR 0 0), some (vI v1), none, some (vI v3), some (vI v4), some (vI v5)] [vI s0, vI s1, vR 0 42] w := by
  refine g_iast dX6_rounds_195 aK_true_0_42 aL_true_0_42 hf (fun w_1 hf => ?_)
  refine g_iinc (fun v5_2 => [some (vR 0 0), some (vI v1), none, some (vI v3), some (vI v4), some (vI v5_2)]) dX6_rounds_196 ic_1 rfl rfl (fun _ => rfl) (Nat.le_of_ble_eq_true rfl) hf (fun v5_2 hf => ?_)
  refine r_goto (tgt := 157) dX6_rounds_199 rfl ?_
  exact hk157 _ _ hf
set_option maxRecDepth 100000 in
set_option maxHeartbeats 4000000 in
theorem ok_mX6_rounds_157 {zv : Int32} {zw : AW} {k70 : Int32 → Int32 → AW → Option (Int32 × AW)} {v1 : Int32} {v3 : Int32} {v4 : Int32} (hk70 : ∀ (v3 : Int32) (v4 : Int32)  w, k70 v3 v4 w = some (zv, zw) → RR true KX6_rounds (some (vI zv), zw) 70 [some (vR 0 0), some (vI v1), none, some (vI v3), some (vI v4), none] [] w) : ∀ (n : Nat) (v5 : Int32) (w : AW), mX6_rounds_157 k70 v1 v3 v4 n v5 w = some (zv, zw) → RR true KX6_rounds (some (vI zv), zw) 157 [some (vR 0 0), some (vI v1), none, some (vI v3), some (vI v4), some (vI v5)] [] w := by
  intro n
  induction n with
  | zero => intro v5 w hf; cases hf
  | succ n ih =>
    intro v5 w hf
    refine r_iload dX6_rounds_157 rfl ?_
    refine r_iconst dX6_rounds_159 ic_1 ?_
    refine r_aload_n dX6_rounds_160 rfl rfl ?_
    refine g_getI dX6_rounds_161 fl_RX6_240 fk_6_35 (cl_true_0) ?_
    refine r_ishl dX6_rounds_164 ?_
    refine g_icmp_ge (tgt := 202) dX6_rounds_165 rfl hf (fun _ hf => ?_) (fun _ hf => ?_)
    · refine r_goto (tgt := 70) dX6_rounds_202 rfl ?_
      refine r_mask (bs := [true, true, false, true, true, false]) ?_
      exact hk70 _ _ _ hf
    · refine r_aload_n dX6_rounds_168 rfl rfl ?_
      refine g_getA dX6_rounds_169 fl_RX6_111 fk_6_41 rfl (cl_true_0) ?_
      refine r_iload dX6_rounds_172 rfl ?_
      refine r_aload_n dX6_rounds_174 rfl rfl ?_
      refine g_getA dX6_rounds_175 fl_RX6_114 fk_6_42 rfl (cl_true_0) ?_
      refine r_iload dX6_rounds_178 rfl ?_
      refine g_bald dX6_rounds_180 aK_true_0_43 aL_true_0_43 hf (fun x_1 hf => ?_)
      refine g_if_eq (tgt := 188) dX6_rounds_181 rfl hf (fun _ hf => ?_) (fun _ hf => ?_)
      · refine r_aload_n dX6_rounds_188 rfl rfl ?_
        refine g_getA dX6_rounds_189 fl_RX6_111 fk_6_41 rfl (cl_true_0) ?_
        refine r_iload dX6_rounds_192 rfl ?_
        refine g_iald dX6_rounds_194 aK_true_0_42 aL_true_0_42 hf (fun x_2 hf => ?_)
        exact ok_mX6_rounds_195 hk70 (fun v5 w hf => ih v5 w hf) hf
      · refine r_iload_n dX6_rounds_184 rfl rfl ?_
        refine r_goto (tgt := 195) dX6_rounds_185 rfl ?_
        exact ok_mX6_rounds_195 hk70 (fun v5 w hf => ih v5 w hf) hf
set_option maxRecDepth 100000 in
set_option maxHeartbeats 4000000 in
theorem ok_mX6_rounds_152 {zv : Int32} {zw : AW} {k70 : Int32 → Int32 → AW → Option (Int32 × AW)} {v1 : Int32} {v4 : Int32} {s0 : Int32} {s1 : Int32} (hk70 : ∀ (v3 : Int32) (v4 : Int32)  w, k70 v3 v4 w = some (zv, zw) → RR true KX6_rounds (some (vI zv), zw) 70 [some (vR 0 0), some (vI v1), none, some (vI v3), some (vI v4), none] [] w) {w : AW} (hf : mX6_rounds_152 k70 v1 v4 s0 s1 w = some (zv, zw)) : RR true KX6_rounds (some (vI zv), zw) 152 [some (vR 0 0), some (vI v1), none, none, some (vI v4), none] [vI s0, vI s1] w := by
  refine r_iadd dX6_rounds_152 ?_
  refine g_istore_n (fun v3_1 => [some (vR 0 0), some (vI v1), none, some (vI v3_1), some (vI v4), none]) dX6_rounds_153 rfl rfl (fun _ => rfl) (Nat.le_of_ble_eq_true rfl) hf (fun v3_1 hf => ?_)
  refine r_iconst dX6_rounds_154 ic_0 ?_
  refine r_istore (ls2 := [some (vR 0 0), some (vI v1), none, some (vI v3_1), some (vI v4), some (vI 0)]) dX6_rounds_155 rfl rfl (Nat.le_of_ble_eq_true rfl) ?_
  exact ok_mX6_rounds_157 hk70 FU _ _ hf
set_option maxRecDepth 100000 in
set_option maxHeartbeats 4000000 in
theorem ok_mX6_rounds_81 {zv : Int32} {zw : AW} {k70 : Int32 → Int32 → AW → Option (Int32 × AW)} {v1 : Int32} {v3 : Int32} (hk70 : ∀ (v3 : Int32) (v4 : Int32)  w, k70 v3 v4 w = some (zv, zw) → RR true KX6_rounds (some (vI zv), zw) 70 [some (vR 0 0), some (vI v1), none, some (vI v3), some (vI v4), none] [] w) : ∀ (n : Nat) (v4 : Int32) (v5 : Int32) (w : AW), mX6_rounds_81 k70 v1 v3 n v4 v5 w = some (zv, zw) → RR true KX6_rounds (some (vI zv), zw) 81 [some (vR 0 0), some (vI v1), none, some (vI v3), some (vI v4), some (vI v5)] [] w := by
  intro n
  induction n with
  | zero => intro v4 v5 w hf; cases hf
  | succ n ih =>
    intro v4 v5 w hf
    refine r_iload dX6_rounds_81 rfl ?_
    refine r_iconst dX6_rounds_83 ic_1 ?_
    refine r_aload_n dX6_rounds_84 rfl rfl ?_
    refine g_getI dX6_rounds_85 fl_RX6_240 fk_6_35 (cl_true_0) ?_
    refine r_ishl dX6_rounds_88 ?_
    refine g_icmp_ge (tgt := 141) dX6_rounds_89 rfl hf (fun _ hf => ?_) (fun _ hf => ?_)
    · refine r_iload_n dX6_rounds_141 rfl rfl ?_
      refine r_iload dX6_rounds_142 rfl ?_
      refine g_if_eq (tgt := 151) dX6_rounds_144 rfl hf (fun _ hf => ?_) (fun _ hf => ?_)
      · refine r_iconst dX6_rounds_151 ic_0 ?_
        refine r_mask (bs := [true, true, false, false, true, false]) ?_
        exact ok_mX6_rounds_152 hk70 hf
      · refine r_iconst dX6_rounds_147 ic_1 ?_
        refine r_goto (tgt := 152) dX6_rounds_148 rfl ?_
        refine r_mask (bs := [true, true, false, false, true, false]) ?_
        exact ok_mX6_rounds_152 hk70 hf
    · refine r_aload_n dX6_rounds_92 rfl rfl ?_
      refine g_getA dX6_rounds_93 fl_RX6_114 fk_6_42 rfl (cl_true_0) ?_
      refine r_iload dX6_rounds_96 rfl ?_
      refine r_aload_n dX6_rounds_98 rfl rfl ?_
      refine r_iload dX6_rounds_99 rfl ?_
      obtain ⟨x_2, w_1, hc, hf⟩ := cl_some hf
      refine g_cV (st := [vI v5, vR 0 43]) KX6_isThere [vI v5] dX6_rounds_101 e_RX6_256 (cl_true_0) (rfl : vwCl[6]? = _) rfl mok_X6_isThere mw_X6_isThere ⟨Nat.le_of_ble_eq_true rfl, Nat.le_of_ble_eq_true rfl⟩ (met_X6_isThere hc) rfl (Nat.le_of_ble_eq_true rfl) ?_
      clear hc
      refine g_if_eq (tgt := 121) dX6_rounds_104 rfl hf (fun _ hf => ?_) (fun _ hf => ?_)
      · exact ok_mX6_rounds_121 hk70 (fun v4 v5 w hf => ih v4 v5 w hf) hf
      · refine r_aload_n dX6_rounds_107 rfl rfl ?_
        refine r_iload_n dX6_rounds_108 rfl rfl ?_
        refine r_iload dX6_rounds_109 rfl ?_
        obtain ⟨x_4, w_3, hc, hf⟩ := cl_some hf
        refine g_cV (st := [vI v5, vR 0 43]) KX6_isFalling [vI v1, vI v5] dX6_rounds_111 e_RX6_262 (cl_true_0) (rfl : vwCl[6]? = _) rfl mok_X6_isFalling mw_X6_isFalling ⟨Nat.le_of_ble_eq_true rfl, Nat.le_of_ble_eq_true rfl⟩ (met_X6_isFalling hc) rfl (Nat.le_of_ble_eq_true rfl) ?_
        clear hc
        refine g_if_eq (tgt := 121) dX6_rounds_114 rfl hf (fun _ hf => ?_) (fun _ hf => ?_)
        · exact ok_mX6_rounds_121 hk70 (fun v4 v5 w hf => ih v4 v5 w hf) hf
        · refine r_iconst dX6_rounds_117 ic_1 ?_
          refine r_goto (tgt := 122) dX6_rounds_118 rfl ?_
          exact ok_mX6_rounds_122 hk70 (fun v4 v5 w hf => ih v4 v5 w hf) hf
set_option maxRecDepth 100000 in
set_option maxHeartbeats 4000000 in
theorem ok_mX6_rounds_70 {zv : Int32} {zw : AW} {v1 : Int32} : ∀ (n : Nat) (v3 : Int32) (v4 : Int32) (w : AW), mX6_rounds_70 v1 n v3 v4 w = some (zv, zw) → RR true KX6_rounds (some (vI zv), zw) 70 [some (vR 0 0), some (vI v1), none, some (vI v3), some (vI v4), none] [] w := by
  intro n
  induction n with
  | zero => intro v3 v4 w hf; cases hf
  | succ n ih =>
    intro v3 v4 w hf
    refine r_iload dX6_rounds_70 rfl ?_
    refine g_if_eq (tgt := 205) dX6_rounds_72 rfl hf (fun _ hf => ?_) (fun _ hf => ?_)
    · refine r_iload_n dX6_rounds_205 rfl rfl ?_
      exact r_iret dX6_rounds_206 rfl (ret_I hf)
    · refine r_iconst dX6_rounds_75 ic_0 ?_
      refine r_istore (ls2 := [some (vR 0 0), some (vI v1), none, some (vI v3), some (vI 0), none]) dX6_rounds_76 rfl rfl (Nat.le_of_ble_eq_true rfl) ?_
      refine r_iconst dX6_rounds_78 ic_0 ?_
      refine r_istore (ls2 := [some (vR 0 0), some (vI v1), none, some (vI v3), some (vI 0), some (vI 0)]) dX6_rounds_79 rfl rfl (Nat.le_of_ble_eq_true rfl) ?_
      exact ok_mX6_rounds_81 (fun v3 v4 w hf => ih v3 v4 w hf) FU _ _ _ hf
set_option maxRecDepth 100000 in
set_option maxHeartbeats 4000000 in
theorem ok_mX6_rounds_23 {zv : Int32} {zw : AW} {v1 : Int32} {v2 : Int32} : ∀ (n : Nat) (v3 : Int32) (w : AW), mX6_rounds_23 v1 v2 n v3 w = some (zv, zw) → RR true KX6_rounds (some (vI zv), zw) 23 [some (vR 0 0), some (vI v1), some (vI v2), some (vI v3), none, none] [] w := by
  intro n
  induction n with
  | zero => intro v3 w hf; cases hf
  | succ n ih =>
    intro v3 w hf
    refine r_iload_n dX6_rounds_23 rfl rfl ?_
    refine r_iconst dX6_rounds_24 ic_1 ?_
    refine r_aload_n dX6_rounds_25 rfl rfl ?_
    refine g_getI dX6_rounds_26 fl_RX6_240 fk_6_35 (cl_true_0) ?_
    refine r_ishl dX6_rounds_29 ?_
    refine g_icmp_ge (tgt := 65) dX6_rounds_30 rfl hf (fun _ hf => ?_) (fun _ hf => ?_)
    · refine r_iconst dX6_rounds_65 ic_0 ?_
      refine r_istore_n (ls2 := [some (vR 0 0), some (vI v1), some (vI v2), some (vI 0), none, none]) dX6_rounds_66 rfl rfl rfl (Nat.le_of_ble_eq_true rfl) ?_
      refine r_iconst dX6_rounds_67 ic_1 ?_
      refine r_istore (ls2 := [some (vR 0 0), some (vI v1), some (vI v2), some (vI 0), some (vI 1), none]) dX6_rounds_68 rfl rfl (Nat.le_of_ble_eq_true rfl) ?_
      refine r_mask (bs := [true, true, false, true, true, false]) ?_
      exact ok_mX6_rounds_70 FU _ _ _ hf
    · refine r_aload_n dX6_rounds_33 rfl rfl ?_
      refine g_getA dX6_rounds_34 fl_RX6_111 fk_6_41 rfl (cl_true_0) ?_
      refine r_iload_n dX6_rounds_37 rfl rfl ?_
      refine r_iload_n dX6_rounds_38 rfl rfl ?_
      refine g_if_eq (tgt := 56) dX6_rounds_39 rfl hf (fun _ hf => ?_) (fun _ hf => ?_)
      · exact ok_mX6_rounds_56 (fun v3 w hf => ih v3 w hf) hf
      · refine r_aload_n dX6_rounds_42 rfl rfl ?_
        refine r_iload_n dX6_rounds_43 rfl rfl ?_
        refine r_iload_n dX6_rounds_44 rfl rfl ?_
        refine r_iload_n dX6_rounds_45 rfl rfl ?_
        obtain ⟨x_2, w_1, hc, hf⟩ := cl_some hf
        refine g_cV (st := [vI v3, vR 0 42]) KX6_maySee [vI v1, vI v3, vI v3] dX6_rounds_46 e_RX6_259 (cl_true_0) (rfl : vwCl[6]? = _) rfl mok_X6_maySee mw_X6_maySee ⟨Nat.le_of_ble_eq_true rfl, Nat.le_of_ble_eq_true rfl⟩ (met_X6_maySee hc) rfl (Nat.le_of_ble_eq_true rfl) ?_
        clear hc
        refine g_if_ne (tgt := 56) dX6_rounds_49 rfl hf (fun _ hf => ?_) (fun _ hf => ?_)
        · exact ok_mX6_rounds_56 (fun v3 w hf => ih v3 w hf) hf
        · refine r_iconst dX6_rounds_52 ic_0 ?_
          refine r_goto (tgt := 58) dX6_rounds_53 rfl ?_
          exact ok_mX6_rounds_58 (fun v3 w hf => ih v3 w hf) hf
set_option maxRecDepth 100000 in
set_option maxHeartbeats 4000000 in
theorem ok_mX6_rounds_20 {zv : Int32} {zw : AW} {v1 : Int32} {s0 : Int32} {w : AW} (hf : mX6_rounds_20 v1 s0 w = some (zv, zw)) : RR true KX6_rounds (some (vI zv), zw) 20 [some (vR 0 0), some (vI v1), none, none, none, none] [vI s0] w := by
  refine r_istore_n (ls2 := [some (vR 0 0), some (vI v1), some (vI s0), none, none, none]) dX6_rounds_20 rfl rfl rfl (Nat.le_of_ble_eq_true rfl) ?_
  refine r_iconst dX6_rounds_21 ic_0 ?_
  refine r_istore_n (ls2 := [some (vR 0 0), some (vI v1), some (vI s0), some (vI 0), none, none]) dX6_rounds_22 rfl rfl rfl (Nat.le_of_ble_eq_true rfl) ?_
  exact ok_mX6_rounds_23 FU _ _ hf
set_option maxRecDepth 100000 in
set_option maxHeartbeats 4000000 in
theorem ok_mX6_rounds_15 {zv : Int32} {zw : AW} {v1 : Int32} {w : AW} (hf : mX6_rounds_15 v1 w = some (zv, zw)) : RR true KX6_rounds (some (vI zv), zw) 15 [some (vR 0 0), some (vI v1), none, none, none, none] [] w := by
  refine r_iconst dX6_rounds_15 ic_1 ?_
  refine r_goto (tgt := 20) dX6_rounds_16 rfl ?_
  exact ok_mX6_rounds_20 hf
set_option maxRecDepth 100000 in
set_option maxHeartbeats 4000000 in
theorem ok_mX6_rounds {zv : Int32} {zw : AW} {v1 : Int32} {w : AW} (hf : mX6_rounds v1 w = some (zv, zw)) : RR true KX6_rounds (some (vI zv), zw) 0 [some (vR 0 0), some (vI v1), none, none, none, none] [] w := by
  refine r_iload_n dX6_rounds_0 rfl rfl ?_
  refine r_iconst dX6_rounds_1 ic_2 ?_
  refine g_icmp_eq (tgt := 15) dX6_rounds_2 rfl hf (fun _ hf => ?_) (fun _ hf => ?_)
  · exact ok_mX6_rounds_15 hf
  · refine r_iload_n dX6_rounds_5 rfl rfl ?_
    refine r_iconst dX6_rounds_6 ic_4 ?_
    refine g_icmp_eq (tgt := 15) dX6_rounds_7 rfl hf (fun _ hf => ?_) (fun _ hf => ?_)
    · exact ok_mX6_rounds_15 hf
    · refine r_iload_n dX6_rounds_10 rfl rfl ?_
      refine r_iconst dX6_rounds_11 ic_5 ?_
      refine g_icmp_le (tgt := 19) dX6_rounds_12 rfl hf (fun _ hf => ?_) (fun _ hf => ?_)
      · refine r_iconst dX6_rounds_19 ic_0 ?_
        exact ok_mX6_rounds_20 hf
      · exact ok_mX6_rounds_15 hf
theorem met_X6_rounds {zv : Int32} {zw : AW} {v1 : Int32} {w : AW} (hf : mX6_rounds v1 w = some (zv, zw)) : am_Met true KX6_rounds [vR 0 0, vI v1] w (some (vI zv), zw) := am_met mok_X6_rounds.1 (Nat.le_of_ble_eq_true rfl) (ok_mX6_rounds  hf)

/-! SeenWorldsModel.isLaw()Z -/
noncomputable def mX6_isLaw_37 (k4 : Int32 → Int32 → AW → Option (Int32 × AW)) (v2 : Int32) (s0 : Int32) (s1 : Int32) (w : AW) : Option (Int32 × AW) :=
  nm (s1 &&& s0) fun v1_1 =>
  nm (v2 + 1) fun v2_2 =>
  k4 v1_1 v2_2 w
noncomputable def mX6_isLaw_32 (k4 : Int32 → Int32 → AW → Option (Int32 × AW)) (v2 : Int32) (s0 : Int32) (w : AW) : Option (Int32 × AW) :=
  mX6_isLaw_37 k4 v2 1 s0 w
noncomputable def mX6_isLaw_4 : Nat → Int32 → Int32 → AW → Option (Int32 × AW)
  | 0, _, _, _ => none
  | n + 1, v1, v2, w =>
    if (1 <<< ((w.1 0 0 35) &&& 31)) ≤ v2 then
      zr v1 w
    else
      cl (mX6_isThere v2 w) fun x_2 w_1 =>
      if x_2 = 0 then
        mX6_isLaw_32 (mX6_isLaw_4 n) v2 v1 w_1
      else
        rd 1024 (w_1.1 0 41) v2 fun x_3 =>
        if x_3 = 0 then
          mX6_isLaw_37 (mX6_isLaw_4 n) v2 0 v1 w_1
        else
          mX6_isLaw_32 (mX6_isLaw_4 n) v2 v1 w_1
noncomputable def mX6_isLaw (w : AW) : Option (Int32 × AW) :=
  mX6_isLaw_4 FU 1 0 w
set_option maxRecDepth 100000 in
set_option maxHeartbeats 4000000 in
theorem ok_mX6_isLaw_37 {zv : Int32} {zw : AW} {k4 : Int32 → Int32 → AW → Option (Int32 × AW)} {v2 : Int32} {s0 : Int32} {s1 : Int32} (hk4 : ∀ (v1 : Int32) (v2 : Int32)  w, k4 v1 v2 w = some (zv, zw) → RR true KX6_isLaw (some (vI zv), zw) 4 [some (vR 0 0), some (vI v1), some (vI v2)] [] w) {w : AW} (hf : mX6_isLaw_37 k4 v2 s0 s1 w = some (zv, zw)) : RR true KX6_isLaw (some (vI zv), zw) 37 [some (vR 0 0), none, some (vI v2)] [vI s0, vI s1] w := by
  refine r_iand dX6_isLaw_37 ?_
  refine g_istore_n (fun v1_1 => [some (vR 0 0), some (vI v1_1), some (vI v2)]) dX6_isLaw_38 rfl rfl (fun _ => rfl) (Nat.le_of_ble_eq_true rfl) hf (fun v1_1 hf => ?_)
  refine g_iinc (fun v2_2 => [some (vR 0 0), some (vI v1_1), some (vI v2_2)]) dX6_isLaw_39 ic_1 rfl rfl (fun _ => rfl) (Nat.le_of_ble_eq_true rfl) hf (fun v2_2 hf => ?_)
  refine r_goto (tgt := 4) dX6_isLaw_42 rfl ?_
  exact hk4 _ _ _ hf
set_option maxRecDepth 100000 in
set_option maxHeartbeats 4000000 in
theorem ok_mX6_isLaw_32 {zv : Int32} {zw : AW} {k4 : Int32 → Int32 → AW → Option (Int32 × AW)} {v2 : Int32} {s0 : Int32} (hk4 : ∀ (v1 : Int32) (v2 : Int32)  w, k4 v1 v2 w = some (zv, zw) → RR true KX6_isLaw (some (vI zv), zw) 4 [some (vR 0 0), some (vI v1), some (vI v2)] [] w) {w : AW} (hf : mX6_isLaw_32 k4 v2 s0 w = some (zv, zw)) : RR true KX6_isLaw (some (vI zv), zw) 32 [some (vR 0 0), none, some (vI v2)] [vI s0] w := by
  refine r_iconst dX6_isLaw_32 ic_1 ?_
  refine r_goto (tgt := 37) dX6_isLaw_33 rfl ?_
  exact ok_mX6_isLaw_37 hk4 hf
set_option maxRecDepth 100000 in
set_option maxHeartbeats 4000000 in
theorem ok_mX6_isLaw_4 {zv : Int32} {zw : AW} : ∀ (n : Nat) (v1 : Int32) (v2 : Int32) (w : AW), mX6_isLaw_4 n v1 v2 w = some (zv, zw) → RR true KX6_isLaw (some (vI zv), zw) 4 [some (vR 0 0), some (vI v1), some (vI v2)] [] w := by
  intro n
  induction n with
  | zero => intro v1 v2 w hf; cases hf
  | succ n ih =>
    intro v1 v2 w hf
    refine r_iload_n dX6_isLaw_4 rfl rfl ?_
    refine r_iconst dX6_isLaw_5 ic_1 ?_
    refine r_aload_n dX6_isLaw_6 rfl rfl ?_
    refine g_getI dX6_isLaw_7 fl_RX6_240 fk_6_35 (cl_true_0) ?_
    refine r_ishl dX6_isLaw_10 ?_
    refine g_icmp_ge (tgt := 45) dX6_isLaw_11 rfl hf (fun _ hf => ?_) (fun _ hf => ?_)
    · refine r_iload_n dX6_isLaw_45 rfl rfl ?_
      exact g_zret dX6_isLaw_46 rfl hf
    · refine r_iload_n dX6_isLaw_14 rfl rfl ?_
      refine r_aload_n dX6_isLaw_15 rfl rfl ?_
      refine r_iload_n dX6_isLaw_16 rfl rfl ?_
      obtain ⟨x_2, w_1, hc, hf⟩ := cl_some hf
      refine g_cV (st := [vI v1]) KX6_isThere [vI v2] dX6_isLaw_17 e_RX6_256 (cl_true_0) (rfl : vwCl[6]? = _) rfl mok_X6_isThere mw_X6_isThere ⟨Nat.le_of_ble_eq_true rfl, Nat.le_of_ble_eq_true rfl⟩ (met_X6_isThere hc) rfl (Nat.le_of_ble_eq_true rfl) ?_
      clear hc
      refine g_if_eq (tgt := 32) dX6_isLaw_20 rfl hf (fun _ hf => ?_) (fun _ hf => ?_)
      · refine r_mask (bs := [true, false, true]) ?_
        exact ok_mX6_isLaw_32 (fun v1 v2 w hf => ih v1 v2 w hf) hf
      · refine r_aload_n dX6_isLaw_23 rfl rfl ?_
        refine g_getA dX6_isLaw_24 fl_RX6_107 fk_6_40 rfl (cl_true_0) ?_
        refine r_iload_n dX6_isLaw_27 rfl rfl ?_
        refine g_bald dX6_isLaw_28 aK_true_0_41 aL_true_0_41 hf (fun x_3 hf => ?_)
        refine g_if_eq (tgt := 36) dX6_isLaw_29 rfl hf (fun _ hf => ?_) (fun _ hf => ?_)
        · refine r_iconst dX6_isLaw_36 ic_0 ?_
          refine r_mask (bs := [true, false, true]) ?_
          exact ok_mX6_isLaw_37 (fun v1 v2 w hf => ih v1 v2 w hf) hf
        · refine r_mask (bs := [true, false, true]) ?_
          exact ok_mX6_isLaw_32 (fun v1 v2 w hf => ih v1 v2 w hf) hf
set_option maxRecDepth 100000 in
set_option maxHeartbeats 4000000 in
theorem ok_mX6_isLaw {zv : Int32} {zw : AW} {w : AW} (hf : mX6_isLaw w = some (zv, zw)) : RR true KX6_isLaw (some (vI zv), zw) 0 [some (vR 0 0), none, none] [] w := by
  refine r_iconst dX6_isLaw_0 ic_1 ?_
  refine r_istore_n (ls2 := [some (vR 0 0), some (vI 1), none]) dX6_isLaw_1 rfl rfl rfl (Nat.le_of_ble_eq_true rfl) ?_
  refine r_iconst dX6_isLaw_2 ic_0 ?_
  refine r_istore_n (ls2 := [some (vR 0 0), some (vI 1), some (vI 0)]) dX6_isLaw_3 rfl rfl rfl (Nat.le_of_ble_eq_true rfl) ?_
  exact ok_mX6_isLaw_4 FU _ _ _ hf
theorem met_X6_isLaw {zv : Int32} {zw : AW} {w : AW} (hf : mX6_isLaw w = some (zv, zw)) : am_Met true KX6_isLaw [vR 0 0] w (some (vI zv), zw) := am_met mok_X6_isLaw.1 (Nat.le_of_ble_eq_true rfl) (ok_mX6_isLaw  hf)

/-! SeenWorldsModel.shownFrom(II)I -/
noncomputable def mX6_shownFrom_119 (k44 : Int32 → Int32 → AW → Option (Int32 × AW)) (k53 : Int32 → Int32 → AW → Option (Int32 × AW)) (v1 : Int32) (v3 : Int32) (v4 : Int32) (v5 : Int32) (w : AW) : Option (Int32 × AW) :=
  nm (v5 + 1) fun v5_1 =>
  k53 v3 v5_1 w
noncomputable def mX6_shownFrom_53 (k44 : Int32 → Int32 → AW → Option (Int32 × AW)) (v1 : Int32) (v4 : Int32) : Nat → Int32 → Int32 → AW → Option (Int32 × AW)
  | 0, _, _, _ => none
  | n + 1, v3, v5, w =>
    if (1 <<< ((w.1 0 0 35) &&& 31)) ≤ v5 then
      nm (v4 + 1) fun v4_1 =>
      k44 v3 v4_1 w
    else
      rd 1024 (w.1 0 43) v5 fun x_2 =>
      if x_2 ≠ 0 then
        mX6_shownFrom_119 k44 (mX6_shownFrom_53 k44 v1 v4 n) v1 v3 v4 v5 w
      else
        cl (mX6_isThere v5 w) fun x_4 w_3 =>
        if x_4 = 0 then
          mX6_shownFrom_119 k44 (mX6_shownFrom_53 k44 v1 v4 n) v1 v3 v4 v5 w_3
        else
          rd 1024 (w_3.1 0 44) v4 fun x_5 =>
          cl (mX6_maySee v1 x_5 v5 w_3) fun x_7 w_6 =>
          if x_7 = 0 then
            mX6_shownFrom_119 k44 (mX6_shownFrom_53 k44 v1 v4 n) v1 v3 v4 v5 w_6
          else
            wr 1024 w_6 0 43 v5 (vp_nar .boolean 1) fun w_8 =>
            wr 1024 w_8 0 44 v3 v5 fun w_9 =>
            nm (v3 + 1) fun v3_10 =>
            mX6_shownFrom_119 k44 (mX6_shownFrom_53 k44 v1 v4 n) v1 v3_10 v4 v5 w_9
noncomputable def mX6_shownFrom_44 (v1 : Int32) : Nat → Int32 → Int32 → AW → Option (Int32 × AW)
  | 0, _, _, _ => none
  | n + 1, v3, v4, w =>
    if v3 ≤ v4 then
      some (v3, w)
    else
      mX6_shownFrom_53 (mX6_shownFrom_44 v1 n) v1 v4 FU v3 0 w
noncomputable def mX6_shownFrom_2 (v1 : Int32) (v2 : Int32) : Nat → Int32 → AW → Option (Int32 × AW)
  | 0, _, _ => none
  | n + 1, v3, w =>
    if (1 <<< ((w.1 0 0 35) &&& 31)) ≤ v3 then
      wr 1024 w 0 43 v2 (vp_nar .boolean 1) fun w_1 =>
      wr 1024 w_1 0 44 0 v2 fun w_2 =>
      mX6_shownFrom_44 v1 FU 1 0 w_2
    else
      wr 1024 w 0 43 v3 (vp_nar .boolean 0) fun w_3 =>
      nm (v3 + 1) fun v3_4 =>
      mX6_shownFrom_2 v1 v2 n v3_4 w_3
noncomputable def mX6_shownFrom (v1 : Int32) (v2 : Int32) (w : AW) : Option (Int32 × AW) :=
  mX6_shownFrom_2 v1 v2 FU 0 w
set_option maxRecDepth 100000 in
set_option maxHeartbeats 4000000 in
theorem ok_mX6_shownFrom_119 {zv : Int32} {zw : AW} {k44 : Int32 → Int32 → AW → Option (Int32 × AW)} {k53 : Int32 → Int32 → AW → Option (Int32 × AW)} {v1 : Int32} {v3 : Int32} {v4 : Int32} {v5 : Int32} (hk44 : ∀ (v3 : Int32) (v4 : Int32)  w, k44 v3 v4 w = some (zv, zw) → RR true KX6_shownFrom (some (vI zv), zw) 44 [some (vR 0 0), some (vI v1), none, some (vI v3), some (vI v4), none] [] w) (hk53 : ∀ (v3 : Int32) (v5 : Int32)  w, k53 v3 v5 w = some (zv, zw) → RR true KX6_shownFrom (some (vI zv), zw) 53 [some (vR 0 0), some (vI v1), none, some (vI v3), some (vI v4), some (vI v5)] [] w) {w : AW} (hf : mX6_shownFrom_119 k44 k53 v1 v3 v4 v5 w = some (zv, zw)) : RR true KX6_shownFrom (some (vI zv), zw) 119 [some (vR 0 0), some (vI v1), none, some (vI v3), some (vI v4), some (vI v5)] [] w := by
  refine g_iinc (fun v5_1 => [some (vR 0 0), some (vI v1), none, some (vI v3), some (vI v4), some (vI v5_1)]) dX6_shownFrom_119 ic_1 rfl rfl (fun _ => rfl) (Nat.le_of_ble_eq_true rfl) hf (fun v5_1 hf => ?_)
  refine r_goto (tgt := 53) dX6_shownFrom_122 rfl ?_
  exact hk53 _ _ _ hf
set_option maxRecDepth 100000 in
set_option maxHeartbeats 4000000 in
theorem ok_mX6_shownFrom_53 {zv : Int32} {zw : AW} {k44 : Int32 → Int32 → AW → Option (Int32 × AW)} {v1 : Int32} {v4 : Int32} (hk44 : ∀ (v3 : Int32) (v4 : Int32)  w, k44 v3 v4 w = some (zv, zw) → RR true KX6_shownFrom (some (vI zv), zw) 44 [some (vR 0 0), some (vI v1), none, some (vI v3), some (vI v4), none] [] w) : ∀ (n : Nat) (v3 : Int32) (v5 : Int32) (w : AW), mX6_shownFrom_53 k44 v1 v4 n v3 v5 w = some (zv, zw) → RR true KX6_shownFrom (some (vI zv), zw) 53 [some (vR 0 0), some (vI v1), none, some (vI v3), some (vI v4), some (vI v5)] [] w := by
  intro n
  induction n with
  | zero => intro v3 v5 w hf; cases hf
  | succ n ih =>
    intro v3 v5 w hf
    refine r_iload dX6_shownFrom_53 rfl ?_
    refine r_iconst dX6_shownFrom_55 ic_1 ?_
    refine r_aload_n dX6_shownFrom_56 rfl rfl ?_
    refine g_getI dX6_shownFrom_57 fl_RX6_240 fk_6_35 (cl_true_0) ?_
    refine r_ishl dX6_shownFrom_60 ?_
    refine g_icmp_ge (tgt := 125) dX6_shownFrom_61 rfl hf (fun _ hf => ?_) (fun _ hf => ?_)
    · refine g_iinc (fun v4_1 => [some (vR 0 0), some (vI v1), none, some (vI v3), some (vI v4_1), some (vI v5)]) dX6_shownFrom_125 ic_1 rfl rfl (fun _ => rfl) (Nat.le_of_ble_eq_true rfl) hf (fun v4_1 hf => ?_)
      refine r_goto (tgt := 44) dX6_shownFrom_128 rfl ?_
      refine r_mask (bs := [true, true, false, true, true, false]) ?_
      exact hk44 _ _ _ hf
    · refine r_aload_n dX6_shownFrom_64 rfl rfl ?_
      refine g_getA dX6_shownFrom_65 fl_RX6_114 fk_6_42 rfl (cl_true_0) ?_
      refine r_iload dX6_shownFrom_68 rfl ?_
      refine g_bald dX6_shownFrom_70 aK_true_0_43 aL_true_0_43 hf (fun x_2 hf => ?_)
      refine g_if_ne (tgt := 119) dX6_shownFrom_71 rfl hf (fun _ hf => ?_) (fun _ hf => ?_)
      · exact ok_mX6_shownFrom_119 hk44 (fun v3 v5 w hf => ih v3 v5 w hf) hf
      · refine r_aload_n dX6_shownFrom_74 rfl rfl ?_
        refine r_iload dX6_shownFrom_75 rfl ?_
        obtain ⟨x_4, w_3, hc, hf⟩ := cl_some hf
        refine g_cV (st := []) KX6_isThere [vI v5] dX6_shownFrom_77 e_RX6_256 (cl_true_0) (rfl : vwCl[6]? = _) rfl mok_X6_isThere mw_X6_isThere ⟨Nat.le_of_ble_eq_true rfl, Nat.le_of_ble_eq_true rfl⟩ (met_X6_isThere hc) rfl (Nat.le_of_ble_eq_true rfl) ?_
        clear hc
        refine g_if_eq (tgt := 119) dX6_shownFrom_80 rfl hf (fun _ hf => ?_) (fun _ hf => ?_)
        · exact ok_mX6_shownFrom_119 hk44 (fun v3 v5 w hf => ih v3 v5 w hf) hf
        · refine r_aload_n dX6_shownFrom_83 rfl rfl ?_
          refine r_iload_n dX6_shownFrom_84 rfl rfl ?_
          refine r_aload_n dX6_shownFrom_85 rfl rfl ?_
          refine g_getA dX6_shownFrom_86 fl_RX6_117 fk_6_43 rfl (cl_true_0) ?_
          refine r_iload dX6_shownFrom_89 rfl ?_
          refine g_iald dX6_shownFrom_91 aK_true_0_44 aL_true_0_44 hf (fun x_5 hf => ?_)
          refine r_iload dX6_shownFrom_92 rfl ?_
          obtain ⟨x_7, w_6, hc, hf⟩ := cl_some hf
          refine g_cV (st := []) KX6_maySee [vI v1, vI x_5, vI v5] dX6_shownFrom_94 e_RX6_259 (cl_true_0) (rfl : vwCl[6]? = _) rfl mok_X6_maySee mw_X6_maySee ⟨Nat.le_of_ble_eq_true rfl, Nat.le_of_ble_eq_true rfl⟩ (met_X6_maySee hc) rfl (Nat.le_of_ble_eq_true rfl) ?_
          clear hc
          refine g_if_eq (tgt := 119) dX6_shownFrom_97 rfl hf (fun _ hf => ?_) (fun _ hf => ?_)
          · exact ok_mX6_shownFrom_119 hk44 (fun v3 v5 w hf => ih v3 v5 w hf) hf
          · refine r_aload_n dX6_shownFrom_100 rfl rfl ?_
            refine g_getA dX6_shownFrom_101 fl_RX6_114 fk_6_42 rfl (cl_true_0) ?_
            refine r_iload dX6_shownFrom_104 rfl ?_
            refine r_iconst dX6_shownFrom_106 ic_1 ?_
            refine g_bast dX6_shownFrom_107 aK_true_0_43 aL_true_0_43 hf (fun w_8 hf => ?_)
            refine r_aload_n dX6_shownFrom_108 rfl rfl ?_
            refine g_getA dX6_shownFrom_109 fl_RX6_117 fk_6_43 rfl (cl_true_0) ?_
            refine r_iload_n dX6_shownFrom_112 rfl rfl ?_
            refine r_iload dX6_shownFrom_113 rfl ?_
            refine g_iast dX6_shownFrom_115 aK_true_0_44 aL_true_0_44 hf (fun w_9 hf => ?_)
            refine g_iinc (fun v3_10 => [some (vR 0 0), some (vI v1), none, some (vI v3_10), some (vI v4), some (vI v5)]) dX6_shownFrom_116 ic_1 rfl rfl (fun _ => rfl) (Nat.le_of_ble_eq_true rfl) hf (fun v3_10 hf => ?_)
            exact ok_mX6_shownFrom_119 hk44 (fun v3 v5 w hf => ih v3 v5 w hf) hf
set_option maxRecDepth 100000 in
set_option maxHeartbeats 4000000 in
theorem ok_mX6_shownFrom_44 {zv : Int32} {zw : AW} {v1 : Int32} : ∀ (n : Nat) (v3 : Int32) (v4 : Int32) (w : AW), mX6_shownFrom_44 v1 n v3 v4 w = some (zv, zw) → RR true KX6_shownFrom (some (vI zv), zw) 44 [some (vR 0 0), some (vI v1), none, some (vI v3), some (vI v4), none] [] w := by
  intro n
  induction n with
  | zero => intro v3 v4 w hf; cases hf
  | succ n ih =>
    intro v3 v4 w hf
    refine r_iload dX6_shownFrom_44 rfl ?_
    refine r_iload_n dX6_shownFrom_46 rfl rfl ?_
    refine g_icmp_ge (tgt := 131) dX6_shownFrom_47 rfl hf (fun _ hf => ?_) (fun _ hf => ?_)
    · refine r_iload_n dX6_shownFrom_131 rfl rfl ?_
      exact r_iret dX6_shownFrom_132 rfl (ret_I hf)
    · refine r_iconst dX6_shownFrom_50 ic_0 ?_
      refine r_istore (ls2 := [some (vR 0 0), some (vI v1), none, some (vI v3), some (vI v4), some (vI 0)]) dX6_shownFrom_51 rfl rfl (Nat.le_of_ble_eq_true rfl) ?_
      exact ok_mX6_shownFrom_53 (fun v3 v4 w hf => ih v3 v4 w hf) FU _ _ _ hf
set_option maxRecDepth 100000 in
set_option maxHeartbeats 4000000 in
theorem ok_mX6_shownFrom_2 {zv : Int32} {zw : AW} {v1 : Int32} {v2 : Int32} : ∀ (n : Nat) (v3 : Int32) (w : AW), mX6_shownFrom_2 v1 v2 n v3 w = some (zv, zw) → RR true KX6_shownFrom (some (vI zv), zw) 2 [some (vR 0 0), some (vI v1), some (vI v2), some (vI v3), none, none] [] w := by
  intro n
  induction n with
  | zero => intro v3 w hf; cases hf
  | succ n ih =>
    intro v3 w hf
    refine r_iload_n dX6_shownFrom_2 rfl rfl ?_
    refine r_iconst dX6_shownFrom_3 ic_1 ?_
    refine r_aload_n dX6_shownFrom_4 rfl rfl ?_
    refine g_getI dX6_shownFrom_5 fl_RX6_240 fk_6_35 (cl_true_0) ?_
    refine r_ishl dX6_shownFrom_8 ?_
    refine g_icmp_ge (tgt := 25) dX6_shownFrom_9 rfl hf (fun _ hf => ?_) (fun _ hf => ?_)
    · refine r_aload_n dX6_shownFrom_25 rfl rfl ?_
      refine g_getA dX6_shownFrom_26 fl_RX6_114 fk_6_42 rfl (cl_true_0) ?_
      refine r_iload_n dX6_shownFrom_29 rfl rfl ?_
      refine r_iconst dX6_shownFrom_30 ic_1 ?_
      refine g_bast dX6_shownFrom_31 aK_true_0_43 aL_true_0_43 hf (fun w_1 hf => ?_)
      refine r_aload_n dX6_shownFrom_32 rfl rfl ?_
      refine g_getA dX6_shownFrom_33 fl_RX6_117 fk_6_43 rfl (cl_true_0) ?_
      refine r_iconst dX6_shownFrom_36 ic_0 ?_
      refine r_iload_n dX6_shownFrom_37 rfl rfl ?_
      refine g_iast dX6_shownFrom_38 aK_true_0_44 aL_true_0_44 hf (fun w_2 hf => ?_)
      refine r_iconst dX6_shownFrom_39 ic_1 ?_
      refine r_istore_n (ls2 := [some (vR 0 0), some (vI v1), some (vI v2), some (vI 1), none, none]) dX6_shownFrom_40 rfl rfl rfl (Nat.le_of_ble_eq_true rfl) ?_
      refine r_iconst dX6_shownFrom_41 ic_0 ?_
      refine r_istore (ls2 := [some (vR 0 0), some (vI v1), some (vI v2), some (vI 1), some (vI 0), none]) dX6_shownFrom_42 rfl rfl (Nat.le_of_ble_eq_true rfl) ?_
      refine r_mask (bs := [true, true, false, true, true, false]) ?_
      exact ok_mX6_shownFrom_44 FU _ _ _ hf
    · refine r_aload_n dX6_shownFrom_12 rfl rfl ?_
      refine g_getA dX6_shownFrom_13 fl_RX6_114 fk_6_42 rfl (cl_true_0) ?_
      refine r_iload_n dX6_shownFrom_16 rfl rfl ?_
      refine r_iconst dX6_shownFrom_17 ic_0 ?_
      refine g_bast dX6_shownFrom_18 aK_true_0_43 aL_true_0_43 hf (fun w_3 hf => ?_)
      refine g_iinc (fun v3_4 => [some (vR 0 0), some (vI v1), some (vI v2), some (vI v3_4), none, none]) dX6_shownFrom_19 ic_1 rfl rfl (fun _ => rfl) (Nat.le_of_ble_eq_true rfl) hf (fun v3_4 hf => ?_)
      refine r_goto (tgt := 2) dX6_shownFrom_22 rfl ?_
      exact ih _ _ hf
set_option maxRecDepth 100000 in
set_option maxHeartbeats 4000000 in
theorem ok_mX6_shownFrom {zv : Int32} {zw : AW} {v1 : Int32} {v2 : Int32} {w : AW} (hf : mX6_shownFrom v1 v2 w = some (zv, zw)) : RR true KX6_shownFrom (some (vI zv), zw) 0 [some (vR 0 0), some (vI v1), some (vI v2), none, none, none] [] w := by
  refine r_iconst dX6_shownFrom_0 ic_0 ?_
  refine r_istore_n (ls2 := [some (vR 0 0), some (vI v1), some (vI v2), some (vI 0), none, none]) dX6_shownFrom_1 rfl rfl rfl (Nat.le_of_ble_eq_true rfl) ?_
  exact ok_mX6_shownFrom_2 FU _ _ hf
theorem met_X6_shownFrom {zv : Int32} {zw : AW} {v1 : Int32} {v2 : Int32} {w : AW} (hf : mX6_shownFrom v1 v2 w = some (zv, zw)) : am_Met true KX6_shownFrom [vR 0 0, vI v1, vI v2] w (some (vI zv), zw) := am_met mok_X6_shownFrom.1 (Nat.le_of_ble_eq_true rfl) (ok_mX6_shownFrom  hf)

/-! SeenWorldsModel.isLogic(I)Z -/
noncomputable def mX6_isLogic (v0 : Int32) (w : AW) : Option (Int32 × AW) :=
  cl (mX6_in v0 0 7 w) fun x_2 w_1 =>
  zr x_2 w_1
set_option maxRecDepth 100000 in
set_option maxHeartbeats 4000000 in
theorem ok_mX6_isLogic {zv : Int32} {zw : AW} {v0 : Int32} {w : AW} (hf : mX6_isLogic v0 w = some (zv, zw)) : RR true KX6_isLogic (some (vI zv), zw) 0 [some (vI v0)] [] w := by
  refine r_iload_n dX6_isLogic_0 rfl rfl ?_
  refine r_iconst dX6_isLogic_1 ic_0 ?_
  refine r_bipush dX6_isLogic_2 (bp_7) ?_
  obtain ⟨x_2, w_1, hc, hf⟩ := cl_some hf
  refine g_cS (st := []) KX6_in [vI v0, vI 0, vI 7] dX6_isLogic_4 e_RX6_135 mok_X6_in mw_X6_in ⟨Nat.le_of_ble_eq_true rfl, Nat.le_of_ble_eq_true rfl⟩ (met_X6_in hc) rfl (Nat.le_of_ble_eq_true rfl) ?_
  clear hc
  exact g_zret dX6_isLogic_7 rfl hf
theorem met_X6_isLogic {zv : Int32} {zw : AW} {v0 : Int32} {w : AW} (hf : mX6_isLogic v0 w = some (zv, zw)) : am_Met true KX6_isLogic [vI v0] w (some (vI zv), zw) := am_met mok_X6_isLogic.1 (Nat.le_of_ble_eq_true rfl) (ok_mX6_isLogic  hf)

/-! SeenWorldsModel.logic(III)I -/
noncomputable def mX6_logic_147 (k78 : Int32 → Int32 → Int32 → Int32 → AW → Option (Int32 × AW)) (v2 : Int32) (v3 : Int32) (v4 : Int32) (v5 : Int32) (v6 : Int32) (v8 : Int32) (s0 : Int32) (s1 : Int32) (w : AW) : Option (Int32 × AW) :=
  nm (s1 + s0) fun v7_1 =>
  nm (v8 + (-1)) fun v8_2 =>
  k78 v5 v6 v7_1 v8_2 w
noncomputable def mX6_logic_128 (k78 : Int32 → Int32 → Int32 → Int32 → AW → Option (Int32 × AW)) (v2 : Int32) (v3 : Int32) (v4 : Int32) (v5 : Int32) (v7 : Int32) (v8 : Int32) (s0 : Int32) (s1 : Int32) (w : AW) : Option (Int32 × AW) :=
  nm (s1 + s0) fun v6_1 =>
  cl (mX6_isThere v8 w) fun x_3 w_2 =>
  if x_3 = 0 then
    mX6_logic_147 k78 v2 v3 v4 v5 v6_1 v8 0 v7 w_2
  else
    mX6_logic_147 k78 v2 v3 v4 v5 v6_1 v8 1 v7 w_2
noncomputable def mX6_logic_109 (k78 : Int32 → Int32 → Int32 → Int32 → AW → Option (Int32 × AW)) (v2 : Int32) (v3 : Int32) (v4 : Int32) (v6 : Int32) (v7 : Int32) (v8 : Int32) (s0 : Int32) (w : AW) : Option (Int32 × AW) :=
  rd 1024 (w.1 0 42) v8 fun x_1 =>
  if x_1 = 0 then
    mX6_logic_128 k78 v2 v3 v4 s0 v7 v8 0 v6 w
  else
    mX6_logic_128 k78 v2 v3 v4 s0 v7 v8 1 v6 w
noncomputable def mX6_logic_107 (k78 : Int32 → Int32 → Int32 → Int32 → AW → Option (Int32 × AW)) (v2 : Int32) (v3 : Int32) (v4 : Int32) (v5 : Int32) (v6 : Int32) (v7 : Int32) (v8 : Int32) (w : AW) : Option (Int32 × AW) :=
  mX6_logic_109 k78 v2 v3 v4 v6 v7 v8 v5 w
noncomputable def mX6_logic_78 (v2 : Int32) (v3 : Int32) (v4 : Int32) : Nat → Int32 → Int32 → Int32 → Int32 → AW → Option (Int32 × AW)
  | 0, _, _, _, _, _ => none
  | n + 1, v5, v6, v7, v8, w =>
    if v8 < 0 then
      if v3 = 0 then
        if v5 ≠ (-9) then
          some (1, w)
        else
          some (0, w)
      else if v3 = 1 then
        cl (mX6_isLaw w) fun x_2 w_1 =>
        if x_2 = 0 then
          some (0, w_1)
        else
          some (1, w_1)
      else if v3 = 2 then
        some (v5, w)
      else if v3 = 3 then
        if v5 ≠ (-9) then
          cl (mX6_shownFrom v2 v5 w) fun x_4 w_3 =>
          some (x_4, w_3)
        else
          some (0, w)
      else if v3 = 4 then
        some (v6, w)
      else if v3 = 5 then
        some (v7, w)
      else 
        some (v4, w)
    else
      cl (mX6_isThere v8 w) fun x_6 w_5 =>
      if x_6 = 0 then
        mX6_logic_107 (mX6_logic_78 v2 v3 v4 n) v2 v3 v4 v5 v6 v7 v8 w_5
      else
        rd 1024 (w_5.1 0 41) v8 fun x_7 =>
        if x_7 = 0 then
          mX6_logic_107 (mX6_logic_78 v2 v3 v4 n) v2 v3 v4 v5 v6 v7 v8 w_5
        else
          mX6_logic_109 (mX6_logic_78 v2 v3 v4 n) v2 v3 v4 v6 v7 v8 v8 w_5
noncomputable def mX6_logic (v1 : Int32) (v2 : Int32) (v3 : Int32) (w : AW) : Option (Int32 × AW) :=
  pu w 0 0 0 fun w_1 =>
  cl (mX6_isSentence v1 w_1) fun x_3 w_2 =>
  if x_3 = 0 then
    some ((-1), w_2)
  else
    cl (mX6_isLogic v2 w_2) fun x_5 w_4 =>
    if x_5 = 0 then
      some ((-1), w_4)
    else
      cl (mX6_in v3 0 6 w_4) fun x_7 w_6 =>
      if x_7 ≠ 0 then
        cl (mX6_works v1 w_6) fun x_9 w_8 =>
        cl (mX6_tells 0 w_8) fun x_11 w_10 =>
        if x_11 ≠ 0 then
          cl (mX6_types w_10) fun x_13 w_12 =>
          cl (mX6_rounds v2 w_12) fun x_15 w_14 =>
          nm ((1 <<< ((w_14.1 0 0 35) &&& 31)) - 1) fun v8_16 =>
          mX6_logic_78 v2 v3 x_15 FU (-9) 0 0 v8_16 w_14
        else
          some ((-2), w_10)
      else
        some ((-1), w_6)
set_option maxRecDepth 100000 in
set_option maxHeartbeats 4000000 in
theorem ok_mX6_logic_147 {zv : Int32} {zw : AW} {k78 : Int32 → Int32 → Int32 → Int32 → AW → Option (Int32 × AW)} {v2 : Int32} {v3 : Int32} {v4 : Int32} {v5 : Int32} {v6 : Int32} {v8 : Int32} {s0 : Int32} {s1 : Int32} (hk78 : ∀ (v5 : Int32) (v6 : Int32) (v7 : Int32) (v8 : Int32)  w, k78 v5 v6 v7 v8 w = some (zv, zw) → RR true KX6_logic (some (vI zv), zw) 78 [some (vR 0 0), none, some (vI v2), some (vI v3), some (vI v4), some (vI v5), some (vI v6), some (vI v7), some (vI v8)] [] w) {w : AW} (hf : mX6_logic_147 k78 v2 v3 v4 v5 v6 v8 s0 s1 w = some (zv, zw)) : RR true KX6_logic (some (vI zv), zw) 147 [some (vR 0 0), none, some (vI v2), some (vI v3), some (vI v4), some (vI v5), some (vI v6), none, some (vI v8)] [vI s0, vI s1] w := by
  refine r_iadd dX6_logic_147 ?_
  refine g_istore (fun v7_1 => [some (vR 0 0), none, some (vI v2), some (vI v3), some (vI v4), some (vI v5), some (vI v6), some (vI v7_1), some (vI v8)]) dX6_logic_148 rfl (fun _ => rfl) (Nat.le_of_ble_eq_true rfl) hf (fun v7_1 hf => ?_)
  refine g_iinc (fun v8_2 => [some (vR 0 0), none, some (vI v2), some (vI v3), some (vI v4), some (vI v5), some (vI v6), some (vI v7_1), some (vI v8_2)]) dX6_logic_150 ic_m1 rfl rfl (fun _ => rfl) (Nat.le_of_ble_eq_true rfl) hf (fun v8_2 hf => ?_)
  refine r_goto (tgt := 78) dX6_logic_153 rfl ?_
  exact hk78 _ _ _ _ _ hf
set_option maxRecDepth 100000 in
set_option maxHeartbeats 4000000 in
theorem ok_mX6_logic_128 {zv : Int32} {zw : AW} {k78 : Int32 → Int32 → Int32 → Int32 → AW → Option (Int32 × AW)} {v2 : Int32} {v3 : Int32} {v4 : Int32} {v5 : Int32} {v7 : Int32} {v8 : Int32} {s0 : Int32} {s1 : Int32} (hk78 : ∀ (v5 : Int32) (v6 : Int32) (v7 : Int32) (v8 : Int32)  w, k78 v5 v6 v7 v8 w = some (zv, zw) → RR true KX6_logic (some (vI zv), zw) 78 [some (vR 0 0), none, some (vI v2), some (vI v3), some (vI v4), some (vI v5), some (vI v6), some (vI v7), some (vI v8)] [] w) {w : AW} (hf : mX6_logic_128 k78 v2 v3 v4 v5 v7 v8 s0 s1 w = some (zv, zw)) : RR true KX6_logic (some (vI zv), zw) 128 [some (vR 0 0), none, some (vI v2), some (vI v3), some (vI v4), some (vI v5), none, some (vI v7), some (vI v8)] [vI s0, vI s1] w := by
  refine r_iadd dX6_logic_128 ?_
  refine g_istore (fun v6_1 => [some (vR 0 0), none, some (vI v2), some (vI v3), some (vI v4), some (vI v5), some (vI v6_1), some (vI v7), some (vI v8)]) dX6_logic_129 rfl (fun _ => rfl) (Nat.le_of_ble_eq_true rfl) hf (fun v6_1 hf => ?_)
  refine r_iload dX6_logic_131 rfl ?_
  refine r_aload_n dX6_logic_133 rfl rfl ?_
  refine r_iload dX6_logic_134 rfl ?_
  obtain ⟨x_3, w_2, hc, hf⟩ := cl_some hf
  refine g_cV (st := [vI v7]) KX6_isThere [vI v8] dX6_logic_136 e_RX6_256 (cl_true_0) (rfl : vwCl[6]? = _) rfl mok_X6_isThere mw_X6_isThere ⟨Nat.le_of_ble_eq_true rfl, Nat.le_of_ble_eq_true rfl⟩ (met_X6_isThere hc) rfl (Nat.le_of_ble_eq_true rfl) ?_
  clear hc
  refine g_if_eq (tgt := 146) dX6_logic_139 rfl hf (fun _ hf => ?_) (fun _ hf => ?_)
  · refine r_iconst dX6_logic_146 ic_0 ?_
    refine r_mask (bs := [true, false, true, true, true, true, true, false, true]) ?_
    exact ok_mX6_logic_147 hk78 hf
  · refine r_iconst dX6_logic_142 ic_1 ?_
    refine r_goto (tgt := 147) dX6_logic_143 rfl ?_
    refine r_mask (bs := [true, false, true, true, true, true, true, false, true]) ?_
    exact ok_mX6_logic_147 hk78 hf
set_option maxRecDepth 100000 in
set_option maxHeartbeats 4000000 in
theorem ok_mX6_logic_109 {zv : Int32} {zw : AW} {k78 : Int32 → Int32 → Int32 → Int32 → AW → Option (Int32 × AW)} {v2 : Int32} {v3 : Int32} {v4 : Int32} {v6 : Int32} {v7 : Int32} {v8 : Int32} {s0 : Int32} (hk78 : ∀ (v5 : Int32) (v6 : Int32) (v7 : Int32) (v8 : Int32)  w, k78 v5 v6 v7 v8 w = some (zv, zw) → RR true KX6_logic (some (vI zv), zw) 78 [some (vR 0 0), none, some (vI v2), some (vI v3), some (vI v4), some (vI v5), some (vI v6), some (vI v7), some (vI v8)] [] w) {w : AW} (hf : mX6_logic_109 k78 v2 v3 v4 v6 v7 v8 s0 w = some (zv, zw)) : RR true KX6_logic (some (vI zv), zw) 109 [some (vR 0 0), none, some (vI v2), some (vI v3), some (vI v4), none, some (vI v6), some (vI v7), some (vI v8)] [vI s0] w := by
  refine r_istore (ls2 := [some (vR 0 0), none, some (vI v2), some (vI v3), some (vI v4), some (vI s0), some (vI v6), some (vI v7), some (vI v8)]) dX6_logic_109 rfl rfl (Nat.le_of_ble_eq_true rfl) ?_
  refine r_iload dX6_logic_111 rfl ?_
  refine r_aload_n dX6_logic_113 rfl rfl ?_
  refine g_getA dX6_logic_114 fl_RX6_111 fk_6_41 rfl (cl_true_0) ?_
  refine r_iload dX6_logic_117 rfl ?_
  refine g_iald dX6_logic_119 aK_true_0_42 aL_true_0_42 hf (fun x_1 hf => ?_)
  refine g_if_eq (tgt := 127) dX6_logic_120 rfl hf (fun _ hf => ?_) (fun _ hf => ?_)
  · refine r_iconst dX6_logic_127 ic_0 ?_
    refine r_mask (bs := [true, false, true, true, true, true, false, true, true]) ?_
    exact ok_mX6_logic_128 hk78 hf
  · refine r_iconst dX6_logic_123 ic_1 ?_
    refine r_goto (tgt := 128) dX6_logic_124 rfl ?_
    refine r_mask (bs := [true, false, true, true, true, true, false, true, true]) ?_
    exact ok_mX6_logic_128 hk78 hf
set_option maxRecDepth 100000 in
set_option maxHeartbeats 4000000 in
theorem ok_mX6_logic_107 {zv : Int32} {zw : AW} {k78 : Int32 → Int32 → Int32 → Int32 → AW → Option (Int32 × AW)} {v2 : Int32} {v3 : Int32} {v4 : Int32} {v5 : Int32} {v6 : Int32} {v7 : Int32} {v8 : Int32} (hk78 : ∀ (v5 : Int32) (v6 : Int32) (v7 : Int32) (v8 : Int32)  w, k78 v5 v6 v7 v8 w = some (zv, zw) → RR true KX6_logic (some (vI zv), zw) 78 [some (vR 0 0), none, some (vI v2), some (vI v3), some (vI v4), some (vI v5), some (vI v6), some (vI v7), some (vI v8)] [] w) {w : AW} (hf : mX6_logic_107 k78 v2 v3 v4 v5 v6 v7 v8 w = some (zv, zw)) : RR true KX6_logic (some (vI zv), zw) 107 [some (vR 0 0), none, some (vI v2), some (vI v3), some (vI v4), some (vI v5), some (vI v6), some (vI v7), some (vI v8)] [] w := by
  refine r_iload dX6_logic_107 rfl ?_
  refine r_mask (bs := [true, false, true, true, true, false, true, true, true]) ?_
  exact ok_mX6_logic_109 hk78 hf
set_option maxRecDepth 100000 in
set_option maxHeartbeats 4000000 in
theorem ok_mX6_logic_78 {zv : Int32} {zw : AW} {v2 : Int32} {v3 : Int32} {v4 : Int32} : ∀ (n : Nat) (v5 : Int32) (v6 : Int32) (v7 : Int32) (v8 : Int32) (w : AW), mX6_logic_78 v2 v3 v4 n v5 v6 v7 v8 w = some (zv, zw) → RR true KX6_logic (some (vI zv), zw) 78 [some (vR 0 0), none, some (vI v2), some (vI v3), some (vI v4), some (vI v5), some (vI v6), some (vI v7), some (vI v8)] [] w := by
  intro n
  induction n with
  | zero => intro v5 v6 v7 v8 w hf; cases hf
  | succ n ih =>
    intro v5 v6 v7 v8 w hf
    refine r_iload dX6_logic_78 rfl ?_
    refine g_if_lt (tgt := 156) dX6_logic_80 rfl hf (fun _ hf => ?_) (fun _ hf => ?_)
    · refine r_iload_n dX6_logic_156 rfl rfl ?_
      rcases Classical.em (v3 = 0) with c0 | c0
      · replace hf := br_pos c0 hf
        refine g_tabC (off := 39) (tgt := 196) c0 dX6_logic_157 (by decide) rfl ?_
        refine r_iload dX6_logic_196 rfl ?_
        refine r_bipush dX6_logic_198 (bp_m9) ?_
        refine g_icmp_ne (tgt := 207) dX6_logic_200 rfl hf (fun _ hf => ?_) (fun _ hf => ?_)
        · refine r_iconst dX6_logic_207 ic_1 ?_
          exact r_iret dX6_logic_208 rfl (ret_I hf)
        · refine r_iconst dX6_logic_203 ic_0 ?_
          refine r_goto (tgt := 208) dX6_logic_204 rfl ?_
          exact r_iret dX6_logic_208 rfl (ret_I hf)
      replace hf := br_neg c0 hf
      rcases Classical.em (v3 = 1) with c1 | c1
      · replace hf := br_pos c1 hf
        refine g_tabC (off := 52) (tgt := 209) c1 dX6_logic_157 (by decide) rfl ?_
        refine r_aload_n dX6_logic_209 rfl rfl ?_
        obtain ⟨x_2, w_1, hc, hf⟩ := cl_some hf
        refine g_cV (st := []) KX6_isLaw [] dX6_logic_210 e_RX6_278 (cl_true_0) (rfl : vwCl[6]? = _) rfl mok_X6_isLaw mw_X6_isLaw ⟨Nat.le_of_ble_eq_true rfl, Nat.le_of_ble_eq_true rfl⟩ (met_X6_isLaw hc) rfl (Nat.le_of_ble_eq_true rfl) ?_
        clear hc
        refine g_if_eq (tgt := 220) dX6_logic_213 rfl hf (fun _ hf => ?_) (fun _ hf => ?_)
        · refine r_iconst dX6_logic_220 ic_0 ?_
          exact r_iret dX6_logic_221 rfl (ret_I hf)
        · refine r_iconst dX6_logic_216 ic_1 ?_
          refine r_goto (tgt := 221) dX6_logic_217 rfl ?_
          exact r_iret dX6_logic_221 rfl (ret_I hf)
      replace hf := br_neg c1 hf
      rcases Classical.em (v3 = 2) with c2 | c2
      · replace hf := br_pos c2 hf
        refine g_tabC (off := 65) (tgt := 222) c2 dX6_logic_157 (by decide) rfl ?_
        refine r_iload dX6_logic_222 rfl ?_
        exact r_iret dX6_logic_224 rfl (ret_I hf)
      replace hf := br_neg c2 hf
      rcases Classical.em (v3 = 3) with c3 | c3
      · replace hf := br_pos c3 hf
        refine g_tabC (off := 68) (tgt := 225) c3 dX6_logic_157 (by decide) rfl ?_
        refine r_iload dX6_logic_225 rfl ?_
        refine r_bipush dX6_logic_227 (bp_m9) ?_
        refine g_icmp_ne (tgt := 236) dX6_logic_229 rfl hf (fun _ hf => ?_) (fun _ hf => ?_)
        · refine r_aload_n dX6_logic_236 rfl rfl ?_
          refine r_iload_n dX6_logic_237 rfl rfl ?_
          refine r_iload dX6_logic_238 rfl ?_
          obtain ⟨x_4, w_3, hc, hf⟩ := cl_some hf
          refine g_cV (st := []) KX6_shownFrom [vI v2, vI v5] dX6_logic_240 e_RX6_281 (cl_true_0) (rfl : vwCl[6]? = _) rfl mok_X6_shownFrom mw_X6_shownFrom ⟨Nat.le_of_ble_eq_true rfl, Nat.le_of_ble_eq_true rfl⟩ (met_X6_shownFrom hc) rfl (Nat.le_of_ble_eq_true rfl) ?_
          clear hc
          exact r_iret dX6_logic_243 rfl (ret_I hf)
        · refine r_iconst dX6_logic_232 ic_0 ?_
          refine r_goto (tgt := 243) dX6_logic_233 rfl ?_
          exact r_iret dX6_logic_243 rfl (ret_I hf)
      replace hf := br_neg c3 hf
      rcases Classical.em (v3 = 4) with c4 | c4
      · replace hf := br_pos c4 hf
        refine g_tabC (off := 87) (tgt := 244) c4 dX6_logic_157 (by decide) rfl ?_
        refine r_iload dX6_logic_244 rfl ?_
        exact r_iret dX6_logic_246 rfl (ret_I hf)
      replace hf := br_neg c4 hf
      rcases Classical.em (v3 = 5) with c5 | c5
      · replace hf := br_pos c5 hf
        refine g_tabC (off := 90) (tgt := 247) c5 dX6_logic_157 (by decide) rfl ?_
        refine r_iload dX6_logic_247 rfl ?_
        exact r_iret dX6_logic_249 rfl (ret_I hf)
      replace hf := br_neg c5 hf
      refine g_tabD (tgt := 250) 6 (by decide) (fun j hj => by
        rcases (show j = 0 ∨ j = 1 ∨ j = 2 ∨ j = 3 ∨ j = 4 ∨ j = 5 by omega) with rfl | rfl | rfl | rfl | rfl | rfl
        · exact am_neI c0 (by decide)
        · exact am_neI c1 (by decide)
        · exact am_neI c2 (by decide)
        · exact am_neI c3 (by decide)
        · exact am_neI c4 (by decide)
        · exact am_neI c5 (by decide)) dX6_logic_157 rfl ?_
      refine r_iload dX6_logic_250 rfl ?_
      exact r_iret dX6_logic_252 rfl (ret_I hf)
    · refine r_aload_n dX6_logic_83 rfl rfl ?_
      refine r_iload dX6_logic_84 rfl ?_
      obtain ⟨x_6, w_5, hc, hf⟩ := cl_some hf
      refine g_cV (st := []) KX6_isThere [vI v8] dX6_logic_86 e_RX6_256 (cl_true_0) (rfl : vwCl[6]? = _) rfl mok_X6_isThere mw_X6_isThere ⟨Nat.le_of_ble_eq_true rfl, Nat.le_of_ble_eq_true rfl⟩ (met_X6_isThere hc) rfl (Nat.le_of_ble_eq_true rfl) ?_
      clear hc
      refine g_if_eq (tgt := 107) dX6_logic_89 rfl hf (fun _ hf => ?_) (fun _ hf => ?_)
      · exact ok_mX6_logic_107 (fun v5 v6 v7 v8 w hf => ih v5 v6 v7 v8 w hf) hf
      · refine r_aload_n dX6_logic_92 rfl rfl ?_
        refine g_getA dX6_logic_93 fl_RX6_107 fk_6_40 rfl (cl_true_0) ?_
        refine r_iload dX6_logic_96 rfl ?_
        refine g_bald dX6_logic_98 aK_true_0_41 aL_true_0_41 hf (fun x_7 hf => ?_)
        refine g_if_eq (tgt := 107) dX6_logic_99 rfl hf (fun _ hf => ?_) (fun _ hf => ?_)
        · exact ok_mX6_logic_107 (fun v5 v6 v7 v8 w hf => ih v5 v6 v7 v8 w hf) hf
        · refine r_iload dX6_logic_102 rfl ?_
          refine r_goto (tgt := 109) dX6_logic_104 rfl ?_
          refine r_mask (bs := [true, false, true, true, true, false, true, true, true]) ?_
          exact ok_mX6_logic_109 (fun v5 v6 v7 v8 w hf => ih v5 v6 v7 v8 w hf) hf
set_option maxRecDepth 100000 in
set_option maxHeartbeats 4000000 in
theorem ok_mX6_logic {zv : Int32} {zw : AW} {v1 : Int32} {v2 : Int32} {v3 : Int32} {w : AW} (hf : mX6_logic v1 v2 v3 w = some (zv, zw)) : RR true KX6_logic (some (vI zv), zw) 0 [some (vR 0 0), some (vI v1), some (vI v2), some (vI v3), none, none, none, none, none] [] w := by
  refine r_aload_n dX6_logic_0 rfl rfl ?_
  refine r_iconst dX6_logic_1 ic_0 ?_
  refine g_putI dX6_logic_2 fl_RX6_132 fk_6_0 (cl_true_0) hf (fun w_1 hf => ?_)
  refine r_iload_n dX6_logic_5 rfl rfl ?_
  obtain ⟨x_3, w_2, hc, hf⟩ := cl_some hf
  refine g_cS (st := []) KX6_isSentence [vI v1] dX6_logic_6 e_RX6_195 mok_X6_isSentence mw_X6_isSentence ⟨Nat.le_of_ble_eq_true rfl, Nat.le_of_ble_eq_true rfl⟩ (met_X6_isSentence hc) rfl (Nat.le_of_ble_eq_true rfl) ?_
  clear hc
  refine g_if_eq (tgt := 29) dX6_logic_9 rfl hf (fun _ hf => ?_) (fun _ hf => ?_)
  · refine r_iconst dX6_logic_29 ic_m1 ?_
    exact r_iret dX6_logic_30 rfl (ret_I hf)
  · refine r_iload_n dX6_logic_12 rfl rfl ?_
    obtain ⟨x_5, w_4, hc, hf⟩ := cl_some hf
    refine g_cS (st := []) KX6_isLogic [vI v2] dX6_logic_13 e_RX6_265 mok_X6_isLogic mw_X6_isLogic ⟨Nat.le_of_ble_eq_true rfl, Nat.le_of_ble_eq_true rfl⟩ (met_X6_isLogic hc) rfl (Nat.le_of_ble_eq_true rfl) ?_
    clear hc
    refine g_if_eq (tgt := 29) dX6_logic_16 rfl hf (fun _ hf => ?_) (fun _ hf => ?_)
    · refine r_iconst dX6_logic_29 ic_m1 ?_
      exact r_iret dX6_logic_30 rfl (ret_I hf)
    · refine r_iload_n dX6_logic_19 rfl rfl ?_
      refine r_iconst dX6_logic_20 ic_0 ?_
      refine r_bipush dX6_logic_21 (bp_6) ?_
      obtain ⟨x_7, w_6, hc, hf⟩ := cl_some hf
      refine g_cS (st := []) KX6_in [vI v3, vI 0, vI 6] dX6_logic_23 e_RX6_135 mok_X6_in mw_X6_in ⟨Nat.le_of_ble_eq_true rfl, Nat.le_of_ble_eq_true rfl⟩ (met_X6_in hc) rfl (Nat.le_of_ble_eq_true rfl) ?_
      clear hc
      refine g_if_ne (tgt := 31) dX6_logic_26 rfl hf (fun _ hf => ?_) (fun _ hf => ?_)
      · refine r_aload_n dX6_logic_31 rfl rfl ?_
        refine r_iload_n dX6_logic_32 rfl rfl ?_
        obtain ⟨x_9, w_8, hc, hf⟩ := cl_some hf
        refine g_cVv (st := []) KX6_works [vI v1] dX6_logic_33 e_RX6_215 (cl_true_0) (rfl : vwCl[6]? = _) rfl mok_X6_works mw_X6_works ⟨Nat.le_of_ble_eq_true rfl, Nat.le_of_ble_eq_true rfl⟩ (met_X6_works hc) rfl (Nat.le_of_ble_eq_true rfl) ?_
        clear hc
        refine r_aload_n dX6_logic_36 rfl rfl ?_
        refine r_iconst dX6_logic_37 ic_0 ?_
        obtain ⟨x_11, w_10, hc, hf⟩ := cl_some hf
        refine g_cV (st := []) KX6_tells [vI 0] dX6_logic_38 e_RX6_268 (cl_true_0) (rfl : vwCl[6]? = _) rfl mok_X6_tells mw_X6_tells ⟨Nat.le_of_ble_eq_true rfl, Nat.le_of_ble_eq_true rfl⟩ (met_X6_tells hc) rfl (Nat.le_of_ble_eq_true rfl) ?_
        clear hc
        refine g_if_ne (tgt := 47) dX6_logic_41 rfl hf (fun _ hf => ?_) (fun _ hf => ?_)
        · refine r_aload_n dX6_logic_47 rfl rfl ?_
          obtain ⟨x_13, w_12, hc, hf⟩ := cl_some hf
          refine g_cVv (st := []) KX6_types [] dX6_logic_48 e_RX6_272 (cl_true_0) (rfl : vwCl[6]? = _) rfl mok_X6_types mw_X6_types ⟨Nat.le_of_ble_eq_true rfl, Nat.le_of_ble_eq_true rfl⟩ (met_X6_types hc) rfl (Nat.le_of_ble_eq_true rfl) ?_
          clear hc
          refine r_aload_n dX6_logic_51 rfl rfl ?_
          refine r_iload_n dX6_logic_52 rfl rfl ?_
          obtain ⟨x_15, w_14, hc, hf⟩ := cl_some hf
          refine g_cV (st := []) KX6_rounds [vI v2] dX6_logic_53 e_RX6_275 (cl_true_0) (rfl : vwCl[6]? = _) rfl mok_X6_rounds mw_X6_rounds ⟨Nat.le_of_ble_eq_true rfl, Nat.le_of_ble_eq_true rfl⟩ (met_X6_rounds hc) rfl (Nat.le_of_ble_eq_true rfl) ?_
          clear hc
          refine r_istore (ls2 := [some (vR 0 0), some (vI v1), some (vI v2), some (vI v3), some (vI x_15), none, none, none, none]) dX6_logic_56 rfl rfl (Nat.le_of_ble_eq_true rfl) ?_
          refine r_bipush dX6_logic_58 (bp_m9) ?_
          refine r_istore (ls2 := [some (vR 0 0), some (vI v1), some (vI v2), some (vI v3), some (vI x_15), some (vI (-9)), none, none, none]) dX6_logic_60 rfl rfl (Nat.le_of_ble_eq_true rfl) ?_
          refine r_iconst dX6_logic_62 ic_0 ?_
          refine r_istore (ls2 := [some (vR 0 0), some (vI v1), some (vI v2), some (vI v3), some (vI x_15), some (vI (-9)), some (vI 0), none, none]) dX6_logic_63 rfl rfl (Nat.le_of_ble_eq_true rfl) ?_
          refine r_iconst dX6_logic_65 ic_0 ?_
          refine r_istore (ls2 := [some (vR 0 0), some (vI v1), some (vI v2), some (vI v3), some (vI x_15), some (vI (-9)), some (vI 0), some (vI 0), none]) dX6_logic_66 rfl rfl (Nat.le_of_ble_eq_true rfl) ?_
          refine r_iconst dX6_logic_68 ic_1 ?_
          refine r_aload_n dX6_logic_69 rfl rfl ?_
          refine g_getI dX6_logic_70 fl_RX6_240 fk_6_35 (cl_true_0) ?_
          refine r_ishl dX6_logic_73 ?_
          refine r_iconst dX6_logic_74 ic_1 ?_
          refine r_isub dX6_logic_75 ?_
          refine g_istore (fun v8_16 => [some (vR 0 0), some (vI v1), some (vI v2), some (vI v3), some (vI x_15), some (vI (-9)), some (vI 0), some (vI 0), some (vI v8_16)]) dX6_logic_76 rfl (fun _ => rfl) (Nat.le_of_ble_eq_true rfl) hf (fun v8_16 hf => ?_)
          refine r_mask (bs := [true, false, true, true, true, true, true, true, true]) ?_
          exact ok_mX6_logic_78 FU _ _ _ _ _ hf
        · refine r_bipush dX6_logic_44 (bp_m2) ?_
          exact r_iret dX6_logic_46 rfl (ret_I hf)
      · refine r_iconst dX6_logic_29 ic_m1 ?_
        exact r_iret dX6_logic_30 rfl (ret_I hf)
theorem met_X6_logic {zv : Int32} {zw : AW} {v1 : Int32} {v2 : Int32} {v3 : Int32} {w : AW} (hf : mX6_logic v1 v2 v3 w = some (zv, zw)) : am_Met true KX6_logic [vR 0 0, vI v1, vI v2, vI v3] w (some (vI zv), zw) := am_met mok_X6_logic.1 (Nat.le_of_ble_eq_true rfl) (ok_mX6_logic  hf)

/-! SeenWorldsModel.falls(III)I -/
noncomputable def mX6_falls (v1 : Int32) (v2 : Int32) (v3 : Int32) (w : AW) : Option (Int32 × AW) :=
  pu w 0 0 0 fun w_1 =>
  cl (mX6_isSentence v1 w_1) fun x_3 w_2 =>
  if x_3 = 0 then
    some ((-1), w_2)
  else
    cl (mX6_isLogic v2 w_2) fun x_5 w_4 =>
    if x_5 = 0 then
      some ((-1), w_4)
    else
      if 0 ≤ v3 then
        cl (mX6_works v1 w_4) fun x_7 w_6 =>
        cl (mX6_tells 0 w_6) fun x_9 w_8 =>
        if x_9 ≠ 0 then
          if v3 < (1 <<< ((w_8.1 0 0 35) &&& 31)) then
            cl (mX6_types w_8) fun x_11 w_10 =>
            cl (mX6_rounds v2 w_10) fun x_13 w_12 =>
            rd 1024 (w_12.1 0 42) v3 fun x_14 =>
            some (x_14, w_12)
          else
            some ((-1), w_8)
        else
          some ((-2), w_8)
      else
        some ((-1), w_4)
set_option maxRecDepth 100000 in
set_option maxHeartbeats 4000000 in
theorem ok_mX6_falls {zv : Int32} {zw : AW} {v1 : Int32} {v2 : Int32} {v3 : Int32} {w : AW} (hf : mX6_falls v1 v2 v3 w = some (zv, zw)) : RR true KX6_falls (some (vI zv), zw) 0 [some (vR 0 0), some (vI v1), some (vI v2), some (vI v3)] [] w := by
  refine r_aload_n dX6_falls_0 rfl rfl ?_
  refine r_iconst dX6_falls_1 ic_0 ?_
  refine g_putI dX6_falls_2 fl_RX6_132 fk_6_0 (cl_true_0) hf (fun w_1 hf => ?_)
  refine r_iload_n dX6_falls_5 rfl rfl ?_
  obtain ⟨x_3, w_2, hc, hf⟩ := cl_some hf
  refine g_cS (st := []) KX6_isSentence [vI v1] dX6_falls_6 e_RX6_195 mok_X6_isSentence mw_X6_isSentence ⟨Nat.le_of_ble_eq_true rfl, Nat.le_of_ble_eq_true rfl⟩ (met_X6_isSentence hc) rfl (Nat.le_of_ble_eq_true rfl) ?_
  clear hc
  refine g_if_eq (tgt := 23) dX6_falls_9 rfl hf (fun _ hf => ?_) (fun _ hf => ?_)
  · refine r_iconst dX6_falls_23 ic_m1 ?_
    exact r_iret dX6_falls_24 rfl (ret_I hf)
  · refine r_iload_n dX6_falls_12 rfl rfl ?_
    obtain ⟨x_5, w_4, hc, hf⟩ := cl_some hf
    refine g_cS (st := []) KX6_isLogic [vI v2] dX6_falls_13 e_RX6_265 mok_X6_isLogic mw_X6_isLogic ⟨Nat.le_of_ble_eq_true rfl, Nat.le_of_ble_eq_true rfl⟩ (met_X6_isLogic hc) rfl (Nat.le_of_ble_eq_true rfl) ?_
    clear hc
    refine g_if_eq (tgt := 23) dX6_falls_16 rfl hf (fun _ hf => ?_) (fun _ hf => ?_)
    · refine r_iconst dX6_falls_23 ic_m1 ?_
      exact r_iret dX6_falls_24 rfl (ret_I hf)
    · refine r_iload_n dX6_falls_19 rfl rfl ?_
      refine g_if_ge (tgt := 25) dX6_falls_20 rfl hf (fun _ hf => ?_) (fun _ hf => ?_)
      · refine r_aload_n dX6_falls_25 rfl rfl ?_
        refine r_iload_n dX6_falls_26 rfl rfl ?_
        obtain ⟨x_7, w_6, hc, hf⟩ := cl_some hf
        refine g_cVv (st := []) KX6_works [vI v1] dX6_falls_27 e_RX6_215 (cl_true_0) (rfl : vwCl[6]? = _) rfl mok_X6_works mw_X6_works ⟨Nat.le_of_ble_eq_true rfl, Nat.le_of_ble_eq_true rfl⟩ (met_X6_works hc) rfl (Nat.le_of_ble_eq_true rfl) ?_
        clear hc
        refine r_aload_n dX6_falls_30 rfl rfl ?_
        refine r_iconst dX6_falls_31 ic_0 ?_
        obtain ⟨x_9, w_8, hc, hf⟩ := cl_some hf
        refine g_cV (st := []) KX6_tells [vI 0] dX6_falls_32 e_RX6_268 (cl_true_0) (rfl : vwCl[6]? = _) rfl mok_X6_tells mw_X6_tells ⟨Nat.le_of_ble_eq_true rfl, Nat.le_of_ble_eq_true rfl⟩ (met_X6_tells hc) rfl (Nat.le_of_ble_eq_true rfl) ?_
        clear hc
        refine g_if_ne (tgt := 41) dX6_falls_35 rfl hf (fun _ hf => ?_) (fun _ hf => ?_)
        · refine r_iload_n dX6_falls_41 rfl rfl ?_
          refine r_iconst dX6_falls_42 ic_1 ?_
          refine r_aload_n dX6_falls_43 rfl rfl ?_
          refine g_getI dX6_falls_44 fl_RX6_240 fk_6_35 (cl_true_0) ?_
          refine r_ishl dX6_falls_47 ?_
          refine g_icmp_lt (tgt := 53) dX6_falls_48 rfl hf (fun _ hf => ?_) (fun _ hf => ?_)
          · refine r_aload_n dX6_falls_53 rfl rfl ?_
            obtain ⟨x_11, w_10, hc, hf⟩ := cl_some hf
            refine g_cVv (st := []) KX6_types [] dX6_falls_54 e_RX6_272 (cl_true_0) (rfl : vwCl[6]? = _) rfl mok_X6_types mw_X6_types ⟨Nat.le_of_ble_eq_true rfl, Nat.le_of_ble_eq_true rfl⟩ (met_X6_types hc) rfl (Nat.le_of_ble_eq_true rfl) ?_
            clear hc
            refine r_aload_n dX6_falls_57 rfl rfl ?_
            refine r_iload_n dX6_falls_58 rfl rfl ?_
            obtain ⟨x_13, w_12, hc, hf⟩ := cl_some hf
            refine g_cV (st := []) KX6_rounds [vI v2] dX6_falls_59 e_RX6_275 (cl_true_0) (rfl : vwCl[6]? = _) rfl mok_X6_rounds mw_X6_rounds ⟨Nat.le_of_ble_eq_true rfl, Nat.le_of_ble_eq_true rfl⟩ (met_X6_rounds hc) rfl (Nat.le_of_ble_eq_true rfl) ?_
            clear hc
            refine r_pop dX6_falls_62 rfl ?_
            refine r_aload_n dX6_falls_63 rfl rfl ?_
            refine g_getA dX6_falls_64 fl_RX6_111 fk_6_41 rfl (cl_true_0) ?_
            refine r_iload_n dX6_falls_67 rfl rfl ?_
            refine g_iald dX6_falls_68 aK_true_0_42 aL_true_0_42 hf (fun x_14 hf => ?_)
            exact r_iret dX6_falls_69 rfl (ret_I hf)
          · refine r_iconst dX6_falls_51 ic_m1 ?_
            exact r_iret dX6_falls_52 rfl (ret_I hf)
        · refine r_bipush dX6_falls_38 (bp_m2) ?_
          exact r_iret dX6_falls_40 rfl (ret_I hf)
      · refine r_iconst dX6_falls_23 ic_m1 ?_
        exact r_iret dX6_falls_24 rfl (ret_I hf)
theorem met_X6_falls {zv : Int32} {zw : AW} {v1 : Int32} {v2 : Int32} {v3 : Int32} {w : AW} (hf : mX6_falls v1 v2 v3 w = some (zv, zw)) : am_Met true KX6_falls [vR 0 0, vI v1, vI v2, vI v3] w (some (vI zv), zw) := am_met mok_X6_falls.1 (Nat.le_of_ble_eq_true rfl) (ok_mX6_falls  hf)

/-! SeenWorldsModel.follows(III)I -/
noncomputable def mX6_follows (v1 : Int32) (v2 : Int32) (v3 : Int32) (w : AW) : Option (Int32 × AW) :=
  pu w 0 0 0 fun w_1 =>
  cl (mX6_isSentence v1 w_1) fun x_3 w_2 =>
  if x_3 = 0 then
    some ((-1), w_2)
  else
    cl (mX6_isSentence v2 w_2) fun x_5 w_4 =>
    if x_5 = 0 then
      some ((-1), w_4)
    else
      cl (mX6_isLogic v3 w_4) fun x_7 w_6 =>
      if x_7 ≠ 0 then
        pu w_6 0 26 0 fun w_8 =>
        wr 420 w_8 0 29 0 40 fun w_9 =>
        pu w_9 0 27 1 fun w_10 =>
        cl (mX6_takes v1 w_10) fun x_12 w_11 =>
        nm ((w_11.1 0 0 26) - 1) fun v4_13 =>
        wr 420 w_11 0 29 (w_11.1 0 0 27) 62 fun w_14 =>
        pu w_14 0 27 ((w_14.1 0 0 27) + 1) fun w_15 =>
        cl (mX6_takes v2 w_15) fun x_17 w_16 =>
        wr 90 w_16 0 30 (w_16.1 0 0 26) 62 fun w_18 =>
        wr 90 w_18 0 31 (w_18.1 0 0 26) v4_13 fun w_19 =>
        wr 90 w_19 0 32 (w_19.1 0 0 26) ((w_19.1 0 0 26) - 1) fun w_20 =>
        wr 420 w_20 0 29 (w_20.1 0 0 27) 41 fun w_21 =>
        pu w_21 0 27 ((w_21.1 0 0 27) + 1) fun w_22 =>
        wr 90 w_22 0 33 (w_22.1 0 0 26) 0 fun w_23 =>
        wr 90 w_23 0 34 (w_23.1 0 0 26) (w_23.1 0 0 27) fun w_24 =>
        pu w_24 0 26 ((w_24.1 0 0 26) + 1) fun w_25 =>
        cl (mX6_tells 0 w_25) fun x_27 w_26 =>
        if x_27 ≠ 0 then
          cl (mX6_types w_26) fun x_29 w_28 =>
          cl (mX6_rounds v3 w_28) fun x_31 w_30 =>
          cl (mX6_isLaw w_30) fun x_33 w_32 =>
          if x_33 = 0 then
            some (0, w_32)
          else
            some (1, w_32)
        else
          some ((-2), w_26)
      else
        some ((-1), w_6)
set_option maxRecDepth 100000 in
set_option maxHeartbeats 4000000 in
theorem ok_mX6_follows {zv : Int32} {zw : AW} {v1 : Int32} {v2 : Int32} {v3 : Int32} {w : AW} (hf : mX6_follows v1 v2 v3 w = some (zv, zw)) : RR true KX6_follows (some (vI zv), zw) 0 [some (vR 0 0), some (vI v1), some (vI v2), some (vI v3), none] [] w := by
  refine r_aload_n dX6_follows_0 rfl rfl ?_
  refine r_iconst dX6_follows_1 ic_0 ?_
  refine g_putI dX6_follows_2 fl_RX6_132 fk_6_0 (cl_true_0) hf (fun w_1 hf => ?_)
  refine r_iload_n dX6_follows_5 rfl rfl ?_
  obtain ⟨x_3, w_2, hc, hf⟩ := cl_some hf
  refine g_cS (st := []) KX6_isSentence [vI v1] dX6_follows_6 e_RX6_195 mok_X6_isSentence mw_X6_isSentence ⟨Nat.le_of_ble_eq_true rfl, Nat.le_of_ble_eq_true rfl⟩ (met_X6_isSentence hc) rfl (Nat.le_of_ble_eq_true rfl) ?_
  clear hc
  refine g_if_eq (tgt := 26) dX6_follows_9 rfl hf (fun _ hf => ?_) (fun _ hf => ?_)
  · refine r_iconst dX6_follows_26 ic_m1 ?_
    exact r_iret dX6_follows_27 rfl (ret_I hf)
  · refine r_iload_n dX6_follows_12 rfl rfl ?_
    obtain ⟨x_5, w_4, hc, hf⟩ := cl_some hf
    refine g_cS (st := []) KX6_isSentence [vI v2] dX6_follows_13 e_RX6_195 mok_X6_isSentence mw_X6_isSentence ⟨Nat.le_of_ble_eq_true rfl, Nat.le_of_ble_eq_true rfl⟩ (met_X6_isSentence hc) rfl (Nat.le_of_ble_eq_true rfl) ?_
    clear hc
    refine g_if_eq (tgt := 26) dX6_follows_16 rfl hf (fun _ hf => ?_) (fun _ hf => ?_)
    · refine r_iconst dX6_follows_26 ic_m1 ?_
      exact r_iret dX6_follows_27 rfl (ret_I hf)
    · refine r_iload_n dX6_follows_19 rfl rfl ?_
      obtain ⟨x_7, w_6, hc, hf⟩ := cl_some hf
      refine g_cS (st := []) KX6_isLogic [vI v3] dX6_follows_20 e_RX6_265 mok_X6_isLogic mw_X6_isLogic ⟨Nat.le_of_ble_eq_true rfl, Nat.le_of_ble_eq_true rfl⟩ (met_X6_isLogic hc) rfl (Nat.le_of_ble_eq_true rfl) ?_
      clear hc
      refine g_if_ne (tgt := 28) dX6_follows_23 rfl hf (fun _ hf => ?_) (fun _ hf => ?_)
      · refine r_aload_n dX6_follows_28 rfl rfl ?_
        refine r_iconst dX6_follows_29 ic_0 ?_
        refine g_putI dX6_follows_30 fl_RX6_202 fk_6_26 (cl_true_0) hf (fun w_8 hf => ?_)
        refine r_aload_n dX6_follows_33 rfl rfl ?_
        refine g_getA dX6_follows_34 fl_RX6_74 fk_6_28 rfl (cl_true_0) ?_
        refine r_iconst dX6_follows_37 ic_0 ?_
        refine r_bipush dX6_follows_38 (bp_40) ?_
        refine g_iast dX6_follows_40 aK_true_0_29 aL_true_0_29 hf (fun w_9 hf => ?_)
        refine r_aload_n dX6_follows_41 rfl rfl ?_
        refine r_iconst dX6_follows_42 ic_1 ?_
        refine g_putI dX6_follows_43 fl_RX6_205 fk_6_27 (cl_true_0) hf (fun w_10 hf => ?_)
        refine r_aload_n dX6_follows_46 rfl rfl ?_
        refine r_iload_n dX6_follows_47 rfl rfl ?_
        obtain ⟨x_12, w_11, hc, hf⟩ := cl_some hf
        refine g_cVv (st := []) KX6_takes [vI v1] dX6_follows_48 e_RX6_208 (cl_true_0) (rfl : vwCl[6]? = _) rfl mok_X6_takes mw_X6_takes ⟨Nat.le_of_ble_eq_true rfl, Nat.le_of_ble_eq_true rfl⟩ (met_X6_takes hc) rfl (Nat.le_of_ble_eq_true rfl) ?_
        clear hc
        refine r_aload_n dX6_follows_51 rfl rfl ?_
        refine g_getI dX6_follows_52 fl_RX6_202 fk_6_26 (cl_true_0) ?_
        refine r_iconst dX6_follows_55 ic_1 ?_
        refine r_isub dX6_follows_56 ?_
        refine g_istore (fun v4_13 => [some (vR 0 0), some (vI v1), some (vI v2), some (vI v3), some (vI v4_13)]) dX6_follows_57 rfl (fun _ => rfl) (Nat.le_of_ble_eq_true rfl) hf (fun v4_13 hf => ?_)
        refine r_aload_n dX6_follows_59 rfl rfl ?_
        refine g_getA dX6_follows_60 fl_RX6_74 fk_6_28 rfl (cl_true_0) ?_
        refine r_aload_n dX6_follows_63 rfl rfl ?_
        refine g_getI dX6_follows_64 fl_RX6_205 fk_6_27 (cl_true_0) ?_
        refine r_bipush dX6_follows_67 (bp_62) ?_
        refine g_iast dX6_follows_69 aK_true_0_29 aL_true_0_29 hf (fun w_14 hf => ?_)
        refine r_aload_n dX6_follows_70 rfl rfl ?_
        refine r_dup dX6_follows_71 rfl ?_
        refine g_getI dX6_follows_72 fl_RX6_205 fk_6_27 (cl_true_0) ?_
        refine r_iconst dX6_follows_75 ic_1 ?_
        refine r_iadd dX6_follows_76 ?_
        refine g_putI dX6_follows_77 fl_RX6_205 fk_6_27 (cl_true_0) hf (fun w_15 hf => ?_)
        refine r_aload_n dX6_follows_80 rfl rfl ?_
        refine r_iload_n dX6_follows_81 rfl rfl ?_
        obtain ⟨x_17, w_16, hc, hf⟩ := cl_some hf
        refine g_cVv (st := []) KX6_takes [vI v2] dX6_follows_82 e_RX6_208 (cl_true_0) (rfl : vwCl[6]? = _) rfl mok_X6_takes mw_X6_takes ⟨Nat.le_of_ble_eq_true rfl, Nat.le_of_ble_eq_true rfl⟩ (met_X6_takes hc) rfl (Nat.le_of_ble_eq_true rfl) ?_
        clear hc
        refine r_aload_n dX6_follows_85 rfl rfl ?_
        refine g_getA dX6_follows_86 fl_RX6_77 fk_6_29 rfl (cl_true_0) ?_
        refine r_aload_n dX6_follows_89 rfl rfl ?_
        refine g_getI dX6_follows_90 fl_RX6_202 fk_6_26 (cl_true_0) ?_
        refine r_bipush dX6_follows_93 (bp_62) ?_
        refine g_iast dX6_follows_95 aK_true_0_30 aL_true_0_30 hf (fun w_18 hf => ?_)
        refine r_aload_n dX6_follows_96 rfl rfl ?_
        refine g_getA dX6_follows_97 fl_RX6_80 fk_6_30 rfl (cl_true_0) ?_
        refine r_aload_n dX6_follows_100 rfl rfl ?_
        refine g_getI dX6_follows_101 fl_RX6_202 fk_6_26 (cl_true_0) ?_
        refine r_iload dX6_follows_104 rfl ?_
        refine g_iast dX6_follows_106 aK_true_0_31 aL_true_0_31 hf (fun w_19 hf => ?_)
        refine r_aload_n dX6_follows_107 rfl rfl ?_
        refine g_getA dX6_follows_108 fl_RX6_83 fk_6_31 rfl (cl_true_0) ?_
        refine r_aload_n dX6_follows_111 rfl rfl ?_
        refine g_getI dX6_follows_112 fl_RX6_202 fk_6_26 (cl_true_0) ?_
        refine r_aload_n dX6_follows_115 rfl rfl ?_
        refine g_getI dX6_follows_116 fl_RX6_202 fk_6_26 (cl_true_0) ?_
        refine r_iconst dX6_follows_119 ic_1 ?_
        refine r_isub dX6_follows_120 ?_
        refine g_iast dX6_follows_121 aK_true_0_32 aL_true_0_32 hf (fun w_20 hf => ?_)
        refine r_aload_n dX6_follows_122 rfl rfl ?_
        refine g_getA dX6_follows_123 fl_RX6_74 fk_6_28 rfl (cl_true_0) ?_
        refine r_aload_n dX6_follows_126 rfl rfl ?_
        refine g_getI dX6_follows_127 fl_RX6_205 fk_6_27 (cl_true_0) ?_
        refine r_bipush dX6_follows_130 (bp_41) ?_
        refine g_iast dX6_follows_132 aK_true_0_29 aL_true_0_29 hf (fun w_21 hf => ?_)
        refine r_aload_n dX6_follows_133 rfl rfl ?_
        refine r_dup dX6_follows_134 rfl ?_
        refine g_getI dX6_follows_135 fl_RX6_205 fk_6_27 (cl_true_0) ?_
        refine r_iconst dX6_follows_138 ic_1 ?_
        refine r_iadd dX6_follows_139 ?_
        refine g_putI dX6_follows_140 fl_RX6_205 fk_6_27 (cl_true_0) hf (fun w_22 hf => ?_)
        refine r_aload_n dX6_follows_143 rfl rfl ?_
        refine g_getA dX6_follows_144 fl_RX6_86 fk_6_32 rfl (cl_true_0) ?_
        refine r_aload_n dX6_follows_147 rfl rfl ?_
        refine g_getI dX6_follows_148 fl_RX6_202 fk_6_26 (cl_true_0) ?_
        refine r_iconst dX6_follows_151 ic_0 ?_
        refine g_iast dX6_follows_152 aK_true_0_33 aL_true_0_33 hf (fun w_23 hf => ?_)
        refine r_aload_n dX6_follows_153 rfl rfl ?_
        refine g_getA dX6_follows_154 fl_RX6_89 fk_6_33 rfl (cl_true_0) ?_
        refine r_aload_n dX6_follows_157 rfl rfl ?_
        refine g_getI dX6_follows_158 fl_RX6_202 fk_6_26 (cl_true_0) ?_
        refine r_aload_n dX6_follows_161 rfl rfl ?_
        refine g_getI dX6_follows_162 fl_RX6_205 fk_6_27 (cl_true_0) ?_
        refine g_iast dX6_follows_165 aK_true_0_34 aL_true_0_34 hf (fun w_24 hf => ?_)
        refine r_aload_n dX6_follows_166 rfl rfl ?_
        refine r_dup dX6_follows_167 rfl ?_
        refine g_getI dX6_follows_168 fl_RX6_202 fk_6_26 (cl_true_0) ?_
        refine r_iconst dX6_follows_171 ic_1 ?_
        refine r_iadd dX6_follows_172 ?_
        refine g_putI dX6_follows_173 fl_RX6_202 fk_6_26 (cl_true_0) hf (fun w_25 hf => ?_)
        refine r_aload_n dX6_follows_176 rfl rfl ?_
        refine r_iconst dX6_follows_177 ic_0 ?_
        obtain ⟨x_27, w_26, hc, hf⟩ := cl_some hf
        refine g_cV (st := []) KX6_tells [vI 0] dX6_follows_178 e_RX6_268 (cl_true_0) (rfl : vwCl[6]? = _) rfl mok_X6_tells mw_X6_tells ⟨Nat.le_of_ble_eq_true rfl, Nat.le_of_ble_eq_true rfl⟩ (met_X6_tells hc) rfl (Nat.le_of_ble_eq_true rfl) ?_
        clear hc
        refine g_if_ne (tgt := 187) dX6_follows_181 rfl hf (fun _ hf => ?_) (fun _ hf => ?_)
        · refine r_aload_n dX6_follows_187 rfl rfl ?_
          obtain ⟨x_29, w_28, hc, hf⟩ := cl_some hf
          refine g_cVv (st := []) KX6_types [] dX6_follows_188 e_RX6_272 (cl_true_0) (rfl : vwCl[6]? = _) rfl mok_X6_types mw_X6_types ⟨Nat.le_of_ble_eq_true rfl, Nat.le_of_ble_eq_true rfl⟩ (met_X6_types hc) rfl (Nat.le_of_ble_eq_true rfl) ?_
          clear hc
          refine r_aload_n dX6_follows_191 rfl rfl ?_
          refine r_iload_n dX6_follows_192 rfl rfl ?_
          obtain ⟨x_31, w_30, hc, hf⟩ := cl_some hf
          refine g_cV (st := []) KX6_rounds [vI v3] dX6_follows_193 e_RX6_275 (cl_true_0) (rfl : vwCl[6]? = _) rfl mok_X6_rounds mw_X6_rounds ⟨Nat.le_of_ble_eq_true rfl, Nat.le_of_ble_eq_true rfl⟩ (met_X6_rounds hc) rfl (Nat.le_of_ble_eq_true rfl) ?_
          clear hc
          refine r_pop dX6_follows_196 rfl ?_
          refine r_aload_n dX6_follows_197 rfl rfl ?_
          obtain ⟨x_33, w_32, hc, hf⟩ := cl_some hf
          refine g_cV (st := []) KX6_isLaw [] dX6_follows_198 e_RX6_278 (cl_true_0) (rfl : vwCl[6]? = _) rfl mok_X6_isLaw mw_X6_isLaw ⟨Nat.le_of_ble_eq_true rfl, Nat.le_of_ble_eq_true rfl⟩ (met_X6_isLaw hc) rfl (Nat.le_of_ble_eq_true rfl) ?_
          clear hc
          refine g_if_eq (tgt := 208) dX6_follows_201 rfl hf (fun _ hf => ?_) (fun _ hf => ?_)
          · refine r_iconst dX6_follows_208 ic_0 ?_
            exact r_iret dX6_follows_209 rfl (ret_I hf)
          · refine r_iconst dX6_follows_204 ic_1 ?_
            refine r_goto (tgt := 209) dX6_follows_205 rfl ?_
            exact r_iret dX6_follows_209 rfl (ret_I hf)
        · refine r_bipush dX6_follows_184 (bp_m2) ?_
          exact r_iret dX6_follows_186 rfl (ret_I hf)
      · refine r_iconst dX6_follows_26 ic_m1 ?_
        exact r_iret dX6_follows_27 rfl (ret_I hf)
theorem met_X6_follows {zv : Int32} {zw : AW} {v1 : Int32} {v2 : Int32} {v3 : Int32} {w : AW} (hf : mX6_follows v1 v2 v3 w = some (zv, zw)) : am_Met true KX6_follows [vR 0 0, vI v1, vI v2, vI v3] w (some (vI zv), zw) := am_met mok_X6_follows.1 (Nat.le_of_ble_eq_true rfl) (ok_mX6_follows  hf)

/-! SeenWorldsModel.heapsOf(I)I -/
noncomputable def mX6_heapsOf_39 (k4 : Int32 → Int32 → AW → Option (Int32 × AW)) (v1 : Int32) (v3 : Int32) (s0 : Int32) (s1 : Int32) (w : AW) : Option (Int32 × AW) :=
  nm (s1 ||| s0) fun v2_1 =>
  nm (v3 + 1) fun v3_2 =>
  k4 v2_1 v3_2 w
noncomputable def mX6_heapsOf_4 (v1 : Int32) : Nat → Int32 → Int32 → AW → Option (Int32 × AW)
  | 0, _, _, _ => none
  | n + 1, v2, v3, w =>
    if (w.1 0 0 2) ≤ v3 then
      some (v2, w)
    else
      rd 8 (w.1 0 47) v1 fun x_1 =>
      if ((x_1 >>> (v3 &&& 31)) &&& 1) ≠ 1 then
        mX6_heapsOf_39 (mX6_heapsOf_4 v1 n) v1 v3 0 v2 w
      else
        rd 8 (w.1 0 48) v3 fun x_2 =>
        mX6_heapsOf_39 (mX6_heapsOf_4 v1 n) v1 v3 (1 <<< (x_2 &&& 31)) v2 w
noncomputable def mX6_heapsOf (v1 : Int32) (w : AW) : Option (Int32 × AW) :=
  mX6_heapsOf_4 v1 FU 0 0 w
set_option maxRecDepth 100000 in
set_option maxHeartbeats 4000000 in
theorem ok_mX6_heapsOf_39 {zv : Int32} {zw : AW} {k4 : Int32 → Int32 → AW → Option (Int32 × AW)} {v1 : Int32} {v3 : Int32} {s0 : Int32} {s1 : Int32} (hk4 : ∀ (v2 : Int32) (v3 : Int32)  w, k4 v2 v3 w = some (zv, zw) → RR true KX6_heapsOf (some (vI zv), zw) 4 [some (vR 0 0), some (vI v1), some (vI v2), some (vI v3)] [] w) {w : AW} (hf : mX6_heapsOf_39 k4 v1 v3 s0 s1 w = some (zv, zw)) : RR true KX6_heapsOf (some (vI zv), zw) 39 [some (vR 0 0), some (vI v1), none, some (vI v3)] [vI s0, vI s1] w := by
  refine r_ior dX6_heapsOf_39 ?_
  refine g_istore_n (fun v2_1 => [some (vR 0 0), some (vI v1), some (vI v2_1), some (vI v3)]) dX6_heapsOf_40 rfl rfl (fun _ => rfl) (Nat.le_of_ble_eq_true rfl) hf (fun v2_1 hf => ?_)
  refine g_iinc (fun v3_2 => [some (vR 0 0), some (vI v1), some (vI v2_1), some (vI v3_2)]) dX6_heapsOf_41 ic_1 rfl rfl (fun _ => rfl) (Nat.le_of_ble_eq_true rfl) hf (fun v3_2 hf => ?_)
  refine r_goto (tgt := 4) dX6_heapsOf_44 rfl ?_
  exact hk4 _ _ _ hf
set_option maxRecDepth 100000 in
set_option maxHeartbeats 4000000 in
theorem ok_mX6_heapsOf_4 {zv : Int32} {zw : AW} {v1 : Int32} : ∀ (n : Nat) (v2 : Int32) (v3 : Int32) (w : AW), mX6_heapsOf_4 v1 n v2 v3 w = some (zv, zw) → RR true KX6_heapsOf (some (vI zv), zw) 4 [some (vR 0 0), some (vI v1), some (vI v2), some (vI v3)] [] w := by
  intro n
  induction n with
  | zero => intro v2 v3 w hf; cases hf
  | succ n ih =>
    intro v2 v3 w hf
    refine r_iload_n dX6_heapsOf_4 rfl rfl ?_
    refine r_aload_n dX6_heapsOf_5 rfl rfl ?_
    refine g_getI dX6_heapsOf_6 fl_RX6_7 fk_6_2 (cl_true_0) ?_
    refine g_icmp_ge (tgt := 47) dX6_heapsOf_9 rfl hf (fun _ hf => ?_) (fun _ hf => ?_)
    · refine r_iload_n dX6_heapsOf_47 rfl rfl ?_
      exact r_iret dX6_heapsOf_48 rfl (ret_I hf)
    · refine r_iload_n dX6_heapsOf_12 rfl rfl ?_
      refine r_aload_n dX6_heapsOf_13 rfl rfl ?_
      refine g_getA dX6_heapsOf_14 fl_RX6_120 fk_6_46 rfl (cl_true_0) ?_
      refine r_iload_n dX6_heapsOf_17 rfl rfl ?_
      refine g_iald dX6_heapsOf_18 aK_true_0_47 aL_true_0_47 hf (fun x_1 hf => ?_)
      refine r_iload_n dX6_heapsOf_19 rfl rfl ?_
      refine r_ishr dX6_heapsOf_20 ?_
      refine r_iconst dX6_heapsOf_21 ic_1 ?_
      refine r_iand dX6_heapsOf_22 ?_
      refine r_iconst dX6_heapsOf_23 ic_1 ?_
      refine g_icmp_ne (tgt := 38) dX6_heapsOf_24 rfl hf (fun _ hf => ?_) (fun _ hf => ?_)
      · refine r_iconst dX6_heapsOf_38 ic_0 ?_
        refine r_mask (bs := [true, true, false, true]) ?_
        exact ok_mX6_heapsOf_39 (fun v2 v3 w hf => ih v2 v3 w hf) hf
      · refine r_iconst dX6_heapsOf_27 ic_1 ?_
        refine r_aload_n dX6_heapsOf_28 rfl rfl ?_
        refine g_getA dX6_heapsOf_29 fl_RX6_123 fk_6_47 rfl (cl_true_0) ?_
        refine r_iload_n dX6_heapsOf_32 rfl rfl ?_
        refine g_iald dX6_heapsOf_33 aK_true_0_48 aL_true_0_48 hf (fun x_2 hf => ?_)
        refine r_ishl dX6_heapsOf_34 ?_
        refine r_goto (tgt := 39) dX6_heapsOf_35 rfl ?_
        refine r_mask (bs := [true, true, false, true]) ?_
        exact ok_mX6_heapsOf_39 (fun v2 v3 w hf => ih v2 v3 w hf) hf
set_option maxRecDepth 100000 in
set_option maxHeartbeats 4000000 in
theorem ok_mX6_heapsOf {zv : Int32} {zw : AW} {v1 : Int32} {w : AW} (hf : mX6_heapsOf v1 w = some (zv, zw)) : RR true KX6_heapsOf (some (vI zv), zw) 0 [some (vR 0 0), some (vI v1), none, none] [] w := by
  refine r_iconst dX6_heapsOf_0 ic_0 ?_
  refine r_istore_n (ls2 := [some (vR 0 0), some (vI v1), some (vI 0), none]) dX6_heapsOf_1 rfl rfl rfl (Nat.le_of_ble_eq_true rfl) ?_
  refine r_iconst dX6_heapsOf_2 ic_0 ?_
  refine r_istore_n (ls2 := [some (vR 0 0), some (vI v1), some (vI 0), some (vI 0)]) dX6_heapsOf_3 rfl rfl rfl (Nat.le_of_ble_eq_true rfl) ?_
  exact ok_mX6_heapsOf_4 FU _ _ _ hf
theorem met_X6_heapsOf {zv : Int32} {zw : AW} {v1 : Int32} {w : AW} (hf : mX6_heapsOf v1 w = some (zv, zw)) : am_Met true KX6_heapsOf [vR 0 0, vI v1] w (some (vI zv), zw) := am_met mok_X6_heapsOf.1 (Nat.le_of_ble_eq_true rfl) (ok_mX6_heapsOf  hf)
