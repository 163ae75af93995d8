/-! sure, the model -/
def KM5 (w w2 : AW) : Prop := w2.2 = w.2 ∧ w2.1 12 1 = w.1 12 1 ∧ w2.1 0 0 2 = w.1 0 0 2 ∧ w2.1 0 0 6 = w.1 0 0 6 ∧ (∀ a, 4 ≤ a → a < 16 → a ≠ 7 → a ≠ 5 → w2.1 0 a = w.1 0 a) ∧ ∀ i, 4 ≤ i → w2.1 0 5 i = w.1 0 5 i
theorem KM.k5 {w w2 : AW} (h : KM w w2) : KM5 w w2 := ⟨h.1, h.2.1, h.2.2.1, h.2.2.2.1, fun a h1 h2 h3 _ => h.2.2.2.2 a h1 h2 h3, fun i _ => by rw [h.2.2.2.2 5 (by decide) (by decide) (by decide)]⟩
theorem KM5.tr {a b c : AW} (h : KM5 a b) (h2 : KM5 b c) : KM5 a c := ⟨h2.1.trans h.1, h2.2.1.trans h.2.1, h2.2.2.1.trans h.2.2.1, h2.2.2.2.1.trans h.2.2.2.1, fun o h1 h3 h4 h5 => (h2.2.2.2.2.1 o h1 h3 h4 h5).trans (h.2.2.2.2.1 o h1 h3 h4 h5), fun i hi => (h2.2.2.2.2.2 i hi).trans (h.2.2.2.2.2 i hi)⟩
theorem KM5.back {w w2 : AW} (h : KM5 w w2) : KM w (am_set (am_set (am_set (am_set w2 0 5 0 (w.1 0 5 0)) 0 5 1 (w.1 0 5 1)) 0 5 2 (w.1 0 5 2)) 0 5 3 (w.1 0 5 3)) := by
  obtain ⟨h1, h2, h3, h4, h5, h6⟩ := h
  refine ⟨h1, ?_, ?_, ?_, fun a z1 z2 z3 => ?_⟩
  · rw [am_get_row (by decide), am_get_row (by decide), am_get_row (by decide), am_get_row (by decide)]; exact h2
  · rw [am_get_row (by decide), am_get_row (by decide), am_get_row (by decide), am_get_row (by decide)]; exact h3
  · rw [am_get_row (by decide), am_get_row (by decide), am_get_row (by decide), am_get_row (by decide)]; exact h4
  · by_cases e : a = 5
    · subst e
      funext i
      by_cases i3 : i = 3
      · subst i3; exact am_get_self _ _ _ _ _
      rw [am_get_other i3]
      by_cases i2 : i = 2
      · subst i2; exact am_get_self _ _ _ _ _
      rw [am_get_other i2]
      by_cases i1 : i = 1
      · subst i1; exact am_get_self _ _ _ _ _
      rw [am_get_other i1]
      by_cases i0 : i = 0
      · subst i0; exact am_get_self _ _ _ _ _
      rw [am_get_other i0]
      exact h6 i (by omega)
    · rw [am_get_row (Or.inr e), am_get_row (Or.inr e), am_get_row (Or.inr e), am_get_row (Or.inr e)]
      exact h5 a z1 z2 z3 e
theorem dlW_K5 {w : AW} {N at_ ch : Nat} : ∀ n, n ≤ 4 → KM5 w (dlW w 0 5 N at_ ch n) := by
  intro n hn
  refine ⟨dlW_2 n, by rw [dlW_row (by decide)], by rw [dlW_row (by decide)], by rw [dlW_row (by decide)], fun a _ _ _ h5 => by rw [dlW_row (Or.inr h5)], fun i hi => ?_⟩
  rw [dlW_in, if_neg (fun h => by omega)]
section SM
variable {N : Nat} {S Fr : Nat → Nat} {d : SD}
def InvS (wM w : AW) (N : Nat) (S Fr : Nat → Nat) (d : SD) : Prop := KM5 wM w ∧ (∃ B, NetOK N S B ∧ NetM w N S B) ∧ WorkM w (sdM d) (sdZ d) (sdc d) (sdl d) (sdr d) (sdb d) (sde d) (sdy d) ∧ ViewM w N Fr
theorem M_sure139 {wM w : AW} {ch : Nat} (hd : SDok d) (hF : ∀ k, k < N → Fr k < 2 ^ N) (hch : ch < 2 ^ 31) (hI : InvS wM w N S Fr d) (k118 : Int32 → Int32 → AW → Option (Int32 × AW)) (v4 v5 v6 v7 v8 : Int32) :
    ∃ w2, mX6_sure_139 k118 (nI (atomsN (sdM d) (sdc d))) v4 v5 v6 v7 v8 (nI ch) FU (nI ch) (nI 0) w = k118 (nI (bN (sureB N Fr d ch))) (nI (ch + 1)) w2 ∧ InvS wM w2 N S Fr d := by
  obtain ⟨hK, ⟨B, hN, hM⟩, hW, hV⟩ := hI
  have h8 := hN.2.1
  have h256 := two_le h8
  have hat := atomsN_lt (sdM d) (sdc d)
  have hfl := full_lt N
  generalize hat0 : atomsN (sdM d) (sdc d) = at_ at hat
  have hM4 : NetM (dlW w 0 5 N at_ ch 4) N S (fun i => if i < 4 ∧ at_.testBit i = true then dlF N at_ ch i else B i) := by
    refine ⟨by rw [dlW_row (by decide)]; exact hM.1, fun k hk => by rw [dlW_row (by decide)]; exact hM.2.1 k hk, fun i hi => ?_⟩
    rw [dlW_in]
    dsimp only
    split
    · rfl
    · exact hM.2.2 i hi
  have hN4 : NetOK N S (fun i => if i < 4 ∧ at_.testBit i = true then dlF N at_ ch i else B i) := by
    refine ⟨hN.1, hN.2.1, hN.2.2.1, hN.2.2.2.1, fun i => ?_⟩
    dsimp only
    split
    · exact dlF_lt _ _ _ _
    · exact hN.2.2.2.2 i
  have hW4 : WorkM (dlW w 0 5 N at_ ch 4) (sdM d) (sdZ d) (sdc d) (sdl d) (sdr d) (sdb d) (sde d) (sdy d) := hW.c (by rw [dlW_row (by decide)]) (by rw [dlW_row (by decide)]) (fun a h1 h2 => by rw [dlW_row (by omega)])
  have hV4 : ViewM (dlW w 0 5 N at_ ch 4) N Fr := fun j hj => by rw [dlW_row (by decide)]; exact hV j hj
  have e1 := M_holding hM4 hN4 hV4 hF hW4 hd.sh hd.1 (by have := hd.2.1; omega)
  have e2 := ev_atoms (N := N) (Fr := Fr) (A := fun i => if i < 4 ∧ at_.testBit i = true then dlF N at_ ch i else B i) (A2 := dlF N at_ ch) hd.sh (fun i hi hb => if_pos ⟨hi, by rw [← hat0]; exact hb⟩) (sdM d) (sdM d - 1) (by have := hd.1; omega) (by have := hd.1; omega)
  rw [e2] at e1
  have hvl : holdV N (dlF N at_ ch) Fr d < 2 ^ N := holdV_lt (fun j => dlF_lt _ _ _ _) hd
  have e1' : mX6_holding (dlW w 0 5 N at_ ch 4) = some (nI (holdV N (dlF N at_ ch) Fr d), hdW (dlW w 0 5 N at_ ch 4) (evV (fun k => opH N (fun i => if i < 4 ∧ at_.testBit i = true then dlF N at_ ch i else B i) Fr (sdc d k)) (sdc d) (sdl d) (sdr d)) (sdM d)) := e1
  generalize hw5 : hdW (dlW w 0 5 N at_ ch 4) (evV (fun k => opH N (fun i => if i < 4 ∧ at_.testBit i = true then dlF N at_ ch i else B i) Fr (sdc d k)) (sdc d) (sdl d) (sdr d)) (sdM d) = w5 at e1'
  have hK5 : KM (dlW w 0 5 N at_ ch 4) w5 := by rw [← hw5]; exact hdW_K _
  have hr5 : ∀ a, a ≠ 38 → w5.1 0 a = (dlW w 0 5 N at_ ch 4).1 0 a := fun a ha => by rw [← hw5]; exact hdW_row _ a ha
  have hM5 := hM4.k hK5
  refine ⟨w5, ?_, ((hK.tr (dlW_K5 4 (Nat.le_refl 4))).tr hK5.k5), ⟨_, hN4, hM5⟩, hW4.c (by rw [hr5 0 (by decide)]) (by rw [hr5 0 (by decide)]) (fun a h1 h2 => hr5 a (by omega)), fun j hj => by rw [hr5 47 (by decide)]; exact hV4 j hj⟩
  have e0 : ch / 2 ^ (N * cntB at_ 0) = ch := by
    show ch / 2 ^ (N * 0) = ch
    rw [Nat.mul_zero]
    exact Nat.div_one ch
  have := loopE (fun n (s : Int32 × Int32 × AW) => mX6_sure_139 k118 (nI at_) v4 v5 v6 v7 v8 (nI ch) n s.1 s.2.1 s.2.2) 4 (fun k => (nI (ch / 2 ^ (N * cntB at_ k)), nI k, dlW w 0 5 N at_ ch k)) (k118 (nI (bN (sureB N Fr d ch))) (nI (ch + 1)) w5) ?_ ?_ FU 0 (Nat.zero_le _) (FU_gt (by omega))
  · dsimp only at this
    rw [e0] at this
    exact this
  · intro n k hk
    have c1 : ¬ nI 4 ≤ nI k := nI_ge hk (by omega)
    have hzk : (dlW w 0 5 N at_ ch k).1 0 0 2 = nI N := by rw [dlW_row (by decide)]; exact hM.1
    have hlt : ch / 2 ^ (N * cntB at_ k) < 2 ^ 31 := Nat.lt_of_le_of_lt (Nat.div_le_self _ _) hch
    cases q : at_.testBit k
    · have e5 : dlW w 0 5 N at_ ch (k + 1) = dlW w 0 5 N at_ ch k := by
        show (if at_.testBit k = true then _ else _) = _
        rw [q]
        rfl
      simp only [mX6_sure_139, mX6_sure_178, c1, shr_f (show k < 32 by omega) (show at_ < 2 ^ 31 by omega) q, e5, cnt_skip q, cl_mk, nm_mk, pu_mk, lit, if_true, if_false, ne_eq, not_false_eq_true, not_true_eq_false, nI_add, nI_or, nI_and, Bool.false_eq_true, ne01, ne10, nI_m1', Nat.or_zero]
    · have e5 : dlW w 0 5 N at_ ch (k + 1) = am_set (dlW w 0 5 N at_ ch k) 0 5 k (nI (dlF N at_ ch k)) := by
        show (if at_.testBit k = true then _ else _) = _
        rw [q]
        rfl
      have hall : mX6_all (dlW w 0 5 N at_ ch k) = some (nI (2 ^ N - 1), dlW w 0 5 N at_ ch k) := by
        simp only [mX6_all, hzk, cl_mk, nm_mk, pu_mk, lit, if_true, if_false, ne_eq, not_false_eq_true, not_true_eq_false, nI_add, nI_or, nI_and, Bool.false_eq_true, ne01, ne10, nI_m1', Nat.or_zero]
        rw [full_nI hN]
      have e7 : nI (ch / 2 ^ (N * cntB at_ k)) &&& nI (2 ^ N - 1) = nI (dlF N at_ ch k) := nI_and _ _
      have e8 := shrN (a := ch / 2 ^ (N * cntB at_ k)) (k := N) (by omega) hlt
      rw [dl_next q] at e8
      have e9 : (am_set (dlW w 0 5 N at_ ch k) 0 5 k (nI (dlF N at_ ch k))).1 0 0 2 = nI N := by rw [am_get_row (by decide), hzk]
      have e10 : nI N &&& nI 31 = nI (N &&& 31) := nI_and _ _
      have e11 : nI k &&& nI 31 = nI (k &&& 31) := nI_and _ _
      simp only [mX6_sure_139, mX6_sure_178, c1, e11, shr_t (show k < 32 by omega) (show at_ < 2 ^ 31 by omega) q, hall, wr_in hk (show 4 < 2 ^ 31 by decide), cl_mk, nm_mk, lit, ne_eq, not_true_eq_false, if_false]
      rw [e7, e9, e10, e8, e5, nI_add]
  · intro n
    have c1 : nI 4 ≤ nI 4 := by decide
    have e9 : sureB N Fr d ch = decide (holdV N (dlF N at_ ch) Fr d = 2 ^ N - 1) := by unfold sureB; rw [hat0]
    by_cases q : holdV N (dlF N at_ ch) Fr d = 2 ^ N - 1
    · rw [e9, decide_eq_true q, bN_t]
      simp only [mX6_sure_139, mX6_sure_200, c1, e1', X_all' hM5 hN4, q, cl_mk, nm_mk, pu_mk, lit, if_true, if_false, ne_eq, not_false_eq_true, not_true_eq_false, nI_add, nI_or, nI_and, Bool.false_eq_true, ne01, ne10, nI_m1', Nat.or_zero]
    · have q2 : (nI (holdV N (dlF N at_ ch) Fr d) = nI (2 ^ N - 1)) = False := eq_false (fun z => q ((nI_eq (by omega) (by omega)).mp z))
      rw [e9, decide_eq_false q, bN_f]
      simp only [mX6_sure_139, mX6_sure_200, c1, e1', X_all' hM5 hN4, q2, cl_mk, nm_mk, pu_mk, lit, if_true, if_false, ne_eq, not_false_eq_true, not_true_eq_false, nI_add, nI_or, nI_and, Bool.false_eq_true, ne01, ne10, nI_m1', Nat.or_zero]
theorem M_sure118 {wM : AW} (hd : SDok d) (hF : ∀ k, k < N → Fr k < 2 ^ N) {R : Nat} (hR : R ≤ 12) (v5 v6 v7 v8 : Int32) : ∀ (e k n : Nat) (w : AW), 2 ^ R = k + e → e < n → InvS wM w N S Fr d →
    ∃ w2, mX6_sure_118 (nI (atomsN (sdM d) (sdc d))) (nI R) v5 v6 v7 v8 n (nI (bN (allT (sureB N Fr d) k))) (nI k) w = mX6_sure_208 v5 v6 v7 v8 (nI (bN (allT (sureB N Fr d) (2 ^ R)))) w2 ∧ InvS wM w2 N S Fr d := by
  have hpw : 2 ^ R ≤ 2 ^ 12 := Nat.pow_le_pow_right (by decide) hR
  have hone : nI 1 <<< nI (R &&& 31) = nI (2 ^ R) := one_shl (by omega)
  intro e
  induction e with
  | zero =>
    intro k n w he hn hI
    obtain ⟨n, rfl⟩ : ∃ m, n = m + 1 := ⟨n - 1, by omega⟩
    have e2 : k = 2 ^ R := by omega
    subst e2
    have c1 : nI (2 ^ R) ≤ nI (2 ^ R) := nI_le (Nat.le_refl _) (by omega)
    refine ⟨w, ?_, hI⟩
    simp only [mX6_sure_118, hone, c1, cl_mk, nm_mk, pu_mk, lit, if_true, if_false, ne_eq, not_false_eq_true, not_true_eq_false, nI_add, nI_or, nI_and, Bool.false_eq_true, ne01, ne10, nI_m1', Nat.or_zero]
  | succ e ih =>
    intro k n w he hn hI
    obtain ⟨n, rfl⟩ : ∃ m, n = m + 1 := ⟨n - 1, by omega⟩
    have c1 : ¬ nI (2 ^ R) ≤ nI k := nI_ge (by omega) (by omega)
    cases q : allT (sureB N Fr d) k
    · have hf : allT (sureB N Fr d) (2 ^ R) = false := by
        cases z : allT (sureB N Fr d) (2 ^ R)
        · rfl
        · rw [allT_iff] at z
          rw [← q]
          exact (allT_iff.mpr (fun j hj => z j (by omega))).symm
      refine ⟨w, ?_, hI⟩
      simp only [mX6_sure_118, hone, c1, hf, bN_f, cl_mk, nm_mk, pu_mk, lit, if_true, if_false, ne_eq, not_false_eq_true, not_true_eq_false, nI_add, nI_or, nI_and, Bool.false_eq_true, ne01, ne10, nI_m1', Nat.or_zero]
    · obtain ⟨w2, g1, g2⟩ := M_sure139 hd hF (ch := k) (by omega) hI (mX6_sure_118 (nI (atomsN (sdM d) (sdc d))) (nI R) v5 v6 v7 v8 n) (nI R) v5 v6 v7 v8
      have hall1 : allT (sureB N Fr d) (k + 1) = sureB N Fr d k := by
        show (allT (sureB N Fr d) k && sureB N Fr d k) = _
        rw [q, Bool.true_and]
      obtain ⟨w3, f1, f2⟩ := ih (k + 1) n w2 (by omega) (by omega) g2
      rw [hall1] at f1
      refine ⟨w3, ?_, f2⟩
      simp only [mX6_sure_118, hone, c1, bN_t, cl_mk, nm_mk, pu_mk, lit, if_true, if_false, ne_eq, not_false_eq_true, not_true_eq_false, nI_add, nI_or, nI_and, Bool.false_eq_true, ne01, ne10, nI_m1', Nat.or_zero]
      rw [g1]
      exact f1
end SM
theorem M_sure37 {w : AW} {N at_ : Nat} {sort : Int32} (hz : w.1 0 0 2 = nI N) (hat : at_ < 2 ^ 4) (X : Option (Int32 × AW)) (hx : ∀ n, mX6_sure_37 sort (nI at_) (n + 1) (nI (N * cntB at_ 4)) (nI 4) w = X) : mX6_sure_37 sort (nI at_) FU (nI 0) (nI 0) w = X := by
  have z0 : nI (N * cntB at_ 0) = nI 0 := congrArg nI (Nat.mul_zero N)
  have g := loopE (fun n (s : Int32 × Int32) => mX6_sure_37 sort (nI at_) n s.1 s.2 w) 4 (fun k => (nI (N * cntB at_ k), nI k)) X (fun n k hk => by
    have c1 : ¬ nI 4 ≤ nI k := nI_ge hk (by omega)
    have e4 : N * cntB at_ k + bN (at_.testBit k) * N = N * cntB at_ (k + 1) := by
      show _ = N * (cntB at_ k + bN (at_.testBit k))
      rw [Nat.mul_add, Nat.mul_comm N (bN _)]
    simp only [mX6_sure_37, c1, shr_B (show k < 32 by omega) (show at_ < 2 ^ 31 by omega), hz, pk_mul, e4, cl_mk, nm_mk, pu_mk, lit, if_true, if_false, ne_eq, not_false_eq_true, not_true_eq_false, nI_add, nI_or, nI_and, Bool.false_eq_true, ne01, ne10, nI_m1', Nat.or_zero]) hx FU 0 (Nat.zero_le _) (FU_gt (by omega))
  dsimp only at g
  rw [z0] at g
  exact g
theorem pub_sure : Pub_sure Rel := by
  rintro wX wM ⟨N, S, A, T, y, D, h⟩ v0 v1
  have hR := h
  obtain ⟨hN, hX, hM, hT, h2, hS, h12⟩ := h
  have hM0 : NetM (am_set wM 0 0 0 (nI 0)) N S A := hM.k (KM0 wM)
  have h8 := hN.2.1
  by_cases c0 : ∃ k, k < 6 ∧ v0 = nI k
  rotate_left
  · refine pub_same hR (-nI 1) ?_ ?_ (KX.rf _) (KM0 wM)
    · simp only [mX5_sure, X_sen_f _ c0, nS_none, cl_mk, nm_mk, pu_mk, lit, if_true, if_false, ne_eq, not_false_eq_true, not_true_eq_false, nI_add, nI_or, nI_and, Bool.false_eq_true, ne01, ne10, nI_m1', Nat.or_zero]
    · simp only [mX6_sure, M_sen_f _ c0, cl_mk, nm_mk, pu_mk, lit, if_true, if_false, ne_eq, not_false_eq_true, not_true_eq_false, nI_add, nI_or, nI_and, Bool.false_eq_true, ne01, ne10, nI_m1', Nat.or_zero]
  obtain ⟨i, hi, rfl⟩ := c0
  have hcl := cls_sen i hi
  by_cases c1 : ∃ k, k < 4 ∧ v1 = nI k
  rotate_left
  · refine pub_same hR (-nI 1) ?_ ?_ (KX.rf _) (KM0 wM)
    · simp only [mX5_sure, X_sen_t _ hi, nS_some hcl, X_sort_f _ c1, cl_mk, nm_mk, pu_mk, lit, if_true, if_false, ne_eq, not_false_eq_true, not_true_eq_false, nI_add, nI_or, nI_and, Bool.false_eq_true, ne01, ne10, nI_m1', Nat.or_zero]
    · simp only [mX6_sure, M_sen_t _ hi, M_sort_f _ c1, cl_mk, nm_mk, pu_mk, lit, if_true, if_false, ne_eq, not_false_eq_true, not_true_eq_false, nI_add, nI_or, nI_and, Bool.false_eq_true, ne01, ne10, nI_m1', Nat.or_zero]
  obtain ⟨s, hs, rfl⟩ := c1
  obtain ⟨hd, hSX, hSM⟩ := hS i hi
  generalize D i = d at hd hSX hSM
  have hP := hd.P40
  have hM40 := hd.2.1
  have hL := len_sen (i := i) hi hP
  have e1 := M_works (hSM.k (KM0 wM)) hi hd.2.1 hd.2.2.2.2.1
  have k1 := wkW_K (w := am_set wM 0 0 0 (nI 0)) (m := sdM d) (z := sdZ d) (c := sdc d) (l := sdl d) (r := sdr d) (b := sdb d) (e := sde d) (y := sdy d)
  have hW := wkW_W (w := am_set wM 0 0 0 (nI 0)) (m := sdM d) (z := sdZ d) (c := sdc d) (l := sdl d) (r := sdr d) (b := sdb d) (e := sde d) (y := sdy d)
  generalize wkW (am_set wM 0 0 0 (nI 0)) (sdM d) (sdZ d) (sdc d) (sdl d) (sdr d) (sdb d) (sde d) (sdy d) = w1 at e1 k1 hW
  have e2 := M_atomsOf hW hd.sh (by omega)
  have f2 := X_atoms hSX hL hd.sh hd.cl (by omega)
  have hat := atomsN_lt (sdM d) (sdc d)
  have f3 := bc_eq (a := atomsN (sdM d) (sdc d)) wX (by omega)
  rw [cnt_high (n := 8) hat (by decide)] at f3
  have hM1 := hM0.k k1
  have hB := cntB_le (atomsN (sdM d) (sdc d)) 4
  have hNB : N * cntB (atomsN (sdM d) (sdc d)) 4 ≤ 32 := Nat.le_trans (Nat.mul_le_mul h8 hB) (by decide)
  have c4 : nI 4 ≤ nI 4 := by decide
  have n10 : (nI 1 : Int32) ≠ 0 := by decide
  have eX : mX5_sure (nI i) (nI s) wX = (if nI (N * cntB (atomsN (sdM d) (sdc d)) 4) ≤ 12 then cl (mX4_look (nI s) wX) fun _ w_13 => mX5_sure_61 (6 + i) (nI (N * cntB (atomsN (sdM d) (sdc d)) 4)) FU 0 w_13 else some ((-2), wX)) := by
    unfold mX5_sure
    rw [X_sen_t _ hi, cl_mk, nS_some hcl, X_sort_t _ hs, cl_mk, if_pos n10, X_size hX, cl_mk, f2, cl_mk, f3, cl_mk, nm_mk, pk_mul]
  by_cases q : N * cntB (atomsN (sdM d) (sdc d)) 4 ≤ 12
  rotate_left
  · have q2 : ¬ nI (N * cntB (atomsN (sdM d) (sdc d)) 4) ≤ nI 12 := nI_ge (by omega) (by omega)
    refine pub_same hR (-nI 2) ?_ ?_ (KX.rf _) ((KM0 wM).tr k1)
    · exact eX.trans (if_neg q2)
    · simp only [mX6_sure, M_sen_t _ hi, M_sort_t _ hs, e1, e2, cl_mk, nm_mk, pu_mk, lit, if_true, if_false, ne_eq, not_false_eq_true, not_true_eq_false, nI_add, nI_or, nI_and, Bool.false_eq_true, ne01, ne10, nI_m1', Nat.or_zero]
      refine M_sure37 hM1.1 hat _ (fun n => ?_)
      simp only [mX6_sure_37, c4, q2, cl_mk, nm_mk, pu_mk, lit, if_true, if_false, ne_eq, not_false_eq_true, not_true_eq_false, nI_add, nI_or, nI_and, Bool.false_eq_true, ne01, ne10, nI_m1', Nat.or_zero]
  have q2 : nI (N * cntB (atomsN (sdM d) (sdc d)) 4) ≤ nI 12 := nI_le q (by omega)
  have hpw : 2 ^ (N * cntB (atomsN (sdM d) (sdc d)) 4) < 5000 := by
    have := Nat.pow_le_pow_right (n := 2) (by decide) q
    omega
  have hF : ∀ k, k < N → seenS N S s k < 2 ^ N := fun k hk => seenS_lt hN hk
  have k2 := lookX_K wX N S s N
  obtain ⟨wX3, g1, g2⟩ := X_sure61 (A := A) hN hi hd hF q (2 ^ (N * cntB (atomsN (sdM d) (sdc d)) 4)) 0 FU (lookX wX N S s N) (by omega) (FU_gt hpw) (hX.k k2) (lookX_V wX N S s) (hSX.k hi k2) rfl
  have e5 := M_looks hM1 hN hs
  have k3 := lookM_K w1 N S s N
  have hM3 := hM1.k k3
  have hW3 : WorkM (lookM w1 N S s N) (sdM d) (sdZ d) (sdc d) (sdl d) (sdr d) (sdb d) (sde d) (sdy d) := hW.c (by unfold lookM; rw [setRow_row (by decide)]) (by unfold lookM; rw [setRow_row (by decide)]) (fun a h1 h2 => by unfold lookM; rw [setRow_row (by omega)])
  obtain ⟨wM4, g3, g4⟩ := M_sure118 (wM := lookM w1 N S s N) hd hF q (nI (A 0)) (nI (A 1)) (nI (A 2)) (nI (A 3)) (2 ^ (N * cntB (atomsN (sdM d) (sdc d)) 4)) 0 FU (lookM w1 N S s N) (by omega) (FU_gt hpw) ⟨(KM.rf _).k5, ⟨A, hN, hM3⟩, hW3, lookM_V w1 N S s⟩
  have kb := g4.1.back
  rw [hM3.2.2 0 (by decide), hM3.2.2 1 (by decide), hM3.2.2 2 (by decide), hM3.2.2 3 (by decide)] at kb
  refine pub_same hR (nI (bN (allT (sureB N (seenS N S s) d) (2 ^ (N * cntB (atomsN (sdM d) (sdc d)) 4))))) ?_ ?_ (k2.tr g2) ((KM0 wM).tr ((k1.tr k3).tr kb))
  · rw [eX, if_pos (show nI (N * cntB (atomsN (sdM d) (sdc d)) 4) ≤ 12 from q2), X_look hX hN hs, cl_mk]
    exact g1
  · simp only [mX6_sure, M_sen_t _ hi, M_sort_t _ hs, e1, e2, cl_mk, nm_mk, pu_mk, lit, if_true, if_false, ne_eq, not_false_eq_true, not_true_eq_false, nI_add, nI_or, nI_and, Bool.false_eq_true, ne01, ne10, nI_m1', Nat.or_zero]
    refine M_sure37 hM1.1 hat _ (fun n => ?_)
    simp only [mX6_sure_37, c4, q2, e5, M_atom hM3 (show 0 < 4 by decide), M_atom hM3 (show 1 < 4 by decide), M_atom hM3 (show 2 < 4 by decide), M_atom hM3 (show 3 < 4 by decide), cl_mk, nm_mk, pu_mk, lit, if_true, if_false, ne_eq, not_false_eq_true, not_true_eq_false, nI_add, nI_or, nI_and, Bool.false_eq_true, ne01, ne10, nI_m1', Nat.or_zero]
    refine g3.trans ?_
    cases allT (sureB N (seenS N S s) d) (2 ^ (N * cntB (atomsN (sdM d) (sdc d)) 4))
    · simp only [mX6_sure_208, wr_in (show 0 < 4 by decide) (show 4 < 2 ^ 31 by decide), wr_in (show 1 < 4 by decide) (show 4 < 2 ^ 31 by decide), wr_in (show 2 < 4 by decide) (show 4 < 2 ^ 31 by decide), wr_in (show 3 < 4 by decide) (show 4 < 2 ^ 31 by decide), bN_f, cl_mk, nm_mk, pu_mk, lit, if_true, if_false, ne_eq, not_false_eq_true, not_true_eq_false, nI_add, nI_or, nI_and, Bool.false_eq_true, ne01, ne10, nI_m1', Nat.or_zero]
    · simp only [mX6_sure_208, wr_in (show 0 < 4 by decide) (show 4 < 2 ^ 31 by decide), wr_in (show 1 < 4 by decide) (show 4 < 2 ^ 31 by decide), wr_in (show 2 < 4 by decide) (show 4 < 2 ^ 31 by decide), wr_in (show 3 < 4 by decide) (show 4 < 2 ^ 31 by decide), bN_t, cl_mk, nm_mk, pu_mk, lit, if_true, if_false, ne_eq, not_false_eq_true, not_true_eq_false, nI_add, nI_or, nI_and, Bool.false_eq_true, ne01, ne10, nI_m1', Nat.or_zero]
