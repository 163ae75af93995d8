/-! holds, known, steps -/
theorem cls_sen : ∀ i, i < 6 → am_cls false (6 + i) = 2 := by decide
theorem X_sen_t {i : Nat} (w : AW) (hi : i < 6) : mX5_sentence (nI i) w = some (some (6 + i, 0), w) := by
  have c1 : ¬ nI i < nI 0 := nI_nlt (Nat.zero_le i) (by omega)
  have c2 : ¬ nI 6 ≤ nI i := nI_ge hi (by decide)
  simp only [mX5_sentence, c1, c2, rdq_in hi (show 6 < 2 ^ 31 by decide), cl_mk, nm_mk, pu_mk, lit, if_true, if_false, ne_eq, not_false_eq_true, not_true_eq_false, nI_add, nI_or, nI_and, Bool.false_eq_true, ne01, ne10, nI_m1', Nat.or_zero]
theorem X_sen_f {v : Int32} (w : AW) (hv : ¬ ∃ k, k < 6 ∧ v = nI k) : mX5_sentence v w = some (none, w) := by
  rcases pk_ix v (n := 6) (by decide) with q | q | ⟨k, hk, rfl⟩
  · have c1 : v < nI 0 := q
    simp only [mX5_sentence, c1, cl_mk, nm_mk, pu_mk, lit, if_true, if_false, ne_eq, not_false_eq_true, not_true_eq_false, nI_add, nI_or, nI_and, Bool.false_eq_true, ne01, ne10, nI_m1', Nat.or_zero]
  · by_cases c1 : v < nI 0
    · simp only [mX5_sentence, c1, cl_mk, nm_mk, pu_mk, lit, if_true, if_false, ne_eq, not_false_eq_true, not_true_eq_false, nI_add, nI_or, nI_and, Bool.false_eq_true, ne01, ne10, nI_m1', Nat.or_zero]
    · simp only [mX5_sentence, c1, q, cl_mk, nm_mk, pu_mk, lit, if_true, if_false, ne_eq, not_false_eq_true, not_true_eq_false, nI_add, nI_or, nI_and, Bool.false_eq_true, ne01, ne10, nI_m1', Nat.or_zero]
  · exact absurd ⟨k, hk, rfl⟩ hv
theorem M_sen_t {i : Nat} (w : AW) (hi : i < 6) : mX6_isSentence (nI i) w = some (nI 1, w) := by
  have e := M_in_t w (show i < 5 + 1 from hi) (by decide)
  simp only [Nat.add_sub_cancel] at e
  simp only [mX6_isSentence, e, zr_1, cl_mk, nm_mk, pu_mk, lit, if_true, if_false, ne_eq, not_false_eq_true, not_true_eq_false, nI_add, nI_or, nI_and, Bool.false_eq_true, ne01, ne10, nI_m1', Nat.or_zero]
theorem M_sen_f {v : Int32} (w : AW) (hv : ¬ ∃ k, k < 6 ∧ v = nI k) : mX6_isSentence v w = some (nI 0, w) := by
  have e := M_in_f (n := 5 + 1) w hv (by decide) (by decide)
  simp only [Nat.add_sub_cancel] at e
  simp only [mX6_isSentence, e, zr_0, cl_mk, nm_mk, pu_mk, lit, if_true, if_false, ne_eq, not_false_eq_true, not_true_eq_false, nI_add, nI_or, nI_and, Bool.false_eq_true, ne01, ne10, nI_m1', Nat.or_zero]
def holdV (N : Nat) (A Fr : Nat → Nat) (d : SD) : Nat := evV (fun k => opH N A Fr (sdc d k)) (sdc d) (sdl d) (sdr d) (sdM d - 1)
section WH
variable {wX wM : AW} {N : Nat} {S A : Nat → Nat} {i : Nat} {d : SD}
theorem SDok.sh (h : SDok d) : ShapeOK (sdM d) (sdc d) (sdl d) (sdr d) := h.2.2.2.2.2.1.shape
theorem SDok.cl (h : SDok d) : ClassOK (sdM d) (sdP d) (sdc d) (sdl d) (sdr d) (sdf d) := h.2.2.2.2.2.2.1.cls
theorem holdV_lt {Fr : Nat → Nat} (hA : ∀ i, A i < 2 ^ N) (h : SDok d) : holdV N A Fr d < 2 ^ N := evV_lt h.sh (Nat.two_pow_pos N) (fun k _ a b ha hb => opH_lt hA ha hb) (sdM d) _ (by have := h.1; omega) (by have := h.1; omega)
theorem opJ_f (N : Nat) (A Fr : Nat → Nat) (c : Nat → Nat) : (fun k => opJ false N A Fr (c k)) = fun k => opH N A Fr (c k) := by
  funext k a b
  exact if_neg (fun h => by cases h.1)
theorem X_where (hX : NetX wX N S A) (hN : NetOK N S A) (hi : i < 6) (hd : SDok d) (hS : SenX wX (6 + i) (sdM d) (sdP d) (sdc d) (sdl d) (sdr d) (sdf d) (sdp d) (sdd d)) {s : Nat} (hs : s < 4) : ∃ wX2, mX5_whereHolds (6 + i) (nI s) wX = some (nI (holdV N A (seenS N S s) d), wX2) ∧ KX wX wX2 := by
  have hF : ∀ k, k < N → seenS N S s k < 2 ^ N := fun k hk => seenS_lt hN hk
  have k1 := lookX_K wX N S s N
  have hX1 := hX.k k1
  have hat : mX0_atoms (lookX wX N S s N) = some ((), lookX wX N S s N) := rfl
  obtain ⟨w2, f1, f2, f3⟩ := X_judge false (w := lookX wX N S s N) (o := 6 + i) (ro := 1) (ra := 2) (lookX_V wX N S s) hN.2.1 hF (fun i hi _ _ _ => hX1.2.2 i hi) hN.2.2.2.2 (by decide) (by decide) (hS.k hi k1) (len_sen hi (by have := hd.2.1; have := hd.2.2.2.1; omega)) hd.sh hd.cl (by have := hd.2.1; have := hd.2.2.2.1; omega) hd.1 hd.2.2.2.2.2.2.2.1 (by omega)
  rw [opJ_f] at f1
  refine ⟨w2, ?_, k1.tr f2⟩
  have f1' : mX4_judge (6 + i) 1 2 (nI 0) (lookX wX N S s N) = some (nI (holdV N A (seenS N S s) d), w2) := f1
  simp only [mX5_whereHolds, X_look hX hN hs, hat, f1', cl_mk, nm_mk, pu_mk, lit, if_true, if_false, ne_eq, not_false_eq_true, not_true_eq_false, nI_add, nI_or, nI_and, Bool.false_eq_true, ne01, ne10, nI_m1', Nat.or_zero]
theorem M_where (hM : NetM wM N S A) (hN : NetOK N S A) (hi : i < 6) (hd : SDok d) (hS : SenM wM i (sdM d) (sdZ d) (sdc d) (sdl d) (sdr d) (sdb d) (sde d) (sdy d)) {s : Nat} (hs : s < 4) : ∃ w1 w2 w3, mX6_works (nI i) wM = some ((), w1) ∧ mX6_looks (nI s) w1 = some ((), w2) ∧ mX6_holding w2 = some (nI (holdV N A (seenS N S s) d), w3) ∧ KM wM w3 := by
  have hF : ∀ k, k < N → seenS N S s k < 2 ^ N := fun k hk => seenS_lt hN hk
  have e1 := M_works hS hi hd.2.1 hd.2.2.2.2.1
  have k1 := wkW_K (w := wM) (m := sdM d) (z := sdZ d) (c := sdc d) (l := sdl d) (r := sdr d) (b := sdb d) (e := sde d) (y := sdy d)
  have hW := wkW_W (w := wM) (m := sdM d) (z := sdZ d) (c := sdc d) (l := sdl d) (r := sdr d) (b := sdb d) (e := sde d) (y := sdy d)
  generalize wkW wM (sdM d) (sdZ d) (sdc d) (sdl d) (sdr d) (sdb d) (sde d) (sdy d) = w1 at e1 k1 hW
  have e2 := M_looks (hM.k k1) hN hs
  have k2 := lookM_K w1 N S s N
  have hW2 : WorkM (lookM w1 N S s N) (sdM d) (sdZ d) (sdc d) (sdl d) (sdr d) (sdb d) (sde d) (sdy d) := hW.c (by unfold lookM; rw [setRow_row (by decide)]) (by unfold lookM; rw [setRow_row (by decide)]) (fun a h1 h2 => by unfold lookM; rw [setRow_row (by omega)])
  have e3 := M_holding (Fr := seenS N S s) (hM.k (k1.tr k2)) hN (lookM_V w1 N S s) hF hW2 hd.sh hd.1 (by have := hd.2.1; omega)
  exact ⟨w1, _, _, e1, e2, e3, (k1.tr k2).tr (hdW_K _)⟩
end WH
theorem pub_holds : Pub_holds Rel := by
  rintro wX wM ⟨N, S, A, T, y, D, h⟩ v0 v1
  have hR := h
  obtain ⟨hN, hX, hM, hT, h2, hS, h12⟩ := h
  have hM0 : NetM (am_set wM 0 0 0 (nI 0)) N S A := hM.k (KM0 wM)
  by_cases c0 : ∃ k, k < 6 ∧ v0 = nI k
  rotate_left
  · refine pub_same hR (-nI 1) ?_ ?_ (KX.rf _) (KM0 wM)
    · simp only [mX5_holds, X_sen_f _ c0, nS_none, cl_mk, nm_mk, pu_mk, lit, if_true, if_false, ne_eq, not_false_eq_true, not_true_eq_false, nI_add, nI_or, nI_and, Bool.false_eq_true, ne01, ne10, nI_m1', Nat.or_zero]
    · simp only [mX6_holds, M_sen_f _ c0, cl_mk, nm_mk, pu_mk, lit, if_true, if_false, ne_eq, not_false_eq_true, not_true_eq_false, nI_add, nI_or, nI_and, Bool.false_eq_true, ne01, ne10, nI_m1', Nat.or_zero]
  obtain ⟨i, hi, rfl⟩ := c0
  have hcl := cls_sen i hi
  by_cases c1 : ∃ k, k < 4 ∧ v1 = nI k
  rotate_left
  · refine pub_same hR (-nI 1) ?_ ?_ (KX.rf _) (KM0 wM)
    · simp only [mX5_holds, X_sen_t _ hi, nS_some hcl, X_sort_f _ c1, cl_mk, nm_mk, pu_mk, lit, if_true, if_false, ne_eq, not_false_eq_true, not_true_eq_false, nI_add, nI_or, nI_and, Bool.false_eq_true, ne01, ne10, nI_m1', Nat.or_zero]
    · simp only [mX6_holds, M_sen_t _ hi, M_sort_f _ c1, cl_mk, nm_mk, pu_mk, lit, if_true, if_false, ne_eq, not_false_eq_true, not_true_eq_false, nI_add, nI_or, nI_and, Bool.false_eq_true, ne01, ne10, nI_m1', Nat.or_zero]
  obtain ⟨s, hs, rfl⟩ := c1
  obtain ⟨wX2, f1, f2⟩ := X_where hX hN hi (hS i hi).1 (hS i hi).2.1 hs
  obtain ⟨w1, w2, w3, g1, g2, g3, g4⟩ := M_where hM0 hN hi (hS i hi).1 ((hS i hi).2.2.k (KM0 wM)) hs
  refine pub_same hR (nI (holdV N A (seenS N S s) (D i))) ?_ ?_ f2 ((KM0 wM).tr g4)
  · simp only [mX5_holds, X_sen_t _ hi, nS_some hcl, X_sort_t _ hs, f1, cl_mk, nm_mk, pu_mk, lit, if_true, if_false, ne_eq, not_false_eq_true, not_true_eq_false, nI_add, nI_or, nI_and, Bool.false_eq_true, ne01, ne10, nI_m1', Nat.or_zero]
  · simp only [mX6_holds, M_sen_t _ hi, M_sort_t _ hs, g1, g2, g3, cl_mk, nm_mk, pu_mk, lit, if_true, if_false, ne_eq, not_false_eq_true, not_true_eq_false, nI_add, nI_or, nI_and, Bool.false_eq_true, ne01, ne10, nI_m1', Nat.or_zero]
section KN
variable {w : AW} {N : Nat} {S A : Nat → Nat}
theorem far_union (hN : NetOK N S A) {m : Nat} (hm : m < 2 ^ N) : farI N S m N = orF (fun k => if m.testBit k then farI N S (2 ^ k) N else 0) N := by
  have hS := hN.2.2.1
  have tb : ∀ j, (orF (fun k => if m.testBit k then farI N S (2 ^ k) N else 0) N).testBit j = true ↔ ∃ k, k < N ∧ m.testBit k = true ∧ (farI N S (2 ^ k) N).testBit j = true := by
    intro j
    rw [tb_orF]
    constructor
    · rintro ⟨k, h1, h2⟩
      split at h2
      · rename_i h
        exact ⟨k, h1, h, h2⟩
      · rw [Nat.zero_testBit] at h2; cases h2
    · rintro ⟨k, h1, h2, h3⟩
      exact ⟨k, h1, by rw [if_pos h2]; exact h3⟩
  refine (far_least hS hm).uniq ⟨fun k hk => ?_, fun k hk hb j hj => ?_, fun d hmd hd j hj => ?_⟩
  · have hkN : k < N := by
      rcases Nat.lt_or_ge k N with q | q
      · exact q
      · rw [bits_of_lt hm q] at hk; cases hk
    exact (tb k).mpr ⟨k, hkN, hk, far_self⟩
  · obtain ⟨i, h1, h2, h3⟩ := (tb k).mp hb
    exact (tb j).mpr ⟨i, h1, h2, (far_least hS (pow_lt_of h1)).2.1 k hk h3 j hj⟩
  · obtain ⟨i, h1, h2, h3⟩ := (tb j).mp hj
    exact (far_least hS (pow_lt_of h1)).2.2 d (pow_sub (hmd i h2)) hd j h3
def knF (N : Nat) (S : Nat → Nat) (v k : Nat) : Nat := if sdiff (farI N S (S k) N) v = 0 then 2 ^ k else 0
theorem X_allLead (h : NetX w N S A) (hN : NetOK N S A) (v : Nat) : mX0_allLeadInto (nI v) w = some (nI (orF (knF N S v) N), w) := by
  have h8 := hN.2.1
  unfold mX0_allLeadInto
  refine loopE (fun n (s : Int32 × Int32) => mX0_allLeadInto_4 (nI v) n s.1 s.2 w) N (fun k => (nI (orF (knF N S v) k), nI k)) _ ?_ ?_ FU 0 (Nat.zero_le _) (FU_gt (by omega))
  · intro n k hk
    have c1 : ¬ nI N ≤ nI k := nI_ge hk (by omega)
    have e0 := X_farFrom h hN (hN.2.2.1 k)
    have e1 := within_B (b := v) w (farI_lt (m := S k) (n := N) hN.2.2.1 (hN.2.2.1 k)) (by omega)
    by_cases q : sdiff (farI N S (S k) N) v = 0
    · simp only [mX0_allLeadInto_4, mX0_allLeadInto_37, h.1, c1, sees_at h (show k < 8 by omega), e0, e1, q, decide_true, bN_t, one_shl (show k < 31 by omega), orF, knF, cl_mk, nm_mk, pu_mk, lit, if_true, if_false, ne_eq, not_false_eq_true, not_true_eq_false, nI_add, nI_or, nI_and, Bool.false_eq_true, ne01, ne10, nI_m1', Nat.or_zero]
    · simp only [mX0_allLeadInto_4, mX0_allLeadInto_37, h.1, c1, sees_at h (show k < 8 by omega), e0, e1, q, decide_false, bN_f, orF, knF, cl_mk, nm_mk, pu_mk, lit, if_true, if_false, ne_eq, not_false_eq_true, not_true_eq_false, nI_add, nI_or, nI_and, Bool.false_eq_true, ne01, ne10, nI_m1', Nat.or_zero]
  · intro n
    have c1 : nI N ≤ nI N := nI_le (Nat.le_refl N) (by omega)
    simp only [mX0_allLeadInto_4, h.1, c1, cl_mk, nm_mk, pu_mk, lit, if_true, if_false, ne_eq, not_false_eq_true, not_true_eq_false, nI_add, nI_or, nI_and, Bool.false_eq_true, ne01, ne10, nI_m1', Nat.or_zero]
theorem M_known25 (h : NetM w N S A) (hN : NetOK N S A) (v : Nat) : mX6_known_25 (nI v) FU (nI 0) (nI 0) w = some (nI (orF (knF N S v) N), w) := by
  have h8 := hN.2.1
  have h256 := two_le h8
  refine loopE (fun n (s : Int32 × Int32) => mX6_known_25 (nI v) n s.1 s.2 w) N (fun k => (nI (orF (knF N S v) k), nI k)) _ ?_ ?_ FU 0 (Nat.zero_le _) (FU_gt (by omega))
  · intro n k hk
    have c1 : ¬ nI N ≤ nI k := nI_ge hk (by omega)
    have hSk := hN.2.2.1 k
    have inner : mX6_known_40 (mX6_known_25 (nI v) n) (nI v) (nI (orF (knF N S v) k)) (nI k) FU (nI 0) (nI 0) w = mX6_known_25 (nI v) n (nI (orF (knF N S v) (k + 1))) (nI (k + 1)) w := by
      refine loopE (fun n2 (s : Int32 × Int32) => mX6_known_40 (mX6_known_25 (nI v) n) (nI v) (nI (orF (knF N S v) k)) (nI k) n2 s.1 s.2 w) N (fun j => (nI (orF (fun i => if (S k).testBit i then farI N S (2 ^ i) N else 0) j), nI j)) _ ?_ ?_ FU 0 (Nat.zero_le _) (FU_gt (by omega))
      · intro n2 j hj
        have d1 : ¬ nI N ≤ nI j := nI_ge hj (by omega)
        cases q : (S k).testBit j
        · simp only [mX6_known_40, mX6_known_77, h.1, d1, M_row h (show k < 8 by omega), shr_f (show j < 32 by omega) (show S k < 2 ^ 31 by omega) q, orF, q, cl_mk, nm_mk, pu_mk, lit, if_true, if_false, ne_eq, not_false_eq_true, not_true_eq_false, nI_add, nI_or, nI_and, Bool.false_eq_true, ne01, ne10, nI_m1', Nat.or_zero]
        · simp only [mX6_known_40, mX6_known_77, h.1, d1, M_row h (show k < 8 by omega), shr_t (show j < 32 by omega) (show S k < 2 ^ 31 by omega) q, M_far h hN hj, orF, q, cl_mk, nm_mk, pu_mk, lit, if_true, if_false, ne_eq, not_false_eq_true, not_true_eq_false, nI_add, nI_or, nI_and, Bool.false_eq_true, ne01, ne10, nI_m1', Nat.or_zero]
      · intro n2
        have d1 : nI N ≤ nI N := nI_le (Nat.le_refl N) (by omega)
        have hu := far_union hN hSk
        have hlt : sdiff (farI N S (S k) N) v < 2 ^ N := sdiff_lt (farI_lt hN.2.2.1 hSk)
        by_cases q : sdiff (farI N S (S k) N) v = 0
        · simp only [mX6_known_40, mX6_known_104, h.1, d1, ← hu, nI_sdiff, q, one_shl (show k < 31 by omega), orF, knF, cl_mk, nm_mk, pu_mk, lit, if_true, if_false, ne_eq, not_false_eq_true, not_true_eq_false, nI_add, nI_or, nI_and, Bool.false_eq_true, ne01, ne10, nI_m1', Nat.or_zero]
        · have q2 : (nI (sdiff (farI N S (S k) N) v) = nI 0) = False := eq_false (fun z => q ((nI_eq (by omega) (by decide)).mp z))
          simp only [mX6_known_40, mX6_known_104, h.1, d1, ← hu, nI_sdiff, q, q2, orF, knF, cl_mk, nm_mk, pu_mk, lit, if_true, if_false, ne_eq, not_false_eq_true, not_true_eq_false, nI_add, nI_or, nI_and, Bool.false_eq_true, ne01, ne10, nI_m1', Nat.or_zero]
    simp only [mX6_known_25, h.1, c1, cl_mk, nm_mk, pu_mk, lit, if_true, if_false, ne_eq, not_false_eq_true, not_true_eq_false, nI_add, nI_or, nI_and, Bool.false_eq_true, ne01, ne10, nI_m1', Nat.or_zero]
    exact inner
  · intro n
    have c1 : nI N ≤ nI N := nI_le (Nat.le_refl N) (by omega)
    simp only [mX6_known_25, h.1, c1, cl_mk, nm_mk, pu_mk, lit, if_true, if_false, ne_eq, not_false_eq_true, not_true_eq_false, nI_add, nI_or, nI_and, Bool.false_eq_true, ne01, ne10, nI_m1', Nat.or_zero]
theorem M_held {i : Nat} {d : SD} (hM : NetM w N S A) (hN : NetOK N S A) (hi : i < 6) (hd : SDok d) (hS : SenM w i (sdM d) (sdZ d) (sdc d) (sdl d) (sdr d) (sdb d) (sde d) (sdy d)) : ∃ w3, mX6_held (nI i) w = some (nI (holdV N A (seenS N S 0) d), w3) ∧ KM w w3 := by
  obtain ⟨w1, w2, w3, g1, g2, g3, g4⟩ := M_where hM hN hi hd hS (s := 0) (by decide)
  refine ⟨w3, ?_, g4⟩
  simp only [mX6_held, g1, g2, g3, cl_mk, nm_mk, pu_mk, lit, if_true, if_false, ne_eq, not_false_eq_true, not_true_eq_false, nI_add, nI_or, nI_and, Bool.false_eq_true, ne01, ne10, nI_m1', Nat.or_zero]
/-- by how few steps what is not in v is come to: class and model alike -/
theorem G_end (hN : NetOK N S A) {k t : Nat} (hk : k < N) (ht : N ≤ t + 1) : farI N S (2 ^ k) t = farI N S (2 ^ k) (N - 1) := by
  have e : (fun c => c ||| stepF N S c) (itF (fun c => c ||| stepF N S c) (N - 1) (2 ^ k)) = itF (fun c => c ||| stepF N S c) (N - 1) (2 ^ k) := itF_end (b := N) (pow_lt_of hk) (fun c hc => or_lt hc (stepF_lt hN.2.2.1)) (fun c => sub_or_left _ _) (by
    have := cntB_pos (a := 2 ^ k) hk (by rw [tb_pow, decide_eq_true_eq])
    omega)
  exact itF_stays e (by omega)
def StIs (N : Nat) (S : Nat → Nat) (v k : Nat) (x : Int32) : Prop := (∃ t, t < N ∧ sdiff (farI N S (2 ^ k) t) v ≠ 0 ∧ (∀ s, s < t → sdiff (farI N S (2 ^ k) s) v = 0) ∧ x = nI t) ∨ ((∀ s, s < N → sdiff (farI N S (2 ^ k) s) v = 0) ∧ x = -nI 9)
theorem StIs_ex (N : Nat) (S : Nat → Nat) (v k : Nat) : ∃ x, StIs N S v k x := by
  by_cases h : ∃ t, t < N ∧ sdiff (farI N S (2 ^ k) t) v ≠ 0
  · obtain ⟨t, ⟨ht, h2⟩, hmin⟩ := pk_least (fun t => t < N ∧ sdiff (farI N S (2 ^ k) t) v ≠ 0) h
    exact ⟨_, Or.inl ⟨t, ht, h2, fun s hs => Classical.byContradiction (fun q => hmin s hs ⟨by omega, q⟩), rfl⟩⟩
  · exact ⟨_, Or.inr ⟨fun s hs => Classical.byContradiction (fun q => h ⟨s, hs, q⟩), rfl⟩⟩
theorem X_steps (h : NetX w N S A) (hN : NetOK N S A) {k v : Nat} (hk : k < N) {x : Int32} (hx : StIs N S v k x) : mX0_stepsOutOf (nI v) (nI k) w = some (x, w) := by
  have h8 := hN.2.1
  have h256 := two_le h8
  have hlt : ∀ t, farI N S (2 ^ k) t < 2 ^ N := fun t => farI_lt hN.2.2.1 (pow_lt_of hk)
  have go : ∀ n t, t < N → sdiff (farI N S (2 ^ k) t) v = 0 → mX0_stepsOutOf_7 (nI v) (n + 1) (nI (farI N S (2 ^ k) t)) (nI t) w = mX0_stepsOutOf_7 (nI v) n (nI (farI N S (2 ^ k) (t + 1))) (nI (t + 1)) w := by
    intro n t ht q
    have c1 : ¬ nI N ≤ nI t := nI_ge ht (by omega)
    have e1 := within_B (b := v) w (hlt t) (by omega)
    have e2 := X_stepFrom h hN (m := farI N S (2 ^ k) t) (by have := hlt t; omega)
    simp only [mX0_stepsOutOf_7, h.1, c1, e1, q, decide_true, bN_t, e2, cl_mk, nm_mk, pu_mk, lit, if_true, if_false, ne_eq, not_false_eq_true, not_true_eq_false, nI_add, nI_or, nI_and, Bool.false_eq_true, ne01, ne10, nI_m1', Nat.or_zero]
    rfl
  simp only [mX0_stepsOutOf, one_shl (show k < 31 by omega), cl_mk, nm_mk, pu_mk, lit, if_true, if_false, ne_eq, not_false_eq_true, not_true_eq_false, nI_add, nI_or, nI_and, Bool.false_eq_true, ne01, ne10, nI_m1', Nat.or_zero]
  rcases hx with ⟨t, ht, h2, h3, rfl⟩ | ⟨h3, rfl⟩
  · refine loopE (fun n (s : Int32 × Int32) => mX0_stepsOutOf_7 (nI v) n s.1 s.2 w) t (fun t => (nI (farI N S (2 ^ k) t), nI t)) _ (fun n s hs => go n s (by omega) (h3 s hs)) ?_ FU 0 (Nat.zero_le _) (FU_gt (by omega))
    intro n
    have c1 : ¬ nI N ≤ nI t := nI_ge ht (by omega)
    have e1 := within_B (b := v) w (hlt t) (by omega)
    simp only [mX0_stepsOutOf_7, h.1, c1, e1, h2, decide_false, bN_f, cl_mk, nm_mk, pu_mk, lit, if_true, if_false, ne_eq, not_false_eq_true, not_true_eq_false, nI_add, nI_or, nI_and, Bool.false_eq_true, ne01, ne10, nI_m1', Nat.or_zero]
  · refine loopE (fun n (s : Int32 × Int32) => mX0_stepsOutOf_7 (nI v) n s.1 s.2 w) N (fun t => (nI (farI N S (2 ^ k) t), nI t)) _ (fun n s hs => go n s (by omega) (h3 s hs)) ?_ FU 0 (Nat.zero_le _) (FU_gt (by omega))
    intro n
    have c1 : nI N ≤ nI N := nI_le (Nat.le_refl N) (by omega)
    simp only [mX0_stepsOutOf_7, h.1, c1, cl_mk, nm_mk, pu_mk, lit, if_true, if_false, ne_eq, not_false_eq_true, not_true_eq_false, nI_add, nI_or, nI_and, Bool.false_eq_true, ne01, ne10, nI_m1', Nat.or_zero]
theorem M_steps62 (h : NetM w N S A) (hN : NetOK N S A) {m : Nat} (hm : m < 2 ^ 31) (k36 : Int32 → Int32 → AW → Option (Int32 × AW)) (v3 v5 : Int32) : mX6_steps_62 k36 v3 (nI m) v5 FU (nI m) (nI 0) w = k36 (nI (m ||| stepF N S m)) (v5 + nI 1) w := by
  obtain ⟨h1, h8, hS, hS0, hA⟩ := hN
  have := loopE (fun n (s : Int32 × Int32) => mX6_steps_62 k36 v3 (nI m) v5 n s.1 s.2 w) N (fun k => (nI (m ||| orF (fun k => if m.testBit k then S k else 0) k), nI k)) (k36 (nI (m ||| stepF N S m)) (v5 + nI 1) w) ?_ ?_ FU 0 (Nat.zero_le _) (FU_gt (by omega))
  · simpa only [orF, Nat.or_zero] using this
  · intro n k hk
    have c1 : ¬ nI N ≤ nI k := nI_ge hk (by omega)
    cases e : m.testBit k
    · simp only [mX6_steps_62, mX6_steps_95, h.1, c1, shr_f (show k < 32 by omega) hm e, orF, e, cl_mk, nm_mk, pu_mk, lit, if_true, if_false, ne_eq, not_false_eq_true, not_true_eq_false, nI_add, nI_or, nI_and, Bool.false_eq_true, ne01, ne10, nI_m1', Nat.or_zero]
    · simp only [mX6_steps_62, mX6_steps_95, h.1, c1, shr_t (show k < 32 by omega) hm e, M_row h (show k < 8 by omega), orF, e, Nat.or_assoc, cl_mk, nm_mk, pu_mk, lit, if_true, if_false, ne_eq, not_false_eq_true, not_true_eq_false, nI_add, nI_or, nI_and, Bool.false_eq_true, ne01, ne10, nI_m1', Nat.or_zero]
  · intro n
    have c1 : nI N ≤ nI N := nI_le (Nat.le_refl N) (by omega)
    simp only [mX6_steps_62, h.1, c1, cl_mk, nm_mk, pu_mk, lit, if_true, if_false, ne_eq, not_false_eq_true, not_true_eq_false, nI_add, nI_or, nI_and, Bool.false_eq_true, ne01, ne10, nI_m1', Nat.or_zero]
    rfl
theorem M_steps36 (h : NetM w N S A) (hN : NetOK N S A) {k v : Nat} (hk : k < N) {x : Int32} (hx : StIs N S v k x) : mX6_steps_36 (nI v) FU (nI (2 ^ k)) (nI 0) w = some (x, w) := by
  have h8 := hN.2.1
  have h256 := two_le h8
  have hlt : ∀ t, farI N S (2 ^ k) t < 2 ^ N := fun t => farI_lt hN.2.2.1 (pow_lt_of hk)
  have hsl : ∀ t, sdiff (farI N S (2 ^ k) t) v < 2 ^ N := fun t => sdiff_lt (hlt t)
  have go : ∀ n t, t < 9 → sdiff (farI N S (2 ^ k) t) v = 0 → mX6_steps_36 (nI v) (n + 1) (nI (farI N S (2 ^ k) t)) (nI t) w = mX6_steps_36 (nI v) n (nI (farI N S (2 ^ k) (t + 1))) (nI (t + 1)) w := by
    intro n t ht q
    have c1 : ¬ nI 9 ≤ nI t := nI_ge ht (by omega)
    have e2 := M_steps62 h hN (m := farI N S (2 ^ k) t) (by have := hlt t; omega) (mX6_steps_36 (nI v) n) (nI v) (nI t)
    simp only [mX6_steps_36, c1, nI_sdiff, q, cl_mk, nm_mk, pu_mk, lit, if_true, if_false, ne_eq, not_false_eq_true, not_true_eq_false, nI_add, nI_or, nI_and, Bool.false_eq_true, ne01, ne10, nI_m1', Nat.or_zero]
    rw [e2, nI_add]
    rfl
  rcases hx with ⟨t, ht, h2, h3, rfl⟩ | ⟨h3, rfl⟩
  · refine loopE (fun n (s : Int32 × Int32) => mX6_steps_36 (nI v) n s.1 s.2 w) t (fun t => (nI (farI N S (2 ^ k) t), nI t)) _ (fun n s hs => go n s (by omega) (h3 s hs)) ?_ FU 0 (Nat.zero_le _) (FU_gt (by omega))
    intro n
    have c1 : ¬ nI 9 ≤ nI t := nI_ge (show t < 9 by omega) (by omega)
    have q2 : (nI (sdiff (farI N S (2 ^ k) t) v) = nI 0) = False := eq_false (fun z => h2 ((nI_eq (by have := hsl t; omega) (by decide)).mp z))
    simp only [mX6_steps_36, c1, nI_sdiff, q2, cl_mk, nm_mk, pu_mk, lit, if_true, if_false, ne_eq, not_false_eq_true, not_true_eq_false, nI_add, nI_or, nI_and, Bool.false_eq_true, ne01, ne10, nI_m1', Nat.or_zero]
  · have all9 : ∀ s, s < 9 → sdiff (farI N S (2 ^ k) s) v = 0 := fun s hs => by
      rcases Nat.lt_or_ge s N with q | q
      · exact h3 s q
      · rw [G_end hN hk (by omega)]
        exact h3 (N - 1) (by have := hN.1; omega)
    refine loopE (fun n (s : Int32 × Int32) => mX6_steps_36 (nI v) n s.1 s.2 w) 9 (fun t => (nI (farI N S (2 ^ k) t), nI t)) _ (fun n s hs => go n s hs (all9 s hs)) ?_ FU 0 (Nat.zero_le _) (FU_gt (by omega))
    intro n
    have c1 : nI 9 ≤ nI 9 := by decide
    simp only [mX6_steps_36, c1, cl_mk, nm_mk, pu_mk, lit, if_true, if_false, ne_eq, not_false_eq_true, not_true_eq_false, nI_add, nI_or, nI_and, Bool.false_eq_true, ne01, ne10, nI_m1', Nat.or_zero]
end KN
theorem pub_known : Pub_known Rel := by
  rintro wX wM ⟨N, S, A, T, y, D, h⟩ v0
  have hR := h
  obtain ⟨hN, hX, hM, hT, h2, hS, h12⟩ := h
  have hM0 : NetM (am_set wM 0 0 0 (nI 0)) N S A := hM.k (KM0 wM)
  by_cases c0 : ∃ k, k < 6 ∧ v0 = nI k
  rotate_left
  · refine pub_same hR (-nI 1) ?_ ?_ (KX.rf _) (KM0 wM)
    · simp only [mX5_known, X_sen_f _ c0, nS_none, cl_mk, nm_mk, pu_mk, lit, if_true, if_false, ne_eq, not_false_eq_true, not_true_eq_false, nI_add, nI_or, nI_and, Bool.false_eq_true, ne01, ne10, nI_m1', Nat.or_zero]
    · simp only [mX6_known, M_sen_f _ c0, cl_mk, nm_mk, pu_mk, lit, if_true, if_false, ne_eq, not_false_eq_true, not_true_eq_false, nI_add, nI_or, nI_and, Bool.false_eq_true, ne01, ne10, nI_m1', Nat.or_zero]
  obtain ⟨i, hi, rfl⟩ := c0
  have hcl := cls_sen i hi
  obtain ⟨wX2, f1, f2⟩ := X_where hX hN hi (hS i hi).1 (hS i hi).2.1 (s := 0) (by decide)
  obtain ⟨w3, g1, g2⟩ := M_held hM0 hN hi (hS i hi).1 ((hS i hi).2.2.k (KM0 wM))
  have e1 := X_allLead (hX.k f2) hN (holdV N A (seenS N S 0) (D i))
  have e2 := M_known25 (hM0.k g2) hN (holdV N A (seenS N S 0) (D i))
  refine pub_same hR (nI (orF (knF N S (holdV N A (seenS N S 0) (D i))) N)) ?_ ?_ f2 ((KM0 wM).tr g2)
  · simp only [mX5_known, X_sen_t _ hi, nS_some hcl, f1, e1, cl_mk, nm_mk, pu_mk, lit, if_true, if_false, ne_eq, not_false_eq_true, not_true_eq_false, nI_add, nI_or, nI_and, Bool.false_eq_true, ne01, ne10, nI_m1', Nat.or_zero]
  · simp only [mX6_known, M_sen_t _ hi, g1, cl_mk, nm_mk, pu_mk, lit, if_true, if_false, ne_eq, not_false_eq_true, not_true_eq_false, nI_add, nI_or, nI_and, Bool.false_eq_true, ne01, ne10, nI_m1', Nat.or_zero]
    exact e2
theorem pub_steps : Pub_steps Rel := by
  rintro wX wM ⟨N, S, A, T, y, D, h⟩ v0 v1
  have hR := h
  obtain ⟨hN, hX, hM, hT, h2, hS, h12⟩ := h
  have hM0 : NetM (am_set wM 0 0 0 (nI 0)) N S A := hM.k (KM0 wM)
  by_cases c0 : ∃ k, k < 6 ∧ v0 = nI k
  rotate_left
  · refine pub_same hR (-nI 1) ?_ ?_ (KX.rf _) (KM0 wM)
    · simp only [mX5_steps, X_sen_f _ c0, nS_none, cl_mk, nm_mk, pu_mk, lit, if_true, if_false, ne_eq, not_false_eq_true, not_true_eq_false, nI_add, nI_or, nI_and, Bool.false_eq_true, ne01, ne10, nI_m1', Nat.or_zero]
    · simp only [mX6_steps, M_sen_f _ c0, cl_mk, nm_mk, pu_mk, lit, if_true, if_false, ne_eq, not_false_eq_true, not_true_eq_false, nI_add, nI_or, nI_and, Bool.false_eq_true, ne01, ne10, nI_m1', Nat.or_zero]
  obtain ⟨i, hi, rfl⟩ := c0
  have hcl := cls_sen i hi
  by_cases c1 : ∃ k, k < N ∧ v1 = nI k
  rotate_left
  · refine pub_same hR (-nI 1) ?_ ?_ (KX.rf _) (KM0 wM)
    · simp only [mX5_steps, X_sen_t _ hi, nS_some hcl, X_has_f hX hN c1, cl_mk, nm_mk, pu_mk, lit, if_true, if_false, ne_eq, not_false_eq_true, not_true_eq_false, nI_add, nI_or, nI_and, Bool.false_eq_true, ne01, ne10, nI_m1', Nat.or_zero]
    · simp only [mX6_steps, M_sen_t _ hi, M_world_f hM0 hN c1, cl_mk, nm_mk, pu_mk, lit, if_true, if_false, ne_eq, not_false_eq_true, not_true_eq_false, nI_add, nI_or, nI_and, Bool.false_eq_true, ne01, ne10, nI_m1', Nat.or_zero]
  obtain ⟨k, hk, rfl⟩ := c1
  obtain ⟨wX2, f1, f2⟩ := X_where hX hN hi (hS i hi).1 (hS i hi).2.1 (s := 0) (by decide)
  obtain ⟨w3, g1, g2⟩ := M_held hM0 hN hi (hS i hi).1 ((hS i hi).2.2.k (KM0 wM))
  obtain ⟨x, hx⟩ := StIs_ex N S (holdV N A (seenS N S 0) (D i)) k
  have e1 := X_steps (hX.k f2) hN hk hx
  have e2 := M_steps36 (hM0.k g2) hN hk hx
  refine pub_same hR x ?_ ?_ f2 ((KM0 wM).tr g2)
  · simp only [mX5_steps, X_sen_t _ hi, nS_some hcl, X_has_t hX hN hk, f1, e1, cl_mk, nm_mk, pu_mk, lit, if_true, if_false, ne_eq, not_false_eq_true, not_true_eq_false, nI_add, nI_or, nI_and, Bool.false_eq_true, ne01, ne10, nI_m1', Nat.or_zero]
  · have := hN.2.1
    simp only [mX6_steps, M_sen_t _ hi, M_world_t hM0 hN hk, g1, one_shl (show k < 31 by omega), cl_mk, nm_mk, pu_mk, lit, if_true, if_false, ne_eq, not_false_eq_true, not_true_eq_false, nI_add, nI_or, nI_and, Bool.false_eq_true, ne01, ne10, nI_m1', Nat.or_zero]
    exact e2
