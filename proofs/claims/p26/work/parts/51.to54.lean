section
/-! holds, known, steps -/
theorem cls_sen : ∀ i, i < 6 → am_cls false (6 + i) = 2 := by decide
theorem X_sen_t {i : Nat} (w : AW) (hi : i < 6) : mX5_sentence (nI i) w = some (some (6 + i, 0), w) := by
  have c1 : ¬ nI i < nI 0 := nI_nlt (Nat.zero_le i) (by omega)
  have c2 : ¬ nI 6 ≤ nI i := nI_ge hi (by decide)
  simp only [mX5_sentence, c1, c2, rdq_in hi (show 6 < 2 ^ 31 by decide), cl_mk, nm_mk, pu_mk, lit, if_true, if_false, ne_eq, not_false_eq_true, not_true_eq_false, nI_add, nI_or, nI_and, Bool.false_eq_true, ne01, ne10, nI_m1', Nat.or_zero]
theorem X_sen_f {v : Int32} (w : AW) (hv : ¬ ∃ k, k < 6 ∧ v = nI k) : mX5_sentence v w = some (none, w) := by
  rcases pk_ix v (n := 6) (by decide) with q | q | ⟨k, hk, rfl⟩
  · have c1 : v < nI 0 := q
    simp only [mX5_sentence, c1, cl_mk, nm_mk, pu_mk, lit, if_true, if_false, ne_eq, not_false_eq_true, not_true_eq_false, nI_add, nI_or, nI_and, Bool.false_eq_true, ne01, ne10, nI_m1', Nat.or_zero]
  · by_cases c1 : v < nI 0
    · simp only [mX5_sentence, c1, cl_mk, nm_mk, pu_mk, lit, if_true, if_false, ne_eq, not_false_eq_true, not_true_eq_false, nI_add, nI_or, nI_and, Bool.false_eq_true, ne01, ne10, nI_m1', Nat.or_zero]
    · simp only [mX5_sentence, c1, q, cl_mk, nm_mk, pu_mk, lit, if_true, if_false, ne_eq, not_false_eq_true, not_true_eq_false, nI_add, nI_or, nI_and, Bool.false_eq_true, ne01, ne10, nI_m1', Nat.or_zero]
  · exact absurd ⟨k, hk, rfl⟩ hv
theorem M_sen_t {i : Nat} (w : AW) (hi : i < 6) : mX6_isSentence (nI i) w = some (nI 1, w) := by
  have e := M_in_t w (show i < 5 + 1 from hi) (by decide)
  simp only [Nat.add_sub_cancel] at e
  simp only [mX6_isSentence, e, zr_1, cl_mk, nm_mk, pu_mk, lit, if_true, if_false, ne_eq, not_false_eq_true, not_true_eq_false, nI_add, nI_or, nI_and, Bool.false_eq_true, ne01, ne10, nI_m1', Nat.or_zero]
theorem M_sen_f {v : Int32} (w : AW) (hv : ¬ ∃ k, k < 6 ∧ v = nI k) : mX6_isSentence v w = some (nI 0, w) := by
  have e := M_in_f (n := 5 + 1) w hv (by decide) (by decide)
  simp only [Nat.add_sub_cancel] at e
  simp only [mX6_isSentence, e, zr_0, cl_mk, nm_mk, pu_mk, lit, if_true, if_false, ne_eq, not_false_eq_true, not_true_eq_false, nI_add, nI_or, nI_and, Bool.false_eq_true, ne01, ne10, nI_m1', Nat.or_zero]
def holdV (N : Nat) (A Fr : Nat → Nat) (d : SD) : Nat := evV (fun k => opH N A Fr (sdc d k)) (sdc d) (sdl d) (sdr d) (sdM d - 1)
section WH
variable {wX wM : AW} {N : Nat} {S A : Nat → Nat} {i : Nat} {d : SD}
theorem SDok.sh (h : SDok d) : ShapeOK (sdM d) (sdc d) (sdl d) (sdr d) := h.2.2.2.2.2.1.shape
theorem SDok.cl (h : SDok d) : ClassOK (sdM d) (sdP d) (sdc d) (sdl d) (sdr d) (sdf d) := h.2.2.2.2.2.2.1.cls
theorem holdV_lt {Fr : Nat → Nat} (hA : ∀ i, A i < 2 ^ N) (h : SDok d) : holdV N A Fr d < 2 ^ N := evV_lt h.sh (Nat.two_pow_pos N) (fun k _ a b ha hb => opH_lt hA ha hb) (sdM d) _ (by have := h.1; omega) (by have := h.1; omega)
theorem opJ_f (N : Nat) (A Fr : Nat → Nat) (c : Nat → Nat) : (fun k => opJ false N A Fr (c k)) = fun k => opH N A Fr (c k) := by
  funext k a b
  exact if_neg (fun h => by cases h.1)
theorem X_where (hX : NetX wX N S A) (hN : NetOK N S A) (hi : i < 6) (hd : SDok d) (hS : SenX wX (6 + i) (sdM d) (sdP d) (sdc d) (sdl d) (sdr d) (sdf d) (sdp d) (sdd d)) {s : Nat} (hs : s < 4) : ∃ wX2, mX5_whereHolds (6 + i) (nI s) wX = some (nI (holdV N A (seenS N S s) d), wX2) ∧ KX wX wX2 := by
  have hF : ∀ k, k < N → seenS N S s k < 2 ^ N := fun k hk => seenS_lt hN hk
  have k1 := lookX_K wX N S s N
  have hX1 := hX.k k1
  have hat : mX0_atoms (lookX wX N S s N) = some ((), lookX wX N S s N) := rfl
  obtain ⟨w2, f1, f2, f3⟩ := X_judge false (w := lookX wX N S s N) (o := 6 + i) (ro := 1) (ra := 2) (lookX_V wX N S s) hN.2.1 hF (fun i hi _ _ _ => hX1.2.2 i hi) hN.2.2.2.2 (by decide) (by decide) (hS.k hi k1) (len_sen hi (by have := hd.2.1; have := hd.2.2.2.1; omega)) hd.sh hd.cl (by have := hd.2.1; have := hd.2.2.2.1; omega) hd.1 hd.2.2.2.2.2.2.2.1 (by omega)
  rw [opJ_f] at f1
  refine ⟨w2, ?_, k1.tr f2⟩
  have f1' : mX4_judge (6 + i) 1 2 (nI 0) (lookX wX N S s N) = some (nI (holdV N A (seenS N S s) d), w2) := f1
  simp only [mX5_whereHolds, X_look hX hN hs, hat, f1', cl_mk, nm_mk, pu_mk, lit, if_true, if_false, ne_eq, not_false_eq_true, not_true_eq_false, nI_add, nI_or, nI_and, Bool.false_eq_true, ne01, ne10, nI_m1', Nat.or_zero]
theorem M_where (hM : NetM wM N S A) (hN : NetOK N S A) (hi : i < 6) (hd : SDok d) (hS : SenM wM i (sdM d) (sdZ d) (sdc d) (sdl d) (sdr d) (sdb d) (sde d) (sdy d)) {s : Nat} (hs : s < 4) : ∃ w1 w2 w3, mX6_works (nI i) wM = some ((), w1) ∧ mX6_looks (nI s) w1 = some ((), w2) ∧ mX6_holding w2 = some (nI (holdV N A (seenS N S s) d), w3) ∧ KM wM w3 := by
  have hF : ∀ k, k < N → seenS N S s k < 2 ^ N := fun k hk => seenS_lt hN hk
  have e1 := M_works hS hi hd.2.1 hd.2.2.2.2.1
  have k1 := wkW_K (w := wM) (m := sdM d) (z := sdZ d) (c := sdc d) (l := sdl d) (r := sdr d) (b := sdb d) (e := sde d) (y := sdy d)
  have hW := wkW_W (w := wM) (m := sdM d) (z := sdZ d) (c := sdc d) (l := sdl d) (r := sdr d) (b := sdb d) (e := sde d) (y := sdy d)
  generalize wkW wM (sdM d) (sdZ d) (sdc d) (sdl d) (sdr d) (sdb d) (sde d) (sdy d) = w1 at e1 k1 hW
  have e2 := M_looks (hM.k k1) hN hs
  have k2 := lookM_K w1 N S s N
  have hW2 : WorkM (lookM w1 N S s N) (sdM d) (sdZ d) (sdc d) (sdl d) (sdr d) (sdb d) (sde d) (sdy d) := hW.c (by unfold lookM; rw [setRow_row (by decide)]) (by unfold lookM; rw [setRow_row (by decide)]) (fun a h1 h2 => by unfold lookM; rw [setRow_row (by omega)])
  have e3 := M_holding (Fr := seenS N S s) (hM.k (k1.tr k2)) hN (lookM_V w1 N S s) hF hW2 hd.sh hd.1 (by have := hd.2.1; omega)
  exact ⟨w1, _, _, e1, e2, e3, (k1.tr k2).tr (hdW_K _)⟩
end WH
theorem pub_holds : Pub_holds Rel := by
  rintro wX wM ⟨N, S, A, T, y, D, h⟩ v0 v1
  have hR := h
  obtain ⟨hN, hX, hM, hT, h2, hS, h12⟩ := h
  have hM0 : NetM (am_set wM 0 0 0 (nI 0)) N S A := hM.k (KM0 wM)
  by_cases c0 : ∃ k, k < 6 ∧ v0 = nI k
  rotate_left
  · refine pub_same hR (-nI 1) ?_ ?_ (KX.rf _) (KM0 wM)
    · simp only [mX5_holds, X_sen_f _ c0, nS_none, cl_mk, nm_mk, pu_mk, lit, if_true, if_false, ne_eq, not_false_eq_true, not_true_eq_false, nI_add, nI_or, nI_and, Bool.false_eq_true, ne01, ne10, nI_m1', Nat.or_zero]
    · simp only [mX6_holds, M_sen_f _ c0, cl_mk, nm_mk, pu_mk, lit, if_true, if_false, ne_eq, not_false_eq_true, not_true_eq_false, nI_add, nI_or, nI_and, Bool.false_eq_true, ne01, ne10, nI_m1', Nat.or_zero]
  obtain ⟨i, hi, rfl⟩ := c0
  have hcl := cls_sen i hi
  by_cases c1 : ∃ k, k < 4 ∧ v1 = nI k
  rotate_left
  · refine pub_same hR (-nI 1) ?_ ?_ (KX.rf _) (KM0 wM)
    · simp only [mX5_holds, X_sen_t _ hi, nS_some hcl, X_sort_f _ c1, cl_mk, nm_mk, pu_mk, lit, if_true, if_false, ne_eq, not_false_eq_true, not_true_eq_false, nI_add, nI_or, nI_and, Bool.false_eq_true, ne01, ne10, nI_m1', Nat.or_zero]
    · simp only [mX6_holds, M_sen_t _ hi, M_sort_f _ c1, cl_mk, nm_mk, pu_mk, lit, if_true, if_false, ne_eq, not_false_eq_true, not_true_eq_false, nI_add, nI_or, nI_and, Bool.false_eq_true, ne01, ne10, nI_m1', Nat.or_zero]
  obtain ⟨s, hs, rfl⟩ := c1
  obtain ⟨wX2, f1, f2⟩ := X_where hX hN hi (hS i hi).1 (hS i hi).2.1 hs
  obtain ⟨w1, w2, w3, g1, g2, g3, g4⟩ := M_where hM0 hN hi (hS i hi).1 ((hS i hi).2.2.k (KM0 wM)) hs
  refine pub_same hR (nI (holdV N A (seenS N S s) (D i))) ?_ ?_ f2 ((KM0 wM).tr g4)
  · simp only [mX5_holds, X_sen_t _ hi, nS_some hcl, X_sort_t _ hs, f1, cl_mk, nm_mk, pu_mk, lit, if_true, if_false, ne_eq, not_false_eq_true, not_true_eq_false, nI_add, nI_or, nI_and, Bool.false_eq_true, ne01, ne10, nI_m1', Nat.or_zero]
  · simp only [mX6_holds, M_sen_t _ hi, M_sort_t _ hs, g1, g2, g3, cl_mk, nm_mk, pu_mk, lit, if_true, if_false, ne_eq, not_false_eq_true, not_true_eq_false, nI_add, nI_or, nI_and, Bool.false_eq_true, ne01, ne10, nI_m1', Nat.or_zero]
section KN
variable {w : AW} {N : Nat} {S A : Nat → Nat}
theorem far_union (hN : NetOK N S A) {m : Nat} (hm : m < 2 ^ N) : farI N S m N = orF (fun k => if m.testBit k then farI N S (2 ^ k) N else 0) N := by
  have hS := hN.2.2.1
  have tb : ∀ j, (orF (fun k => if m.testBit k then farI N S (2 ^ k) N else 0) N).testBit j = true ↔ ∃ k, k < N ∧ m.testBit k = true ∧ (farI N S (2 ^ k) N).testBit j = true := by
    intro j
    rw [tb_orF]
    constructor
    · rintro ⟨k, h1, h2⟩
      split at h2
      · rename_i h
        exact ⟨k, h1, h, h2⟩
      · rw [Nat.zero_testBit] at h2; cases h2
    · rintro ⟨k, h1, h2, h3⟩
      exact ⟨k, h1, by rw [if_pos h2]; exact h3⟩
  refine (far_least hS hm).uniq ⟨fun k hk => ?_, fun k hk hb j hj => ?_, fun d hmd hd j hj => ?_⟩
  · have hkN : k < N := by
      rcases Nat.lt_or_ge k N with q | q
      · exact q
      · rw [bits_of_lt hm q] at hk; cases hk
    exact (tb k).mpr ⟨k, hkN, hk, far_self⟩
  · obtain ⟨i, h1, h2, h3⟩ := (tb k).mp hb
    exact (tb j).mpr ⟨i, h1, h2, (far_least hS (pow_lt_of h1)).2.1 k hk h3 j hj⟩
  · obtain ⟨i, h1, h2, h3⟩ := (tb j).mp hj
    exact (far_least hS (pow_lt_of h1)).2.2 d (pow_sub (hmd i h2)) hd j h3
def knF (N : Nat) (S : Nat → Nat) (v k : Nat) : Nat := if sdiff (farI N S (S k) N) v = 0 then 2 ^ k else 0
theorem X_allLead (h : NetX w N S A) (hN : NetOK N S A) (v : Nat) : mX0_allLeadInto (nI v) w = some (nI (orF (knF N S v) N), w) := by
  have h8 := hN.2.1
  unfold mX0_allLeadInto
  refine loopE (fun n (s : Int32 × Int32) => mX0_allLeadInto_4 (nI v) n s.1 s.2 w) N (fun k => (nI (orF (knF N S v) k), nI k)) _ ?_ ?_ FU 0 (Nat.zero_le _) (FU_gt (by omega))
  · intro n k hk
    have c1 : ¬ nI N ≤ nI k := nI_ge hk (by omega)
    have e0 := X_farFrom h hN (hN.2.2.1 k)
    have e1 := within_B (b := v) w (farI_lt (m := S k) (n := N) hN.2.2.1 (hN.2.2.1 k)) (by omega)
    by_cases q : sdiff (farI N S (S k) N) v = 0
    · simp only [mX0_allLeadInto_4, mX0_allLeadInto_37, h.1, c1, sees_at h (show k < 8 by omega), e0, e1, q, decide_true, bN_t, one_shl (show k < 31 by omega), orF, knF, cl_mk, nm_mk, pu_mk, lit, if_true, if_false, ne_eq, not_false_eq_true, not_true_eq_false, nI_add, nI_or, nI_and, Bool.false_eq_true, ne01, ne10, nI_m1', Nat.or_zero]
    · simp only [mX0_allLeadInto_4, mX0_allLeadInto_37, h.1, c1, sees_at h (show k < 8 by omega), e0, e1, q, decide_false, bN_f, orF, knF, cl_mk, nm_mk, pu_mk, lit, if_true, if_false, ne_eq, not_false_eq_true, not_true_eq_false, nI_add, nI_or, nI_and, Bool.false_eq_true, ne01, ne10, nI_m1', Nat.or_zero]
  · intro n
    have c1 : nI N ≤ nI N := nI_le (Nat.le_refl N) (by omega)
    simp only [mX0_allLeadInto_4, h.1, c1, cl_mk, nm_mk, pu_mk, lit, if_true, if_false, ne_eq, not_false_eq_true, not_true_eq_false, nI_add, nI_or, nI_and, Bool.false_eq_true, ne01, ne10, nI_m1', Nat.or_zero]
theorem M_known25 (h : NetM w N S A) (hN : NetOK N S A) (v : Nat) : mX6_known_25 (nI v) FU (nI 0) (nI 0) w = some (nI (orF (knF N S v) N), w) := by
  have h8 := hN.2.1
  have h256 := two_le h8
  refine loopE (fun n (s : Int32 × Int32) => mX6_known_25 (nI v) n s.1 s.2 w) N (fun k => (nI (orF (knF N S v) k), nI k)) _ ?_ ?_ FU 0 (Nat.zero_le _) (FU_gt (by omega))
  · intro n k hk
    have c1 : ¬ nI N ≤ nI k := nI_ge hk (by omega)
    have hSk := hN.2.2.1 k
    have inner : mX6_known_40 (mX6_known_25 (nI v) n) (nI v) (nI (orF (knF N S v) k)) (nI k) FU (nI 0) (nI 0) w = mX6_known_25 (nI v) n (nI (orF (knF N S v) (k + 1))) (nI (k + 1)) w := by
      refine loopE (fun n2 (s : Int32 × Int32) => mX6_known_40 (mX6_known_25 (nI v) n) (nI v) (nI (orF (knF N S v) k)) (nI k) n2 s.1 s.2 w) N (fun j => (nI (orF (fun i => if (S k).testBit i then farI N S (2 ^ i) N else 0) j), nI j)) _ ?_ ?_ FU 0 (Nat.zero_le _) (FU_gt (by omega))
      · intro n2 j hj
        have d1 : ¬ nI N ≤ nI j := nI_ge hj (by omega)
        cases q : (S k).testBit j
        · simp only [mX6_known_40, mX6_known_77, h.1, d1, M_row h (show k < 8 by omega), shr_f (show j < 32 by omega) (show S k < 2 ^ 31 by omega) q, orF, q, cl_mk, nm_mk, pu_mk, lit, if_true, if_false, ne_eq, not_false_eq_true, not_true_eq_false, nI_add, nI_or, nI_and, Bool.false_eq_true, ne01, ne10, nI_m1', Nat.or_zero]
        · simp only [mX6_known_40, mX6_known_77, h.1, d1, M_row h (show k < 8 by omega), shr_t (show j < 32 by omega) (show S k < 2 ^ 31 by omega) q, M_far h hN hj, orF, q, cl_mk, nm_mk, pu_mk, lit, if_true, if_false, ne_eq, not_false_eq_true, not_true_eq_false, nI_add, nI_or, nI_and, Bool.false_eq_true, ne01, ne10, nI_m1', Nat.or_zero]
      · intro n2
        have d1 : nI N ≤ nI N := nI_le (Nat.le_refl N) (by omega)
        have hu := far_union hN hSk
        have hlt : sdiff (farI N S (S k) N) v < 2 ^ N := sdiff_lt (farI_lt hN.2.2.1 hSk)
        by_cases q : sdiff (farI N S (S k) N) v = 0
        · simp only [mX6_known_40, mX6_known_104, h.1, d1, ← hu, nI_sdiff, q, one_shl (show k < 31 by omega), orF, knF, cl_mk, nm_mk, pu_mk, lit, if_true, if_false, ne_eq, not_false_eq_true, not_true_eq_false, nI_add, nI_or, nI_and, Bool.false_eq_true, ne01, ne10, nI_m1', Nat.or_zero]
        · have q2 : (nI (sdiff (farI N S (S k) N) v) = nI 0) = False := eq_false (fun z => q ((nI_eq (by omega) (by decide)).mp z))
          simp only [mX6_known_40, mX6_known_104, h.1, d1, ← hu, nI_sdiff, q, q2, orF, knF, cl_mk, nm_mk, pu_mk, lit, if_true, if_false, ne_eq, not_false_eq_true, not_true_eq_false, nI_add, nI_or, nI_and, Bool.false_eq_true, ne01, ne10, nI_m1', Nat.or_zero]
    simp only [mX6_known_25, h.1, c1, cl_mk, nm_mk, pu_mk, lit, if_true, if_false, ne_eq, not_false_eq_true, not_true_eq_false, nI_add, nI_or, nI_and, Bool.false_eq_true, ne01, ne10, nI_m1', Nat.or_zero]
    exact inner
  · intro n
    have c1 : nI N ≤ nI N := nI_le (Nat.le_refl N) (by omega)
    simp only [mX6_known_25, h.1, c1, cl_mk, nm_mk, pu_mk, lit, if_true, if_false, ne_eq, not_false_eq_true, not_true_eq_false, nI_add, nI_or, nI_and, Bool.false_eq_true, ne01, ne10, nI_m1', Nat.or_zero]
theorem M_held {i : Nat} {d : SD} (hM : NetM w N S A) (hN : NetOK N S A) (hi : i < 6) (hd : SDok d) (hS : SenM w i (sdM d) (sdZ d) (sdc d) (sdl d) (sdr d) (sdb d) (sde d) (sdy d)) : ∃ w3, mX6_held (nI i) w = some (nI (holdV N A (seenS N S 0) d), w3) ∧ KM w w3 := by
  obtain ⟨w1, w2, w3, g1, g2, g3, g4⟩ := M_where hM hN hi hd hS (s := 0) (by decide)
  refine ⟨w3, ?_, g4⟩
  simp only [mX6_held, g1, g2, g3, cl_mk, nm_mk, pu_mk, lit, if_true, if_false, ne_eq, not_false_eq_true, not_true_eq_false, nI_add, nI_or, nI_and, Bool.false_eq_true, ne01, ne10, nI_m1', Nat.or_zero]
/-- by how few steps what is not in v is come to: class and model alike -/
theorem G_end (hN : NetOK N S A) {k t : Nat} (hk : k < N) (ht : N ≤ t + 1) : farI N S (2 ^ k) t = farI N S (2 ^ k) (N - 1) := by
  have e : (fun c => c ||| stepF N S c) (itF (fun c => c ||| stepF N S c) (N - 1) (2 ^ k)) = itF (fun c => c ||| stepF N S c) (N - 1) (2 ^ k) := itF_end (b := N) (pow_lt_of hk) (fun c hc => or_lt hc (stepF_lt hN.2.2.1)) (fun c => sub_or_left _ _) (by
    have := cntB_pos (a := 2 ^ k) hk (by rw [tb_pow, decide_eq_true_eq])
    omega)
  exact itF_stays e (by omega)
def StIs (N : Nat) (S : Nat → Nat) (v k : Nat) (x : Int32) : Prop := (∃ t, t < N ∧ sdiff (farI N S (2 ^ k) t) v ≠ 0 ∧ (∀ s, s < t → sdiff (farI N S (2 ^ k) s) v = 0) ∧ x = nI t) ∨ ((∀ s, s < N → sdiff (farI N S (2 ^ k) s) v = 0) ∧ x = -nI 9)
theorem StIs_ex (N : Nat) (S : Nat → Nat) (v k : Nat) : ∃ x, StIs N S v k x := by
  by_cases h : ∃ t, t < N ∧ sdiff (farI N S (2 ^ k) t) v ≠ 0
  · obtain ⟨t, ⟨ht, h2⟩, hmin⟩ := pk_least (fun t => t < N ∧ sdiff (farI N S (2 ^ k) t) v ≠ 0) h
    exact ⟨_, Or.inl ⟨t, ht, h2, fun s hs => Classical.byContradiction (fun q => hmin s hs ⟨by omega, q⟩), rfl⟩⟩
  · exact ⟨_, Or.inr ⟨fun s hs => Classical.byContradiction (fun q => h ⟨s, hs, q⟩), rfl⟩⟩
theorem X_steps (h : NetX w N S A) (hN : NetOK N S A) {k v : Nat} (hk : k < N) {x : Int32} (hx : StIs N S v k x) : mX0_stepsOutOf (nI v) (nI k) w = some (x, w) := by
  have h8 := hN.2.1
  have h256 := two_le h8
  have hlt : ∀ t, farI N S (2 ^ k) t < 2 ^ N := fun t => farI_lt hN.2.2.1 (pow_lt_of hk)
  have go : ∀ n t, t < N → sdiff (farI N S (2 ^ k) t) v = 0 → mX0_stepsOutOf_7 (nI v) (n + 1) (nI (farI N S (2 ^ k) t)) (nI t) w = mX0_stepsOutOf_7 (nI v) n (nI (farI N S (2 ^ k) (t + 1))) (nI (t + 1)) w := by
    intro n t ht q
    have c1 : ¬ nI N ≤ nI t := nI_ge ht (by omega)
    have e1 := within_B (b := v) w (hlt t) (by omega)
    have e2 := X_stepFrom h hN (m := farI N S (2 ^ k) t) (by have := hlt t; omega)
    simp only [mX0_stepsOutOf_7, h.1, c1, e1, q, decide_true, bN_t, e2, cl_mk, nm_mk, pu_mk, lit, if_true, if_false, ne_eq, not_false_eq_true, not_true_eq_false, nI_add, nI_or, nI_and, Bool.false_eq_true, ne01, ne10, nI_m1', Nat.or_zero]
    rfl
  simp only [mX0_stepsOutOf, one_shl (show k < 31 by omega), cl_mk, nm_mk, pu_mk, lit, if_true, if_false, ne_eq, not_false_eq_true, not_true_eq_false, nI_add, nI_or, nI_and, Bool.false_eq_true, ne01, ne10, nI_m1', Nat.or_zero]
  rcases hx with ⟨t, ht, h2, h3, rfl⟩ | ⟨h3, rfl⟩
  · refine loopE (fun n (s : Int32 × Int32) => mX0_stepsOutOf_7 (nI v) n s.1 s.2 w) t (fun t => (nI (farI N S (2 ^ k) t), nI t)) _ (fun n s hs => go n s (by omega) (h3 s hs)) ?_ FU 0 (Nat.zero_le _) (FU_gt (by omega))
    intro n
    have c1 : ¬ nI N ≤ nI t := nI_ge ht (by omega)
    have e1 := within_B (b := v) w (hlt t) (by omega)
    simp only [mX0_stepsOutOf_7, h.1, c1, e1, h2, decide_false, bN_f, cl_mk, nm_mk, pu_mk, lit, if_true, if_false, ne_eq, not_false_eq_true, not_true_eq_false, nI_add, nI_or, nI_and, Bool.false_eq_true, ne01, ne10, nI_m1', Nat.or_zero]
  · refine loopE (fun n (s : Int32 × Int32) => mX0_stepsOutOf_7 (nI v) n s.1 s.2 w) N (fun t => (nI (farI N S (2 ^ k) t), nI t)) _ (fun n s hs => go n s (by omega) (h3 s hs)) ?_ FU 0 (Nat.zero_le _) (FU_gt (by omega))
    intro n
    have c1 : nI N ≤ nI N := nI_le (Nat.le_refl N) (by omega)
    simp only [mX0_stepsOutOf_7, h.1, c1, cl_mk, nm_mk, pu_mk, lit, if_true, if_false, ne_eq, not_false_eq_true, not_true_eq_false, nI_add, nI_or, nI_and, Bool.false_eq_true, ne01, ne10, nI_m1', Nat.or_zero]
theorem M_steps62 (h : NetM w N S A) (hN : NetOK N S A) {m : Nat} (hm : m < 2 ^ 31) (k36 : Int32 → Int32 → AW → Option (Int32 × AW)) (v3 v5 : Int32) : mX6_steps_62 k36 v3 (nI m) v5 FU (nI m) (nI 0) w = k36 (nI (m ||| stepF N S m)) (v5 + nI 1) w := by
  obtain ⟨h1, h8, hS, hS0, hA⟩ := hN
  have := loopE (fun n (s : Int32 × Int32) => mX6_steps_62 k36 v3 (nI m) v5 n s.1 s.2 w) N (fun k => (nI (m ||| orF (fun k => if m.testBit k then S k else 0) k), nI k)) (k36 (nI (m ||| stepF N S m)) (v5 + nI 1) w) ?_ ?_ FU 0 (Nat.zero_le _) (FU_gt (by omega))
  · simpa only [orF, Nat.or_zero] using this
  · intro n k hk
    have c1 : ¬ nI N ≤ nI k := nI_ge hk (by omega)
    cases e : m.testBit k
    · simp only [mX6_steps_62, mX6_steps_95, h.1, c1, shr_f (show k < 32 by omega) hm e, orF, e, cl_mk, nm_mk, pu_mk, lit, if_true, if_false, ne_eq, not_false_eq_true, not_true_eq_false, nI_add, nI_or, nI_and, Bool.false_eq_true, ne01, ne10, nI_m1', Nat.or_zero]
    · simp only [mX6_steps_62, mX6_steps_95, h.1, c1, shr_t (show k < 32 by omega) hm e, M_row h (show k < 8 by omega), orF, e, Nat.or_assoc, cl_mk, nm_mk, pu_mk, lit, if_true, if_false, ne_eq, not_false_eq_true, not_true_eq_false, nI_add, nI_or, nI_and, Bool.false_eq_true, ne01, ne10, nI_m1', Nat.or_zero]
  · intro n
    have c1 : nI N ≤ nI N := nI_le (Nat.le_refl N) (by omega)
    simp only [mX6_steps_62, h.1, c1, cl_mk, nm_mk, pu_mk, lit, if_true, if_false, ne_eq, not_false_eq_true, not_true_eq_false, nI_add, nI_or, nI_and, Bool.false_eq_true, ne01, ne10, nI_m1', Nat.or_zero]
    rfl
theorem M_steps36 (h : NetM w N S A) (hN : NetOK N S A) {k v : Nat} (hk : k < N) {x : Int32} (hx : StIs N S v k x) : mX6_steps_36 (nI v) FU (nI (2 ^ k)) (nI 0) w = some (x, w) := by
  have h8 := hN.2.1
  have h256 := two_le h8
  have hlt : ∀ t, farI N S (2 ^ k) t < 2 ^ N := fun t => farI_lt hN.2.2.1 (pow_lt_of hk)
  have hsl : ∀ t, sdiff (farI N S (2 ^ k) t) v < 2 ^ N := fun t => sdiff_lt (hlt t)
  have go : ∀ n t, t < 9 → sdiff (farI N S (2 ^ k) t) v = 0 → mX6_steps_36 (nI v) (n + 1) (nI (farI N S (2 ^ k) t)) (nI t) w = mX6_steps_36 (nI v) n (nI (farI N S (2 ^ k) (t + 1))) (nI (t + 1)) w := by
    intro n t ht q
    have c1 : ¬ nI 9 ≤ nI t := nI_ge ht (by omega)
    have e2 := M_steps62 h hN (m := farI N S (2 ^ k) t) (by have := hlt t; omega) (mX6_steps_36 (nI v) n) (nI v) (nI t)
    simp only [mX6_steps_36, c1, nI_sdiff, q, cl_mk, nm_mk, pu_mk, lit, if_true, if_false, ne_eq, not_false_eq_true, not_true_eq_false, nI_add, nI_or, nI_and, Bool.false_eq_true, ne01, ne10, nI_m1', Nat.or_zero]
    rw [e2, nI_add]
    rfl
  rcases hx with ⟨t, ht, h2, h3, rfl⟩ | ⟨h3, rfl⟩
  · refine loopE (fun n (s : Int32 × Int32) => mX6_steps_36 (nI v) n s.1 s.2 w) t (fun t => (nI (farI N S (2 ^ k) t), nI t)) _ (fun n s hs => go n s (by omega) (h3 s hs)) ?_ FU 0 (Nat.zero_le _) (FU_gt (by omega))
    intro n
    have c1 : ¬ nI 9 ≤ nI t := nI_ge (show t < 9 by omega) (by omega)
    have q2 : (nI (sdiff (farI N S (2 ^ k) t) v) = nI 0) = False := eq_false (fun z => h2 ((nI_eq (by have := hsl t; omega) (by decide)).mp z))
    simp only [mX6_steps_36, c1, nI_sdiff, q2, cl_mk, nm_mk, pu_mk, lit, if_true, if_false, ne_eq, not_false_eq_true, not_true_eq_false, nI_add, nI_or, nI_and, Bool.false_eq_true, ne01, ne10, nI_m1', Nat.or_zero]
  · have all9 : ∀ s, s < 9 → sdiff (farI N S (2 ^ k) s) v = 0 := fun s hs => by
      rcases Nat.lt_or_ge s N with q | q
      · exact h3 s q
      · rw [G_end hN hk (by omega)]
        exact h3 (N - 1) (by have := hN.1; omega)
    refine loopE (fun n (s : Int32 × Int32) => mX6_steps_36 (nI v) n s.1 s.2 w) 9 (fun t => (nI (farI N S (2 ^ k) t), nI t)) _ (fun n s hs => go n s hs (all9 s hs)) ?_ FU 0 (Nat.zero_le _) (FU_gt (by omega))
    intro n
    have c1 : nI 9 ≤ nI 9 := by decide
    simp only [mX6_steps_36, c1, cl_mk, nm_mk, pu_mk, lit, if_true, if_false, ne_eq, not_false_eq_true, not_true_eq_false, nI_add, nI_or, nI_and, Bool.false_eq_true, ne01, ne10, nI_m1', Nat.or_zero]
end KN
theorem pub_known : Pub_known Rel := by
  rintro wX wM ⟨N, S, A, T, y, D, h⟩ v0
  have hR := h
  obtain ⟨hN, hX, hM, hT, h2, hS, h12⟩ := h
  have hM0 : NetM (am_set wM 0 0 0 (nI 0)) N S A := hM.k (KM0 wM)
  by_cases c0 : ∃ k, k < 6 ∧ v0 = nI k
  rotate_left
  · refine pub_same hR (-nI 1) ?_ ?_ (KX.rf _) (KM0 wM)
    · simp only [mX5_known, X_sen_f _ c0, nS_none, cl_mk, nm_mk, pu_mk, lit, if_true, if_false, ne_eq, not_false_eq_true, not_true_eq_false, nI_add, nI_or, nI_and, Bool.false_eq_true, ne01, ne10, nI_m1', Nat.or_zero]
    · simp only [mX6_known, M_sen_f _ c0, cl_mk, nm_mk, pu_mk, lit, if_true, if_false, ne_eq, not_false_eq_true, not_true_eq_false, nI_add, nI_or, nI_and, Bool.false_eq_true, ne01, ne10, nI_m1', Nat.or_zero]
  obtain ⟨i, hi, rfl⟩ := c0
  have hcl := cls_sen i hi
  obtain ⟨wX2, f1, f2⟩ := X_where hX hN hi (hS i hi).1 (hS i hi).2.1 (s := 0) (by decide)
  obtain ⟨w3, g1, g2⟩ := M_held hM0 hN hi (hS i hi).1 ((hS i hi).2.2.k (KM0 wM))
  have e1 := X_allLead (hX.k f2) hN (holdV N A (seenS N S 0) (D i))
  have e2 := M_known25 (hM0.k g2) hN (holdV N A (seenS N S 0) (D i))
  refine pub_same hR (nI (orF (knF N S (holdV N A (seenS N S 0) (D i))) N)) ?_ ?_ f2 ((KM0 wM).tr g2)
  · simp only [mX5_known, X_sen_t _ hi, nS_some hcl, f1, e1, cl_mk, nm_mk, pu_mk, lit, if_true, if_false, ne_eq, not_false_eq_true, not_true_eq_false, nI_add, nI_or, nI_and, Bool.false_eq_true, ne01, ne10, nI_m1', Nat.or_zero]
  · simp only [mX6_known, M_sen_t _ hi, g1, cl_mk, nm_mk, pu_mk, lit, if_true, if_false, ne_eq, not_false_eq_true, not_true_eq_false, nI_add, nI_or, nI_and, Bool.false_eq_true, ne01, ne10, nI_m1', Nat.or_zero]
    exact e2
theorem pub_steps : Pub_steps Rel := by
  rintro wX wM ⟨N, S, A, T, y, D, h⟩ v0 v1
  have hR := h
  obtain ⟨hN, hX, hM, hT, h2, hS, h12⟩ := h
  have hM0 : NetM (am_set wM 0 0 0 (nI 0)) N S A := hM.k (KM0 wM)
  by_cases c0 : ∃ k, k < 6 ∧ v0 = nI k
  rotate_left
  · refine pub_same hR (-nI 1) ?_ ?_ (KX.rf _) (KM0 wM)
    · simp only [mX5_steps, X_sen_f _ c0, nS_none, cl_mk, nm_mk, pu_mk, lit, if_true, if_false, ne_eq, not_false_eq_true, not_true_eq_false, nI_add, nI_or, nI_and, Bool.false_eq_true, ne01, ne10, nI_m1', Nat.or_zero]
    · simp only [mX6_steps, M_sen_f _ c0, cl_mk, nm_mk, pu_mk, lit, if_true, if_false, ne_eq, not_false_eq_true, not_true_eq_false, nI_add, nI_or, nI_and, Bool.false_eq_true, ne01, ne10, nI_m1', Nat.or_zero]
  obtain ⟨i, hi, rfl⟩ := c0
  have hcl := cls_sen i hi
  by_cases c1 : ∃ k, k < N ∧ v1 = nI k
  rotate_left
  · refine pub_same hR (-nI 1) ?_ ?_ (KX.rf _) (KM0 wM)
    · simp only [mX5_steps, X_sen_t _ hi, nS_some hcl, X_has_f hX hN c1, cl_mk, nm_mk, pu_mk, lit, if_true, if_false, ne_eq, not_false_eq_true, not_true_eq_false, nI_add, nI_or, nI_and, Bool.false_eq_true, ne01, ne10, nI_m1', Nat.or_zero]
    · simp only [mX6_steps, M_sen_t _ hi, M_world_f hM0 hN c1, cl_mk, nm_mk, pu_mk, lit, if_true, if_false, ne_eq, not_false_eq_true, not_true_eq_false, nI_add, nI_or, nI_and, Bool.false_eq_true, ne01, ne10, nI_m1', Nat.or_zero]
  obtain ⟨k, hk, rfl⟩ := c1
  obtain ⟨wX2, f1, f2⟩ := X_where hX hN hi (hS i hi).1 (hS i hi).2.1 (s := 0) (by decide)
  obtain ⟨w3, g1, g2⟩ := M_held hM0 hN hi (hS i hi).1 ((hS i hi).2.2.k (KM0 wM))
  obtain ⟨x, hx⟩ := StIs_ex N S (holdV N A (seenS N S 0) (D i)) k
  have e1 := X_steps (hX.k f2) hN hk hx
  have e2 := M_steps36 (hM0.k g2) hN hk hx
  refine pub_same hR x ?_ ?_ f2 ((KM0 wM).tr g2)
  · simp only [mX5_steps, X_sen_t _ hi, nS_some hcl, X_has_t hX hN hk, f1, e1, cl_mk, nm_mk, pu_mk, lit, if_true, if_false, ne_eq, not_false_eq_true, not_true_eq_false, nI_add, nI_or, nI_and, Bool.false_eq_true, ne01, ne10, nI_m1', Nat.or_zero]
  · have := hN.2.1
    simp only [mX6_steps, M_sen_t _ hi, M_world_t hM0 hN hk, g1, one_shl (show k < 31 by omega), cl_mk, nm_mk, pu_mk, lit, if_true, if_false, ne_eq, not_false_eq_true, not_true_eq_false, nI_add, nI_or, nI_and, Bool.false_eq_true, ne01, ne10, nI_m1', Nat.or_zero]
    exact e2
end
section
/-! tell -/
def pkF (st a : Nat) : Nat → Nat
  | 0 => 0
  | n + 1 => if st.testBit n = true then pkF st a n ||| bN (a.testBit n) * 2 ^ (cntB st n) else pkF st a n
theorem pkF_lt (st a : Nat) : ∀ n, pkF st a n < 2 ^ (cntB st n)
  | 0 => Nat.one_pos
  | n + 1 => by
    have ih := pkF_lt st a n
    show (if st.testBit n = true then pkF st a n ||| bN (a.testBit n) * 2 ^ (cntB st n) else pkF st a n) < 2 ^ (cntB st n + (if st.testBit n = true then 1 else 0))
    cases q : st.testBit n
    · simp only [Bool.false_eq_true, if_false, Nat.add_zero]
      exact ih
    · simp only [if_true]
      refine or_lt (Nat.lt_of_lt_of_le ih (Nat.pow_le_pow_right (by decide) (by omega))) ?_
      have h2 : 2 ^ cntB st n < 2 ^ (cntB st n + 1) := Nat.pow_lt_pow_right (by decide) (by omega)
      have := bN_lt (a.testBit n)
      rcases (show bN (a.testBit n) = 0 ∨ bN (a.testBit n) = 1 by omega) with z | z
      · rw [z, Nat.zero_mul]; exact Nat.two_pow_pos _
      · rw [z, Nat.one_mul]; exact h2
theorem cnt_high {st N n : Nat} (h : st < 2 ^ N) (hn : N ≤ n) : cntB st n = cntB st N := by
  obtain ⟨d, rfl⟩ := Nat.exists_eq_add_of_le hn
  clear hn
  induction d with
  | zero => rfl
  | succ d ih =>
    show cntB st (N + d) + (if st.testBit (N + d) = true then 1 else 0) = _
    rw [bits_of_lt h (by omega), ih]
    rfl
theorem pkF_high {st a N n : Nat} (h : st < 2 ^ N) (hn : N ≤ n) : pkF st a n = pkF st a N := by
  obtain ⟨d, rfl⟩ := Nat.exists_eq_add_of_le hn
  clear hn
  induction d with
  | zero => rfl
  | succ d ih =>
    show (if st.testBit (N + d) = true then _ else pkF st a (N + d)) = _
    rw [bits_of_lt h (by omega), ih]
    rfl
theorem cnt_mono (st : Nat) {a b : Nat} (h : a ≤ b) : cntB st a ≤ cntB st b := by
  obtain ⟨d, rfl⟩ := Nat.exists_eq_add_of_le h
  clear h
  induction d with
  | zero => exact Nat.le_refl _
  | succ d ih => exact Nat.le_trans ih (Nat.le_add_right _ _)
/-- the rows closed up in place, of the first n worlds -/
def kpS (N st : Nat) (S : Nat → Nat) : Nat → Nat → Nat
  | 0 => S
  | n + 1 => fun k => if st.testBit n = true ∧ k = cntB st n then pkF st (S n) N else kpS N st S n k
theorem kpS_high {N st : Nat} {S : Nat → Nat} : ∀ n k, n ≤ k → kpS N st S n k = S k := by
  intro n
  induction n with
  | zero => intro k _; rfl
  | succ n ih =>
    intro k hk
    have := cntB_le st n
    show (if st.testBit n = true ∧ k = cntB st n then _ else kpS N st S n k) = S k
    rw [if_neg (by omega), ih k (by omega)]
theorem kpS_lt {N st : Nat} {S : Nat → Nat} : ∀ n k, k < cntB st n → kpS N st S n k < 2 ^ (cntB st N) := by
  intro n
  induction n with
  | zero => intro k hk; exact absurd hk (Nat.not_lt_zero k)
  | succ n ih =>
    intro k hk
    show (if st.testBit n = true ∧ k = cntB st n then _ else kpS N st S n k) < _
    split
    · exact pkF_lt st (S n) N
    · rename_i h
      refine ih k ?_
      unfold cntB at hk
      split at hk
      · rename_i h2
        have : k ≠ cntB st n := fun e => h ⟨h2, e⟩
        omega
      · omega
def kpW (W : AW) (o a N st : Nat) (S : Nat → Nat) : Nat → AW
  | 0 => W
  | n + 1 => if st.testBit n = true then am_set (kpW W o a N st S n) o a (cntB st n) (nI (pkF st (S n) N)) else kpW W o a N st S n
section KW
variable {W : AW} {o a N st : Nat} {S : Nat → Nat}
theorem kpW_row {o' a' : Nat} (h : o' ≠ o ∨ a' ≠ a) : ∀ n, (kpW W o a N st S n).1 o' a' = W.1 o' a'
  | 0 => rfl
  | n + 1 => by
    unfold kpW
    split
    · exact (am_get_row h).trans (kpW_row h n)
    · exact kpW_row h n
theorem kpW_2 : ∀ n, (kpW W o a N st S n).2 = W.2
  | 0 => rfl
  | n + 1 => by
    unfold kpW
    split
    · exact kpW_2 n
    · exact kpW_2 n
theorem kpW_in (h : ∀ k, k < 8 → W.1 o a k = nI (S k)) : ∀ n k, k < 8 → (kpW W o a N st S n).1 o a k = nI (kpS N st S n k) := by
  intro n
  induction n with
  | zero => exact h
  | succ n ih =>
    intro k hk
    unfold kpW kpS
    by_cases q : st.testBit n = true
    · rw [if_pos q]
      by_cases e : k = cntB st n
      · rw [if_pos ⟨q, e⟩, ← e, am_get_self]
      · rw [if_neg (fun z => e z.2), am_get_other e]
        exact ih k hk
    · rw [if_neg q, if_neg (fun z => q z.1)]
      exact ih k hk
end KW
section TL
variable {w : AW} {N : Nat} {S A : Nat → Nat}
theorem bit_B {a k : Nat} (w : AW) (ha : a < 2 ^ 32) (hk : k < 32) : mX5_bit (nI a) (nI k) w = some (nI (bN (a.testBit k)), w) := by
  rw [bit_eq w ha hk]
  rfl
theorem pk_small {st a n : Nat} (hn : n < 8) : bN (a.testBit n) * 2 ^ (cntB st n) < 2 ^ 32 := by
  have h1 := cntB_le st n
  have h2 : 2 ^ cntB st n ≤ 2 ^ 8 := Nat.pow_le_pow_right (by decide) (by omega)
  have := bN_lt (a.testBit n)
  rcases (show bN (a.testBit n) = 0 ∨ bN (a.testBit n) = 1 by omega) with z | z
  · rw [z]; omega
  · rw [z]; omega
theorem X_closedUp (hz : w.1 1 0 2 = nI N) (h8 : N ≤ 8) {st a : Nat} (hst : st < 2 ^ N) (ha : a < 2 ^ N) : mX0_closedUp (nI a) (nI st) w = some (nI (pkF st a N), w) := by
  have h256 := two_le h8
  unfold mX0_closedUp
  refine loopE (fun n (s : Int32 × Int32 × Int32) => mX0_closedUp_8 (nI a) (nI st) n s.1 s.2.1 s.2.2 w) N (fun k => (nI (pkF st a k), nI (cntB st k), nI k)) _ ?_ ?_ FU 0 (Nat.zero_le _) (FU_gt (by omega))
  · intro n k hk
    have c1 : ¬ nI N ≤ nI k := nI_ge hk (by omega)
    have hc := cntB_le st k
    cases q : st.testBit k
    · simp only [mX0_closedUp_8, mX0_closedUp_44, hz, c1, bit_f w (show st < 2 ^ 32 by omega) (show k < 32 by omega) q, pkF, cntB, q, Nat.add_zero, cl_mk, nm_mk, pu_mk, lit, if_true, if_false, ne_eq, not_false_eq_true, not_true_eq_false, nI_add, nI_or, nI_and, Bool.false_eq_true, ne01, ne10, nI_m1', Nat.or_zero]
    · simp only [mX0_closedUp_8, mX0_closedUp_44, hz, c1, bit_t w (show st < 2 ^ 32 by omega) (show k < 32 by omega) q, bit_B w (show a < 2 ^ 32 by omega) (show k < 32 by omega), shlN (show cntB st k < 32 by omega) (pk_small (st := st) (a := a) (show k < 8 by omega)), pkF, cntB, q, cl_mk, nm_mk, pu_mk, lit, if_true, if_false, ne_eq, not_false_eq_true, not_true_eq_false, nI_add, nI_or, nI_and, Bool.false_eq_true, ne01, ne10, nI_m1', Nat.or_zero]
  · intro n
    have c1 : nI N ≤ nI N := nI_le (Nat.le_refl N) (by omega)
    simp only [mX0_closedUp_8, hz, c1, cl_mk, nm_mk, pu_mk, lit, if_true, if_false, ne_eq, not_false_eq_true, not_true_eq_false, nI_add, nI_or, nI_and, Bool.false_eq_true, ne01, ne10, nI_m1', Nat.or_zero]
theorem shr_B {a k : Nat} (hk : k < 32) (h : a < 2 ^ 31) : nI a >>> nI (k &&& 31) &&& nI 1 = nI (bN (a.testBit k)) := shr_bit hk h
theorem M_packed (h8 : N ≤ 8) {st a : Nat} (hst : st < 2 ^ N) (ha : a < 2 ^ N) : mX6_packed (nI a) (nI st) w = some (nI (pkF st a N), w) := by
  have h256 := two_le h8
  rw [← pkF_high (n := 8) hst h8]
  unfold mX6_packed
  refine loopE (fun n (s : Int32 × Int32 × Int32) => mX6_packed_7 (nI a) (nI st) n s.1 s.2.1 s.2.2 w) 8 (fun k => (nI (pkF st a k), nI (cntB st k), nI k)) _ ?_ ?_ FU 0 (Nat.zero_le _) (FU_gt (by omega))
  · intro n k hk
    have c1 : ¬ nI 8 ≤ nI k := nI_ge hk (by omega)
    have hc := cntB_le st k
    cases q : st.testBit k
    · simp only [mX6_packed_7, mX6_packed_38, c1, shr_f (show k < 32 by omega) (show st < 2 ^ 31 by omega) q, pkF, cntB, q, Nat.add_zero, cl_mk, nm_mk, pu_mk, lit, if_true, if_false, ne_eq, not_false_eq_true, not_true_eq_false, nI_add, nI_or, nI_and, Bool.false_eq_true, ne01, ne10, nI_m1', Nat.or_zero]
    · simp only [mX6_packed_7, mX6_packed_38, c1, shr_t (show k < 32 by omega) (show st < 2 ^ 31 by omega) q, shr_B (show k < 32 by omega) (show a < 2 ^ 31 by omega), shlN (show cntB st k < 32 by omega) (pk_small (st := st) (a := a) (show k < 8 by omega)), pkF, cntB, q, cl_mk, nm_mk, pu_mk, lit, if_true, if_false, ne_eq, not_false_eq_true, not_true_eq_false, nI_add, nI_or, nI_and, Bool.false_eq_true, ne01, ne10, nI_m1', Nat.or_zero]
  · intro n
    have c1 : nI 8 ≤ nI 8 := by decide
    simp only [mX6_packed_7, c1, cl_mk, nm_mk, pu_mk, lit, if_true, if_false, ne_eq, not_false_eq_true, not_true_eq_false, nI_add, nI_or, nI_and, Bool.false_eq_true, ne01, ne10, nI_m1', Nat.or_zero]
def tlX (w : AW) (N st : Nat) (S A : Nat → Nat) : AW := am_set (setRow (setAt (kpW w 1 1 N st S N) 1 1 (cntB st N) (fun _ => nI 0) (N - cntB st N)) 1 2 (fun i => nI (pkF st (A i) N)) 4) 1 0 2 (nI (cntB st N))
theorem X_keep (h : NetX w N S A) (hN : NetOK N S A) {st : Nat} (hst : st < 2 ^ N) : mX0_keep (nI st) w = some ((), tlX w N st S A) := by
  have h8 := hN.2.1
  have h256 := two_le h8
  have hcN := cntB_le st N
  have e3 : ∀ W, W.1 1 0 2 = nI N → (∀ i, i < 4 → W.1 1 2 i = nI (A i)) → mX0_keep_80 (nI st) (nI (cntB st N)) FU (nI 0) W = some ((), am_set (setRow W 1 2 (fun i => nI (pkF st (A i) N)) 4) 1 0 2 (nI (cntB st N))) := by
    intro W hz hA
    refine loopE (fun n (s : Int32 × AW) => mX0_keep_80 (nI st) (nI (cntB st N)) n s.1 s.2) 4 (fun k => (nI k, setRow W 1 2 (fun i => nI (pkF st (A i) N)) k)) _ ?_ ?_ FU 0 (Nat.zero_le _) (FU_gt (by omega))
    · intro n k hk
      have c1 : ¬ nI 4 ≤ nI k := nI_ge hk (by omega)
      have e1 : mX5_at 1 2 (nI k) (setRow W 1 2 (fun i => nI (pkF st (A i) N)) k) = some (nI (A k), setRow W 1 2 (fun i => nI (pkF st (A i) N)) k) := by
        rw [at_in _ (by rw [aL_1_2]; exact hk) (by rw [aL_1_2]; decide), setRow_out k (Nat.le_refl k), hA k hk]
      have e2 := X_closedUp (w := setRow W 1 2 (fun i => nI (pkF st (A i) N)) k) (by rw [setRow_row (by decide), hz]) h8 hst (hN.2.2.2.2 k)
      have e4 : ∀ x, mX5_put 1 2 (nI k) x (setRow W 1 2 (fun i => nI (pkF st (A i) N)) k) = some ((), am_set (setRow W 1 2 (fun i => nI (pkF st (A i) N)) k) 1 2 k x) := fun x => put_in _ (by rw [aL_1_2]; exact hk) (by rw [aL_1_2]; decide)
      simp only [mX0_keep_80, c1, e1, e2, e4, cl_mk, nm_mk, pu_mk, lit, if_true, if_false, ne_eq, not_false_eq_true, not_true_eq_false, nI_add, nI_or, nI_and, Bool.false_eq_true, ne01, ne10, nI_m1', Nat.or_zero]
      rfl
    · intro n
      have c1 : nI 4 ≤ nI 4 := by decide
      simp only [mX0_keep_80, c1, cl_mk, nm_mk, pu_mk, lit, if_true, if_false, ne_eq, not_false_eq_true, not_true_eq_false, nI_add, nI_or, nI_and, Bool.false_eq_true, ne01, ne10, nI_m1', Nat.or_zero]
  have e2 : ∀ W, W.1 1 0 2 = nI N → (∀ i, i < 4 → W.1 1 2 i = nI (A i)) → mX0_keep_55 (nI st) (nI (cntB st N)) FU (nI (cntB st N)) W = some ((), am_set (setRow (setAt W 1 1 (cntB st N) (fun _ => nI 0) (N - cntB st N)) 1 2 (fun i => nI (pkF st (A i) N)) 4) 1 0 2 (nI (cntB st N))) := by
    intro W hz hA
    refine loopE (fun n (s : Int32 × AW) => mX0_keep_55 (nI st) (nI (cntB st N)) n s.1 s.2) (N - cntB st N) (fun k => (nI (cntB st N + k), setAt W 1 1 (cntB st N) (fun _ => nI 0) k)) _ ?_ ?_ FU 0 (Nat.zero_le _) (FU_gt (by omega))
    · intro n k hk
      have c1 : ¬ nI N ≤ nI (cntB st N + k) := nI_ge (by omega) (by omega)
      have hz2 : (setAt W 1 1 (cntB st N) (fun _ => nI 0) k).1 1 0 2 = nI N := by rw [setAt_row (by decide), hz]
      have e4 : ∀ x, mX5_put 1 1 (nI (cntB st N + k)) x (setAt W 1 1 (cntB st N) (fun _ => nI 0) k) = some ((), am_set (setAt W 1 1 (cntB st N) (fun _ => nI 0) k) 1 1 (cntB st N + k) x) := fun x => put_in _ (by rw [aL_1_1]; omega) (by rw [aL_1_1]; decide)
      simp only [mX0_keep_55, hz2, c1, e4, Nat.add_assoc, cl_mk, nm_mk, pu_mk, lit, if_true, if_false, ne_eq, not_false_eq_true, not_true_eq_false, nI_add, nI_or, nI_and, Bool.false_eq_true, ne01, ne10, nI_m1', Nat.or_zero]
      rfl
    · intro n
      have c1 : nI N ≤ nI (cntB st N + (N - cntB st N)) := nI_le (by omega) (by omega)
      have hz2 : (setAt W 1 1 (cntB st N) (fun _ => nI 0) (N - cntB st N)).1 1 0 2 = nI N := by rw [setAt_row (by decide), hz]
      have g := e3 (setAt W 1 1 (cntB st N) (fun _ => nI 0) (N - cntB st N)) hz2 (fun i hi => by rw [setAt_row (by decide), hA i hi])
      simp only [mX0_keep_55, hz2, c1, cl_mk, nm_mk, pu_mk, lit, if_true, if_false, ne_eq, not_false_eq_true, not_true_eq_false, nI_add, nI_or, nI_and, Bool.false_eq_true, ne01, ne10, nI_m1', Nat.or_zero]
      exact g
  unfold mX0_keep
  refine loopE (fun n (s : Int32 × Int32 × AW) => mX0_keep_4 (nI st) n s.1 s.2.1 s.2.2) N (fun k => (nI (cntB st k), nI k, kpW w 1 1 N st S k)) _ ?_ ?_ FU 0 (Nat.zero_le _) (FU_gt (by omega))
  · intro n k hk
    have c1 : ¬ nI N ≤ nI k := nI_ge hk (by omega)
    have hz2 : (kpW w 1 1 N st S k).1 1 0 2 = nI N := by rw [kpW_row (by decide), h.1]
    have hck := cntB_le st k
    cases q : st.testBit k
    · have e5 : kpW w 1 1 N st S (k + 1) = kpW w 1 1 N st S k := by
        show (if st.testBit k = true then _ else _) = _
        rw [q]
        rfl
      simp only [mX0_keep_4, mX0_keep_47, hz2, c1, bit_f _ (show st < 2 ^ 32 by omega) (show k < 32 by omega) q, cntB, q, Nat.add_zero, e5, cl_mk, nm_mk, pu_mk, lit, if_true, if_false, ne_eq, not_false_eq_true, not_true_eq_false, nI_add, nI_or, nI_and, Bool.false_eq_true, ne01, ne10, nI_m1', Nat.or_zero]
    · have e5 : kpW w 1 1 N st S (k + 1) = am_set (kpW w 1 1 N st S k) 1 1 (cntB st k) (nI (pkF st (S k) N)) := by
        show (if st.testBit k = true then _ else _) = _
        rw [q]
        rfl
      have e1 : mX5_at 1 1 (nI k) (kpW w 1 1 N st S k) = some (nI (S k), kpW w 1 1 N st S k) := by
        rw [at_in _ (by rw [aL_1_1]; omega) (by rw [aL_1_1]; decide), kpW_in h.2.1 k k (by omega), kpS_high k k (Nat.le_refl k)]
      have e2 := X_closedUp (w := kpW w 1 1 N st S k) hz2 h8 hst (hN.2.2.1 k)
      have e4 : ∀ x, mX5_put 1 1 (nI (cntB st k)) x (kpW w 1 1 N st S k) = some ((), am_set (kpW w 1 1 N st S k) 1 1 (cntB st k) x) := fun x => put_in _ (by rw [aL_1_1]; omega) (by rw [aL_1_1]; decide)
      simp only [mX0_keep_4, mX0_keep_47, hz2, c1, bit_t _ (show st < 2 ^ 32 by omega) (show k < 32 by omega) q, e1, e2, e4, cntB, q, e5, cl_mk, nm_mk, pu_mk, lit, if_true, if_false, ne_eq, not_false_eq_true, not_true_eq_false, nI_add, nI_or, nI_and, Bool.false_eq_true, ne01, ne10, nI_m1', Nat.or_zero]
  · intro n
    have c1 : nI N ≤ nI N := nI_le (Nat.le_refl N) (by omega)
    have hz2 : (kpW w 1 1 N st S N).1 1 0 2 = nI N := by rw [kpW_row (by decide), h.1]
    have g := e2 (kpW w 1 1 N st S N) hz2 (fun i hi => by rw [kpW_row (by decide), h.2.2 i hi])
    simp only [mX0_keep_4, hz2, c1, cl_mk, nm_mk, pu_mk, lit, if_true, if_false, ne_eq, not_false_eq_true, not_true_eq_false, nI_add, nI_or, nI_and, Bool.false_eq_true, ne01, ne10, nI_m1', Nat.or_zero]
    exact g
def tlM (w : AW) (N st : Nat) (S A : Nat → Nat) : AW := am_set (setAt (setRow (kpW w 0 4 N st S N) 0 5 (fun i => nI (pkF st (A i) N)) 4) 0 4 (cntB st N) (fun _ => nI 0) (8 - cntB st N)) 0 0 2 (nI (cntB st N))
theorem M_tell32 (h : NetM w N S A) (hN : NetOK N S A) {st : Nat} (hst : st < 2 ^ N) : mX6_tell_32 (nI st) FU (nI 0) (nI 0) w = some (nI (cntB st N), tlM w N st S A) := by
  have h8 := hN.2.1
  have h256 := two_le h8
  have hcN := cntB_le st N
  have e3 : ∀ W, mX6_tell_113 (nI (cntB st N)) FU (nI (cntB st N)) W = some (nI (cntB st N), am_set (setAt W 0 4 (cntB st N) (fun _ => nI 0) (8 - cntB st N)) 0 0 2 (nI (cntB st N))) := by
    intro W
    refine loopE (fun n (s : Int32 × AW) => mX6_tell_113 (nI (cntB st N)) n s.1 s.2) (8 - cntB st N) (fun k => (nI (cntB st N + k), setAt W 0 4 (cntB st N) (fun _ => nI 0) k)) _ ?_ ?_ FU 0 (Nat.zero_le _) (FU_gt (by omega))
    · intro n k hk
      have c1 : ¬ nI 8 ≤ nI (cntB st N + k) := nI_ge (by omega) (by omega)
      simp only [mX6_tell_113, c1, wr_in (show cntB st N + k < 8 by omega) (show 8 < 2 ^ 31 by decide), Nat.add_assoc, cl_mk, nm_mk, pu_mk, lit, if_true, if_false, ne_eq, not_false_eq_true, not_true_eq_false, nI_add, nI_or, nI_and, Bool.false_eq_true, ne01, ne10, nI_m1', Nat.or_zero]
      rfl
    · intro n
      have c1 : nI 8 ≤ nI (cntB st N + (8 - cntB st N)) := nI_le (by omega) (by omega)
      simp only [mX6_tell_113, c1, am_get_self, cl_mk, nm_mk, pu_mk, lit, if_true, if_false, ne_eq, not_false_eq_true, not_true_eq_false, nI_add, nI_or, nI_and, Bool.false_eq_true, ne01, ne10, nI_m1', Nat.or_zero]
  have e2 : ∀ W, (∀ i, i < 4 → W.1 0 5 i = nI (A i)) → mX6_tell_80 (nI st) (nI (cntB st N)) FU (nI 0) W = some (nI (cntB st N), am_set (setAt (setRow W 0 5 (fun i => nI (pkF st (A i) N)) 4) 0 4 (cntB st N) (fun _ => nI 0) (8 - cntB st N)) 0 0 2 (nI (cntB st N))) := by
    intro W hA
    refine loopE (fun n (s : Int32 × AW) => mX6_tell_80 (nI st) (nI (cntB st N)) n s.1 s.2) 4 (fun k => (nI k, setRow W 0 5 (fun i => nI (pkF st (A i) N)) k)) _ ?_ ?_ FU 0 (Nat.zero_le _) (FU_gt (by omega))
    · intro n k hk
      have c1 : ¬ nI 4 ≤ nI k := nI_ge hk (by omega)
      have r1 : ∀ f : Int32 → Option (Int32 × AW), rd 4 ((setRow W 0 5 (fun i => nI (pkF st (A i) N)) k).1 0 5) (nI k) f = f (nI (A k)) := fun f => by
        rw [rd_in hk (by decide), setRow_out k (Nat.le_refl k), hA k hk]
      have e2 := M_packed (w := setRow W 0 5 (fun i => nI (pkF st (A i) N)) k) h8 hst (hN.2.2.2.2 k)
      simp only [mX6_tell_80, c1, r1, e2, wr_in hk (show 4 < 2 ^ 31 by decide), cl_mk, nm_mk, pu_mk, lit, if_true, if_false, ne_eq, not_false_eq_true, not_true_eq_false, nI_add, nI_or, nI_and, Bool.false_eq_true, ne01, ne10, nI_m1', Nat.or_zero]
      rfl
    · intro n
      have c1 : nI 4 ≤ nI 4 := by decide
      simp only [mX6_tell_80, c1, e3, cl_mk, nm_mk, pu_mk, lit, if_true, if_false, ne_eq, not_false_eq_true, not_true_eq_false, nI_add, nI_or, nI_and, Bool.false_eq_true, ne01, ne10, nI_m1', Nat.or_zero]
  refine loopE (fun n (s : Int32 × Int32 × AW) => mX6_tell_32 (nI st) n s.1 s.2.1 s.2.2) N (fun k => (nI (cntB st k), nI k, kpW w 0 4 N st S k)) _ ?_ ?_ FU 0 (Nat.zero_le _) (FU_gt (by omega))
  · intro n k hk
    have c1 : ¬ nI N ≤ nI k := nI_ge hk (by omega)
    have hz2 : (kpW w 0 4 N st S k).1 0 0 2 = nI N := by rw [kpW_row (by decide), h.1]
    have hck := cntB_le st k
    cases q : st.testBit k
    · have e5 : kpW w 0 4 N st S (k + 1) = kpW w 0 4 N st S k := by
        show (if st.testBit k = true then _ else _) = _
        rw [q]
        rfl
      simp only [mX6_tell_32, mX6_tell_71, hz2, c1, shr_f (show k < 32 by omega) (show st < 2 ^ 31 by omega) q, cntB, q, Nat.add_zero, e5, cl_mk, nm_mk, pu_mk, lit, if_true, if_false, ne_eq, not_false_eq_true, not_true_eq_false, nI_add, nI_or, nI_and, Bool.false_eq_true, ne01, ne10, nI_m1', Nat.or_zero]
    · have e5 : kpW w 0 4 N st S (k + 1) = am_set (kpW w 0 4 N st S k) 0 4 (cntB st k) (nI (pkF st (S k) N)) := by
        show (if st.testBit k = true then _ else _) = _
        rw [q]
        rfl
      have r1 : ∀ f : Int32 → Option (Int32 × AW), rd 8 ((kpW w 0 4 N st S k).1 0 4) (nI k) f = f (nI (S k)) := fun f => by
        rw [rd_in (by omega) (by decide), kpW_in h.2.1 k k (by omega), kpS_high k k (Nat.le_refl k)]
      have e2 := M_packed (w := kpW w 0 4 N st S k) h8 hst (hN.2.2.1 k)
      simp only [mX6_tell_32, mX6_tell_71, hz2, c1, shr_t (show k < 32 by omega) (show st < 2 ^ 31 by omega) q, r1, e2, wr_in (show cntB st k < 8 by omega) (show 8 < 2 ^ 31 by decide), cntB, q, e5, cl_mk, nm_mk, pu_mk, lit, if_true, if_false, ne_eq, not_false_eq_true, not_true_eq_false, nI_add, nI_or, nI_and, Bool.false_eq_true, ne01, ne10, nI_m1', Nat.or_zero]
  · intro n
    have c1 : nI N ≤ nI N := nI_le (Nat.le_refl N) (by omega)
    have hz2 : (kpW w 0 4 N st S N).1 0 0 2 = nI N := by rw [kpW_row (by decide), h.1]
    have g := e2 (kpW w 0 4 N st S N) (fun i hi => by rw [kpW_row (by decide), h.2.2 i hi])
    simp only [mX6_tell_32, hz2, c1, cl_mk, nm_mk, pu_mk, lit, if_true, if_false, ne_eq, not_false_eq_true, not_true_eq_false, nI_add, nI_or, nI_and, Bool.false_eq_true, ne01, ne10, nI_m1', Nat.or_zero]
    exact g
end TL
theorem pub_tell : Pub_tell Rel := by
  rintro wX wM ⟨N, S, A, T, y, D, h⟩ v0
  have hR := h
  obtain ⟨hN, hX, hM, hT, h2, hS, h12⟩ := h
  have hM0 : NetM (am_set wM 0 0 0 (nI 0)) N S A := hM.k (KM0 wM)
  have h8 := hN.2.1
  have h256 := two_le h8
  by_cases c0 : ∃ k, k < 6 ∧ v0 = nI k
  rotate_left
  · refine pub_same hR (-nI 1) ?_ ?_ (KX.rf _) (KM0 wM)
    · simp only [mX5_tell, X_sen_f _ c0, nS_none, cl_mk, nm_mk, pu_mk, lit, if_true, if_false, ne_eq, not_false_eq_true, not_true_eq_false, nI_add, nI_or, nI_and, Bool.false_eq_true, ne01, ne10, nI_m1', Nat.or_zero]
    · simp only [mX6_tell, M_sen_f _ c0, cl_mk, nm_mk, pu_mk, lit, if_true, if_false, ne_eq, not_false_eq_true, not_true_eq_false, nI_add, nI_or, nI_and, Bool.false_eq_true, ne01, ne10, nI_m1', Nat.or_zero]
  obtain ⟨i, hi, rfl⟩ := c0
  have hcl := cls_sen i hi
  obtain ⟨wX2, f1, f2⟩ := X_where hX hN hi (hS i hi).1 (hS i hi).2.1 (s := 0) (by decide)
  obtain ⟨w3, g1, g2⟩ := M_held hM0 hN hi (hS i hi).1 ((hS i hi).2.2.k (KM0 wM))
  have hst : holdV N A (seenS N S 0) (D i) < 2 ^ N := holdV_lt hN.2.2.2.2 (hS i hi).1
  generalize holdV N A (seenS N S 0) (D i) = st at f1 g1 hst
  by_cases q : st = 0
  · subst q
    refine pub_same hR (-nI 2) ?_ ?_ f2 ((KM0 wM).tr g2)
    · simp only [mX5_tell, X_sen_t _ hi, nS_some hcl, f1, cl_mk, nm_mk, pu_mk, lit, if_true, if_false, ne_eq, not_false_eq_true, not_true_eq_false, nI_add, nI_or, nI_and, Bool.false_eq_true, ne01, ne10, nI_m1', Nat.or_zero]
    · simp only [mX6_tell, M_sen_t _ hi, g1, cl_mk, nm_mk, pu_mk, lit, if_true, if_false, ne_eq, not_false_eq_true, not_true_eq_false, nI_add, nI_or, nI_and, Bool.false_eq_true, ne01, ne10, nI_m1', Nat.or_zero]
  have q2 : (nI st = nI 0) = False := eq_false (fun z => q ((nI_eq (by omega) (by decide)).mp z))
  have hc1 : 1 ≤ cntB st N := by
    rcases Nat.eq_zero_or_pos (cntB st N) with z | z
    · exfalso
      apply q
      refine zero_iff_bits.mpr (fun k => ?_)
      cases e : st.testBit k
      · rfl
      · rcases Nat.lt_or_ge k N with y | y
        · have := cntB_pos y e; omega
        · rw [bits_of_lt hst y] at e; cases e
    · exact z
  have hc2 := cntB_le st N
  obtain ⟨hN', hX', hM', hT', h2', hS', h12'⟩ := hR.k f2 ((KM0 wM).tr g2)
  have e1 := X_keep hX' hN hst
  have e2 := M_tell32 hM' hN hst
  have ez : mX0_size (tlX wX2 N st S A) = some (nI (cntB st N), tlX wX2 N st S A) := by
    unfold mX0_size tlX
    rw [am_get_self]
  refine ⟨nI (cntB st N), tlX wX2 N st S A, tlM w3 N st S A, ?_, ?_, cntB st N, (fun k => if k < cntB st N then kpS N st S N k else 0), (fun i => pkF st (A i) N), T, y, D, ⟨hc1, by omega, fun k => ?_, fun k hk => ?_, fun i => pkF_lt st (A i) N⟩, ⟨?_, fun k hk => ?_, fun i hi => ?_⟩, ⟨?_, fun k hk => ?_, fun i hi => ?_⟩, ?_, ?_, ?_, ?_⟩
  · simp only [mX5_tell, X_sen_t _ hi, nS_some hcl, f1, q2, e1, ez, cl_mk, nm_mk, pu_mk, lit, if_true, if_false, ne_eq, not_false_eq_true, not_true_eq_false, nI_add, nI_or, nI_and, Bool.false_eq_true, ne01, ne10, nI_m1', Nat.or_zero]
  · simp only [mX6_tell, M_sen_t _ hi, g1, q2, cl_mk, nm_mk, pu_mk, lit, if_true, if_false, ne_eq, not_false_eq_true, not_true_eq_false, nI_add, nI_or, nI_and, Bool.false_eq_true, ne01, ne10, nI_m1', Nat.or_zero]
    exact e2
  · show (if k < cntB st N then kpS N st S N k else 0) < _
    split
    · rename_i hk
      exact kpS_lt N k hk
    · exact Nat.two_pow_pos _
  · show (if k < cntB st N then kpS N st S N k else 0) = 0
    rw [if_neg (by omega)]
  · unfold tlX
    rw [am_get_self]
  · unfold tlX
    rw [am_get_row (by decide), setRow_row (by decide)]
    dsimp only
    by_cases z : k < cntB st N
    · rw [if_pos z, setAt_out z, kpW_in hX'.2.1 N k hk]
    · rw [if_neg z]
      by_cases z2 : k < N
      · have g := setAt_in (w := kpW wX2 1 1 N st S N) (o := 1) (a := 1) (z0 := cntB st N) (i := k - cntB st N) (f := fun _ => nI 0) (N - cntB st N) (by omega)
        rw [show cntB st N + (k - cntB st N) = k by omega] at g
        exact g
      · have g : ∀ n, n ≤ N - cntB st N → (setAt (kpW wX2 1 1 N st S N) 1 1 (cntB st N) (fun _ => nI 0) n).1 1 1 k = (kpW wX2 1 1 N st S N).1 1 1 k := by
          intro n
          induction n with
          | zero => intro _; rfl
          | succ n ih => intro hn; exact (am_get_other (by omega)).trans (ih (by omega))
        rw [g _ (Nat.le_refl _), kpW_in hX'.2.1 N k hk, kpS_high N k (by omega), hN.2.2.2.1 k (by omega)]
  · unfold tlX
    rw [am_get_row (by decide), setRow_in 4 hi]
  · unfold tlM
    rw [am_get_self]
  · unfold tlM
    rw [am_get_row (by decide)]
    dsimp only
    by_cases z : k < cntB st N
    · rw [if_pos z, setAt_out z, setRow_row (by decide), kpW_in hM'.2.1 N k hk]
    · rw [if_neg z]
      have g := setAt_in (w := setRow (kpW w3 0 4 N st S N) 0 5 (fun i => nI (pkF st (A i) N)) 4) (o := 0) (a := 4) (z0 := cntB st N) (i := k - cntB st N) (f := fun _ => nI 0) (8 - cntB st N) (by omega)
      rw [show cntB st N + (k - cntB st N) = k by omega] at g
      exact g
  · unfold tlM
    rw [am_get_row (by decide), setAt_row (by decide), setRow_in 4 hi]
  · refine hT'.c ?_ ?_ ?_ ?_
    · unfold tlX
      rw [am_get_row (by decide), setRow_row (by decide), setAt_row (by decide), kpW_row (by decide)]
    · unfold tlX
      rw [am_get_row (by decide), setRow_row (by decide), setAt_row (by decide), kpW_row (by decide)]
    · unfold tlM
      rw [am_get_other (by decide), setAt_row (by decide), setRow_row (by decide), kpW_row (by decide)]
    · unfold tlM
      rw [am_get_row (by decide), setAt_row (by decide), setRow_row (by decide), kpW_row (by decide)]
  · have s2 : ∀ (w : AW) (o a z0 : Nat) (f : Nat → Int32) (n : Nat), (setAt w o a z0 f n).2 = w.2 := by
      intro w o a z0 f n
      induction n with
      | zero => rfl
      | succ n ih => exact ih
    unfold tlX tlM
    rw [am_set_2, am_set_2, setRow_2, s2, s2, setRow_2, kpW_2, kpW_2]
    exact h2'
  · refine fun i hi => (hS' i hi).c ?_ (fun a h8 h16 => ?_)
    · unfold tlX
      rw [am_row_ne (by omega)]
      funext a
      rw [setRow_row (by omega), setAt_row (by omega), kpW_row (by omega)]
    · unfold tlM
      rw [am_get_row (by omega), setAt_row (by omega), setRow_row (by omega), kpW_row (by omega)]
  · unfold tlX
    rw [am_get_row (by decide), setRow_row (by decide), setAt_row (by decide), kpW_row (by decide)]
    exact h12'
end
section
/-! plain, atoms, grows -/
section DP
variable {m P : Nat} {c l r b ph pl dp : Nat → Nat}
theorem dp_le (hs : ShapeOK m c l r) (hp : PartOK m P c l r b ph pl dp) : ∀ n k, k < n → k < m → dp (ph k) ≤ k := by
  intro n
  induction n with
  | zero => intro k h; omega
  | succ n ih =>
    intro k hkn hk
    obtain ⟨d1, d2, d3⟩ := hp.2.2.2.2.2.2 k hk
    rcases hs k hk with g | ⟨g, g1⟩ | ⟨g, g1, g2⟩
    · rw [d1 g]; omega
    · have := ih (l k) (by omega) (by omega)
      rw [d2 g]
      split <;> omega
    · have h1 := ih (l k) (by omega) (by omega)
      have h2 := ih (r k) (by omega) (by omega)
      rw [d3 g]
      omega
def modB (c : Nat) : Bool := decide (c = 91 ∨ c = 123)
theorem plain_iff (hs : ShapeOK m c l r) (hp : PartOK m P c l r b ph pl dp) (hm : 1 ≤ m) (hroot : ∀ k, k < m → dp (ph k) ≤ dp (ph (m - 1))) : allT (fun k => !modB (c k)) m = decide (dp (ph (m - 1)) = 0) := by
  rw [Bool.eq_iff_iff, allT_iff, decide_eq_true_eq]
  constructor
  · intro h
    have key : ∀ n k, k < n → k < m → dp (ph k) = 0 := by
      intro n
      induction n with
      | zero => intro k h; omega
      | succ n ih =>
        intro k hkn hk
        obtain ⟨d1, d2, d3⟩ := hp.2.2.2.2.2.2 k hk
        rcases hs k hk with g | ⟨g, g1⟩ | ⟨g, g1, g2⟩
        · exact d1 g
        · have h2 := h k hk
          unfold modB at h2
          unfold isPre at g
          rw [d2 g, ih (l k) (by omega) (by omega)]
          have h3 : ¬ (c k = 91 ∨ c k = 123) := by simpa using h2
          rw [if_pos (by omega)]
        · rw [d3 g, ih (l k) (by omega) (by omega), ih (r k) (by omega) (by omega)]
          rfl
    exact key m _ (by omega) (by omega)
  · intro h k hk
    have h1 := hroot k hk
    obtain ⟨d1, d2, d3⟩ := hp.2.2.2.2.2.2 k hk
    cases q : modB (c k)
    · rfl
    · unfold modB at q
      rw [decide_eq_true_eq] at q
      have g : isPre (c k) := by unfold isPre; omega
      have := d2 g
      rw [if_neg (by omega)] at this
      omega
end DP
theorem kinds_lt {c : Nat} (h : isLeaf c ∨ isPre c ∨ isJn c) : c < 128 := by
  unfold isLeaf isPre isJn at h
  omega
def atB (c : Nat) : Nat := if 112 ≤ c ∧ c ≤ 115 then 2 ^ (c - 112) else 0
theorem atB_lt (c : Nat) : atB c < 2 ^ 4 := by
  unfold atB
  split
  · exact pow_lt_of (by omega)
  · decide
def atomsN (m : Nat) (c : Nat → Nat) : Nat := orF (fun k => atB (c k)) m
theorem atomsN_lt (m : Nat) (c : Nat → Nat) : atomsN m c < 2 ^ 4 := orF_lt (fun k _ => atB_lt _)
section PL
variable {w : AW}
theorem X_isAtom {c : Nat} (w : AW) (hc : c < 2 ^ 31) : mX5_isAtom (nI c) w = some (nI (bN (decide (112 ≤ c ∧ c ≤ 115))), w) := by
  by_cases h1 : nI c < nI 112
  · have h2 : ¬ (112 ≤ c ∧ c ≤ 115) := fun h => nI_nlt h.1 (by omega) h1
    simp only [mX5_isAtom, h1, h2, decide_false, bN_f, cl_mk, nm_mk, pu_mk, lit, if_true, if_false, ne_eq, not_false_eq_true, not_true_eq_false, nI_add, nI_or, nI_and, Bool.false_eq_true, ne01, ne10, nI_m1', Nat.or_zero]
  · have g1 : 112 ≤ c := by
      rcases Nat.lt_or_ge c 112 with q | q
      · exact absurd (nI_lt q (by decide)) h1
      · exact q
    by_cases h2 : nI 115 < nI c
    · have h3 : ¬ (112 ≤ c ∧ c ≤ 115) := fun h => nI_nlt h.2 (by omega) h2
      simp only [mX5_isAtom, h1, h2, h3, decide_false, bN_f, cl_mk, nm_mk, pu_mk, lit, if_true, if_false, ne_eq, not_false_eq_true, not_true_eq_false, nI_add, nI_or, nI_and, Bool.false_eq_true, ne01, ne10, nI_m1', Nat.or_zero]
    · have g2 : c ≤ 115 := by
        rcases Nat.lt_or_ge 115 c with q | q
        · exact absurd (nI_lt q (by omega)) h2
        · exact q
      simp only [mX5_isAtom, h1, h2, g1, g2, and_self, decide_true, bN_t, cl_mk, nm_mk, pu_mk, lit, if_true, if_false, ne_eq, not_false_eq_true, not_true_eq_false, nI_add, nI_or, nI_and, Bool.false_eq_true, ne01, ne10, nI_m1', Nat.or_zero]
theorem M_isAtom {c : Nat} (w : AW) (hc : c < 2 ^ 31) : mX6_isAtom (nI c) w = some (nI (bN (decide (112 ≤ c ∧ c ≤ 115))), w) := by
  have e : mX6_in (nI c) (nI 112) (nI 115) w = some (nI (bN (decide (112 ≤ c ∧ c ≤ 115))), w) := by
    by_cases h1 : nI c < nI 112
    · have h2 : ¬ (112 ≤ c ∧ c ≤ 115) := fun h => nI_nlt h.1 (by omega) h1
      simp only [mX6_in, h1, h2, decide_false, bN_f, cl_mk, nm_mk, pu_mk, lit, if_true, if_false, ne_eq, not_false_eq_true, not_true_eq_false, nI_add, nI_or, nI_and, Bool.false_eq_true, ne01, ne10, nI_m1', Nat.or_zero]
    · have g1 : 112 ≤ c := by
        rcases Nat.lt_or_ge c 112 with q | q
        · exact absurd (nI_lt q (by decide)) h1
        · exact q
      by_cases h2 : nI 115 < nI c
      · have h3 : ¬ (112 ≤ c ∧ c ≤ 115) := fun h => nI_nlt h.2 (by omega) h2
        simp only [mX6_in, h1, h2, h3, decide_false, bN_f, cl_mk, nm_mk, pu_mk, lit, if_true, if_false, ne_eq, not_false_eq_true, not_true_eq_false, nI_add, nI_or, nI_and, Bool.false_eq_true, ne01, ne10, nI_m1', Nat.or_zero]
      · have g2 : c ≤ 115 := by
          rcases Nat.lt_or_ge 115 c with q | q
          · exact absurd (nI_lt q (by omega)) h2
          · exact q
        simp only [mX6_in, h1, h2, g1, g2, and_self, decide_true, bN_t, cl_mk, nm_mk, pu_mk, lit, if_true, if_false, ne_eq, not_false_eq_true, not_true_eq_false, nI_add, nI_or, nI_and, Bool.false_eq_true, ne01, ne10, nI_m1', Nat.or_zero]
  simp only [mX6_isAtom, e, zr_B, cl_mk, nm_mk, pu_mk, lit, if_true, if_false, ne_eq, not_false_eq_true, not_true_eq_false, nI_add, nI_or, nI_and, Bool.false_eq_true, ne01, ne10, nI_m1', Nat.or_zero]
theorem M_isModal {c k : Nat} (hk : k < 90) (hc : c < 128) (h : w.1 0 30 k = nI c) : mX6_isModal (nI k) w = some (nI (bN (modB c)), w) := by
  have r30 : ∀ f : Int32 → Option (Int32 × AW), rd 90 (w.1 0 30) (nI k) f = f (nI c) := fun f => by
    rw [rd_in hk (by decide), h]
  unfold modB
  by_cases q : c = 91
  · subst q
    simp only [mX6_isModal, mX6_isModal_22, r30, true_or, decide_true, bN_t, cl_mk, nm_mk, pu_mk, lit, if_true, if_false, ne_eq, not_false_eq_true, not_true_eq_false, nI_add, nI_or, nI_and, Bool.false_eq_true, ne01, ne10, nI_m1', Nat.or_zero]
  · have q1 : (nI c = nI 91) = False := eq_false (fun z => q ((nI_eq (by omega) (by decide)).mp z))
    by_cases q2 : c = 123
    · subst q2
      simp only [mX6_isModal, mX6_isModal_22, r30, q1, or_true, decide_true, bN_t, cl_mk, nm_mk, pu_mk, lit, if_true, if_false, ne_eq, not_false_eq_true, not_true_eq_false, nI_add, nI_or, nI_and, Bool.false_eq_true, ne01, ne10, nI_m1', Nat.or_zero]
    · have q3 : (nI c = nI 123) = False := eq_false (fun z => q2 ((nI_eq (by omega) (by decide)).mp z))
      have q4 : ¬ (c = 91 ∨ c = 123) := by omega
      simp only [mX6_isModal, mX6_isModal_22, r30, q1, q3, q4, decide_false, bN_f, cl_mk, nm_mk, pu_mk, lit, if_true, if_false, ne_eq, not_false_eq_true, not_true_eq_false, nI_add, nI_or, nI_and, Bool.false_eq_true, ne01, ne10, nI_m1', Nat.or_zero]
variable {M Z : Nat} {c l r b e y : Nat → Nat}
theorem M_isPlain (hW : WorkM w M Z c l r b e y) (hs : ShapeOK M c l r) (hM : M ≤ 90) : mX6_isPlain w = some (nI (bN (allT (fun k => !modB (c k)) M)), w) := by
  unfold mX6_isPlain
  refine loopE (fun n (s : Int32 × Int32) => mX6_isPlain_4 n s.1 s.2 w) M (fun k => (nI (bN (allT (fun k => !modB (c k)) k)), nI k)) _ ?_ ?_ FU 0 (Nat.zero_le _) (FU_gt (by omega))
  · intro n k hk
    have c1 : ¬ nI M ≤ nI k := nI_ge hk (by omega)
    have e1 := M_isModal (w := w) (show k < 90 by omega) (kinds_lt (kinds_of hs hk)) (hW.2.2.1 k hk).1
    cases q : modB (c k)
    · rw [q] at e1
      simp only [mX6_isPlain_4, mX6_isPlain_26, hW.1, c1, e1, bN_f, allT, q, Bool.not_false, Bool.and_true, cl_mk, nm_mk, pu_mk, lit, if_true, if_false, ne_eq, not_false_eq_true, not_true_eq_false, nI_add, nI_or, nI_and, Bool.false_eq_true, ne01, ne10, nI_m1', Nat.or_zero]
      cases allT (fun k => !modB (c k)) k <;> rfl
    · rw [q] at e1
      simp only [mX6_isPlain_4, mX6_isPlain_26, hW.1, c1, e1, bN_t, bN_f, allT, q, Bool.not_true, Bool.and_false, Nat.and_zero, cl_mk, nm_mk, pu_mk, lit, if_true, if_false, ne_eq, not_false_eq_true, not_true_eq_false, nI_add, nI_or, nI_and, Bool.false_eq_true, ne01, ne10, nI_m1', Nat.or_zero]
  · intro n
    have c1 : nI M ≤ nI M := nI_le (Nat.le_refl M) (by omega)
    simp only [mX6_isPlain_4, hW.1, c1, zr_B, cl_mk, nm_mk, pu_mk, lit, if_true, if_false, ne_eq, not_false_eq_true, not_true_eq_false, nI_add, nI_or, nI_and, Bool.false_eq_true, ne01, ne10, nI_m1', Nat.or_zero]
theorem M_atomsOf (hW : WorkM w M Z c l r b e y) (hs : ShapeOK M c l r) (hM : M ≤ 90) : mX6_atomsOf w = some (nI (atomsN M c), w) := by
  unfold mX6_atomsOf
  refine loopE (fun n (s : Int32 × Int32) => mX6_atomsOf_4 n s.1 s.2 w) M (fun k => (nI (orF (fun k => atB (c k)) k), nI k)) _ ?_ ?_ FU 0 (Nat.zero_le _) (FU_gt (by omega))
  · intro n k hk
    have c1 : ¬ nI M ≤ nI k := nI_ge hk (by omega)
    have hc := kinds_lt (kinds_of hs hk)
    have r30 : ∀ f : Int32 → Option (Int32 × AW), rd 90 (w.1 0 30) (nI k) f = f (nI (c k)) := fun f => by
      rw [rd_in (by omega) (by decide), (hW.2.2.1 k hk).1]
    have e1 := M_isAtom (c := c k) w (by omega)
    by_cases q : 112 ≤ c k ∧ c k ≤ 115
    · have e2 : atB (c k) = 2 ^ (c k - 112) := if_pos q
      simp only [mX6_atomsOf_4, mX6_atomsOf_40, hW.1, c1, r30, e1, q, and_self, decide_true, bN_t, pk_sub q.1, one_shl (show c k - 112 < 31 by omega), orF, e2, cl_mk, nm_mk, pu_mk, lit, if_true, if_false, ne_eq, not_false_eq_true, not_true_eq_false, nI_add, nI_or, nI_and, Bool.false_eq_true, ne01, ne10, nI_m1', Nat.or_zero]
    · have e2 : atB (c k) = 0 := if_neg q
      simp only [mX6_atomsOf_4, mX6_atomsOf_40, hW.1, c1, r30, e1, q, decide_false, bN_f, orF, e2, cl_mk, nm_mk, pu_mk, lit, if_true, if_false, ne_eq, not_false_eq_true, not_true_eq_false, nI_add, nI_or, nI_and, Bool.false_eq_true, ne01, ne10, nI_m1', Nat.or_zero]
  · intro n
    have c1 : nI M ≤ nI M := nI_le (Nat.le_refl M) (by omega)
    simp only [mX6_atomsOf_4, hW.1, c1, cl_mk, nm_mk, pu_mk, lit, if_true, if_false, ne_eq, not_false_eq_true, not_true_eq_false, nI_add, nI_or, nI_and, Bool.false_eq_true, ne01, ne10, nI_m1', Nat.or_zero]
    rfl
end PL
section XA
variable {w : AW} {o m P : Nat} {c l r b ph pl dp : Nat → Nat}
theorem atoms_same (hc : ClassOK m P c l r ph) : orF (fun p => atB (c (rpF m ph p))) P = atomsN m c := by
  apply sub_antisymm
  · intro j hj
    obtain ⟨p, h1, h2⟩ := tb_orF.mp hj
    exact tb_orF.mpr ⟨rpF m ph p, (rpF_spec hc h1).1, h2⟩
  · intro j hj
    obtain ⟨k, h1, h2⟩ := tb_orF.mp hj
    obtain ⟨g1, g2⟩ := rpF_spec hc (hc.1 k h1)
    refine tb_orF.mpr ⟨ph k, hc.1 k h1, ?_⟩
    have e : c (rpF m ph (ph k)) = c k := ((hc.2.2.2.2 _ _ g1 h1).mp g2).1
    rw [e]
    exact h2
theorem X_atoms (hX : SenX w o m P c l r ph pl dp) (hL : LenOK o P) (hs : ShapeOK m c l r) (hc : ClassOK m P c l r ph) (hP : P ≤ 81) : mX2_atoms o w = some (nI (atomsN m c), w) := by
  rw [← atoms_same hc]
  unfold mX2_atoms
  refine loopE (fun n (s : Int32 × Int32) => mX2_atoms_4 o n s.1 s.2 w) P (fun k => (nI (orF (fun p => atB (c (rpF m ph p))) k), nI k)) _ ?_ ?_ FU 0 (Nat.zero_le _) (FU_gt (by omega))
  · intro n p hp
    have c1 : ¬ nI P ≤ nI p := nI_ge hp (by omega)
    obtain ⟨k1, k2⟩ := rpF_spec hc hp
    have hcl := kinds_lt (kinds_of hs k1)
    have a1 : mX5_at o 1 (nI p) w = some (nI (c (rpF m ph p)), w) := by
      rw [at_in w (by have := (hL 1 (by decide) (by decide)).1; omega) (hL 1 (by decide) (by decide)).2]
      have := (hX.2.2.1 _ k1).1
      rw [k2] at this
      rw [this]
    have e1 := X_isAtom (c := c (rpF m ph p)) w (by omega)
    by_cases q : 112 ≤ c (rpF m ph p) ∧ c (rpF m ph p) ≤ 115
    · have e2 : atB (c (rpF m ph p)) = 2 ^ (c (rpF m ph p) - 112) := if_pos q
      simp only [mX2_atoms_4, mX2_atoms_42, hX.1, c1, a1, e1, q, and_self, decide_true, bN_t, pk_sub q.1, one_shl (show c (rpF m ph p) - 112 < 31 by omega), orF, e2, cl_mk, nm_mk, pu_mk, lit, if_true, if_false, ne_eq, not_false_eq_true, not_true_eq_false, nI_add, nI_or, nI_and, Bool.false_eq_true, ne01, ne10, nI_m1', Nat.or_zero]
    · have e2 : atB (c (rpF m ph p)) = 0 := if_neg q
      simp only [mX2_atoms_4, mX2_atoms_42, hX.1, c1, a1, e1, q, decide_false, bN_f, orF, e2, cl_mk, nm_mk, pu_mk, lit, if_true, if_false, ne_eq, not_false_eq_true, not_true_eq_false, nI_add, nI_or, nI_and, Bool.false_eq_true, ne01, ne10, nI_m1', Nat.or_zero]
  · intro n
    have c1 : nI P ≤ nI P := nI_le (Nat.le_refl P) (by omega)
    simp only [mX2_atoms_4, hX.1, c1, cl_mk, nm_mk, pu_mk, lit, if_true, if_false, ne_eq, not_false_eq_true, not_true_eq_false, nI_add, nI_or, nI_and, Bool.false_eq_true, ne01, ne10, nI_m1', Nat.or_zero]
theorem X_depth (hX : SenX w o m P c l r ph pl dp) (hL : LenOK o P) (hP1 : 1 ≤ P) (hP : P ≤ 81) (hlast : ph (m - 1) = P - 1) : mX2_depth o w = some (nI (dp (ph (m - 1))), w) := by
  have a1 : mX5_at o 5 (nI (P - 1)) w = some (nI (dp (P - 1)), w) := by
    rw [at_in w (by have := (hL 5 (by decide) (by decide)).1; omega) (hL 5 (by decide) (by decide)).2, (hX.2.2.2 (P - 1) (by omega)).2]
  simp only [mX2_depth, hX.1, cl_mk, nm_mk, pu_mk, lit, if_true, if_false, ne_eq, not_false_eq_true, not_true_eq_false, nI_add, nI_or, nI_and, Bool.false_eq_true, ne01, ne10, nI_m1', Nat.or_zero]
  rw [pk_sub hP1, a1, hlast, cl_mk]
theorem X_isPlain (hX : SenX w o m P c l r ph pl dp) (hL : LenOK o P) (hP1 : 1 ≤ P) (hP : P ≤ 81) (hlast : ph (m - 1) = P - 1) (hd : dp (ph (m - 1)) < 2 ^ 31) : mX2_isPlain o w = some (nI (bN (decide (dp (ph (m - 1)) = 0))), w) := by
  have e := X_depth hX hL hP1 hP hlast
  by_cases q : dp (ph (m - 1)) = 0
  · rw [q] at e
    simp only [mX2_isPlain, e, q, decide_true, bN_t, cl_mk, nm_mk, pu_mk, lit, if_true, if_false, ne_eq, not_false_eq_true, not_true_eq_false, nI_add, nI_or, nI_and, Bool.false_eq_true, ne01, ne10, nI_m1', Nat.or_zero]
  · have q2 : (nI (dp (ph (m - 1))) = nI 0) = False := eq_false (fun z => q ((nI_eq hd (by decide)).mp z))
    simp only [mX2_isPlain, e, q, q2, decide_false, bN_f, cl_mk, nm_mk, pu_mk, lit, if_true, if_false, ne_eq, not_false_eq_true, not_true_eq_false, nI_add, nI_or, nI_and, Bool.false_eq_true, ne01, ne10, nI_m1', Nat.or_zero]
end XA
section GR
variable {w : AW} {N : Nat} {S A Fr : Nat → Nat}
theorem M_gstep {W : AW} {n p M cc x y lp rp : Nat} {v : Int32} (hcc : isLeaf cc ∨ isPre cc ∨ isJn cc) (hnm : modB cc = false) (hM : NetM W N S A) (hN : NetOK N S A) (hV : ViewM W N Fr) (hF : ∀ k, k < N → Fr k < 2 ^ N) (h26 : W.1 0 0 26 = nI M) (hp : p < M) (hMM : M ≤ 90) (hc : W.1 0 30 p = nI cc)
    (hx0 : kd cc = 0 → x = 0) (hx : kd cc ≠ 0 → lp < 90 ∧ W.1 0 31 p = nI lp ∧ W.1 0 38 lp = nI x) (hy0 : kd cc ≠ 2 → y = 0) (hy : kd cc = 2 → rp < 90 ∧ W.1 0 32 p = nI rp ∧ W.1 0 38 rp = nI y) :
    mX6_grows_45 (n + 1) v (nI p) W = mX6_grows_45 n (nI (opJ true N A Fr cc x y)) (nI (p + 1)) (am_set W 0 38 p (nI (opJ true N A Fr cc x y))) := by
  have h8 := hN.2.1
  have c1 : ¬ nI M ≤ nI p := nI_ge hp (by omega)
  have r30 : ∀ f : Int32 → Option (Int32 × AW), rd 90 (W.1 0 30) (nI p) f = f (nI cc) := fun f => by
    rw [rd_in (by omega) (by decide), hc]
  have r31 : kd cc ≠ 0 → (∀ f : Int32 → Option (Int32 × AW), rd 90 (W.1 0 31) (nI p) f = f (nI lp)) ∧ (∀ f : Int32 → Option (Int32 × AW), rd 90 (W.1 0 38) (nI lp) f = f (nI x)) := fun z => by
    obtain ⟨z1, z2, z3⟩ := hx z
    exact ⟨fun f => by rw [rd_in (by omega) (by decide), z2], fun f => by rw [rd_in z1 (by decide), z3]⟩
  have r32 : kd cc = 2 → (∀ f : Int32 → Option (Int32 × AW), rd 90 (W.1 0 32) (nI p) f = f (nI rp)) ∧ (∀ f : Int32 → Option (Int32 × AW), rd 90 (W.1 0 38) (nI rp) f = f (nI y)) := fun z => by
    obtain ⟨z1, z2, z3⟩ := hy z
    exact ⟨fun f => by rw [rd_in (by omega) (by decide), z2], fun f => by rw [rd_in z1 (by decide), z3]⟩
  have hall := X_all' hM hN
  have hmu := M_allIn hM.1 hV h8 hF
  have hw := fun z => wr_in (α := Int32 × AW) (show p < 90 by omega) (show 90 < 2 ^ 31 by decide) W 0 38 z
  have hat := fun (i : Nat) (hi : i < 4) => M_atom hM hi (α := Int32 × AW)
  clear hx hy hM hN hV hF hc
  rcases hcc with (rfl | rfl | rfl | rfl | rfl | rfl) | (rfl | rfl | rfl) | (rfl | rfl | rfl)
  · simp only [mX6_grows_45, mX6_grows_77, mX6_grows_92, mX6_grows_117, mX6_grows_234, h26, c1, r30, mX6_isPrefix, mX6_isPrefix_18, mX6_isJoin, mX6_isJoin_18, mX6_isAtom, mX6_in, zr_0, zr_1, hat 0 (by decide), hw, opJ, opH, pk_sub (show 112 ≤ 112 by decide), cl_mk, nm_mk, pu_mk, lit, if_true, if_false, ne_eq, not_false_eq_true, not_true_eq_false, nI_add, nI_or, nI_and, Bool.false_eq_true, ne01, ne10, nI_m1', Nat.or_zero, nI_eqD, nI_leD, nI_ltD, Nat.reduceLT, Nat.reduceLeDiff, Nat.reduceEqDiff, Nat.reduceSub, or_true, true_or, or_false, false_or, and_true, true_and, and_false, false_and]
  · simp only [mX6_grows_45, mX6_grows_77, mX6_grows_92, mX6_grows_117, mX6_grows_234, h26, c1, r30, mX6_isPrefix, mX6_isPrefix_18, mX6_isJoin, mX6_isJoin_18, mX6_isAtom, mX6_in, zr_0, zr_1, hat 1 (by decide), hw, opJ, opH, pk_sub (show 112 ≤ 113 by decide), cl_mk, nm_mk, pu_mk, lit, if_true, if_false, ne_eq, not_false_eq_true, not_true_eq_false, nI_add, nI_or, nI_and, Bool.false_eq_true, ne01, ne10, nI_m1', Nat.or_zero, nI_eqD, nI_leD, nI_ltD, Nat.reduceLT, Nat.reduceLeDiff, Nat.reduceEqDiff, Nat.reduceSub, or_true, true_or, or_false, false_or, and_true, true_and, and_false, false_and]
  · simp only [mX6_grows_45, mX6_grows_77, mX6_grows_92, mX6_grows_117, mX6_grows_234, h26, c1, r30, mX6_isPrefix, mX6_isPrefix_18, mX6_isJoin, mX6_isJoin_18, mX6_isAtom, mX6_in, zr_0, zr_1, hat 2 (by decide), hw, opJ, opH, pk_sub (show 112 ≤ 114 by decide), cl_mk, nm_mk, pu_mk, lit, if_true, if_false, ne_eq, not_false_eq_true, not_true_eq_false, nI_add, nI_or, nI_and, Bool.false_eq_true, ne01, ne10, nI_m1', Nat.or_zero, nI_eqD, nI_leD, nI_ltD, Nat.reduceLT, Nat.reduceLeDiff, Nat.reduceEqDiff, Nat.reduceSub, or_true, true_or, or_false, false_or, and_true, true_and, and_false, false_and]
  · simp only [mX6_grows_45, mX6_grows_77, mX6_grows_92, mX6_grows_117, mX6_grows_234, h26, c1, r30, mX6_isPrefix, mX6_isPrefix_18, mX6_isJoin, mX6_isJoin_18, mX6_isAtom, mX6_in, zr_0, zr_1, hat 3 (by decide), hw, opJ, opH, pk_sub (show 112 ≤ 115 by decide), cl_mk, nm_mk, pu_mk, lit, if_true, if_false, ne_eq, not_false_eq_true, not_true_eq_false, nI_add, nI_or, nI_and, Bool.false_eq_true, ne01, ne10, nI_m1', Nat.or_zero, nI_eqD, nI_leD, nI_ltD, Nat.reduceLT, Nat.reduceLeDiff, Nat.reduceEqDiff, Nat.reduceSub, or_true, true_or, or_false, false_or, and_true, true_and, and_false, false_and]
  · simp only [mX6_grows_45, mX6_grows_77, mX6_grows_92, mX6_grows_117, mX6_grows_234, h26, c1, r30, mX6_isPrefix, mX6_isPrefix_18, mX6_isJoin, mX6_isJoin_18, mX6_isAtom, mX6_in, zr_0, zr_1, hall, hw, opJ, opH, cl_mk, nm_mk, pu_mk, lit, if_true, if_false, ne_eq, not_false_eq_true, not_true_eq_false, nI_add, nI_or, nI_and, Bool.false_eq_true, ne01, ne10, nI_m1', Nat.or_zero, nI_eqD, nI_leD, nI_ltD, Nat.reduceLT, Nat.reduceLeDiff, Nat.reduceEqDiff, Nat.reduceSub, or_true, true_or, or_false, false_or, and_true, true_and, and_false, false_and]
  · simp only [mX6_grows_45, mX6_grows_77, mX6_grows_92, mX6_grows_117, mX6_grows_234, h26, c1, r30, mX6_isPrefix, mX6_isPrefix_18, mX6_isJoin, mX6_isJoin_18, mX6_isAtom, mX6_in, zr_0, zr_1, hw, opJ, opH, cl_mk, nm_mk, pu_mk, lit, if_true, if_false, ne_eq, not_false_eq_true, not_true_eq_false, nI_add, nI_or, nI_and, Bool.false_eq_true, ne01, ne10, nI_m1', Nat.or_zero, nI_eqD, nI_leD, nI_ltD, Nat.reduceLT, Nat.reduceLeDiff, Nat.reduceEqDiff, Nat.reduceSub, or_true, true_or, or_false, false_or, and_true, true_and, and_false, false_and]
  · obtain ⟨r1, r2⟩ := r31 (by decide)
    simp only [mX6_grows_45, mX6_grows_77, mX6_grows_92, mX6_grows_117, mX6_grows_234, h26, c1, r30, r1, r2, mX6_isPrefix, mX6_isPrefix_18, mX6_isJoin, mX6_isJoin_18, mX6_isAtom, mX6_in, zr_0, zr_1, hall, nI_sdiff, hmu, hw, opJ, opH, cl_mk, nm_mk, pu_mk, lit, if_true, if_false, ne_eq, not_false_eq_true, not_true_eq_false, nI_add, nI_or, nI_and, Bool.false_eq_true, ne01, ne10, nI_m1', Nat.or_zero, nI_eqD, nI_leD, nI_ltD, Nat.reduceLT, Nat.reduceLeDiff, Nat.reduceEqDiff, Nat.reduceSub, or_true, true_or, or_false, false_or, and_true, true_and, and_false, false_and]
  · cases hnm
  · cases hnm
  · obtain ⟨r1, r2⟩ := r31 (by decide)
    obtain ⟨r3, r4⟩ := r32 (by decide)
    simp only [mX6_grows_45, mX6_grows_77, mX6_grows_92, mX6_grows_117, mX6_grows_234, h26, c1, r30, r1, r2, r3, r4, mX6_isPrefix, mX6_isPrefix_18, mX6_isJoin, mX6_isJoin_18, mX6_isAtom, mX6_in, zr_0, zr_1, hw, opJ, opH, cl_mk, nm_mk, pu_mk, lit, if_true, if_false, ne_eq, not_false_eq_true, not_true_eq_false, nI_add, nI_or, nI_and, Bool.false_eq_true, ne01, ne10, nI_m1', Nat.or_zero, nI_eqD, nI_leD, nI_ltD, Nat.reduceLT, Nat.reduceLeDiff, Nat.reduceEqDiff, Nat.reduceSub, or_true, true_or, or_false, false_or, and_true, true_and, and_false, false_and]
  · obtain ⟨r1, r2⟩ := r31 (by decide)
    obtain ⟨r3, r4⟩ := r32 (by decide)
    simp only [mX6_grows_45, mX6_grows_77, mX6_grows_92, mX6_grows_117, mX6_grows_234, h26, c1, r30, r1, r2, r3, r4, mX6_isPrefix, mX6_isPrefix_18, mX6_isJoin, mX6_isJoin_18, mX6_isAtom, mX6_in, zr_0, zr_1, hw, opJ, opH, cl_mk, nm_mk, pu_mk, lit, if_true, if_false, ne_eq, not_false_eq_true, not_true_eq_false, nI_add, nI_or, nI_and, Bool.false_eq_true, ne01, ne10, nI_m1', Nat.or_zero, nI_eqD, nI_leD, nI_ltD, Nat.reduceLT, Nat.reduceLeDiff, Nat.reduceEqDiff, Nat.reduceSub, or_true, true_or, or_false, false_or, and_true, true_and, and_false, false_and]
  · obtain ⟨r1, r2⟩ := r31 (by decide)
    obtain ⟨r3, r4⟩ := r32 (by decide)
    simp only [mX6_grows_45, mX6_grows_77, mX6_grows_92, mX6_grows_117, mX6_grows_234, h26, c1, r30, r1, r2, r3, r4, mX6_isPrefix, mX6_isPrefix_18, mX6_isJoin, mX6_isJoin_18, mX6_isAtom, mX6_in, zr_0, zr_1, hall, nI_sdiff, hmu, hw, opJ, opH, cl_mk, nm_mk, pu_mk, lit, if_true, if_false, ne_eq, not_false_eq_true, not_true_eq_false, nI_add, nI_or, nI_and, Bool.false_eq_true, ne01, ne10, nI_m1', Nat.or_zero, nI_eqD, nI_leD, nI_ltD, Nat.reduceLT, Nat.reduceLeDiff, Nat.reduceEqDiff, Nat.reduceSub, or_true, true_or, or_false, false_or, and_true, true_and, and_false, false_and]
theorem M_grows45 {M Z : Nat} {c l r b e y : Nat → Nat} (hM : NetM w N S A) (hN : NetOK N S A) (hV : ViewM w N Fr) (hF : ∀ k, k < N → Fr k < 2 ^ N) (hW : WorkM w M Z c l r b e y) (hs : ShapeOK M c l r) (hM1 : 1 ≤ M) (hM2 : M ≤ 90) (hpl : ∀ k, k < M → modB (c k) = false) :
    mX6_grows_45 FU (nI 0) (nI 0) w = some (nI (evV (fun k => opJ true N A Fr (c k)) c l r (M - 1)), hdW w (evV (fun k => opJ true N A Fr (c k)) c l r) M) := by
  refine loopE (fun n (s : Int32 × Int32 × AW) => mX6_grows_45 n s.1 s.2.1 s.2.2) M (fun k => (nI (if k = 0 then 0 else evV (fun k => opJ true N A Fr (c k)) c l r (k - 1)), nI k, hdW w (evV (fun k => opJ true N A Fr (c k)) c l r) k)) _ ?_ ?_ FU 0 (Nat.zero_le _) (FU_gt (by omega))
  · intro n k hk
    have hMk := hM.k (hdW_K (v := evV (fun k => opJ true N A Fr (c k)) c l r) k)
    have hWk : WorkM (hdW w (evV (fun k => opJ true N A Fr (c k)) c l r) k) M Z c l r b e y := hW.c (by rw [hdW_row k 0 (by decide)]) (by rw [hdW_row k 0 (by decide)]) (fun a h1 h2 => hdW_row k a (by omega))
    have hVk : ViewM (hdW w (evV (fun k => opJ true N A Fr (c k)) c l r) k) N Fr := fun j hj => by rw [hdW_row k 47 (by decide)]; exact hV j hj
    obtain ⟨a1, a2, a3, a4⟩ := M_args (op := fun k => opJ true N A Fr (c k)) hWk hs hM2 hk (fun j hj => setRow_in k hj)
    have e := M_gstep (n := n) (v := nI (if k = 0 then 0 else evV (fun k => opJ true N A Fr (c k)) c l r (k - 1))) (kinds_of hs hk) (hpl k hk) hMk hN hVk hF hWk.1 hk hM2 (hWk.2.2.1 k hk).1 a1 a2 a3 a4
    refine e.trans ?_
    rw [← evV_eq (op := fun k => opJ true N A Fr (c k)) hs hk]
    rfl
  · intro n
    have c1 : nI M ≤ nI M := nI_le (Nat.le_refl M) (by omega)
    have e26 : (hdW w (evV (fun k => opJ true N A Fr (c k)) c l r) M).1 0 0 26 = nI M := by rw [hdW_row M 0 (by decide)]; exact hW.1
    simp only [mX6_grows_45, e26, c1, cl_mk, nm_mk, pu_mk, lit, if_true, if_false, ne_eq, not_false_eq_true, not_true_eq_false, nI_add, nI_or, nI_and, Bool.false_eq_true, ne01, ne10, nI_m1', Nat.or_zero]
    rw [if_neg (by omega)]
end GR
theorem SDok.dlt {d : SD} (h : SDok d) : sdd d (sdf d (sdM d - 1)) < 2 ^ 31 := by
  have := dp_le h.sh h.2.2.2.2.2.2.1 (sdM d) (sdM d - 1) (by have := h.1; omega) (by have := h.1; omega)
  have := h.2.1
  omega
theorem SDok.plain {d : SD} (h : SDok d) : allT (fun k => !modB (sdc d k)) (sdM d) = decide (sdd d (sdf d (sdM d - 1)) = 0) := plain_iff h.sh h.2.2.2.2.2.2.1 h.1 h.2.2.2.2.2.2.2.2.2.2.2.2
theorem SDok.P40 {d : SD} (h : SDok d) : sdP d ≤ 40 := by have := h.2.1; have := h.2.2.2.1; omega
theorem pub_grows : Pub_grows Rel := by
  rintro wX wM ⟨N, S, A, T, y, D, h⟩ v0
  have hR := h
  obtain ⟨hN, hX, hM, hT, h2, hS, h12⟩ := h
  have hM0 : NetM (am_set wM 0 0 0 (nI 0)) N S A := hM.k (KM0 wM)
  by_cases c0 : ∃ k, k < 6 ∧ v0 = nI k
  rotate_left
  · refine pub_same hR (-nI 1) ?_ ?_ (KX.rf _) (KM0 wM)
    · simp only [mX5_grows, X_sen_f _ c0, nS_none, cl_mk, nm_mk, pu_mk, lit, if_true, if_false, ne_eq, not_false_eq_true, not_true_eq_false, nI_add, nI_or, nI_and, Bool.false_eq_true, ne01, ne10, nI_m1', Nat.or_zero]
    · simp only [mX6_grows, M_sen_f _ c0, cl_mk, nm_mk, pu_mk, lit, if_true, if_false, ne_eq, not_false_eq_true, not_true_eq_false, nI_add, nI_or, nI_and, Bool.false_eq_true, ne01, ne10, nI_m1', Nat.or_zero]
  obtain ⟨i, hi, rfl⟩ := c0
  have hcl := cls_sen i hi
  obtain ⟨hd, hSX, hSM⟩ := hS i hi
  generalize D i = d at hd hSX hSM
  have e1 := M_works (hSM.k (KM0 wM)) hi hd.2.1 hd.2.2.2.2.1
  have k1 := wkW_K (w := am_set wM 0 0 0 (nI 0)) (m := sdM d) (z := sdZ d) (c := sdc d) (l := sdl d) (r := sdr d) (b := sdb d) (e := sde d) (y := sdy d)
  have hW := wkW_W (w := am_set wM 0 0 0 (nI 0)) (m := sdM d) (z := sdZ d) (c := sdc d) (l := sdl d) (r := sdr d) (b := sdb d) (e := sde d) (y := sdy d)
  generalize wkW (am_set wM 0 0 0 (nI 0)) (sdM d) (sdZ d) (sdc d) (sdl d) (sdr d) (sdb d) (sde d) (sdy d) = w1 at e1 k1 hW
  have e2 := M_isPlain hW hd.sh (by have := hd.2.1; omega)
  have f2 := X_isPlain hSX (len_sen hi hd.P40) hd.2.2.1 (by have := hd.P40; omega) hd.2.2.2.2.2.2.2.1 hd.dlt
  rw [hd.plain] at e2
  by_cases q : sdd d (sdf d (sdM d - 1)) = 0
  rotate_left
  · simp only [q, decide_false, bN_f] at e2 f2
    refine pub_same hR (-nI 2) ?_ ?_ (KX.rf _) ((KM0 wM).tr k1)
    · simp only [mX5_grows, X_sen_t _ hi, nS_some hcl, f2, cl_mk, nm_mk, pu_mk, lit, if_true, if_false, ne_eq, not_false_eq_true, not_true_eq_false, nI_add, nI_or, nI_and, Bool.false_eq_true, ne01, ne10, nI_m1', Nat.or_zero]
    · simp only [mX6_grows, M_sen_t _ hi, e1, e2, cl_mk, nm_mk, pu_mk, lit, if_true, if_false, ne_eq, not_false_eq_true, not_true_eq_false, nI_add, nI_or, nI_and, Bool.false_eq_true, ne01, ne10, nI_m1', Nat.or_zero]
  have hpl : ∀ k, k < sdM d → modB (sdc d k) = false := fun k hk => by
    have := hd.plain
    rw [q, show decide (0 = 0) = true from rfl, allT_iff] at this
    have := this k hk
    simpa using this
  simp only [q, decide_true, bN_t] at e2 f2
  have e3 := M_growing (hM0.k k1) hN
  rw [grow_same hN] at e3
  have f3 := X_growing hX hN
  cases z : growB N S A
  · rw [z, bN_f] at e3 f3
    refine pub_same hR (-nI 2) ?_ ?_ (KX.rf _) ((KM0 wM).tr k1)
    · simp only [mX5_grows, X_sen_t _ hi, nS_some hcl, f2, f3, cl_mk, nm_mk, pu_mk, lit, if_true, if_false, ne_eq, not_false_eq_true, not_true_eq_false, nI_add, nI_or, nI_and, Bool.false_eq_true, ne01, ne10, nI_m1', Nat.or_zero]
    · simp only [mX6_grows, M_sen_t _ hi, e1, e2, e3, cl_mk, nm_mk, pu_mk, lit, if_true, if_false, ne_eq, not_false_eq_true, not_true_eq_false, nI_add, nI_or, nI_and, Bool.false_eq_true, ne01, ne10, nI_m1', Nat.or_zero]
  rw [z, bN_t] at e3 f3
  have hF : ∀ k, k < N → seenS N S 2 k < 2 ^ N := fun k hk => seenS_lt hN hk
  have k2 := lookX_K wX N S 2 N
  have hX1 := hX.k k2
  have hat : mX0_atoms (lookX wX N S 2 N) = some ((), lookX wX N S 2 N) := rfl
  obtain ⟨w2, g1, g2, g3⟩ := X_judge true (w := lookX wX N S 2 N) (o := 6 + i) (ro := 1) (ra := 2) (lookX_V wX N S 2) hN.2.1 hF (fun i hi _ _ _ => hX1.2.2 i hi) hN.2.2.2.2 (by decide) (by decide) (hSX.k hi k2) (len_sen hi hd.P40) hd.sh hd.cl hd.P40 hd.1 hd.2.2.2.2.2.2.2.1 (by omega)
  have g1' : mX4_judge (6 + i) 1 2 (nI 1) (lookX wX N S 2 N) = some (nI (evV (fun k => opJ true N A (seenS N S 2) (sdc d k)) (sdc d) (sdl d) (sdr d) (sdM d - 1)), w2) := g1
  have e4 := M_looks (hM0.k k1) hN (sort := 2) (by decide)
  have k3 := lookM_K w1 N S 2 N
  have hW2 : WorkM (lookM w1 N S 2 N) (sdM d) (sdZ d) (sdc d) (sdl d) (sdr d) (sdb d) (sde d) (sdy d) := hW.c (by unfold lookM; rw [setRow_row (by decide)]) (by unfold lookM; rw [setRow_row (by decide)]) (fun a h1 h2 => by unfold lookM; rw [setRow_row (by omega)])
  have e5 := M_grows45 (Fr := seenS N S 2) (hM0.k (k1.tr k3)) hN (lookM_V w1 N S 2) hF hW2 hd.sh hd.1 (by have := hd.2.1; omega) hpl
  refine pub_same hR (nI (evV (fun k => opJ true N A (seenS N S 2) (sdc d k)) (sdc d) (sdl d) (sdr d) (sdM d - 1))) ?_ ?_ (k2.tr g2) ((KM0 wM).tr ((k1.tr k3).tr (hdW_K (v := evV (fun k => opJ true N A (seenS N S 2) (sdc d k)) (sdc d) (sdl d) (sdr d)) (sdM d))))
  · simp only [mX5_grows, X_sen_t _ hi, nS_some hcl, f2, f3, X_look hX hN (show 2 < 4 by decide), hat, g1', cl_mk, nm_mk, pu_mk, lit, if_true, if_false, ne_eq, not_false_eq_true, not_true_eq_false, nI_add, nI_or, nI_and, Bool.false_eq_true, ne01, ne10, nI_m1', Nat.or_zero]
  · simp only [mX6_grows, M_sen_t _ hi, e1, e2, e3, e4, cl_mk, nm_mk, pu_mk, lit, if_true, if_false, ne_eq, not_false_eq_true, not_true_eq_false, nI_add, nI_or, nI_and, Bool.false_eq_true, ne01, ne10, nI_m1', Nat.or_zero]
    exact e5
end
section
/-! the same text is the same part -/
section LK2
variable {m P : Nat} {c l r b e y ph : Nat → Nat}
theorem len_pos (hT : TreeOK m c l r b e y) : ∀ n k, k < n → k < m → b k < e k := by
  intro n
  induction n with
  | zero => intro k h; omega
  | succ n ih =>
    intro k hkn hk
    rcases hT k hk with ⟨g, g1, g2, g3, g4⟩ | ⟨g, g1, g2, g3, g4, g5⟩ | ⟨g, g1, g2, g3, g4, g5, g6, g7, g8⟩
    · omega
    · have := ih (l k) (by omega) (by omega)
      omega
    · have h1 := ih (l k) (by omega) (by omega)
      have h2 := ih (r k) (by omega) (by omega)
      omega
theorem read_uniq (hT : TreeOK m c l r b e y) (hc : ClassOK m P c l r ph) : ∀ n i j, i < n → i < m → j < m → (∀ t, t < e i - b i → y (b i + t) = y (b j + t)) → ph i = ph j ∧ e i - b i = e j - b j := by
  intro n
  induction n with
  | zero => intro i j h; omega
  | succ n ih =>
    intro i j hin hi hj ha
    have li := len_pos hT m i hi hi
    have lj := len_pos hT m j hj hj
    have a0 := ha 0 (by omega)
    rw [Nat.add_zero, Nat.add_zero] at a0
    have iff := hc.2.2.2.2 i j hi hj
    rcases hT i hi with ⟨g, g1, g2, g3, g4⟩ | ⟨g, g1, g2, g3, g4, g5⟩ | ⟨g, g1, g2, g3, g4, g5, g6, g7, g8⟩
    · rcases hT j hj with ⟨q, q1, q2, q3, q4⟩ | ⟨q, q1, q2, q3, q4, q5⟩ | ⟨q, q1, q2, q3, q4, q5, q6, q7, q8⟩
      · refine ⟨iff.mpr ⟨by rw [← g4, ← q4, a0], fun z => ?_, fun z => ?_⟩, by omega⟩
        · have := kd_leaf g; rw [kd_pre z] at this; cases this
        · have := kd_leaf g; rw [kd_jn z] at this; cases this
      · exfalso
        unfold isLeaf at g
        unfold isPre at q
        omega
      · exfalso
        unfold isLeaf at g
        omega
    · rcases hT j hj with ⟨q, q1, q2, q3, q4⟩ | ⟨q, q1, q2, q3, q4, q5⟩ | ⟨q, q1, q2, q3, q4, q5, q6, q7, q8⟩
      · exfalso
        unfold isLeaf at q
        unfold isPre at g
        omega
      · have l1 := len_pos hT m (l i) (by omega) (by omega)
        obtain ⟨z1, z2⟩ := ih (l i) (l j) (by omega) (by omega) (by omega) (fun t ht => by
          have := ha (1 + t) (by omega)
          rw [show b i + (1 + t) = b (l i) + t by omega, show b j + (1 + t) = b (l j) + t by omega] at this
          exact this)
        have l2 := len_pos hT m (l j) (by omega) (by omega)
        refine ⟨iff.mpr ⟨by rw [← g5, ← q5, a0], fun _ => z1, fun z => ?_⟩, by omega⟩
        have := kd_pre g; rw [kd_jn z] at this; cases this
      · exfalso
        unfold isPre at g
        omega
    · rcases hT j hj with ⟨q, q1, q2, q3, q4⟩ | ⟨q, q1, q2, q3, q4, q5⟩ | ⟨q, q1, q2, q3, q4, q5, q6, q7, q8⟩
      · exfalso
        unfold isLeaf at q
        omega
      · exfalso
        unfold isPre at q
        omega
      · have l1 := len_pos hT m (l i) (by omega) (by omega)
        have l2 := len_pos hT m (l j) (by omega) (by omega)
        have r1 := len_pos hT m (r i) (by omega) (by omega)
        have r2 := len_pos hT m (r j) (by omega) (by omega)
        obtain ⟨z1, z2⟩ := ih (l i) (l j) (by omega) (by omega) (by omega) (fun t ht => by
          have := ha (1 + t) (by omega)
          rw [show b i + (1 + t) = b (l i) + t by omega, show b j + (1 + t) = b (l j) + t by omega] at this
          exact this)
        have es := ha (e (l i) - b i) (by omega)
        rw [show b i + (e (l i) - b i) = e (l i) by omega, show b j + (e (l i) - b i) = e (l j) by omega, g5, q5] at es
        obtain ⟨z3, z4⟩ := ih (r i) (r j) (by omega) (by omega) (by omega) (fun t ht => by
          have := ha (b (r i) - b i + t) (by omega)
          rw [show b i + (b (r i) - b i + t) = b (r i) + t by omega, show b j + (b (r i) - b i + t) = b (r j) + t by omega] at this
          exact this)
        refine ⟨iff.mpr ⟨es, fun z => ?_, fun _ => ⟨z1, z3⟩⟩, by omega⟩
        have := kd_jn g; rw [kd_pre z] at this; cases this
theorem like_of (hT : TreeOK m c l r b e y) (hc : ClassOK m P c l r ph) : ∀ n i j, i < n → i < m → j < m → ph i = ph j → e i - b i = e j - b j ∧ ∀ t, t < e i - b i → y (b i + t) = y (b j + t) := by
  intro n
  induction n with
  | zero => intro i j h; omega
  | succ n ih =>
    intro i j hin hi hj hp
    obtain ⟨p1, p2, p3⟩ := (hc.2.2.2.2 i j hi hj).mp hp
    have li := len_pos hT m i hi hi
    have lj := len_pos hT m j hj hj
    rcases hT i hi with ⟨g, g1, g2, g3, g4⟩ | ⟨g, g1, g2, g3, g4, g5⟩ | ⟨g, g1, g2, g3, g4, g5, g6, g7, g8⟩
    · rcases hT j hj with ⟨q, q1, q2, q3, q4⟩ | ⟨q, q1, q2, q3, q4, q5⟩ | ⟨q, q1, q2, q3, q4, q5, q6, q7, q8⟩
      · refine ⟨by omega, fun t ht => ?_⟩
        have : t = 0 := by omega
        subst this
        rw [Nat.add_zero, Nat.add_zero, g4, q4, p1]
      · have := kd_leaf g; rw [p1, kd_pre q] at this; cases this
      · have := kd_leaf g; rw [p1, kd_jn q] at this; cases this
    · rcases hT j hj with ⟨q, q1, q2, q3, q4⟩ | ⟨q, q1, q2, q3, q4, q5⟩ | ⟨q, q1, q2, q3, q4, q5, q6, q7, q8⟩
      · have := kd_pre g; rw [p1, kd_leaf q] at this; cases this
      · have l1 := len_pos hT m (l i) (by omega) (by omega)
        have l2 := len_pos hT m (l j) (by omega) (by omega)
        obtain ⟨z1, z2⟩ := ih (l i) (l j) (by omega) (by omega) (by omega) (p2 g)
        refine ⟨by omega, fun t ht => ?_⟩
        by_cases e0 : t = 0
        · subst e0
          rw [Nat.add_zero, Nat.add_zero, g5, q5, p1]
        · have := z2 (t - 1) (by omega)
          rw [show b (l i) + (t - 1) = b i + t by omega, show b (l j) + (t - 1) = b j + t by omega] at this
          exact this
      · have := kd_pre g; rw [p1, kd_jn q] at this; cases this
    · rcases hT j hj with ⟨q, q1, q2, q3, q4⟩ | ⟨q, q1, q2, q3, q4, q5⟩ | ⟨q, q1, q2, q3, q4, q5, q6, q7, q8⟩
      · have := kd_jn g; rw [p1, kd_leaf q] at this; cases this
      · have := kd_jn g; rw [p1, kd_pre q] at this; cases this
      · have l1 := len_pos hT m (l i) (by omega) (by omega)
        have l2 := len_pos hT m (l j) (by omega) (by omega)
        have r1 := len_pos hT m (r i) (by omega) (by omega)
        have r2 := len_pos hT m (r j) (by omega) (by omega)
        obtain ⟨z1, z2⟩ := ih (l i) (l j) (by omega) (by omega) (by omega) (p3 g).1
        obtain ⟨z3, z4⟩ := ih (r i) (r j) (by omega) (by omega) (by omega) (p3 g).2
        refine ⟨by omega, fun t ht => ?_⟩
        by_cases e0 : t = 0
        · subst e0
          rw [Nat.add_zero, Nat.add_zero, g3, q3]
        · by_cases e1 : t < 1 + (e (l i) - b (l i))
          · have := z2 (t - 1) (by omega)
            rw [show b (l i) + (t - 1) = b i + t by omega, show b (l j) + (t - 1) = b j + t by omega] at this
            exact this
          · by_cases e2 : t = 1 + (e (l i) - b (l i))
            · rw [show b i + t = e (l i) by omega, show b j + t = e (l j) by omega, g5, q5, p1]
            · by_cases e3 : t < 2 + (e (l i) - b (l i)) + (e (r i) - b (r i))
              · have := z4 (t - (2 + (e (l i) - b (l i)))) (by omega)
                rw [show b (r i) + (t - (2 + (e (l i) - b (l i)))) = b i + t by omega, show b (r j) + (t - (2 + (e (l i) - b (l i)))) = b j + t by omega] at this
                exact this
              · rw [show b i + t = e (r i) by omega, show b j + t = e (r j) by omega, g8, q8]
theorem like_iff (hT : TreeOK m c l r b e y) (hc : ClassOK m P c l r ph) {i j : Nat} (hi : i < m) (hj : j < m) : (e i - b i = e j - b j ∧ ∀ t, t < e i - b i → y (b i + t) = y (b j + t)) ↔ ph i = ph j :=
  ⟨fun h => (read_uniq hT hc (i + 1) i j (Nat.lt_succ_self i) hi hj h.2).1, fun h => like_of hT hc (i + 1) i j (Nat.lt_succ_self i) hi hj h⟩
end LK2
section LM
variable {w : AW} {M Z P : Nat} {c l r b e y ph : Nat → Nat}
theorem M_isLike {l1 r1 : Nat → Nat} (hW : WorkM w M Z c l1 r1 b e y) (hT : TreeOK M c l r b e y) (hc : ClassOK M P c l r ph) (hM : M ≤ 90) (hZ : Z ≤ 420) (he : ∀ k, k < M → e k ≤ Z) (hy : ∀ j, y j < 256) {i j : Nat} (hi : i < M) (hj : j < M) : mX6_isLike (nI i) (nI j) w = some (nI (bN (decide (ph i = ph j))), w) := by
  have li := len_pos hT M i hi hi
  have lj := len_pos hT M j hj hj
  have hei := he i hi
  have hej := he j hj
  obtain ⟨-, -, -, wb1, we1⟩ := hW.2.2.1 i hi
  obtain ⟨-, -, -, wb2, we2⟩ := hW.2.2.1 j hj
  have r1 : ∀ f : Int32 → Option (Int32 × AW), rd 90 (w.1 0 34) (nI i) f = f (nI (e i)) := fun f => by rw [rd_in (by omega) (by decide), we1]
  have r2 : ∀ f : Int32 → Option (Int32 × AW), rd 90 (w.1 0 33) (nI i) f = f (nI (b i)) := fun f => by rw [rd_in (by omega) (by decide), wb1]
  have r3 : ∀ f : Int32 → Option (Int32 × AW), rd 90 (w.1 0 34) (nI j) f = f (nI (e j)) := fun f => by rw [rd_in (by omega) (by decide), we2]
  have r4 : ∀ f : Int32 → Option (Int32 × AW), rd 90 (w.1 0 33) (nI j) f = f (nI (b j)) := fun f => by rw [rd_in (by omega) (by decide), wb2]
  have s1 : nI (e i) - nI (b i) = nI (e i - b i) := pk_sub (by omega)
  have s2 : nI (e j) - nI (b j) = nI (e j - b j) := pk_sub (by omega)
  have iff := like_iff hT hc hi hj
  by_cases q : e i - b i = e j - b j
  rotate_left
  · have q2 : (nI (e i - b i) = nI (e j - b j)) = False := eq_false (fun z => q ((nI_eq (by omega) (by omega)).mp z))
    have q3 : ¬ ph i = ph j := fun z => q (iff.mpr z).1
    obtain ⟨n, hn⟩ := FU_succ
    have c1 : ¬ nI (e i - b i) ≤ nI 0 := nI_ge (show 0 < e i - b i by omega) (by omega)
    simp only [mX6_isLike, mX6_isLike_36, r1, r2, r3, r4, s1, s2, q2, q3, decide_false, bN_f, cl_mk, nm_mk, pu_mk, lit, if_true, if_false, ne_eq, not_false_eq_true, not_true_eq_false, nI_add, nI_or, nI_and, Bool.false_eq_true, ne01, ne10, nI_m1', Nat.or_zero]
    rw [hn]
    simp only [mX6_isLike_41, c1, zr_0, cl_mk, nm_mk, pu_mk, lit, if_true, if_false, ne_eq, not_false_eq_true, not_true_eq_false, nI_add, nI_or, nI_and, Bool.false_eq_true, ne01, ne10, nI_m1', Nat.or_zero]
  · have q2 : (nI (e i - b i) = nI (e j - b j)) = True := eq_true (by rw [q])
    simp only [mX6_isLike, mX6_isLike_36, r1, r2, r3, r4, s1, s2, q2, cl_mk, nm_mk, pu_mk, lit, if_true, if_false, ne_eq, not_false_eq_true, not_true_eq_false, nI_add, nI_or, nI_and, Bool.false_eq_true, ne01, ne10, nI_m1', Nat.or_zero]
    have byt : ∀ t, t < e i - b i → (∀ f : Int32 → Option (Int32 × AW), rd 420 (w.1 0 29) (nI (b i + t)) f = f (nI (y (b i + t)))) ∧ (∀ f : Int32 → Option (Int32 × AW), rd 420 (w.1 0 29) (nI (b j + t)) f = f (nI (y (b j + t)))) := fun t ht => ⟨fun f => by rw [rd_in (by omega) (by decide), hW.2.2.2 _ (by omega)], fun f => by rw [rd_in (by omega) (by decide), hW.2.2.2 _ (by omega)]⟩
    have step : ∀ n t, t < e i - b i → mX6_isLike_41 (nI i) (nI j) (nI (e i - b i)) (n + 1) (nI 1) (nI t) w = mX6_isLike_41 (nI i) (nI j) (nI (e i - b i)) n (nI (bN (decide (y (b i + t) = y (b j + t))))) (nI (t + 1)) w := fun n t ht => by
      have c1 : ¬ nI (e i - b i) ≤ nI t := nI_ge ht (by omega)
      obtain ⟨z1, z2⟩ := byt t ht
      have y1 := hy (b i + t)
      have y2 := hy (b j + t)
      by_cases z : y (b i + t) = y (b j + t)
      · simp only [mX6_isLike_41, mX6_isLike_88, c1, r2, r4, z1, z2, z, decide_true, bN_t, cl_mk, nm_mk, pu_mk, lit, if_true, if_false, ne_eq, not_false_eq_true, not_true_eq_false, nI_add, nI_or, nI_and, Bool.false_eq_true, ne01, ne10, nI_m1', Nat.or_zero]
      · have z3 : (nI (y (b i + t)) = nI (y (b j + t))) = False := eq_false (fun x => z ((nI_eq (by omega) (by omega)).mp x))
        simp only [mX6_isLike_41, mX6_isLike_88, c1, r2, r4, z1, z2, z, z3, decide_false, bN_f, cl_mk, nm_mk, pu_mk, lit, if_true, if_false, ne_eq, not_false_eq_true, not_true_eq_false, nI_add, nI_or, nI_and, Bool.false_eq_true, ne01, ne10, nI_m1', Nat.or_zero]
    by_cases z : ph i = ph j
    · have g := (iff.mpr z).2
      rw [z, decide_eq_true rfl]
      refine loopE (fun n t => mX6_isLike_41 (nI i) (nI j) (nI (e i - b i)) n (nI 1) t w) (e i - b i) nI _ (fun n t ht => ?_) ?_ FU 0 (Nat.zero_le _) (FU_gt (by omega))
      · rw [step n t ht, g t ht, decide_eq_true rfl]
        rfl
      · intro n
        have c1 : nI (e i - b i) ≤ nI (e i - b i) := nI_le (Nat.le_refl _) (by omega)
        simp only [mX6_isLike_41, c1, zr_1, bN_t, cl_mk, nm_mk, pu_mk, lit, if_true, if_false, ne_eq, not_false_eq_true, not_true_eq_false, nI_add, nI_or, nI_and, Bool.false_eq_true, ne01, ne10, nI_m1', Nat.or_zero]
    · have hex : ∃ t, t < e i - b i ∧ y (b i + t) ≠ y (b j + t) := Classical.byContradiction (fun h => z (iff.mp ⟨q, fun t ht => Classical.byContradiction (fun h2 => h ⟨t, ht, h2⟩)⟩))
      obtain ⟨t0, ⟨ht0, hne⟩, hmin⟩ := pk_least (fun t => t < e i - b i ∧ y (b i + t) ≠ y (b j + t)) hex
      rw [decide_eq_false z]
      refine loopE (fun n (s : Int32 × Int32) => mX6_isLike_41 (nI i) (nI j) (nI (e i - b i)) n s.1 s.2 w) (t0 + 1) (fun t => (nI (bN (decide (t ≤ t0))), nI t)) _ (fun n t ht => ?_) ?_ FU 0 (Nat.zero_le _) (FU_gt (by omega))
      · dsimp only
        rw [decide_eq_true (show t ≤ t0 by omega), bN_t, step n t (by omega)]
        by_cases e1 : t = t0
        · subst e1
          rw [decide_eq_false hne, decide_eq_false (show ¬ t + 1 ≤ t by omega)]
        · have e2 : y (b i + t) = y (b j + t) := Classical.byContradiction (fun h => hmin t (by omega) ⟨by omega, h⟩)
          rw [decide_eq_true e2, decide_eq_true (show t + 1 ≤ t0 by omega)]
      · intro n
        dsimp only
        rw [decide_eq_false (show ¬ t0 + 1 ≤ t0 by omega), bN_f]
        by_cases c1 : nI (e i - b i) ≤ nI (t0 + 1)
        · simp only [mX6_isLike_41, c1, zr_0, cl_mk, nm_mk, pu_mk, lit, if_true, if_false, ne_eq, not_false_eq_true, not_true_eq_false, nI_add, nI_or, nI_and, Bool.false_eq_true, ne01, ne10, nI_m1', Nat.or_zero]
        · simp only [mX6_isLike_41, c1, zr_0, cl_mk, nm_mk, pu_mk, lit, if_true, if_false, ne_eq, not_false_eq_true, not_true_eq_false, nI_add, nI_or, nI_and, Bool.false_eq_true, ne01, ne10, nI_m1', Nat.or_zero]
end LM
end
