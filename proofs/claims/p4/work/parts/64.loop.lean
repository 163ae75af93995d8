/-! all bytes: class and model side by side -/
def isPar (c : Nat) : Bool := decide (c = 40 ∨ c = 41)
theorem JM.k {wX wM wX2 wM2 : AW} {d : SD} {H sg sg2 : Nat} {op at_ st lf : Nat → Nat} (h : JM wX wM d H sg op at_ st lf) (e1 : ∀ a, 1 ≤ a → a ≤ 5 → wX2.1 5 a = wX.1 5 a) (e2 : wX2.1 5 0 5 = wX.1 5 0 5) (e3 : wX2.1 5 0 6 = nI sg2) (e4 : wX2.1 3 = wX.1 3) (e5 : wM2.1 0 0 15 = wM.1 0 0 15) (e6 : ∀ a, 18 ≤ a → a ≤ 26 → wM2.1 0 a = wM.1 0 a) : JM wX2 wM2 d H sg2 op at_ st lf := by
  obtain ⟨j1, j2, j3, j4, j5, j6⟩ := h
  refine ⟨⟨by rw [e2]; exact j1.1, ?_, ?_⟩, e3, by rw [e4]; exact j3, by rw [e4]; exact j4, ⟨by rw [e5]; exact j5.1, ?_⟩, ?_⟩
  · rw [e1 1 (by decide) (by decide), e1 2 (by decide) (by decide), e1 3 (by decide) (by decide)]; exact j1.2.1
  · rw [e1 4 (by decide) (by decide), e1 5 (by decide) (by decide)]; exact j1.2.2
  · rw [e6 18 (by decide) (by decide), e6 19 (by decide) (by decide), e6 20 (by decide) (by decide), e6 21 (by decide) (by decide), e6 22 (by decide) (by decide)]; exact j5.2
  · rw [e6 23 (by decide) (by decide), e6 24 (by decide) (by decide), e6 25 (by decide) (by decide), e6 26 (by decide) (by decide)]; exact j6
def BOut (rX rM : Option (Int32 × AW)) (cX : Int32 → AW → Option (Int32 × AW)) (cM : Int32 → Int32 → Int32 → Int32 → Int32 → AW → Option (Int32 × AW)) (wX wM : AW) (y : Nat → Nat) (Z pos : Nat) : Prop :=
  (∃ wX2 wM2, rX = some (nI pos, wX2) ∧ rM = some (nI 0, wM2) ∧ KX wX wX2 ∧ KM wM wM2 ∧ wM2.1 0 0 16 = nI pos) ∨
  (∃ (d' : SD) (H' sg' due' : Nat) (op' at' st' lf' : Nat → Nat) (wX2 wM2 : AW), rX = cX (nI (pos + 1)) wX2 ∧ rM = cM (nI sg') (nI H') (nI (bN (decide (due' = 3)))) (nI (bN (decide (due' = 0)))) (nI (pos + 1)) wM2 ∧ KX wX wX2 ∧ KM wM wM2 ∧ PR wX2 wM2 d' H' sg' (pos + 1) due' op' at' st' lf' ∧ sdy d' = y ∧ sdZ d' = Z)
section BY
variable {wX wM : AW} {d : SD} {H sg pos due T c : Nat} {op at_ st lf : Nat → Nat}
/-- what is due, and the byte: the rest of the step -/
theorem step_due {k17 : Int32 → Int32 → Int32 → Int32 → Int32 → AW → Option (Int32 × AW)} {sg2 : Nat} {s0 s1 : Int32} (hpos : pos < 1000) (hJ : JM wX wM d H sg2 op at_ st lf) (hI : SI d H sg pos op at_ st lf (due = 2 ∨ due = 3)) (hD : DC d H pos due at_ st lf) (h35 : wX.1 3 0 5 = nI due) (hn3 : due ≠ 3) (hs : s1 + s0 = nI sg2) (hsg : sg2 = sg + (if c = 40 ∨ c = 41 then 0 else 1)) (h40 : sg2 ≤ 40) (hy : sdy d pos = c) (hc : c < 256) :
    GoOn (mX1_takes_27 (nI c) (nI pos) 5 wX) (mX6_reads_90 k17 (nI H) (nI 0) (nI (bN (decide (due = 0)))) (nI pos) (nI c) s0 s1 wM) k17 wX wM (sdy d) (sdZ d) sg2 pos := by
  rcases hD with ⟨rfl, z1, z2, z3⟩ | ⟨z, -⟩ | ⟨rfl, z1, z2, z3⟩ | ⟨rfl, z1, z2, z3, z4, z5⟩
  · have hI' := hI.cur (q := False) (fun z => by omega)
    have e1 : nI (bN (decide (0 = 0))) = nI 1 := rfl
    rw [e1]
    by_cases hl : isLeaf c
    · exact step_leaf hpos hJ hI' ⟨z1, z2, z3⟩ h35 hs (by rw [hsg, if_neg (by unfold isLeaf at hl; omega)]) h40 hy hl
    · by_cases hp : isPre c ∨ c = 40
      · refine step_push hpos hJ hI' ⟨z1, z2, z3⟩ h35 hs ?_ h40 hy hp
        rw [hsg]
        unfold isPre at hp
        by_cases q : c = 40
        · rw [if_pos (Or.inl q), if_pos q]
        · rw [if_neg (by omega), if_neg q]
      · have hpp : ¬ (preB c = true ∨ c = 40) := fun q => hp (by
          rcases q with q | q
          · exact Or.inl (of_decide_eq_true (p := c = 33 ∨ c = 91 ∨ c = 123) q)
          · exact Or.inr q)
        refine Or.inl ⟨wX, wM, ?_, ?_, KX.rf _, KM.rf _, rfl⟩
        · unfold mX1_takes_27
          rw [h35, if_pos (show nI 0 = 0 from rfl), X_one_other _ _ hc hl, if_neg hpp, cl_mk]
          exact zr_0 wX
        · rw [M_one_other _ hs hc hl, if_neg hpp]
  · exact absurd z hn3
  · exact step_join hpos hJ (hI.cur (fun z => by omega)) z1 z2 z3 h35 hs hsg h40 hy hc
  · exact step_close hpos hJ (hI.cur (fun _ => trivial)) z1 z2 z3 z4 z5 h35 hs hsg h40 hy hc
theorem byte_step (hT : pos < T) (hT2 : T ≤ 200) (hP : PR wX wM d H sg pos due op at_ st lf) (hx : wX.1 0 9 pos = nI (sdy d pos)) (hm : wM.1 0 6 pos = nI (sdy d pos)) (hmT : wM.1 0 0 6 = nI T) (hy : sdy d pos < 256) (n m : Nat) :
    BOut (mX1_fault_17 0 9 (nI T) 5 (n + 1) (nI pos) wX) (mX6_reads_17 (m + 1) (nI sg) (nI H) (nI (bN (decide (due = 3)))) (nI (bN (decide (due = 0)))) (nI pos) wM) (mX1_fault_17 0 9 (nI T) 5 n) (mX6_reads_17 m) wX wM (sdy d) (sdZ d) pos := by
  obtain ⟨hJ, hI, hD, h35⟩ := hP
  have hsg40 : sg ≤ 40 := hI.2.2.2.2.2.2.2.2.2.1
  generalize hcc : sdy d pos = c at hx hm hy
  have cT : ¬ nI T ≤ nI pos := nI_ge hT (by omega)
  have exA : mX5_at 0 9 (nI pos) wX = some (nI c, wX) := by rw [at_in wX (show pos < 200 by omega) (by decide), hx]
  have mrd : ∀ (f : Int32 → Option (Int32 × AW)), rd 200 (wM.1 0 6) (nI pos) f = f (nI c) := fun f => by rw [rd_in (show pos < 200 by omega) (by decide), hm]
  have eX1 : mX1_fault_17 0 9 (nI T) 5 (n + 1) (nI pos) wX = cl (mX1_takes (nI c) (nI pos) 5 wX) fun x_4 w_3 => if x_4 ≠ 0 then nm (nI pos + 1) fun v4_5 => mX1_fault_17 0 9 (nI T) 5 n v4_5 w_3 else some (nI pos, w_3) := by
    rw [mX1_fault_17, if_neg cT, exA, cl_mk]
  have K16 : KM wM (am_set wM 0 0 16 (nI pos)) := (KM.rf wM).set (Or.inr ⟨rfl, by decide, by decide⟩)
  -- the model's head
  have n40 : isPar c = false → nI c ≠ 40 ∧ nI c ≠ 41 := fun z => by
    unfold isPar at z
    have z2 : ¬ (c = 40 ∨ c = 41) := of_decide_eq_false z
    exact ⟨ne_nI (b := 40) (by omega) (by decide) (by omega), ne_nI (b := 41) (by omega) (by decide) (by omega)⟩
  have failX : ∀ wX2, mX1_takes (nI c) (nI pos) 5 wX = some (nI 0, wX2) → mX1_fault_17 0 9 (nI T) 5 (n + 1) (nI pos) wX = some (nI pos, wX2) := fun wX2 h => by
    rw [eX1, h, cl_mk, if_neg (show ¬ (nI 0 ≠ 0) from fun z => z rfl)]
  have eM1 : ∀ v3 v4, mX6_reads_17 (m + 1) (nI sg) (nI H) v3 v4 (nI pos) wM = mX6_reads_54 (mX6_reads_17 m) (nI sg) (nI H) v3 v4 (nI pos) (nI c) (nI (bN (!isPar c))) wM := fun v3 v4 => by
    rw [mX6_reads_17, hmT, if_neg cT, mrd]
    cases z : isPar c
    · obtain ⟨z1, z2⟩ := n40 z
      rw [if_neg z1, if_neg z2]
      rfl
    · unfold isPar at z
      rcases of_decide_eq_true z with q | q
      · subst q
        rw [if_pos (show nI 40 = 40 from rfl)]
        rfl
      · subst q
        rw [if_neg (show ¬ nI 41 = 40 by decide), if_pos (show nI 41 = 41 from rfl)]
        rfl
  by_cases h3 : due = 3
  · -- a byte behind a whole one
    subst h3
    have tX : ∃ wX2, mX1_takes (nI c) (nI pos) 5 wX = some (nI 0, wX2) ∧ KX wX wX2 := by
      have t27 : ∀ W : AW, W.1 3 0 5 = nI 3 → mX1_takes_27 (nI c) (nI pos) 5 W = some (nI 0, W) := fun W hW => by
        unfold mX1_takes_27
        rw [hW, if_neg (show ¬ (nI 3 = 0) by decide), if_neg (show ¬ (nI 3 = 1) by decide), if_neg (show ¬ (nI 3 = 2) by decide)]
        rfl
      unfold mX1_takes
      by_cases q : nI c = 40
      · exact ⟨wX, by rw [if_pos q, t27 wX h35], KX.rf _⟩
      · rw [if_neg q]
        by_cases q2 : nI c = 41
        · exact ⟨wX, by rw [if_pos q2, t27 wX h35], KX.rf _⟩
        · rw [if_neg q2]
          unfold mX2_signs mX2_countSign
          rw [hJ.2.1, cl_mk]
          by_cases q3 : nI sg < 40
          · refine ⟨am_set wX 5 0 6 (nI sg + 1), ?_, (KX.rf wX).set (Or.inl ⟨by decide, by decide⟩)⟩
            rw [if_pos q3, hJ.2.1, pu_mk, cl_mk, t27 _ (by rw [am_get_row (by decide)]; exact h35)]
          · exact ⟨wX, by rw [if_neg q3]; rfl, KX.rf _⟩
    obtain ⟨wX2, t1, t2⟩ := tX
    refine Or.inl ⟨wX2, am_set wM 0 0 16 (nI pos), failX wX2 t1, ?_, t2, K16, am_get_self _ _ _ _ _⟩
    rw [eM1]
    unfold mX6_reads_54
    rw [pu_mk, if_pos (show nI (bN (decide (3 = 3))) ≠ 0 by decide)]
    rfl
  · have e3 : nI (bN (decide (due = 3))) = nI 0 := by rw [decide_eq_false h3]; rfl
    rw [e3]
    have J16 : ∀ wX' sg2, (∀ a, 1 ≤ a → a ≤ 5 → wX'.1 5 a = wX.1 5 a) → wX'.1 5 0 5 = wX.1 5 0 5 → wX'.1 5 0 6 = nI sg2 → wX'.1 3 = wX.1 3 → JM wX' (am_set wM 0 0 16 (nI pos)) d H sg2 op at_ st lf := fun wX' sg2 z1 z2 z3 z4 => hJ.k z1 z2 z3 z4 (am_get_other (by decide)) (fun a h1 h2 => am_get_row (by omega))
    have conv : ∀ (wX' : AW) (sg2 : Nat) (s0 : Int32), KX wX wX' → mX1_takes (nI c) (nI pos) 5 wX = mX1_takes_27 (nI c) (nI pos) 5 wX' → mX6_reads_17 (m + 1) (nI sg) (nI H) (nI 0) (nI (bN (decide (due = 0)))) (nI pos) wM = mX6_reads_90 (mX6_reads_17 m) (nI H) (nI 0) (nI (bN (decide (due = 0)))) (nI pos) (nI c) s0 (nI sg) (am_set wM 0 0 16 (nI pos)) →
        GoOn (mX1_takes_27 (nI c) (nI pos) 5 wX') (mX6_reads_90 (mX6_reads_17 m) (nI H) (nI 0) (nI (bN (decide (due = 0)))) (nI pos) (nI c) s0 (nI sg) (am_set wM 0 0 16 (nI pos))) (mX6_reads_17 m) wX' (am_set wM 0 0 16 (nI pos)) (sdy d) (sdZ d) sg2 pos → BOut (mX1_fault_17 0 9 (nI T) 5 (n + 1) (nI pos) wX) (mX6_reads_17 (m + 1) (nI sg) (nI H) (nI 0) (nI (bN (decide (due = 0)))) (nI pos) wM) (mX1_fault_17 0 9 (nI T) 5 n) (mX6_reads_17 m) wX wM (sdy d) (sdZ d) pos := fun wX' sg2 s0 kX eX eM hg => by
      rcases hg with ⟨wX2, wM2, g1, g2, g3, g4, g5⟩ | ⟨d', H', due', op', at', st', lf', wX2, wM2, g1, g2, g3, g4, g5, g6, g7⟩
      · exact Or.inl ⟨wX2, wM2, failX wX2 (eX.trans g1), eM.trans g2, kX.tr g3, K16.tr g4, by rw [g5, am_get_self]⟩
      · refine Or.inr ⟨d', H', sg2, due', op', at', st', lf', wX2, wM2, ?_, eM.trans g2, kX.tr g3, K16.tr g4, g5, g6, g7⟩
        rw [eX1, eX, g1, cl_mk, if_pos (show nI 1 ≠ 0 by decide), nm_mk, show nI pos + 1 = nI (pos + 1) from nI_add pos 1]
    cases hpar : isPar c
    · -- a sign
      obtain ⟨z1, z2⟩ := n40 hpar
      have hnp : ¬ (c = 40 ∨ c = 41) := of_decide_eq_false hpar
      by_cases hs : sg = 40
      · subst hs
        refine Or.inl ⟨wX, am_set wM 0 0 16 (nI pos), failX wX ?_, ?_, KX.rf _, K16, am_get_self _ _ _ _ _⟩
        · unfold mX1_takes
          rw [if_neg z1, if_neg z2]
          unfold mX2_signs
          rw [hJ.2.1, cl_mk, if_neg (show ¬ (nI 40 < 40) by decide)]
          rfl
        · rw [eM1, hpar]
          unfold mX6_reads_54
          rw [pu_mk, if_neg (show ¬ (nI 0 ≠ 0) from fun z => z rfl), if_neg (show ¬ (nI (bN (!false)) = 0) by decide), if_neg (show ¬ (nI 40 ≠ 40) from fun z => z rfl)]
          rfl
      · have hlt : sg < 40 := by omega
        refine conv (am_set wX 5 0 6 (nI (sg + 1))) (sg + 1) (nI 1) ((KX.rf wX).set (Or.inl ⟨by decide, by decide⟩)) ?_ ?_ ?_
        · unfold mX1_takes
          rw [if_neg z1, if_neg z2]
          unfold mX2_signs mX2_countSign
          rw [hJ.2.1, cl_mk, if_pos (show nI sg < 40 from nI_lt (b := 40) hlt (by decide)), hJ.2.1, pu_mk, cl_mk, show nI sg + 1 = nI (sg + 1) from nI_add sg 1]
        · rw [eM1, hpar]
          unfold mX6_reads_54
          rw [pu_mk, if_neg (show ¬ (nI 0 ≠ 0) from fun z => z rfl), if_neg (show ¬ (nI (bN (!false)) = 0) by decide), if_pos (show nI sg ≠ 40 from ne_nI (b := 40) (by omega) (by decide) hs)]
          unfold mX6_reads_79
          rw [if_neg (show ¬ (nI (bN (!false)) = 0) by decide)]
          rfl
        · exact step_due (by omega) (J16 _ _ (fun a h1 h2 => am_get_row (by omega)) (am_get_other (by decide)) (am_get_self _ _ _ _ _) (am_row_ne (by decide))) hI hD (by rw [am_get_row (by decide)]; exact h35) h3 (nI_add sg 1) (by rw [if_neg hnp]) (by omega) hcc hy
    · -- a bracket
      have hp : c = 40 ∨ c = 41 := of_decide_eq_true hpar
      refine conv wX sg (nI 0) (KX.rf wX) ?_ ?_ ?_
      · unfold mX1_takes
        rcases hp with q | q
        · subst q; rw [if_pos (show nI 40 = 40 from rfl)]
        · subst q; rw [if_neg (show ¬ nI 41 = 40 by decide), if_pos (show nI 41 = 41 from rfl)]
      · rw [eM1, hpar]
        unfold mX6_reads_54
        rw [pu_mk, if_neg (show ¬ (nI 0 ≠ 0) from fun z => z rfl), if_pos (show nI (bN (!true)) = 0 from rfl)]
        unfold mX6_reads_79
        rw [if_pos (show nI (bN (!true)) = 0 from rfl)]
        rfl
      · exact step_due (by omega) (J16 wX sg (fun _ _ _ => rfl) rfl hJ.2.1 rfl) hI hD h35 h3 (by rw [nI_add, Nat.add_zero]) (by rw [if_pos hp, Nat.add_zero]) hsg40 hcc hy
/-- both texts to their ends -/
theorem loop_both (hT2 : T ≤ 200) {y : Nat → Nat} {Z : Nat} (hy : ∀ j, y j < 256) : ∀ (e pos : Nat) (d : SD) (H sg due : Nat) (op at_ st lf : Nat → Nat) (wX wM : AW), T = pos + e → PR wX wM d H sg pos due op at_ st lf → sdy d = y → sdZ d = Z → (∀ j, j < T → wX.1 0 9 j = nI (y j)) → (∀ j, j < T → wM.1 0 6 j = nI (y j)) → wM.1 0 0 6 = nI T → ∀ n m, e < n → e < m →
    ∃ wX2 wM2, KX wX wX2 ∧ KM wM wM2 ∧ ((∃ f, f ≤ T ∧ mX1_fault_17 0 9 (nI T) 5 n (nI pos) wX = some (nI f, wX2) ∧ mX6_reads_17 m (nI sg) (nI H) (nI (bN (decide (due = 3)))) (nI (bN (decide (due = 0)))) (nI pos) wM = some (nI 0, wM2) ∧ wM2.1 0 0 16 = nI f) ∨
      (∃ (d' : SD) (sg' : Nat) (op' at' st' lf' : Nat → Nat), mX1_fault_17 0 9 (nI T) 5 n (nI pos) wX = some (-nI 1, wX2) ∧ mX6_reads_17 m (nI sg) (nI H) (nI (bN (decide (due = 3)))) (nI (bN (decide (due = 0)))) (nI pos) wM = some (nI 1, wM2) ∧ PR wX2 wM2 d' 0 sg' T 3 op' at' st' lf' ∧ sdy d' = y ∧ sdZ d' = Z)) := by
  intro e
  induction e with
  | zero =>
    intro pos d H sg due op at_ st lf wX wM he hP h1 h2 hx hm hmT n m hn hm2
    obtain ⟨n, rfl⟩ : ∃ k, n = k + 1 := ⟨n - 1, by omega⟩
    obtain ⟨m, rfl⟩ : ∃ k, m = k + 1 := ⟨m - 1, by omega⟩
    have e2 : pos = T := by omega
    subst e2
    have cT : nI pos ≤ nI pos := nI_le (Nat.le_refl _) (by omega)
    have K16 : KM wM (am_set wM 0 0 16 (nI pos)) := (KM.rf wM).set (Or.inr ⟨rfl, by decide, by decide⟩)
    obtain ⟨hJ, hI, hD, h35⟩ := hP
    have eM : ∀ b : Bool, mX6_reads_17 (m + 1) (nI sg) (nI H) (nI (bN b)) (nI (bN (decide (due = 0)))) (nI pos) wM = some (nI (bN b), am_set wM 0 0 16 (nI pos)) := fun b => by
      rw [mX6_reads_17, hmT, if_pos cT, pu_mk, zr_B]
    refine ⟨wX, am_set wM 0 0 16 (nI pos), KX.rf _, K16, ?_⟩
    by_cases h3 : due = 3
    · subst h3
      refine Or.inr ⟨d, sg, op, at_, st, lf, ?_, eM _, ⟨?_, ?_, ?_, h35⟩, h1, h2⟩
      · rw [mX1_fault_17, if_pos cT, h35, if_neg (show ¬ (nI 3 ≠ 3) from fun z => z rfl)]
        rfl
      · have hH : H = 0 := by
          rcases hD with ⟨z, -⟩ | ⟨-, z, -⟩ | ⟨z, -⟩ | ⟨z, -⟩
          · omega
          · exact z
          · omega
          · omega
        subst hH
        exact hJ.k (fun _ _ _ => rfl) rfl hJ.2.1 rfl (am_get_other (by decide)) (fun a h1 h2 => am_get_row (by omega))
      · have hH : H = 0 := by
          rcases hD with ⟨z, -⟩ | ⟨-, z, -⟩ | ⟨z, -⟩ | ⟨z, -⟩
          · omega
          · exact z
          · omega
          · omega
        subst hH
        exact hI
      · have hH : H = 0 := by
          rcases hD with ⟨z, -⟩ | ⟨-, z, -⟩ | ⟨z, -⟩ | ⟨z, -⟩
          · omega
          · exact z
          · omega
          · omega
        subst hH
        exact hD
    · have hdue : due < 3 := by
        rcases hD with ⟨z, -⟩ | ⟨z, -⟩ | ⟨z, -⟩ | ⟨z, -⟩ <;> omega
      refine Or.inl ⟨pos, Nat.le_refl _, ?_, ?_, am_get_self _ _ _ _ _⟩
      · rw [mX1_fault_17, if_pos cT, h35, if_pos (show nI due ≠ 3 from ne_nI (b := 3) (by omega) (by decide) h3)]
      · rw [eM, decide_eq_false h3]
        rfl
  | succ e ih =>
    intro pos d H sg due op at_ st lf wX wM he hP h1 h2 hx hm hmT n m hn hm2
    obtain ⟨n, rfl⟩ : ∃ k, n = k + 1 := ⟨n - 1, by omega⟩
    obtain ⟨m, rfl⟩ : ∃ k, m = k + 1 := ⟨m - 1, by omega⟩
    subst h1
    rcases byte_step (T := T) (by omega) hT2 hP (hx pos (by omega)) (hm pos (by omega)) hmT (hy pos) n m with ⟨wX2, wM2, g1, g2, g3, g4, g5⟩ | ⟨d', H', sg', due', op', at', st', lf', wX2, wM2, g1, g2, g3, g4, g5, g6, g7⟩
    · exact ⟨wX2, wM2, g3, g4, Or.inl ⟨pos, by omega, g1, g2, g5⟩⟩
    · obtain ⟨wX3, wM3, r1, r2, r3⟩ := ih (pos + 1) d' H' sg' due' op' at' st' lf' wX2 wM2 (by omega) g5 g6 (g7.trans h2) (fun j hj => by rw [g3.2.2.2.1]; exact hx j hj) (fun j hj => by rw [g4.2.2.2.2 6 (by decide) (by decide) (by decide)]; exact hm j hj) (g4.2.2.2.1.trans hmT) n m (by omega) (by omega)
      rw [g1, g2]
      exact ⟨wX3, wM3, g3.tr r1, g4.tr r2, r3⟩
end BY
