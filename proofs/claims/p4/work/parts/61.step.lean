/-! one byte: class and model side by side -/
theorem SI.cur {d : SD} {H sg pos : Nat} {op at_ st lf : Nat → Nat} {p q : Prop} (h : SI d H sg pos op at_ st lf p) (hpq : p → q) : SI d H sg pos op at_ st lf q := by
  obtain ⟨i1, i2, i3, i4, i5, i6, i7, i8, i9, i10, i11, i12, i13⟩ := h
  refine ⟨i1, i2, i3, i4, i5, i6, i7, i8, i9, i10, i11, i12, fun k hk => ?_⟩
  obtain ⟨h, h1, h2, h3⟩ := i13 k hk
  refine ⟨h, h1, ?_, h3⟩
  rcases h2 with h2 | h2
  · exact Or.inl h2
  · exact Or.inr ⟨hpq h2.1, h2.2⟩
theorem nbF_pos (at_ st lf e : Nat → Nat) (i : Nat) : 1 ≤ nbF at_ st lf e i := by
  unfold nbF
  split <;> omega
theorem SI_add {d : SD} {H H' sg sg' pos em cc lm rm bm P' : Nat} {op at_ st lf ph' pl' dp' : Nat → Nat} {cur : Prop} (hI : SI d H sg pos op at_ st lf cur) (hH : H' ≤ H) (hem : pos ≤ em)
    (hn : NodeIs (sdM d) cc lm rm bm em (sdb d) (sde d) (sdy d)) (hA : PartAdd (sdM d) (sdP d) cc lm rm bm (sdc d) (sdl d) (sdr d) (sdf d) (sdp d) (sdd d) P' ph' pl' dp') (hsg : sg' = sdM d + 1 + cntO op H') (h40 : sg' ≤ 40) (hbm : 0 < H' → 1 ≤ bm)
    (hcov : ∀ h, h < sdM d → ((∃ i, H' ≤ i ∧ i < H ∧ st i ≠ 0 ∧ lf i = h) ∨ (cur ∧ h + 1 = sdM d)) → sdd d (sdf d h) ≤ dp' (ph' (sdM d))) :
    SI (addD d cc lm rm bm em P' ph' pl' dp') H' sg' em op at_ st lf True ∧ ((∀ k, k < sdM d → 1 ≤ sdb d k) → bm = 0 → ph' (sdM d) = P' - 1) := by
  obtain ⟨i1, i2, i3, i4, i5, i6, i7, i8, i9, i10, i11, i12, i13⟩ := hI
  have hcls := i2.cls
  have hPA := part_add i1 i2 hn (fun k hk => Nat.le_trans (i3 k hk) hem) hA
  have hT' := tree_add i1 hn
  have nbS : ∀ i, i < H' → nbF at_ st lf (ex1 (sde d) (sdM d) em) i = nbF at_ st lf (sde d) i := fun i hi => by
    unfold nbF
    by_cases z : st i = 0
    · rw [if_pos z, if_pos z]
    · rw [if_neg z, if_neg z, ex1_lt ((i6 i (by omega)).2.2.1 z).1]
  refine ⟨⟨hT', hPA.1, fun k hk => ?_, fun i hi => i4 i (by omega), fun i hi => i5 i (by omega), fun i hi => ?_, fun hz => i7 (by omega), fun i hi => ?_, hsg, h40, by omega, fun hz k hk => ?_, fun k hk => ?_⟩, hPA.2⟩
  · show ex1 (sde d) (sdM d) em k ≤ em
    have hk' : k < sdM d + 1 := hk
    by_cases q : k = sdM d
    · rw [q, ex1_s]; exact Nat.le_refl _
    · rw [ex1_o q]
      exact Nat.le_trans (i3 k (by omega)) hem
  · obtain ⟨y1, y2, y3, y4⟩ := i6 i (by omega)
    refine ⟨y1, y2, fun z => ?_, fun z => ?_⟩
    · obtain ⟨z1, z2⟩ := y3 z
      refine ⟨Nat.lt_succ_of_lt z1, ?_⟩
      show ex1 (sdb d) (sdM d) bm (lf i) = _
      rw [ex1_lt z1]
      exact z2
    · show sdy d (ex1 (sde d) (sdM d) em (lf i)) = _
      rw [ex1_lt (y3 (by omega)).1]
      exact y4 z
  · show _ = nbF at_ st lf (ex1 (sde d) (sdM d) em) i
    rw [nbS i (by omega)]
    exact i8 i (by omega)
  · show 1 ≤ ex1 (sdb d) (sdM d) bm k
    have hk' : k < sdM d + 1 := hk
    by_cases q : k = sdM d
    · rw [q, ex1_s]; exact hbm hz
    · rw [ex1_o q]
      exact i12 (by omega) k (by omega)
  · have hk' : k < sdM d + 1 := hk
    by_cases q : k = sdM d
    · exact ⟨sdM d, Nat.lt_succ_self _, Or.inr ⟨trivial, rfl⟩, by rw [q]; exact Nat.le_refl _⟩
    · have hk2 : k < sdM d := by omega
      obtain ⟨a, a1, a2, a3⟩ := i13 k hk2
      have ek : dp' (ph' k) = sdd d (sdf d k) := by rw [hA.2.1 _ hk2, (hA.2.2.1 _ (hcls.1 _ hk2)).2]
      have new : sdd d (sdf d a) ≤ dp' (ph' (sdM d)) → ∃ h, h < sdM d + 1 ∧ ((∃ i, i < H' ∧ st i ≠ 0 ∧ lf i = h) ∨ (True ∧ h + 1 = sdM d + 1)) ∧ dp' (ph' k) ≤ dp' (ph' h) := fun z => ⟨sdM d, Nat.lt_succ_self _, Or.inr ⟨trivial, rfl⟩, by rw [ek]; exact Nat.le_trans a3 z⟩
      rcases a2 with ⟨i, z1, z2, z3⟩ | ⟨z0, z⟩
      · by_cases y : i < H'
        · refine ⟨a, Nat.lt_succ_of_lt a1, Or.inl ⟨i, y, z2, z3⟩, ?_⟩
          show dp' (ph' k) ≤ dp' (ph' a)
          rw [ek, hA.2.1 _ a1, (hA.2.2.1 _ (hcls.1 _ a1)).2]
          exact a3
        · exact new (hcov a a1 (Or.inl ⟨i, by omega, z1, z2, z3⟩))
      · exact new (hcov a a1 (Or.inr ⟨z0, z⟩))
theorem JM_add {wX wM w2 : AW} {d : SD} {H H' sg cc lm rm bm em P' : Nat} {op at_ st lf ph' pl' dp' : Nat → Nat} (hJ : JM wX wM d H sg op at_ st lf) (hH : H' ≤ H) (hst : ∀ i, i < H' → st i = 0 ∨ st i = 2) (hlf : ∀ i, i < H → st i ≠ 0 → lf i < sdM d) (hph : ∀ k, k < sdM d → ph' k = sdf d k)
    (hD : DraftX w2 (sdM d + 1) P' (ex1 (sdc d) (sdM d) cc) (ex1 (sdl d) (sdM d) lm) (ex1 (sdr d) (sdM d) rm) ph' pl' dp') (h6 : w2.1 5 0 6 = nI sg) (h34 : w2.1 3 0 4 = nI H') (hrow : ∀ a, 1 ≤ a → a ≤ 4 → w2.1 3 a = wX.1 3 a) :
    JM w2 (ndW wM (sdM d) cc lm rm bm em) (addD d cc lm rm bm em P' ph' pl' dp') H' sg op at_ st lf := by
  obtain ⟨j1, j2, j3, j4, j5, j6⟩ := hJ
  refine ⟨hD, h6, h34, fun i hi => ?_, ndW_N j5, fun i hi => ?_⟩
  · obtain ⟨y1, y2, y3, y4⟩ := j4 i (by omega)
    rw [hrow 1 (by decide) (by decide), hrow 2 (by decide) (by decide), hrow 3 (by decide) (by decide), hrow 4 (by decide) (by decide)]
    refine ⟨y1, y2, ?_, fun z => ?_⟩
    · rw [y3]
      by_cases z : st i = 0
      · rw [if_pos z, if_pos z]
      · rw [if_neg z, if_neg z]
        show nI (sdf d (lf i)) = nI (ph' (lf i))
        rw [hph _ (hlf i (by omega) z)]
    · rcases hst i hi with q | q
      · omega
      · omega
  · obtain ⟨y1, y2, y3, y4⟩ := j6 i (by omega)
    rw [ndW_row (by decide), ndW_row (by decide), ndW_row (by decide), ndW_row (by decide)]
    exact ⟨y1, y2, y3, y4⟩
/-- what is due next, and where it begins -/
def DC (d : SD) (H pos due : Nat) (at_ st lf : Nat → Nat) : Prop := (due = 0 ∧ (∀ i, i < H → st i = 0 ∨ st i = 2) ∧ pos = begF at_ st lf (sde d) H ∧ (H = 0 → sdM d = 0)) ∨ (due = 3 ∧ H = 0 ∧ 1 ≤ sdM d ∧ sdb d (sdM d - 1) = 0 ∧ sde d (sdM d - 1) = pos ∧ sdf d (sdM d - 1) = sdP d - 1) ∨ (due = 1 ∧ 0 < H ∧ st (H - 1) = 1 ∧ sde d (lf (H - 1)) = pos) ∨ (due = 2 ∧ 0 < H ∧ 1 ≤ sdM d ∧ st (H - 1) = 3 ∧ sdb d (sdM d - 1) = sde d (lf (H - 1)) + 1 ∧ sde d (sdM d - 1) = pos)
/-- the parsers' states belong together -/
def PR (wX wM : AW) (d : SD) (H sg pos due : Nat) (op at_ st lf : Nat → Nat) : Prop := JM wX wM d H sg op at_ st lf ∧ SI d H sg pos op at_ st lf (due = 2 ∨ due = 3) ∧ DC d H pos due at_ st lf ∧ wX.1 3 0 5 = nI due
/-- both go on behind the byte, or both stop at it -/
def GoOn (rX : Option (Int32 × AW)) (rM : Option (Int32 × AW)) (k17 : Int32 → Int32 → Int32 → Int32 → Int32 → AW → Option (Int32 × AW)) (wX wM : AW) (y : Nat → Nat) (Z sg pos : Nat) : Prop :=
  (∃ wX2 wM2, rX = some (nI 0, wX2) ∧ rM = some (nI 0, wM2) ∧ KX wX wX2 ∧ KM wM wM2 ∧ wM2.1 0 0 16 = wM.1 0 0 16) ∨
  (∃ (d : SD) (H due : Nat) (op at_ st lf : Nat → Nat) (wX2 wM2 : AW), rX = some (nI 1, wX2) ∧ rM = k17 (nI sg) (nI H) (nI (bN (decide (due = 3)))) (nI (bN (decide (due = 0)))) (nI (pos + 1)) wM2 ∧ KX wX wX2 ∧ KM wM wM2 ∧ PR wX2 wM2 d H sg (pos + 1) due op at_ st lf ∧ sdy d = y ∧ sdZ d = Z)
section ST
variable {wX wM : AW} {d : SD} {H sg pos : Nat} {op at_ st lf : Nat → Nat} {k17 : Int32 → Int32 → Int32 → Int32 → Int32 → AW → Option (Int32 × AW)}
/-- a node has been made: the rest of the byte's work -/
theorem goes_end (hpos : pos < 1000) (hJ : JM wX wM d H sg op at_ st lf) (hI : SI d H sg (pos + 1) op at_ st lf True) (hst : ∀ i, i < H → st i = 0 ∨ st i = 2) (hM : 1 ≤ sdM d) (he : sde d (sdM d - 1) = pos + 1) (hb : sdb d (sdM d - 1) = begF at_ st lf (sde d) H) (hroot : H = 0 → sdf d (sdM d - 1) = sdP d - 1) {wX0 wM0 : AW} (kX : KX wX0 wX) (kM : KM wM0 wM) :
    GoOn (cl (mX1_end (nI (sdf d (sdM d - 1))) 5 wX) fun _ w => some (nI 1, w)) (mX6_reads_296 k17 (nI sg) (nI pos) FU (nI H) (nI (sdM d - 1)) wM) k17 wX0 wM0 (sdy d) (sdZ d) sg pos := by
  have h20 : H ≤ 20 := hI.2.2.2.2.2.2.2.2.2.2.1
  obtain ⟨d', H', st', lf', wX2, wM2, due, f1, f2, f3, f4, f5, f6, f7, f8, f9, f10, f11⟩ := end_both hpos H d sg op at_ st lf wX wM hJ hI hst hM he hb hroot FU FU (FU_gt (by omega)) (FU_gt (by omega))
  have hd : decide (H' = 0) = decide (due = 3) ∧ decide (due = 0) = false := by
    rcases f11 with ⟨z1, z2, -⟩ | ⟨z1, z2, -⟩ | ⟨z1, z2, -⟩
    · rw [z1, z2]; exact ⟨rfl, rfl⟩
    · rw [z1, decide_eq_false (by omega)]; exact ⟨rfl, rfl⟩
    · rw [z1, decide_eq_false (by omega)]; exact ⟨rfl, rfl⟩
  refine Or.inr ⟨d', H', due, op, at_, st', lf', wX2, wM2, ?_, ?_, kX.tr f3, kM.tr f4, ⟨f6, f7.cur (fun z => by omega), ?_, f5⟩, f8, f9⟩
  · unfold mX1_end
    rw [f1, cl_mk]
  · rw [f2 k17 (nI sg), hd.1, hd.2]
    rfl
  · rcases f11 with ⟨z1, z2, z3, z4, z5⟩ | ⟨z1, z2, z3, z4⟩ | ⟨z1, z2, z3, z4, z5⟩
    · exact Or.inr (Or.inl ⟨z1, z2, f10, z3, z4, z5⟩)
    · exact Or.inr (Or.inr (Or.inl ⟨z1, z2, z3, z4⟩))
    · exact Or.inr (Or.inr (Or.inr ⟨z1, z2, f10, z3, z4, z5⟩))
end ST
