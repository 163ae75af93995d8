section
/-! the model: growing types, fit and broken -/
/-- whether the part of bit j is as it should be where it is held -/
def gdJ (c l r V bp : Nat → Nat) (j : Nat) : Bool := atmB (c (bp j)) || decide (joinF (c (bp j)) (V (l (bp j))) (V (r (bp j))) = 1)
def fitG (c l r V bp : Nat → Nat) (nb t : Nat) : Bool := allT (fun j => !t.testBit j || gdJ c l r V bp j) nb
def brkN (c l r V bp : Nat → Nat) (nb : Nat) : Nat := orF (fun j => if gdJ c l r V bp j = true then 0 else 2 ^ j) nb
section GM
variable {w J : AW} {M Z nb : Nat} {c l r b e y ph btq bp V : Nat → Nat}
theorem jn_33 {x y : Nat} (hx : x < 2) : (joinF 33 x y = 1) ↔ x = 0 := by
  unfold joinF
  rw [if_pos rfl]
  rcases (show x = 0 ∨ x = 1 by omega) with q | q
  · rw [q]; decide
  · rw [q]; decide
theorem jn_62 {x y : Nat} (hx : x < 2) (hy : y < 2) : (joinF 62 x y = 1) ↔ (x = 0 ∨ y = 1) := by
  unfold joinF
  rw [if_neg (by decide), if_neg (by decide), if_pos rfl]
  rcases (show x = 0 ∨ x = 1 by omega) with q | q <;> rcases (show y = 0 ∨ y = 1 by omega) with z | z <;> rw [q, z] <;> decide
theorem hb_grow {cc : Nat} (h : hbB true cc = true) (ha : atmB cc = false) : cc = 62 ∨ cc = 33 := by
  unfold hbB at h
  rw [ha, Bool.false_or, if_pos rfl, decide_eq_true_eq] at h
  exact h
/-- what a judged world tells of the part of bit j -/
def JW (J : AW) (M Z nb : Nat) (c l r b e y ph btq bp V : Nat → Nat) : Prop := TB J true M Z nb c l r b e y ph btq bp ∧ (∀ k, k < M → J.1 0 38 k = nI (V k)) ∧ (∀ k, k < M → V k < 2) ∧ ∀ j, j < nb → hbB true (c (bp j)) = true
theorem JW.at (h : JW J M Z nb c l r b e y ph btq bp V) (hs : ShapeOK M c l r) (hM : M ≤ 90) {j : Nat} (hj : j < nb) : (bp j < M ∧ J.1 0 37 j = nI (bp j) ∧ J.1 0 30 (bp j) = nI (c (bp j)) ∧ c (bp j) < 128 ∧ (atmB (c (bp j)) = true ∨ c (bp j) = 33 ∨ c (bp j) = 62)) ∧
    (c (bp j) = 33 ∨ c (bp j) = 62 → V (l (bp j)) < 2 ∧ ∀ f : Int32 → Option (Int32 × AW), (rd 90 (J.1 0 31) (nI (bp j)) fun x => rd 90 (J.1 0 38) x f) = f (nI (V (l (bp j))))) ∧
    (c (bp j) = 62 → V (r (bp j)) < 2 ∧ ∀ f : Int32 → Option (Int32 × AW), (rd 90 (J.1 0 32) (nI (bp j)) fun x => rd 90 (J.1 0 38) x f) = f (nI (V (r (bp j))))) := by
  obtain ⟨⟨hW, h35, hbp, hbt⟩, h38, hV, hh⟩ := h
  obtain ⟨p1, p2⟩ := hbp j hj
  obtain ⟨w30, w31, w32, -⟩ := hW.2.2.1 _ p1
  have hcc := kinds_of hs p1
  have hc := kinds_lt hcc
  have hlr : (c (bp j) = 33 ∨ c (bp j) = 62 → l (bp j) < bp j) ∧ (c (bp j) = 62 → r (bp j) < bp j) := by
    rcases hs _ p1 with g | ⟨g, g1⟩ | ⟨g, g1, g2⟩
    · unfold isLeaf at g
      exact ⟨fun z => by omega, fun z => by omega⟩
    · unfold isPre at g
      exact ⟨fun _ => g1, fun z => by omega⟩
    · exact ⟨fun _ => g1, fun _ => g2⟩
  refine ⟨⟨p1, p2, w30, hc, ?_⟩, fun z => ?_, fun z => ?_⟩
  · cases ha : atmB (c (bp j))
    · rcases hb_grow (hh j hj) ha with q | q
      · exact Or.inr (Or.inr q)
      · exact Or.inr (Or.inl q)
    · exact Or.inl rfl
  · have hl := hlr.1 z
    exact ⟨hV _ (by omega), fun f => by rw [rd_in (by omega) (by decide), w31, rd_in (by omega) (by decide), h38 _ (by omega)]⟩
  · have hr := hlr.2 z
    exact ⟨hV _ (by omega), fun f => by rw [rd_in (by omega) (by decide), w32, rd_in (by omega) (by decide), h38 _ (by omega)]⟩
theorem atm_ne {cc : Nat} (h : atmB cc = true) : cc ≠ 33 ∧ cc ≠ 62 := by
  have : 112 ≤ cc ∧ cc ≤ 115 := of_decide_eq_true h
  omega
theorem M_fit9 (h : JW J M Z nb c l r b e y ph btq bp V) (hs : ShapeOK M c l r) (hM : M ≤ 90) (hnb : nb ≤ 10) {t : Nat} (ht : t < 1024) : mX6_isFit_9 (nI t) FU 1 0 J = some (nI (bN (fitG c l r V bp nb t)), J) := by
  unfold fitG
  refine loopE (fun n (s : Int32 × Int32) => mX6_isFit_9 (nI t) n s.1 s.2 J) nb (fun k => (nI (bN (allT (fun j => !t.testBit j || gdJ c l r V bp j) k)), nI k)) _ ?_ ?_ FU 0 (Nat.zero_le _) (FU_gt (by omega))
  · intro n j hj
    obtain ⟨⟨p1, p2, p3, p4, p5⟩, pl, pr⟩ := h.at hs hM hj
    have r30 : ∀ f : Int32 → Option (Int32 × AW), rd 90 (J.1 0 30) (nI (bp j)) f = f (nI (c (bp j))) := fun f => by rw [rd_in (by omega) (by decide), p3]
    generalize hA : allT (fun j => !t.testBit j || gdJ c l r V bp j) j = A
    have eA : allT (fun j => !t.testBit j || gdJ c l r V bp j) (j + 1) = (A && (!t.testBit j || gdJ c l r V bp j)) := by rw [← hA]; rfl
    have e135 : ∀ x a : Bool, mX6_isFit_135 (mX6_isFit_9 (nI t) n) (nI t) (nI j) (nI (bN x)) (nI (bN a)) J = mX6_isFit_9 (nI t) n (nI (bN (a && x))) (nI (j + 1)) J := fun x a => by
      unfold mX6_isFit_135
      rw [nm_mk, nm_mk, nbN_and, show nI j + 1 = nI (j + 1) from nI_add j 1]
    have e130 : ∀ a : Bool, mX6_isFit_130 (mX6_isFit_9 (nI t) n) (nI t) (nI j) (nI (bN a)) J = mX6_isFit_9 (nI t) n (nI (bN a)) (nI (j + 1)) J := fun a => by
      have := e135 true a
      rw [Bool.and_true] at this
      exact this
    have esh : nI t >>> nI (j &&& 31) &&& 1 = nI (bN (t.testBit j)) := shr_B (by omega) (by omega)
    have e1 : nI j &&& 31 = nI (j &&& 31) := nI_and j 31
    dsimp only
    rw [mX6_isFit_9, h.1.2.1, if_neg (nI_ge hj (by omega)), rd_in (by omega) (by decide), p2, e1, esh, eA]
    cases q : t.testBit j
    · rw [if_pos (show nI (bN false) ≠ 1 by decide), Bool.not_false, Bool.true_or, Bool.and_true]
      unfold mX6_isFit_39 mX6_isFit_74 mX6_isFit_79
      rw [if_pos (show (0 : Int32) = 0 from rfl), nm_mk, show nI (bN A) &&& 1 = nI (bN A) by have := nbN_and A true; rw [Bool.and_true] at this; exact this, if_pos (show (0 : Int32) = 0 from rfl)]
      exact e130 A
    · rw [if_neg (show ¬ (nI (bN true) ≠ 1) from fun z => z rfl), Bool.not_true, Bool.false_or]
      unfold mX6_isFit_39
      have a1 : nI (bN A) &&& 1 = nI (bN A) := by have := nbN_and A true; rw [Bool.and_true] at this; exact this
      have a0 : nI (bN A) &&& 0 = nI (bN false) := by have := nbN_and A false; rw [Bool.and_false] at this; exact this
      rw [if_neg (show ¬ ((1 : Int32) = 0) by decide), r30]
      rcases p5 with ha | h33 | h62
      · obtain ⟨z1, z2⟩ := atm_ne ha
        have eg : gdJ c l r V bp j = true := by unfold gdJ; rw [ha]; rfl
        rw [if_pos (show nI (c (bp j)) ≠ 33 from ne_nI (b := 33) (by omega) (by decide) z1), eg, Bool.and_true]
        unfold mX6_isFit_74 mX6_isFit_79
        rw [nm_mk, a1, if_neg (show ¬ ((1 : Int32) = 0) by decide), r30, if_pos (show nI (c (bp j)) ≠ 62 from ne_nI (b := 62) (by omega) (by decide) z2)]
        exact e130 A
      · obtain ⟨v1, v2⟩ := pl (Or.inl h33)
        have ea : atmB (c (bp j)) = false := by rw [h33]; rfl
        have eg : gdJ c l r V bp j = decide (V (l (bp j)) = 0) := by
          unfold gdJ
          rw [ea, Bool.false_or, h33]
          exact decide_eq_decide.mpr (jn_33 v1)
        rw [if_neg (show ¬ (nI (c (bp j)) ≠ 33) from fun z => z (by rw [h33]; rfl)), v2, eg]
        by_cases z : V (l (bp j)) = 0
        · rw [if_neg (show ¬ (nI (V (l (bp j))) ≠ 0) from fun y => y (by rw [z]; rfl)), decide_eq_true z, Bool.and_true]
          unfold mX6_isFit_74 mX6_isFit_79
          rw [nm_mk, a1, if_neg (show ¬ ((1 : Int32) = 0) by decide), r30, if_pos (show nI (c (bp j)) ≠ 62 by rw [h33]; decide)]
          exact e130 A
        · rw [if_pos (show nI (V (l (bp j))) ≠ 0 from ne_nI (b := 0) (by omega) (by decide) z), decide_eq_false z, Bool.and_false]
          unfold mX6_isFit_79
          rw [nm_mk, a0, if_neg (show ¬ ((1 : Int32) = 0) by decide), r30, if_pos (show nI (c (bp j)) ≠ 62 by rw [h33]; decide)]
          exact e130 false
      · obtain ⟨v1, v2⟩ := pl (Or.inr h62)
        obtain ⟨u1, u2⟩ := pr h62
        have ea : atmB (c (bp j)) = false := by rw [h62]; rfl
        have eg : gdJ c l r V bp j = (decide (V (l (bp j)) = 0) || decide (V (r (bp j)) = 1)) := by
          unfold gdJ
          rw [ea, Bool.false_or, h62, ← Bool.decide_or]
          exact decide_eq_decide.mpr (jn_62 v1 u1)
        rw [if_pos (show nI (c (bp j)) ≠ 33 by rw [h62]; decide), eg]
        unfold mX6_isFit_74 mX6_isFit_79
        rw [nm_mk, a1, if_neg (show ¬ ((1 : Int32) = 0) by decide), r30, if_neg (show ¬ (nI (c (bp j)) ≠ 62) from fun z => z (by rw [h62]; rfl)), v2]
        by_cases z : V (l (bp j)) = 0
        · rw [if_pos (show nI (V (l (bp j))) = 0 by rw [z]; rfl), decide_eq_true z, Bool.true_or, Bool.and_true]
          exact e130 A
        · rw [if_neg (show ¬ (nI (V (l (bp j))) = 0) from ne_nI (b := 0) (by omega) (by decide) z), u2, decide_eq_false z, Bool.false_or]
          by_cases x : V (r (bp j)) = 1
          · rw [if_neg (show ¬ (nI (V (r (bp j))) ≠ 1) from fun y => y (by rw [x]; rfl)), decide_eq_true x, Bool.and_true]
            exact e130 A
          · rw [if_pos (show nI (V (r (bp j))) ≠ 1 from ne_nI (b := 1) (by omega) (by decide) x), decide_eq_false x]
            exact e135 false A
  · intro n
    dsimp only
    rw [mX6_isFit_9, h.1.2.1, if_pos (nI_le (Nat.le_refl nb) (by omega)), zr_B]
theorem M_brk9 (h : JW J M Z nb c l r b e y ph btq bp V) (hs : ShapeOK M c l r) (hM : M ≤ 90) (hnb : nb ≤ 10) : mX6_breaks_9 FU 0 0 J = some (nI (brkN c l r V bp nb), J) := by
  unfold brkN
  refine loopE (fun n (s : Int32 × Int32) => mX6_breaks_9 n s.1 s.2 J) nb (fun k => (nI (orF (fun j => if gdJ c l r V bp j = true then 0 else 2 ^ j) k), nI k)) _ ?_ ?_ FU 0 (Nat.zero_le _) (FU_gt (by omega))
  · intro n j hj
    obtain ⟨⟨p1, p2, p3, p4, p5⟩, pl, pr⟩ := h.at hs hM hj
    have r30 : ∀ f : Int32 → Option (Int32 × AW), rd 90 (J.1 0 30) (nI (bp j)) f = f (nI (c (bp j))) := fun f => by rw [rd_in (by omega) (by decide), p3]
    generalize hA : orF (fun j => if gdJ c l r V bp j = true then 0 else 2 ^ j) j = A
    have eA : orF (fun j => if gdJ c l r V bp j = true then 0 else 2 ^ j) (j + 1) = (A ||| (if gdJ c l r V bp j = true then 0 else 2 ^ j)) := by rw [← hA]; rfl
    have e101 : ∀ x : Nat, mX6_breaks_101 (mX6_breaks_9 n) (nI j) (nI x) (nI A) J = mX6_breaks_9 n (nI (A ||| x)) (nI (j + 1)) J := fun x => by
      unfold mX6_breaks_101
      rw [nm_mk, nm_mk, nI_or, show nI j + 1 = nI (j + 1) from nI_add j 1]
    have e1 : (1 : Int32) <<< (nI j &&& 31) = nI (2 ^ j) := by
      have : nI j &&& 31 = nI (j &&& 31) := nI_and j 31
      rw [this]
      exact one_shl (by omega)
    have e85 : gdJ c l r V bp j = true → mX6_breaks_85 (mX6_breaks_9 n) (nI A) (nI j) J = mX6_breaks_9 n (nI (A ||| (if gdJ c l r V bp j = true then 0 else 2 ^ j))) (nI (j + 1)) J := fun z => by
      unfold mX6_breaks_85 mX6_breaks_86
      rw [if_pos (show (0 : Int32) = 0 from rfl), if_pos z]
      exact e101 0
    have e81 : gdJ c l r V bp j = false → mX6_breaks_81 (mX6_breaks_9 n) (nI A) (nI j) J = mX6_breaks_9 n (nI (A ||| (if gdJ c l r V bp j = true then 0 else 2 ^ j))) (nI (j + 1)) J := fun z => by
      unfold mX6_breaks_81 mX6_breaks_86
      rw [if_neg (show ¬ ((1 : Int32) = 0) by decide), e1, z, if_neg (by decide)]
      exact e101 (2 ^ j)
    have ea : decide (112 ≤ c (bp j) ∧ c (bp j) ≤ 115) = atmB (c (bp j)) := rfl
    dsimp only
    rw [mX6_breaks_9, h.1.2.1, if_neg (nI_ge hj (by omega)), rd_in (by omega) (by decide), p2, r30, M_isAtom J (by omega), cl_mk, ea, eA]
    rcases p5 with ha | h33 | h62
    · have eg : gdJ c l r V bp j = true := by unfold gdJ; rw [ha]; rfl
      rw [ha, if_pos (show nI (bN true) ≠ 0 by decide)]
      exact e85 eg
    · obtain ⟨v1, v2⟩ := pl (Or.inl h33)
      have ha : atmB (c (bp j)) = false := by rw [h33]; rfl
      have eg : gdJ c l r V bp j = decide (V (l (bp j)) = 0) := by
        unfold gdJ
        rw [ha, Bool.false_or, h33]
        exact decide_eq_decide.mpr (jn_33 v1)
      rw [ha, if_neg (show ¬ (nI (bN false) ≠ 0) from fun z => z rfl), v2]
      by_cases z : V (l (bp j)) = 1
      · rw [if_neg (show ¬ (nI (V (l (bp j))) ≠ 1) from fun y => y (by rw [z]; rfl)), r30, if_pos (show nI (c (bp j)) = 33 by rw [h33]; rfl)]
        exact e81 (by rw [eg]; exact decide_eq_false (by omega))
      · rw [if_pos (show nI (V (l (bp j))) ≠ 1 from ne_nI (b := 1) (by omega) (by decide) z)]
        exact e85 (by rw [eg]; exact decide_eq_true (by omega))
    · obtain ⟨v1, v2⟩ := pl (Or.inr h62)
      obtain ⟨u1, u2⟩ := pr h62
      have ha : atmB (c (bp j)) = false := by rw [h62]; rfl
      have eg : gdJ c l r V bp j = (decide (V (l (bp j)) = 0) || decide (V (r (bp j)) = 1)) := by
        unfold gdJ
        rw [ha, Bool.false_or, h62, ← Bool.decide_or]
        exact decide_eq_decide.mpr (jn_62 v1 u1)
      rw [ha, if_neg (show ¬ (nI (bN false) ≠ 0) from fun z => z rfl), v2]
      by_cases z : V (l (bp j)) = 1
      · rw [if_neg (show ¬ (nI (V (l (bp j))) ≠ 1) from fun y => y (by rw [z]; rfl)), r30, if_neg (show ¬ (nI (c (bp j)) = 33) by rw [h62]; decide), u2]
        by_cases x : V (r (bp j)) = 0
        · rw [if_neg (show ¬ (nI (V (r (bp j))) ≠ 0) from fun y => y (by rw [x]; rfl))]
          exact e81 (by rw [eg, decide_eq_false (by omega), decide_eq_false (by omega)]; rfl)
        · rw [if_pos (show nI (V (r (bp j))) ≠ 0 from ne_nI (b := 0) (by omega) (by decide) x)]
          exact e85 (by rw [eg, decide_eq_true (show V (r (bp j)) = 1 by omega), Bool.or_true])
      · rw [if_pos (show nI (V (l (bp j))) ≠ 1 from ne_nI (b := 1) (by omega) (by decide) z)]
        exact e85 (by rw [eg, decide_eq_true (show V (l (bp j)) = 0 by omega)]; rfl)
  · intro n
    dsimp only
    rw [mX6_breaks_9, h.1.2.1, if_pos (nI_le (Nat.le_refl nb) (by omega))]
/-- the world after a type has been judged -/
theorem JW.of {w : AW} {t : Nat} (hB : TB w true M Z nb c l r b e y ph btq bp) (hs : ShapeOK M c l r) (hM1 : 1 ≤ M) (hM2 : M ≤ 90) (ht : t < 1024) (hbt : ∀ k, k < M → btq (ph k) < 10) (hnm : ∀ k, k < M → modB (c k) = false) (hh : ∀ j, j < nb → hbB true (c (bp j)) = true) :
    ∃ J, mX6_judges (nI t) w = some ((), J) ∧ KM w J ∧ JW J M Z nb c l r b e y ph btq bp (evV (opT true c ph btq t) c l r) ∧ J.1 0 41 t = nI (bN (decide (evV (opT true c ph btq t) c l r (M - 1) = 1))) ∧ (∀ a, a ≠ 38 → a ≠ 41 → J.1 0 a = w.1 0 a) ∧ (∀ u, u ≠ t → J.1 0 41 u = w.1 0 41 u) := by
  have hb : ∀ k, k < M → evV (opT true c ph btq t) c l r k < 2 := fun k hk => evV_lt hs (by decide) (fun k _ a b ha hb => opT_lt ha hb) (k + 1) k (Nat.lt_succ_self k) hk
  have ej := M_judges (gr := true) hB.1 hs hM1 hM2 ht hbt (fun k hk _ => hnm k hk) hB.2.2.2
  have row : ∀ a, a ≠ 38 → a ≠ 41 → (am_set (hdW w (evV (opT true c ph btq t) c l r) M) 0 41 t (nI (bN (decide (evV (opT true c ph btq t) c l r (M - 1) = 1))))).1 0 a = w.1 0 a := fun a h1 h2 => by rw [am_get_row (Or.inr h2), hdW_row M a h1]
  refine ⟨_, ej, (hdW_K M).set (Or.inl (by decide)), ⟨hB.keep (fun a h1 h2 => row a (by omega) (by omega)) (fun j _ => by rw [row 0 (by decide) (by decide)]), fun k hk => ?_, hb, hh⟩, am_get_self _ _ _ _ _, row, fun u hu => ?_⟩
  · rw [am_get_row (by decide)]
    exact setRow_in M hk
  · rw [am_get_other hu, hdW_row M 41 (by decide)]
end GM
end
section
/-! the model: growing types fall one by one -/
def mf8 (rest : Nat) (brk : Nat → Nat) (Z : Nat) (th : Nat → Bool) (t : Nat) : Bool := mfB (fun u => th u && decide (sdiff t u = 0)) (fun u => brk u ^^^ 4294967295) (sdiff rest t) false Z
theorem mf8_iff {rest Z t : Nat} {brk : Nat → Nat} {th : Nat → Bool} : mf8 rest brk Z th t = true ↔ ∃ k, (sdiff rest t).testBit k = true ∧ ∀ u, u < Z → th u = true → sdiff t u = 0 → (brk u ^^^ 4294967295).testBit k = true := by
  unfold mf8
  rw [mfB_iff]
  constructor
  · rintro (⟨k, k1, k2⟩ | ⟨z, -⟩)
    · exact ⟨k, k1, fun u hu h1 h2 => k2 u hu (by rw [h1, decide_eq_true h2]; rfl)⟩
    · cases z
  · rintro ⟨k, k1, k2⟩
    refine Or.inl ⟨k, k1, fun u hu z => ?_⟩
    rw [Bool.and_eq_true, decide_eq_true_eq] at z
    exact k2 u hu z.1 z.2
theorem mf8_anti {rest Z t : Nat} {brk : Nat → Nat} {th S : Nat → Bool} (hs : ∀ u, u < Z → S u = true → th u = true) (h : mf8 rest brk Z th t = true) : mf8 rest brk Z S t = true := by
  obtain ⟨k, k1, k2⟩ := mf8_iff.mp h
  exact mf8_iff.mpr ⟨k, k1, fun u hu z1 z2 => k2 u hu (hs u hu z1) z2⟩
def StabG (fit : Nat → Bool) (rest : Nat) (brk : Nat → Nat) (Z : Nat) (S : Nat → Bool) : Prop := ∀ u, u < Z → S u = true → fit u = true ∧ mf8 rest brk Z S u = false
def GoodG (fit : Nat → Bool) (rest : Nat) (brk : Nat → Nat) (Z : Nat) (th : Nat → Bool) : Prop := (∀ u, u < Z → th u = true → fit u = true) ∧ ∀ S, StabG fit rest brk Z S → ∀ u, u < Z → S u = true → th u = true
theorem sd_le {t u : Nat} (ht : t < 2 ^ 32) (h : sdiff t u = 0) : t ≤ u := by
  have e : t &&& u = t := by
    refine Nat.eq_of_testBit_eq (fun k => ?_)
    rw [Nat.testBit_and]
    cases e : t.testBit k
    · rfl
    · have hk : k < 32 := by
        rcases Nat.lt_or_ge k 32 with q | q
        · exact q
        · rw [bits_of_lt ht q] at e; cases e
      rw [(sdiff_zero ht (Nat.le_refl 32)).mp h k hk e]
      rfl
  rw [← e]
  exact Nat.and_le_right
theorem and_m1 {x : Nat} (h : x < 2 ^ 31) : nI x &&& (-1) = nI x := by
  show nI x &&& nI 4294967295 = nI x
  rw [nI_and]
  congr 1
  refine Nat.eq_of_testBit_eq (fun k => ?_)
  rw [Nat.testBit_and, tb_all]
  by_cases q : k < 32
  · rw [decide_eq_true q, Bool.and_true]
  · rw [bits_of_lt h (by omega), Bool.false_and]
section SW
variable {W0 : AW} {nb rest : Nat} {brk : Nat → Nat} {hd fit : Nat → Bool}
/-- what stays as it is through the sweeps -/
def SwB (W0 : AW) (nb : Nat) (brk : Nat → Nat) (hd : Nat → Bool) : Prop := W0.1 0 0 35 = nI nb ∧ ∀ t, t < 2 ^ nb → W0.1 0 40 t = nI (brk t) ∧ W0.1 0 41 t = nI (bN (hd t))
def SwI (W0 W : AW) (nb : Nat) (th : Nat → Bool) : Prop := KM W0 W ∧ (∀ a, a ≠ 42 → W.1 0 a = W0.1 0 a) ∧ ∀ u, u < 2 ^ nb → decide (W.1 0 42 u = -9) = th u
theorem M_s190 {k96 : Int32 → AW → Option (Int32 × AW)} {k104 : Int32 → Int32 → AW → Option (Int32 × AW)} {W : AW} {v1 v2 : Int32} {t x : Nat} {th : Nat → Bool} (hI : SwI W0 W nb th) (hnb : nb ≤ 10) (ht : t < 2 ^ nb) (hx : x < 2 ^ 31) :
    mX6_isShown_190 k96 k104 v1 v2 (nI t) (nI x) W = if th t = true ∧ x ≠ 0 then k104 1 (nI (t + 1)) (am_set W 0 42 t 1) else k104 v2 (nI (t + 1)) W := by
  have hpw := pow_nb hnb
  have e212 : ∀ (v : Int32) (V : AW), mX6_isShown_212 k96 k104 v1 v (nI t) V = k104 v (nI (t + 1)) V := fun v V => by
    unfold mX6_isShown_212
    rw [nm_mk, show nI t + 1 = nI (t + 1) from nI_add t 1]
  have eis : mX6_isThere (nI t) W = some (nI (bN (th t)), W) := by rw [M_isThere (show t < 1024 by omega) rfl, hI.2.2 t ht]
  unfold mX6_isShown_190
  rw [eis, cl_mk]
  cases q : th t
  · rw [if_pos (show nI (bN false) = 0 from rfl), e212, if_neg (fun z => by cases z.1)]
  · rw [if_neg (show ¬ (nI (bN true) = 0) by decide)]
    by_cases z : x = 0
    · rw [if_pos (show nI x = 0 by rw [z]; rfl), e212, if_neg (fun y => y.2 z)]
    · rw [if_neg (show ¬ (nI x = 0) from ne_nI (b := 0) hx (by decide) z), wr_in (show t < 1024 by omega) (by decide), e212, if_pos ⟨rfl, z⟩]
theorem M_s124 (hB : SwB W0 nb brk hd) {k96 : Int32 → AW → Option (Int32 × AW)} {k104 : Int32 → Int32 → AW → Option (Int32 × AW)} {W : AW} {v2 : Int32} {t : Nat} {th : Nat → Bool} (hI : SwI W0 W nb th) (hnb : nb ≤ 10) (hrest : rest < 2 ^ 10) (ht : t < 2 ^ nb) :
    mX6_isShown_124 k96 k104 (nI rest) v2 (nI t) FU (nI (sdiff rest t)) (nI t) W = if th t = true ∧ mf8 rest brk (2 ^ nb) th t = true then k104 1 (nI (t + 1)) (am_set W 0 42 t 1) else k104 v2 (nI (t + 1)) W := by
  have hpw := pow_nb hnb
  have o0l : sdiff rest t < 2 ^ 10 := sdiff_lt hrest
  have eis : ∀ u, u < 2 ^ nb → mX6_isThere (nI u) W = some (nI (bN (th u)), W) := fun u hu => by rw [M_isThere (show u < 1024 by omega) rfl, hI.2.2 u hu]
  have h35 : W.1 0 0 35 = nI nb := by rw [hI.2.1 0 (by decide)]; exact hB.1
  cases q : th t
  · obtain ⟨n, hn⟩ : ∃ n, FU = n + 1 := ⟨FU - 1, by have := FU_le; omega⟩
    have e190 : ∀ x, x < 2 ^ 31 → mX6_isShown_190 k96 k104 (nI rest) v2 (nI t) (nI x) W = k104 v2 (nI (t + 1)) W := fun x hx => by
      rw [M_s190 hI hnb ht hx, if_neg (fun z => by rw [q] at z; cases z.1)]
    rw [if_neg (fun z => by cases z.1), hn, mX6_isShown_124, h35, sh_nb hnb, if_neg (nI_ge ht (by omega))]
    by_cases z : sdiff rest t = 0
    · rw [if_pos (show nI (sdiff rest t) = 0 by rw [z]; rfl), e190 _ (by omega)]
    · rw [if_neg (show ¬ (nI (sdiff rest t) = 0) from ne_nI (b := 0) (by omega) (by decide) z), eis t ht, cl_mk, q, if_pos (show nI (bN false) = 0 from rfl), e190 _ (by omega)]
  · -- it is there: the fold from t on
    have ol : ∀ n, owN (fun u => th u && decide (sdiff t u = 0)) (fun u => brk u ^^^ 4294967295) (sdiff rest t) n < 2 ^ 10 := fun n => Nat.lt_of_le_of_lt (owN_le n) o0l
    have hex : ∃ n, t ≤ n ∧ (n = 2 ^ nb ∨ owN (fun u => th u && decide (sdiff t u = 0)) (fun u => brk u ^^^ 4294967295) (sdiff rest t) n = 0) := ⟨2 ^ nb, by omega, Or.inl rfl⟩
    obtain ⟨E, ⟨hE1, hE⟩, hmin⟩ := pk_least _ hex
    have hEZ : E ≤ 2 ^ nb := by
      rcases Nat.lt_or_ge (2 ^ nb) E with y | y
      · exact absurd ⟨by omega, Or.inl rfl⟩ (hmin _ y)
      · exact y
    have ow0 : ∀ n, n ≤ t → owN (fun u => th u && decide (sdiff t u = 0)) (fun u => brk u ^^^ 4294967295) (sdiff rest t) n = sdiff rest t := by
      intro n
      induction n with
      | zero => intro _; rfl
      | succ n ih =>
        intro hn
        show (if (th n && decide (sdiff t n = 0)) = true then owN (fun u => th u && decide (sdiff t u = 0)) (fun u => brk u ^^^ 4294967295) (sdiff rest t) n &&& (brk n ^^^ 4294967295) else owN (fun u => th u && decide (sdiff t u = 0)) (fun u => brk u ^^^ 4294967295) (sdiff rest t) n) = _
        rw [if_neg (fun z => by
          rw [Bool.and_eq_true, decide_eq_true_eq] at z
          have := sd_le (by omega) z.2
          omega)]
        exact ih (by omega)
    have run : mX6_isShown_124 k96 k104 (nI rest) v2 (nI t) FU (nI (sdiff rest t)) (nI t) W = mX6_isShown_190 k96 k104 (nI rest) v2 (nI t) (nI (owN (fun u => th u && decide (sdiff t u = 0)) (fun u => brk u ^^^ 4294967295) (sdiff rest t) E)) W := by
      have := loopE (fun n (s : Int32 × Int32) => mX6_isShown_124 k96 k104 (nI rest) v2 (nI t) n s.1 s.2 W) (E - t) (fun k => (nI (owN (fun u => th u && decide (sdiff t u = 0)) (fun u => brk u ^^^ 4294967295) (sdiff rest t) (t + k)), nI (t + k))) (mX6_isShown_190 k96 k104 (nI rest) v2 (nI t) (nI (owN (fun u => th u && decide (sdiff t u = 0)) (fun u => brk u ^^^ 4294967295) (sdiff rest t) E)) W) ?_ ?_ FU 0 (Nat.zero_le _) (FU_gt (by omega))
      · dsimp only at this
        rw [Nat.add_zero, ow0 t (Nat.le_refl t)] at this
        exact this
      · intro n k hk
        have hu : t + k < 2 ^ nb := by omega
        have hno : owN (fun u => th u && decide (sdiff t u = 0)) (fun u => brk u ^^^ 4294967295) (sdiff rest t) (t + k) ≠ 0 := fun z => hmin (t + k) (by omega) ⟨by omega, Or.inr z⟩
        have es : owN (fun u => th u && decide (sdiff t u = 0)) (fun u => brk u ^^^ 4294967295) (sdiff rest t) (t + (k + 1)) = if (th (t + k) && decide (sdiff t (t + k) = 0)) = true then owN (fun u => th u && decide (sdiff t u = 0)) (fun u => brk u ^^^ 4294967295) (sdiff rest t) (t + k) &&& (brk (t + k) ^^^ 4294967295) else owN (fun u => th u && decide (sdiff t u = 0)) (fun u => brk u ^^^ 4294967295) (sdiff rest t) (t + k) := rfl
        have hl := ol (t + k)
        generalize owN (fun u => th u && decide (sdiff t u = 0)) (fun u => brk u ^^^ 4294967295) (sdiff rest t) (t + (k + 1)) = o2 at *
        generalize owN (fun u => th u && decide (sdiff t u = 0)) (fun u => brk u ^^^ 4294967295) (sdiff rest t) (t + k) = o1 at *
        have e181 : ∀ s0 : Int32, nI o1 &&& s0 = nI o2 → mX6_isShown_181 k96 k104 (mX6_isShown_124 k96 k104 (nI rest) v2 (nI t) n) (nI rest) v2 (nI t) (nI (t + k)) s0 (nI o1) W = mX6_isShown_124 k96 k104 (nI rest) v2 (nI t) n (nI o2) (nI (t + (k + 1))) W := fun s0 hs0 => by
          unfold mX6_isShown_181
          rw [nm_mk, nm_mk, hs0, show nI (t + k) + 1 = nI (t + (k + 1)) from nI_add (t + k) 1]
        dsimp only
        rw [mX6_isShown_124, h35, sh_nb hnb, if_neg (nI_ge hu (by omega)), if_neg (show ¬ (nI o1 = 0) from ne_nI (b := 0) (by omega) (by decide) hno), eis t ht, cl_mk, q, if_neg (show ¬ (nI (bN true) = 0) by decide), eis _ hu, cl_mk]
        unfold mX6_isShown_180
        cases y : th (t + k)
        · rw [if_pos (show nI (bN false) = 0 from rfl)]
          refine e181 _ ?_
          rw [y, Bool.false_and, if_neg (by decide)] at es
          rw [es, and_m1 (by omega)]
        · rw [if_neg (show ¬ (nI (bN true) = 0) by decide), show nI t &&& (nI (t + k) ^^^ (-1)) = nI (sdiff t (t + k)) from nI_sdiff _ _]
          have hsl : sdiff t (t + k) < 2 ^ 10 := sdiff_lt (show t < 2 ^ 10 by omega)
          by_cases x : sdiff t (t + k) = 0
          · rw [if_neg (show ¬ (nI (sdiff t (t + k)) ≠ 0) from fun z => z (by rw [x]; rfl)), rd_in (show t + k < 1024 by omega) (by decide), hI.2.1 40 (by decide), (hB.2 _ hu).1]
            refine e181 _ ?_
            rw [y, decide_eq_true x, if_pos (show (true && true) = true from rfl)] at es
            rw [es, show nI (brk (t + k)) ^^^ (-1) = nI (brk (t + k) ^^^ 4294967295) from nI_xor _ _, nI_and]
          · rw [if_pos (show nI (sdiff t (t + k)) ≠ 0 from ne_nI (b := 0) (by omega) (by decide) x)]
            refine e181 _ ?_
            rw [decide_eq_false x, Bool.and_false, if_neg (by decide)] at es
            rw [es, and_m1 (by omega)]
      · intro n
        dsimp only
        rw [show t + (E - t) = E by omega, mX6_isShown_124, h35, sh_nb hnb]
        by_cases y : nI (2 ^ nb) ≤ nI E
        · rw [if_pos y]
        · rw [if_neg y]
          have hz : owN (fun u => th u && decide (sdiff t u = 0)) (fun u => brk u ^^^ 4294967295) (sdiff rest t) E = 0 := by
            rcases hE with x | x
            · exact absurd (nI_le (by omega) (by omega)) y
            · exact x
          rw [hz, if_pos (show nI 0 = 0 from rfl)]
    rw [run, M_s190 hI hnb ht (by have := ol E; omega), q]
    have emf : mf8 rest brk (2 ^ nb) th t = true ↔ owN (fun u => th u && decide (sdiff t u = 0)) (fun u => brk u ^^^ 4294967295) (sdiff rest t) E ≠ 0 := by
      unfold mf8 mfB
      rw [msN_false (n := 0) rfl (Nat.zero_le _), Bool.or_false]
      constructor
      · intro h z
        rw [owN_zero z hEZ] at h
        cases h
      · intro h
        have : E = 2 ^ nb := by
          rcases hE with x | x
          · exact x
          · exact absurd x h
        rw [← this, decide_eq_false h]
        rfl
    by_cases z : mf8 rest brk (2 ^ nb) th t = true
    · rw [if_pos ⟨rfl, emf.mp z⟩, if_pos ⟨rfl, z⟩]
    · rw [if_neg (fun y => z (emf.mpr y.2)), if_neg (fun y => z y.2)]
theorem M_s104 (hB : SwB W0 nb brk hd) {k96 : Int32 → AW → Option (Int32 × AW)} (hnb : nb ≤ 10) (hrest : rest < 2 ^ 10) : ∀ (e t n n0 : Nat) (W : AW) (th : Nat → Bool) (more : Bool), 2 ^ nb = t + e → e < n → SwI W0 W nb th → GoodG fit rest brk (2 ^ nb) th → (more = false → ∀ u, u < t → th u = true → mf8 rest brk (2 ^ nb) th u = false) → cntF th (2 ^ nb) + bN more ≤ n0 →
    ∃ W2 th2 more2, mX6_isShown_104 k96 (nI rest) n (nI (bN more)) (nI t) W = k96 (nI (bN more2)) W2 ∧ SwI W0 W2 nb th2 ∧ GoodG fit rest brk (2 ^ nb) th2 ∧ (more2 = false → ∀ u, u < 2 ^ nb → th2 u = true → mf8 rest brk (2 ^ nb) th2 u = false) ∧ cntF th2 (2 ^ nb) + bN more2 ≤ n0 := by
  have hpw := pow_nb hnb
  intro e
  induction e with
  | zero =>
    intro t n n0 W th more he hn hI hG hm hc
    obtain ⟨n, rfl⟩ : ∃ k, n = k + 1 := ⟨n - 1, by omega⟩
    have e2 : t = 2 ^ nb := by omega
    subst e2
    refine ⟨W, th, more, ?_, hI, hG, hm, hc⟩
    rw [mX6_isShown_104, hI.2.1 0 (by decide), hB.1, sh_nb hnb, if_pos (nI_le (Nat.le_refl _) (by omega))]
  | succ e ih =>
    intro t n n0 W th more he hn hI hG hm hc
    obtain ⟨n, rfl⟩ : ∃ k, n = k + 1 := ⟨n - 1, by omega⟩
    have ht : t < 2 ^ nb := by omega
    have e124 := M_s124 (k96 := k96) (k104 := mX6_isShown_104 k96 (nI rest) n) (v2 := nI (bN more)) hB hI hnb hrest ht
    have head : mX6_isShown_104 k96 (nI rest) (n + 1) (nI (bN more)) (nI t) W = if th t = true ∧ mf8 rest brk (2 ^ nb) th t = true then mX6_isShown_104 k96 (nI rest) n 1 (nI (t + 1)) (am_set W 0 42 t 1) else mX6_isShown_104 k96 (nI rest) n (nI (bN more)) (nI (t + 1)) W := by
      rw [mX6_isShown_104, hI.2.1 0 (by decide), hB.1, sh_nb hnb, if_neg (nI_ge ht (by omega)), show nI rest &&& (nI t ^^^ (-1)) = nI (sdiff rest t) from nI_sdiff _ _, nm_mk, e124]
    rw [head]
    by_cases z : th t = true ∧ mf8 rest brk (2 ^ nb) th t = true
    · rw [if_pos z]
      have hsub : ∀ u, (th u && decide (u ≠ t)) = true → th u = true := fun u y => by rw [Bool.and_eq_true] at y; exact y.1
      refine ih (t + 1) n n0 (am_set W 0 42 t 1) (fun u => th u && decide (u ≠ t)) true (by omega) (by omega) ⟨hI.1.set (Or.inl (by decide)), fun a ha => by rw [am_get_row (Or.inr ha)]; exact hI.2.1 a ha, fun u hu => ?_⟩ ⟨fun u hu y => hG.1 u hu (hsub u y), fun S hS u hu y => ?_⟩ (fun y => by cases y) ?_
      · show decide ((am_set W 0 42 t 1).1 0 42 u = -9) = (th u && decide (u ≠ t))
        by_cases x : u = t
        · rw [x, am_get_self, decide_eq_false (show ¬ ((1 : Int32) = -9) by decide), decide_eq_false (show ¬ (t ≠ t) from fun y => y rfl), Bool.and_false]
        · rw [am_get_other x, hI.2.2 u hu, decide_eq_true x, Bool.and_true]
      · show (th u && decide (u ≠ t)) = true
        rw [hG.2 S hS u hu y, Bool.true_and]
        refine decide_eq_true (fun x => ?_)
        have h1 := (hS u hu y).2
        rw [x] at h1
        have h2 := mf8_anti (fun v hv w => hG.2 S hS v hv w) z.2
        rw [h1] at h2
        cases h2
      · have := cntF_strict (h := fun u => th u && decide (u ≠ t)) (g := th) ht (fun u _ y => hsub u y) (by show (th t && decide (t ≠ t)) = false; rw [decide_eq_false (show ¬ (t ≠ t) from fun y => y rfl), Bool.and_false]) z.1
        rw [bN_t]
        omega
    · rw [if_neg z]
      exact ih (t + 1) n n0 W th more (by omega) (by omega) hI hG (fun hm0 u hu hu2 => by
        by_cases x : u = t
        · rw [x] at hu2 ⊢
          cases y : mf8 rest brk (2 ^ nb) th t
          · rfl
          · exact absurd ⟨hu2, y⟩ z
        · exact hm hm0 u (by omega) hu2) hc
theorem M_s96 (hB : SwB W0 nb brk hd) (hnb : nb ≤ 10) (hrest : rest < 2 ^ 10) : ∀ (e n : Nat) (W : AW) (th : Nat → Bool), cntF th (2 ^ nb) ≤ e → e + 2 < n → SwI W0 W nb th → GoodG fit rest brk (2 ^ nb) th →
    ∃ W2 th2, mX6_isShown_96 (nI rest) n 1 W = some (nI (bN (lawM th2 hd (2 ^ nb))), W2) ∧ KM W0 W2 ∧ GoodG fit rest brk (2 ^ nb) th2 ∧ StabG fit rest brk (2 ^ nb) th2 := by
  have hpw := pow_nb hnb
  have last : ∀ (n : Nat) (W : AW) (th : Nat → Bool), SwI W0 W nb th → mX6_isShown_96 (nI rest) (n + 1) 0 W = some (nI (bN (lawM th hd (2 ^ nb))), W) := fun n W th hI => by
    have el := M_isLaw (hd := hd) (th := th) (W := W) (nb := nb) (by rw [hI.2.1 0 (by decide)]; exact hB.1) hnb (fun t ht => by rw [hI.2.1 41 (by decide)]; exact (hB.2 t ht).2) hI.2.2
    rw [mX6_isShown_96, if_pos rfl, el, cl_mk, zr_B]
  have one : ∀ (n : Nat) (W : AW) (th : Nat → Bool), SwI W0 W nb th → GoodG fit rest brk (2 ^ nb) th → ∃ W2 th2 more2, mX6_isShown_96 (nI rest) (n + 1) 1 W = mX6_isShown_96 (nI rest) n (nI (bN more2)) W2 ∧ SwI W0 W2 nb th2 ∧ GoodG fit rest brk (2 ^ nb) th2 ∧ (more2 = false → ∀ u, u < 2 ^ nb → th2 u = true → mf8 rest brk (2 ^ nb) th2 u = false) ∧ cntF th2 (2 ^ nb) + bN more2 ≤ cntF th (2 ^ nb) := fun n W th hI hG => by
    obtain ⟨W2, th2, more2, g⟩ := M_s104 (fit := fit) (k96 := mX6_isShown_96 (nI rest) n) hB hnb hrest (2 ^ nb) 0 FU (cntF th (2 ^ nb)) W th false (by omega) (FU_gt (by omega)) hI hG (fun _ u hu => absurd hu (Nat.not_lt_zero u)) (by rw [bN_f]; omega)
    refine ⟨W2, th2, more2, ?_, g.2⟩
    rw [mX6_isShown_96, if_neg (show ¬ ((1 : Int32) = 0) by decide)]
    exact g.1
  intro e
  induction e with
  | zero =>
    intro n W th hc hn hI hG
    obtain ⟨n, rfl⟩ : ∃ k, n = k + 2 := ⟨n - 2, by omega⟩
    obtain ⟨W2, th2, more2, g1, g2, g3, g4, g5⟩ := one (n + 1) W th hI hG
    cases more2
    · refine ⟨W2, th2, ?_, g2.1, g3, fun u hu z => ⟨g3.1 u hu z, g4 rfl u hu z⟩⟩
      rw [g1]
      exact last n W2 th2 g2
    · rw [bN_t] at g5
      omega
  | succ e ih =>
    intro n W th hc hn hI hG
    obtain ⟨n, rfl⟩ : ∃ k, n = k + 2 := ⟨n - 2, by omega⟩
    obtain ⟨W2, th2, more2, g1, g2, g3, g4, g5⟩ := one (n + 1) W th hI hG
    cases more2
    · refine ⟨W2, th2, ?_, g2.1, g3, fun u hu z => ⟨g3.1 u hu z, g4 rfl u hu z⟩⟩
      rw [g1]
      exact last n W2 th2 g2
    · rw [bN_t] at g5
      obtain ⟨W3, th3, f1, f2⟩ := ih (n + 1) W2 th2 (by omega) (by omega) g2 g3
      exact ⟨W3, th3, by rw [g1]; exact f1, f2⟩
end SW
end
section
/-! shown: both sides -/
def restN (c bp : Nat → Nat) (nb : Nat) : Nat := orF (fun j => if atmB (c (bp j)) = true then 0 else 2 ^ j) nb
section SH
variable {w0 w : AW} {M Z nb : Nat} {c l r b e y ph btq bp : Nat → Nat}
theorem M_s4 (hB : TB w true M Z nb c l r b e y ph btq bp) (hs : ShapeOK M c l r) (hM : M ≤ 90) (hnb : nb ≤ 10) : mX6_isShown_4 FU 0 0 w = mX6_isShown_47 (nI (restN c bp nb)) FU 0 w := by
  unfold restN
  refine loopE (fun n (s : Int32 × Int32) => mX6_isShown_4 n s.1 s.2 w) nb (fun k => (nI (orF (fun j => if atmB (c (bp j)) = true then 0 else 2 ^ j) k), nI k)) _ ?_ ?_ FU 0 (Nat.zero_le _) (FU_gt (by omega))
  · intro n j hj
    obtain ⟨p1, p2⟩ := hB.2.2.1 j hj
    have w30 := (hB.1.2.2.1 _ p1).1
    have hc := kinds_lt (kinds_of hs p1)
    have eA : orF (fun j => if atmB (c (bp j)) = true then 0 else 2 ^ j) (j + 1) = (orF (fun j => if atmB (c (bp j)) = true then 0 else 2 ^ j) j ||| (if atmB (c (bp j)) = true then 0 else 2 ^ j)) := rfl
    have e37 : ∀ x : Nat, mX6_isShown_37 (mX6_isShown_4 n) (nI j) (nI x) (nI (orF (fun j => if atmB (c (bp j)) = true then 0 else 2 ^ j) j)) w = mX6_isShown_4 n (nI (orF (fun j => if atmB (c (bp j)) = true then 0 else 2 ^ j) j ||| x)) (nI (j + 1)) w := fun x => by
      unfold mX6_isShown_37
      rw [nm_mk, nm_mk, nI_or, show nI j + 1 = nI (j + 1) from nI_add j 1]
    have e1 : (1 : Int32) <<< (nI j &&& 31) = nI (2 ^ j) := by
      have : nI j &&& 31 = nI (j &&& 31) := nI_and j 31
      rw [this]
      exact one_shl (by omega)
    have ea : decide (112 ≤ c (bp j) ∧ c (bp j) ≤ 115) = atmB (c (bp j)) := rfl
    dsimp only
    rw [mX6_isShown_4, hB.2.1, if_neg (nI_ge hj (by omega)), rd_in (by omega) (by decide), p2, rd_in (by omega) (by decide), w30, M_isAtom w (by omega), cl_mk, ea, e1, eA]
    cases q : atmB (c (bp j))
    · rw [if_pos (show nI (bN false) = 0 from rfl), if_neg (by decide)]
      exact e37 _
    · rw [if_neg (show ¬ (nI (bN true) = 0) by decide), if_pos rfl]
      exact e37 0
  · intro n
    dsimp only
    rw [mX6_isShown_4, hB.2.1, if_pos (nI_le (Nat.le_refl nb) (by omega))]
theorem M_s47 (hs : ShapeOK M c l r) (hM1 : 1 ≤ M) (hM2 : M ≤ 90) (hnb : nb ≤ 10) (hbt : ∀ k, k < M → btq (ph k) < 10) (hnm : ∀ k, k < M → modB (c k) = false) (hh : ∀ j, j < nb → hbB true (c (bp j)) = true) {rest : Int32} : ∀ (q t n : Nat) (W : AW), 2 ^ nb = t + q → q < n → KM w0 W → TB W true M Z nb c l r b e y ph btq bp → (∀ u, u < t → W.1 0 42 u = (if fitG c l r (evV (opT true c ph btq u) c l r) bp nb u = true then -9 else nI 0) ∧ W.1 0 40 u = nI (brkN c l r (evV (opT true c ph btq u) c l r) bp nb) ∧ W.1 0 41 u = nI (bN (decide (evV (opT true c ph btq u) c l r (M - 1) = 1)))) →
    ∃ W2, mX6_isShown_47 rest n (nI t) W = mX6_isShown_96 rest FU 1 W2 ∧ KM w0 W2 ∧ TB W2 true M Z nb c l r b e y ph btq bp ∧ (∀ u, u < 2 ^ nb → W2.1 0 42 u = (if fitG c l r (evV (opT true c ph btq u) c l r) bp nb u = true then -9 else nI 0) ∧ W2.1 0 40 u = nI (brkN c l r (evV (opT true c ph btq u) c l r) bp nb) ∧ W2.1 0 41 u = nI (bN (decide (evV (opT true c ph btq u) c l r (M - 1) = 1)))) := by
  have hpw := pow_nb hnb
  intro q
  induction q with
  | zero =>
    intro t n W hq2 hn hK hB hr
    obtain ⟨n, rfl⟩ : ∃ i, n = i + 1 := ⟨n - 1, by omega⟩
    have e2 : t = 2 ^ nb := by omega
    subst e2
    refine ⟨W, ?_, hK, hB, hr⟩
    rw [mX6_isShown_47, hB.2.1, sh_nb hnb, if_pos (nI_le (Nat.le_refl _) (by omega))]
  | succ q ih =>
    intro t n W hq2 hn hK hB hr
    obtain ⟨n, rfl⟩ : ∃ i, n = i + 1 := ⟨n - 1, by omega⟩
    have ht : t < 2 ^ nb := by omega
    obtain ⟨J, j1, j2, j3, j4, j5, j6⟩ := JW.of hB hs hM1 hM2 (show t < 1024 by omega) hbt hnm hh
    have ef := M_fit9 j3 hs hM2 hnb (show t < 1024 by omega)
    -- its place in the list of the fallen
    have step : ∀ s0 : Int32, s0 = (if fitG c l r (evV (opT true c ph btq t) c l r) bp nb t = true then -9 else nI 0) → ∃ W2, mX6_isShown_76 (mX6_isShown_47 rest n) rest (nI t) s0 (nI t) J = mX6_isShown_96 rest FU 1 W2 ∧ KM w0 W2 ∧ TB W2 true M Z nb c l r b e y ph btq bp ∧ (∀ u, u < 2 ^ nb → W2.1 0 42 u = (if fitG c l r (evV (opT true c ph btq u) c l r) bp nb u = true then -9 else nI 0) ∧ W2.1 0 40 u = nI (brkN c l r (evV (opT true c ph btq u) c l r) bp nb) ∧ W2.1 0 41 u = nI (bN (decide (evV (opT true c ph btq u) c l r (M - 1) = 1)))) := fun s0 hs0 => by
      have hB1 : TB (am_set J 0 42 t s0) true M Z nb c l r b e y ph btq bp := j3.1.keep (fun a h1 h2 => by rw [am_get_row (Or.inr (by omega))]) (fun i _ => by rw [am_get_row (by decide)])
      obtain ⟨J2, k1, k2, k3, k4, k5, k6⟩ := JW.of hB1 hs hM1 hM2 (show t < 1024 by omega) hbt hnm hh
      have eb := M_brk9 k3 hs hM2 hnb
      have hB2 : TB (am_set J2 0 40 t (nI (brkN c l r (evV (opT true c ph btq t) c l r) bp nb))) true M Z nb c l r b e y ph btq bp := k3.1.keep (fun a h1 h2 => by rw [am_get_row (Or.inr (by omega))]) (fun i _ => by rw [am_get_row (by decide)])
      obtain ⟨W2, f1, f2⟩ := ih (t + 1) n (am_set J2 0 40 t (nI (brkN c l r (evV (opT true c ph btq t) c l r) bp nb))) (by omega) (by omega) ((((hK.tr j2).set (Or.inl (by decide))).tr k2).set (Or.inl (by decide))) hB2 (fun u hu => by
        rw [am_get_row (show (0 : Nat) ≠ 0 ∨ 42 ≠ 40 from Or.inr (by decide)), am_get_row (show (0 : Nat) ≠ 0 ∨ 41 ≠ 40 from Or.inr (by decide)), k5 42 (by decide) (by decide)]
        by_cases x : u = t
        · subst x
          rw [am_get_self, am_get_self, k4]
          exact ⟨hs0, rfl, rfl⟩
        · have := hr u (by omega)
          rw [am_get_other x, am_get_other x, k5 40 (by decide) (by decide), k6 u x, am_get_row (show (0 : Nat) ≠ 0 ∨ 40 ≠ 42 from Or.inr (by decide)), am_get_row (show (0 : Nat) ≠ 0 ∨ 41 ≠ 42 from Or.inr (by decide)), j5 42 (by decide) (by decide), j5 40 (by decide) (by decide), j6 u x]
          exact this)
      refine ⟨W2, ?_, f2⟩
      have ebr : mX6_breaks (nI t) (am_set J 0 42 t s0) = some (nI (brkN c l r (evV (opT true c ph btq t) c l r) bp nb), J2) := by
        unfold mX6_breaks
        rw [k1, cl_mk]
        exact eb
      unfold mX6_isShown_76
      rw [wr_in (show t < 1024 by omega) (by decide), ebr, cl_mk, wr_in (show t < 1024 by omega) (by decide), nm_mk, show nI t + 1 = nI (t + 1) from nI_add t 1]
      exact f1
    have efit : mX6_isFit (nI t) W = some (nI (bN (fitG c l r (evV (opT true c ph btq t) c l r) bp nb t)), J) := by
      unfold mX6_isFit
      rw [j1, cl_mk]
      exact ef
    rw [mX6_isShown_47, hB.2.1, sh_nb hnb, if_neg (nI_ge ht (by omega)), efit, cl_mk]
    cases z : fitG c l r (evV (opT true c ph btq t) c l r) bp nb t
    · rw [if_pos (show nI (bN false) = 0 from rfl)]
      exact step 0 (by rw [z]; rfl)
    · rw [if_neg (show ¬ (nI (bN true) = 0) by decide)]
      exact step (-9) (by rw [z]; rfl)
end SH
section GC
variable {m P nb : Nat} {c l r ph pl bp : Nat → Nat}
/-- of growing nets: the class's words of a type, bit by bit -/
theorem gr_bits (hk : LQ (hq 8 m c ph) P nb (fun j => ph (bp j))) (hid : ∀ j, j < nb → rkF (hq 8 m c ph) pl P (ph (bp j)) = j) (hc : ClassOK m P c l r ph) (hbp : ∀ j, j < nb → bp j < m) (hnm : ∀ k, k < m → modB (c k) = false) :
    (∀ t, t < 2 ^ nb → clN (CLf 8 m P c ph pl) (TUf 8 m P c ph pl) t = t) ∧ OWf 8 m P c ph pl = restN c bp nb := by
  have g1 : ∀ p, clF 8 m c ph p = true → hq 8 m c ph p = true := fun p z => by unfold clF at z; rw [Bool.and_eq_true] at z; exact z.1
  have g2 : ∀ p, tuF 8 m c ph p = true → hq 8 m c ph p = true := fun p z => by unfold tuF at z; rw [Bool.and_eq_true] at z; exact z.1
  have g3 : ∀ p, owF 8 m c ph p = true → hq 8 m c ph p = true := fun p z => by unfold owF at z; rw [Bool.and_eq_true] at z; exact z.1
  have bits : ∀ j, j < nb → (CLf 8 m P c ph pl).testBit j = true ∧ (TUf 8 m P c ph pl).testBit j = false ∧ (OWf 8 m P c ph pl).testBit j = !atmB (c (bp j)) := fun j hj => by
    have e1 := msk_bit (pl := pl) hk g1 hj
    have e2 := msk_bit (pl := pl) hk g2 hj
    have e3 := msk_bit (pl := pl) hk g3 hj
    rw [hid j hj] at e1 e2 e3
    obtain ⟨k1, k2, k3⟩ := list_c hc (hbp j hj)
    have hh : hq 8 m c ph (ph (bp j)) = true := (hk.1 j hj).2
    unfold CLf TUf OWf
    rw [e1, e2, e3]
    refine ⟨?_, ?_, ?_⟩
    · unfold clF; rw [hh]; simp
    · unfold tuF
      rw [hh, k1, Bool.true_and]
      refine decide_eq_false (fun z => ?_)
      have := hnm _ (hbp j hj)
      unfold modB at this
      have := of_decide_eq_false this
      omega
    · unfold owF; rw [hh, k1, Bool.true_and]
  refine ⟨fun t ht => ?_, ?_⟩
  · have hl : clN (CLf 8 m P c ph pl) (TUf 8 m P c ph pl) t < 2 ^ nb := Nat.lt_of_le_of_lt Nat.and_le_right (msk_ltn hk g1)
    refine Nat.eq_of_testBit_eq (fun j => ?_)
    rcases Nat.lt_or_ge j nb with q | q
    · obtain ⟨b1, b2, -⟩ := bits j q
      unfold clN
      rw [Nat.testBit_and, Nat.testBit_xor, b1, b2]
      simp
    · rw [bits_of_lt hl q, bits_of_lt ht q]
  · have h1 : OWf 8 m P c ph pl < 2 ^ nb := msk_ltn hk g3
    have h2 : restN c bp nb < 2 ^ nb := orF_lt (fun j hj => by
      split
      · exact Nat.two_pow_pos nb
      · exact pow_lt_of hj)
    refine Nat.eq_of_testBit_eq (fun j => ?_)
    rcases Nat.lt_or_ge j nb with q | q
    · rw [(bits j q).2.2]
      apply bool_eq
      unfold restN
      rw [tb_orF]
      constructor
      · intro z
        refine ⟨j, q, ?_⟩
        rw [if_neg (by intro y; rw [y] at z; cases z), tb_pow, decide_eq_true rfl]
      · rintro ⟨i, i1, i2⟩
        split at i2
        · rw [Nat.zero_testBit] at i2; cases i2
        · rename_i y
          rw [tb_pow, decide_eq_true_eq] at i2
          rw [← i2]
          cases x : atmB (c (bp i))
          · rfl
          · exact absurd x y
    · rw [bits_of_lt h1 q, bits_of_lt h2 q]
theorem gr_brT (hk : LQ (hq 8 m c ph) P nb (fun j => ph (bp j))) (hid : ∀ j, j < nb → rkF (hq 8 m c ph) pl P (ph (bp j)) = j) (hs : ShapeOK m c l r) (hc : ClassOK m P c l r ph) (hbp : ∀ j, j < nb → bp j < m) {t j : Nat} (ht : t < 2 ^ nb) (hj : j < nb) : (brT 8 m P c l r ph pl t).testBit j = if atmB (c (bp j)) = true then t.testBit j else gdJ c l r (evV (opT true c ph (jqF nb (fun j => ph (bp j))) t) c l r) bp j := by
  obtain ⟨k1, k2, k3⟩ := list_c hc (hbp j hj)
  have hev := ev_same (L := 8) hk hs hc (id_ok hk hid) ht
  have hh : hq 8 m c ph (ph (bp j)) = true := (hk.1 j hj).2
  have ebit : (brT 8 m P c l r ph pl t).testBit j = decide (brP 8 m c l r ph (rkF (hq 8 m c ph) pl P) t (ph (bp j)) = 1) := by
    apply bool_eq
    unfold brT brF
    rw [tb_orF, decide_eq_true_eq]
    constructor
    · rintro ⟨p, p1, p2⟩
      split at p2
      · rename_i z
        rw [two_bit (brP_lt hs hc p1), Bool.and_eq_true, decide_eq_true_eq, decide_eq_true_eq] at p2
        have e2 : p = ph (bp j) := rk_inj p1 (hk.1 j hj).1 z hh (p2.2.trans (hid j hj).symm)
        rw [← e2]
        exact p2.1
      · rw [Nat.zero_testBit] at p2; cases p2
    · intro z
      exact ⟨ph (bp j), (hk.1 j hj).1, by rw [if_pos hh, z, two_bit (by decide), decide_eq_true rfl, decide_eq_true (hid j hj)]; rfl⟩
  have hcc : hbB true (c (bp j)) = true := by
    have : hq 8 m c ph (ph (bp j)) = hbB (decide (8 = 8)) (c (rpF m ph (ph (bp j)))) := rfl
    rw [this, k1] at hh
    exact hh
  rw [ebit]
  unfold brP brg
  rw [k1, hid j hj]
  cases ha : atmB (c (bp j))
  · have hop : ∀ k i, k < m → i < m → ph k = ph i → opT true c ph (jqF nb (fun j => ph (bp j))) t k = opT true c ph (jqF nb (fun j => ph (bp j))) t i := fun k i hk1 hi he => by
      funext x z
      unfold opT
      rw [((hc.2.2.2.2 k i hk1 hi).mp he).1, he]
    have cls := (hc.2.2.2.2 _ _ k2 (hbp j hj)).mp k3
    have hbj := hbp j hj
    have hlt : ∀ k, k < m → (kd (c k) ≠ 0 → l k < k) ∧ (kd (c k) = 2 → r k < k) := fun k hkm => by
      rcases hs k hkm with g | ⟨g, g1⟩ | ⟨g, g1, g2⟩
      · exact ⟨fun z => absurd (kd_leaf g) z, fun z => by rw [kd_leaf g] at z; cases z⟩
      · exact ⟨fun _ => g1, fun z => by rw [kd_pre g] at z; cases z⟩
      · exact ⟨fun _ => g1, fun _ => g2⟩
    have h1 := hlt _ k2
    have h2 := hlt _ hbj
    rw [k1] at h1
    rcases hb_grow hcc ha with z | z
    · have jn : isJn (c (rpF m ph (ph (bp j)))) := by rw [k1, z]; exact jn62
      have eA : argA c l (evV (opT (decide (8 = 8)) c ph (rkF (hq 8 m c ph) pl P) t) c l r) (rpF m ph (ph (bp j))) = evV (opT true c ph (jqF nb (fun j => ph (bp j))) t) c l r (l (bp j)) := by
        have l1 := h1.1 (by rw [z]; decide)
        have l2 := h2.1 (by rw [z]; decide)
        unfold argA
        rw [kd_jn jn, if_neg (by decide)]
        refine (hev _ (by omega)).trans ?_
        exact evV_ph hs hc hop _ _ _ (Nat.lt_succ_self _) (by omega) (by omega) (cls.2.2 jn).1
      have eB : argB c r (evV (opT (decide (8 = 8)) c ph (rkF (hq 8 m c ph) pl P) t) c l r) (rpF m ph (ph (bp j))) = evV (opT true c ph (jqF nb (fun j => ph (bp j))) t) c l r (r (bp j)) := by
        have l1 := h1.2 (by rw [z]; decide)
        have l2 := h2.2 (by rw [z]; decide)
        unfold argB
        rw [kd_jn jn, if_pos rfl]
        refine (hev _ (by omega)).trans ?_
        exact evV_ph hs hc hop _ _ _ (Nat.lt_succ_self _) (by omega) (by omega) (cls.2.2 jn).2
      rw [eA, eB, if_neg (show ¬ c (bp j) = 91 by omega), if_neg (show ¬ c (bp j) = 123 by omega), if_neg (by decide), if_neg (by decide)]
      unfold gdJ
      rw [ha, Bool.false_or]
    · have pre : isPre (c (rpF m ph (ph (bp j)))) := by rw [k1, z]; exact Or.inl rfl
      have eA : argA c l (evV (opT (decide (8 = 8)) c ph (rkF (hq 8 m c ph) pl P) t) c l r) (rpF m ph (ph (bp j))) = evV (opT true c ph (jqF nb (fun j => ph (bp j))) t) c l r (l (bp j)) := by
        have l1 := h1.1 (by rw [z]; decide)
        have l2 := h2.1 (by rw [z]; decide)
        unfold argA
        rw [kd_pre pre, if_neg (by decide)]
        refine (hev _ (by omega)).trans ?_
        exact evV_ph hs hc hop _ _ _ (Nat.lt_succ_self _) (by omega) (by omega) (cls.2.1 pre)
      have e33 : ∀ x y1 y2 : Nat, joinF 33 x y1 = joinF 33 x y2 := fun x y1 y2 => by
        unfold joinF
        rw [if_pos rfl, if_pos rfl]
      rw [eA, if_neg (show ¬ c (bp j) = 91 by omega), if_neg (show ¬ c (bp j) = 123 by omega), if_neg (by decide), if_neg (by decide)]
      unfold gdJ
      rw [ha, Bool.false_or, z, e33 _ _ (evV (opT true c ph (jqF nb (fun j => ph (bp j))) t) c l r (r (bp j)))]
  · obtain ⟨n1, n2⟩ := atm_ne ha
    have hat : 112 ≤ c (bp j) ∧ c (bp j) ≤ 115 := of_decide_eq_true ha
    rw [if_neg (show ¬ c (bp j) = 91 by omega), if_neg (show ¬ c (bp j) = 123 by omega), if_pos rfl, if_pos rfl]
    cases t.testBit j <;> rfl
/-- the class's growing types are the model's -/
theorem gr_same (hk : LQ (hq 8 m c ph) P nb (fun j => ph (bp j))) (hid : ∀ j, j < nb → rkF (hq 8 m c ph) pl P (ph (bp j)) = j) (hs : ShapeOK m c l r) (hc : ClassOK m P c l r ph) (hbp : ∀ j, j < nb → bp j < m) (hnm : ∀ k, k < m → modB (c k) = false) (hnb : nb ≤ 10) :
    (∀ t, t < 2 ^ nb → fitX 8 (CLf 8 m P c ph pl) (TUf 8 m P c ph pl) (brT 8 m P c l r ph pl) t = fitG c l r (evV (opT true c ph (jqF nb (fun j => ph (bp j))) t) c l r) bp nb t) ∧
    (∀ th : Nat → Bool, (∀ u, u < 2 ^ nb → th u = true → fitX 8 (CLf 8 m P c ph pl) (TUf 8 m P c ph pl) (brT 8 m P c l r ph pl) u = true) → ∀ t, t < 2 ^ nb → mfX 8 (2 ^ nb) (CLf 8 m P c ph pl) (TUf 8 m P c ph pl) (OWf 8 m P c ph pl) (brT 8 m P c l r ph pl) th t = mf8 (restN c bp nb) (fun u => brkN c l r (evV (opT true c ph (jqF nb (fun j => ph (bp j))) u) c l r) bp nb) (2 ^ nb) th t) := by
  obtain ⟨hcl, how⟩ := gr_bits hk hid hc hbp hnm
  have hbr := fun (t j : Nat) (ht : t < 2 ^ nb) (hj : j < nb) => gr_brT hk hid hs hc hbp ht hj
  have e8 : ∀ a b, a < 2 ^ nb → b < 2 ^ nb → (seeX 8 (CLf 8 m P c ph pl) (TUf 8 m P c ph pl) (brT 8 m P c l r ph pl) a b = true ↔ (sdiff a (brT 8 m P c l r ph pl b) = 0 ∧ sdiff a b = 0)) := fun a b ha hb => by
    unfold seeX
    rw [hcl a ha, hcl b hb, if_pos (by decide), Bool.and_eq_true, decide_eq_true_eq, decide_eq_true_eq]
  have self : ∀ a, a < 2 ^ nb → sdiff a a = 0 := fun a ha => (sdiff_zero ha (by omega)).mpr (fun _ _ h => h)
  have fite : ∀ t, t < 2 ^ nb → fitX 8 (CLf 8 m P c ph pl) (TUf 8 m P c ph pl) (brT 8 m P c l r ph pl) t = fitG c l r (evV (opT true c ph (jqF nb (fun j => ph (bp j))) t) c l r) bp nb t := fun t ht => by
    have ef : fitX 8 (CLf 8 m P c ph pl) (TUf 8 m P c ph pl) (brT 8 m P c l r ph pl) t = seeX 8 (CLf 8 m P c ph pl) (TUf 8 m P c ph pl) (brT 8 m P c l r ph pl) t t := if_pos (by decide)
    rw [ef]
    apply bool_eq
    rw [e8 t t ht ht, sdiff_zero ht (by omega)]
    unfold fitG
    rw [allT_iff]
    constructor
    · rintro ⟨h, -⟩ j hj
      cases z : t.testBit j
      · rfl
      · have := h j hj z
        rw [hbr t j ht hj] at this
        rw [Bool.not_true, Bool.false_or]
        by_cases x : atmB (c (bp j)) = true
        · unfold gdJ; rw [x]; rfl
        · rw [if_neg x] at this
          exact this
    · intro h
      refine ⟨fun j hj z => ?_, self t ht⟩
      have := h j hj
      rw [z, Bool.not_true, Bool.false_or] at this
      rw [hbr t j ht hj]
      by_cases x : atmB (c (bp j)) = true
      · rw [if_pos x]; exact z
      · rw [if_neg x]; exact this
  refine ⟨fite, fun th hth t ht => ?_⟩
  -- whom a type sees of those that fit
  have see : ∀ u, u < 2 ^ nb → th u = true → (seeX 8 (CLf 8 m P c ph pl) (TUf 8 m P c ph pl) (brT 8 m P c l r ph pl) t u = true ↔ sdiff t u = 0) := fun u hu z => by
    rw [e8 t u ht hu]
    refine ⟨fun h => h.2, fun h => ⟨?_, h⟩⟩
    have hf := hth u hu z
    have ef : fitX 8 (CLf 8 m P c ph pl) (TUf 8 m P c ph pl) (brT 8 m P c l r ph pl) u = seeX 8 (CLf 8 m P c ph pl) (TUf 8 m P c ph pl) (brT 8 m P c l r ph pl) u u := if_pos (by decide)
    rw [ef, e8 u u hu hu, sdiff_zero hu (by omega)] at hf
    rw [sdiff_zero ht (by omega)] at h ⊢
    exact fun j hj y => hf.1 j hj (h j hj y)
  have lo : sdiff (restN c bp nb) t < 2 ^ nb := by
    rw [← how]
    exact sdiff_lt (msk_ltn hk (fun p z => by unfold owF at z; rw [Bool.and_eq_true] at z; exact z.1))
  have rest_at : ∀ k, (sdiff (restN c bp nb) t).testBit k = true → k < nb ∧ atmB (c (bp k)) = false := fun k z => by
    have hk2 : k < nb := by
      rcases Nat.lt_or_ge k nb with q | q
      · exact q
      · rw [bits_of_lt lo q] at z; cases z
    refine ⟨hk2, ?_⟩
    have hr : restN c bp nb < 2 ^ 32 := by
      rw [← how]
      exact Nat.lt_of_lt_of_le (msk_ltn hk (fun p z => by unfold owF at z; rw [Bool.and_eq_true] at z; exact z.1)) (Nat.pow_le_pow_right (by decide) (by omega))
    rw [tb_sdiff hr, Bool.and_eq_true] at z
    have z1 := z.1
    unfold restN at z1
    rw [tb_orF] at z1
    obtain ⟨i, i1, i2⟩ := z1
    split at i2
    · rw [Nat.zero_testBit] at i2; cases i2
    · rename_i y
      rw [tb_pow, decide_eq_true_eq] at i2
      rw [← i2]
      cases x : atmB (c (bp i))
      · rfl
      · exact absurd x y
  have same : ∀ k, (sdiff (restN c bp nb) t).testBit k = true → ∀ u, u < 2 ^ nb → (brT 8 m P c l r ph pl u).testBit k = (brkN c l r (evV (opT true c ph (jqF nb (fun j => ph (bp j))) u) c l r) bp nb ^^^ 4294967295).testBit k := fun k z u hu => by
    obtain ⟨hk2, ha⟩ := rest_at k z
    rw [hbr u k hu hk2, ha, if_neg (by decide), Nat.testBit_xor, tb_all, decide_eq_true (show k < 32 by omega)]
    have : (brkN c l r (evV (opT true c ph (jqF nb (fun j => ph (bp j))) u) c l r) bp nb).testBit k = !gdJ c l r (evV (opT true c ph (jqF nb (fun j => ph (bp j))) u) c l r) bp k := by
      apply bool_eq
      unfold brkN
      rw [tb_orF]
      constructor
      · rintro ⟨i, i1, i2⟩
        split at i2
        · rw [Nat.zero_testBit] at i2; cases i2
        · rename_i y
          rw [tb_pow, decide_eq_true_eq] at i2
          rw [← i2]
          cases x : gdJ c l r (evV (opT true c ph (jqF nb (fun j => ph (bp j))) u) c l r) bp i
          · rfl
          · exact absurd x y
      · intro y
        exact ⟨k, hk2, by rw [if_neg (by intro x; rw [x] at y; cases y), tb_pow, decide_eq_true rfl]⟩
    rw [this]
    cases gdJ c l r (evV (opT true c ph (jqF nb (fun j => ph (bp j))) u) c l r) bp k <;> rfl
  apply bool_eq
  rw [mf8_iff]
  unfold mfX
  rw [mfB_iff, hcl t ht, how]
  constructor
  · rintro (⟨k, k1, k2⟩ | ⟨z, -⟩)
    · refine ⟨k, k1, fun u hu h1 h2 => ?_⟩
      rw [← same k k1 u hu]
      exact k2 u hu (by rw [h1, (see u hu h1).mpr h2]; rfl)
    · cases z
  · rintro ⟨k, k1, k2⟩
    refine Or.inl ⟨k, k1, fun u hu z => ?_⟩
    rw [Bool.and_eq_true] at z
    rw [same k k1 u hu]
    exact k2 u hu z.1 ((see u hu z.1).mp z.2)
/-- what never falls in rounds, and what is left when they fall one by one -/
theorem gr_end {fit fG : Nat → Bool} {mf : (Nat → Bool) → Nat → Bool} {rest Z rho : Nat} {brk : Nat → Nat} {th2 : Nat → Bool} (hf : ∀ t, t < Z → fit t = fG t) (hm : ∀ th : Nat → Bool, (∀ u, u < Z → th u = true → fit u = true) → ∀ t, t < Z → mf th t = mf8 rest brk Z th t) (hend : anyN fit mf Z rho = false) (hG : GoodG fG rest brk Z th2) (hS : StabG fG rest brk Z th2) : ∀ t, t < Z → thN fit mf rho t = th2 t := by
  have sub : ∀ r t, thN fit mf r t = true → fit t = true := fun r => by
    induction r with
    | zero => exact fun t h => h
    | succ r ih =>
      intro t h
      have : (thN fit mf r t && !mf (thN fit mf r) t) = true := h
      rw [Bool.and_eq_true] at this
      exact ih t this.1
  have c1 : StabG fG rest brk Z (thN fit mf rho) := fun u hu z => by
    refine ⟨by rw [← hf u hu]; exact sub rho u z, ?_⟩
    rw [← hm _ (fun v _ y => sub rho v y) u hu]
    cases e : mf (thN fit mf rho) u
    · rfl
    · have : anyN fit mf Z rho = true := exB_iff.mpr ⟨u, hu, by rw [z, e]; rfl⟩
      rw [hend] at this
      cases this
  have c2 : ∀ r t, t < Z → th2 t = true → thN fit mf r t = true := fun r => by
    induction r with
    | zero => exact fun t ht z => by show fit t = true; rw [hf t ht]; exact (hS t ht z).1
    | succ r ih =>
      intro t ht z
      show (thN fit mf r t && !mf (thN fit mf r) t) = true
      rw [ih t ht z, hm _ (fun v _ y => sub r v y) t ht]
      cases e : mf8 rest brk Z (thN fit mf r) t
      · rfl
      · have := mf8_anti (fun u hu y => ih u hu y) e
        rw [(hS t ht z).2] at this
        cases this
  intro t ht
  apply bool_eq
  exact ⟨fun h => hG.2 _ c1 t ht h, fun h => c2 rho t ht h⟩
end GC
end
section
/-! shown -/
theorem in2 {v : Int32} (hv : ¬ ∃ k, k < 2 ∧ v = nI k) : v < 0 ∨ ¬ v ≤ 1 := by
  rcases pk_ix v (n := 2) (by decide) with q | q | ⟨k, hk, rfl⟩
  · exact Or.inl q
  · refine Or.inr (fun z => ?_)
    have := Int32.le_trans q z
    exact absurd this (by decide)
  · exact absurd ⟨k, hk, rfl⟩ hv
theorem M_in2_t {k : Nat} (w : AW) (hk : k < 2) : mX6_in (nI k) 0 1 w = some (nI 1, w) := by
  have e := M_in_t w (show k < 1 + 1 from hk) (by decide)
  simp only [Nat.add_sub_cancel] at e
  exact e
theorem M_in2_f {v : Int32} (w : AW) (hv : ¬ ∃ k, k < 2 ∧ v = nI k) : mX6_in v 0 1 w = some (nI 0, w) := by
  have e := M_in_f (n := 1 + 1) w hv (by decide) (by decide)
  simp only [Nat.add_sub_cancel] at e
  exact e
section SD8
variable {wX w1 : AW} {i : Nat} {d : SD}
/-- true whatever its atoms are: the class's law by K -/
theorem X_true (hd : SDok d) (hi : i < 6) (hSX : SenX wX (6 + i) (sdM d) (sdP d) (sdc d) (sdl d) (sdr d) (sdf d) (sdp d) (sdd d)) (hnm : ∀ k, k < sdM d → modB (sdc d k) = false) : ∃ wX2, mX5_shown_43 0 (6 + i) wX = some (nI (bN (truB (sdM d) (sdc d) (sdl d) (sdr d))), wX2) ∧ KX wX wX2 := by
  have hP := hd.P40
  have hc := hd.cl
  have hs := hd.sh
  have n11 : (nI 1 : Int32) ≠ 0 := by decide
  obtain ⟨-, s2⟩ := X_sortOut (L := 0) hSX.p (len_sen hi hP) hc hs (show sdP d ≤ 81 by omega) hd.1 hd.2.2.2.2.2.2.2.1 (show 6 + i ≠ 4 by omega) (by decide) (fun p hp => hd.plZ hp)
  have hcn := plain_cnt hnm hs hc
  obtain ⟨mf0, fit1⟩ := plain_th (pl := sdp d) (Zn := 2 ^ cntF (hq 0 (sdM d) (sdc d) (sdf d)) (sdP d)) (CL := CLf 0 (sdM d) (sdP d) (sdc d) (sdf d) (sdp d)) (TU := TUf 0 (sdM d) (sdP d) (sdc d) (sdf d) (sdp d)) (br := brT 0 (sdM d) (sdP d) (sdc d) (sdl d) (sdr d) (sdf d) (sdp d)) hnm hc
  obtain ⟨wX2, x1, x2, s1, s3, s4, s5⟩ := s2 (by omega) 0 (Nat.zero_le _) (by
    cases e : anyN (fitX 0 (CLf 0 (sdM d) (sdP d) (sdc d) (sdf d) (sdp d)) (TUf 0 (sdM d) (sdP d) (sdc d) (sdf d) (sdp d)) (brT 0 (sdM d) (sdP d) (sdc d) (sdl d) (sdr d) (sdf d) (sdp d))) (mfX 0 (2 ^ cntF (hq 0 (sdM d) (sdc d) (sdf d)) (sdP d)) (CLf 0 (sdM d) (sdP d) (sdc d) (sdf d) (sdp d)) (TUf 0 (sdM d) (sdP d) (sdc d) (sdf d) (sdp d)) (OWf 0 (sdM d) (sdP d) (sdc d) (sdf d) (sdp d)) (brT 0 (sdM d) (sdP d) (sdc d) (sdl d) (sdr d) (sdf d) (sdp d))) (2 ^ cntF (hq 0 (sdM d) (sdc d) (sdf d)) (sdP d)) 0
    · rfl
    · obtain ⟨k, k1, k2⟩ := exB_iff.mp e
      rw [Bool.and_eq_true, mf0] at k2
      cases k2.2) (fun s hs2 => absurd hs2 (Nat.not_lt_zero s))
  have hZ : 2 ^ cntF (hq 0 (sdM d) (sdc d) (sdf d)) (sdP d) ≤ 1024 := pow_nb (by omega)
  have hwl : ∀ t, whT 0 (sdM d) (sdP d) (sdc d) (sdl d) (sdr d) (sdf d) (sdp d) t < 2 := fun t => evV_lt hs (by decide) (fun k _ a b ha hb => opT_lt ha hb) _ _ (Nat.lt_succ_self _) (by have := hd.1; omega)
  have el := X_law hZ s5.1 s5.2 (fun t ht => (s1.2.2.2 t ht).2.2) hwl
  have esame : lawB (thN (fitX 0 (CLf 0 (sdM d) (sdP d) (sdc d) (sdf d) (sdp d)) (TUf 0 (sdM d) (sdP d) (sdc d) (sdf d) (sdp d)) (brT 0 (sdM d) (sdP d) (sdc d) (sdl d) (sdr d) (sdf d) (sdp d))) (mfX 0 (2 ^ cntF (hq 0 (sdM d) (sdc d) (sdf d)) (sdP d)) (CLf 0 (sdM d) (sdP d) (sdc d) (sdf d) (sdp d)) (TUf 0 (sdM d) (sdP d) (sdc d) (sdf d) (sdp d)) (OWf 0 (sdM d) (sdP d) (sdc d) (sdf d) (sdp d)) (brT 0 (sdM d) (sdP d) (sdc d) (sdl d) (sdr d) (sdf d) (sdp d))) 0) (whT 0 (sdM d) (sdP d) (sdc d) (sdl d) (sdr d) (sdf d) (sdp d)) (2 ^ cntF (hq 0 (sdM d) (sdc d) (sdf d)) (sdP d)) = truB (sdM d) (sdc d) (sdl d) (sdr d) := by
    apply bool_eq
    rw [← plain_law (pl := sdp d) hnm hs hc hd.1]
    unfold lawB
    rw [allT_iff]
    have hth : ∀ t, thN (fitX 0 (CLf 0 (sdM d) (sdP d) (sdc d) (sdf d) (sdp d)) (TUf 0 (sdM d) (sdP d) (sdc d) (sdf d) (sdp d)) (brT 0 (sdM d) (sdP d) (sdc d) (sdl d) (sdr d) (sdf d) (sdp d))) (mfX 0 (2 ^ cntF (hq 0 (sdM d) (sdc d) (sdf d)) (sdP d)) (CLf 0 (sdM d) (sdP d) (sdc d) (sdf d) (sdp d)) (TUf 0 (sdM d) (sdP d) (sdc d) (sdf d) (sdp d)) (OWf 0 (sdM d) (sdP d) (sdc d) (sdf d) (sdp d)) (brT 0 (sdM d) (sdP d) (sdc d) (sdl d) (sdr d) (sdf d) (sdp d))) 0 t = true := fun t => fit1 t
    constructor
    · intro h t ht
      have := h t ht
      rw [hth t, Bool.not_true, Bool.false_or, decide_eq_true_eq] at this
      exact this
    · intro h t ht
      rw [hth t, Bool.not_true, Bool.false_or, decide_eq_true_eq]
      exact h t ht
  rw [esame] at el
  refine ⟨wX2, ?_, x2⟩
  have x1' : mX3_sortOut (6 + i) 0 wX = some (nI 1, wX2) := x1
  have el' : mX3_answer 1 wX2 = some (nI (bN (truB (sdM d) (sdc d) (sdl d) (sdr d))), wX2) := el
  unfold mX5_shown_43
  rw [x1', cl_mk, if_pos n11, el', cl_mk]
/-- shown growing, both sides -/
theorem both_grow (hd : SDok d) (hi : i < 6) (hSX : SenX wX (6 + i) (sdM d) (sdP d) (sdc d) (sdl d) (sdr d) (sdf d) (sdp d) (sdd d)) (hW : WorkM w1 (sdM d) (sdZ d) (sdc d) (sdl d) (sdr d) (sdb d) (sde d) (sdy d)) (hnm : ∀ k, k < sdM d → modB (sdc d k) = false) :
    (mX5_shown_43 8 (6 + i) wX = some (-nI 2, wX) ∧ ∃ W2, mX6_tells 1 w1 = some (nI 0, W2) ∧ KM w1 W2) ∨
    ∃ wX2 W2 W3 x, mX5_shown_43 8 (6 + i) wX = some (nI (bN x), wX2) ∧ KX wX wX2 ∧ mX6_tells 1 w1 = some (nI 1, W2) ∧ mX6_isShown W2 = some (nI (bN x), W3) ∧ KM w1 W3 := by
  have hM := hd.2.1
  have hm := hd.1
  have hZ := hd.2.2.2.2.1
  have hP := hd.P40
  have hc := hd.cl
  have hs := hd.sh
  have n11 : (nI 1 : Int32) ≠ 0 := by decide
  have n00 : ¬ ((nI 0 : Int32) ≠ 0) := fun z => z rfl
  obtain ⟨s1, s2⟩ := X_sortOut (L := 8) hSX.p (len_sen hi hP) hc hs (show sdP d ≤ 81 by omega) hm hd.2.2.2.2.2.2.2.1 (show 6 + i ≠ 4 by omega) (by decide) (fun p hp => hd.plZ hp)
  have hte := M_tells (gr := true) hW hd.2.2.2.2.2.1 hc (show sdM d ≤ 90 by omega) (show sdZ d ≤ 420 by omega) hd.2.2.2.2.2.2.2.2.2.2.2.1 hd.2.2.2.2.2.2.2.2.2.2.1
  have ecn : cntF (fun q => hbB true (sdc d (rpF (sdM d) (sdf d) q))) (sdP d) = cntF (hq 8 (sdM d) (sdc d) (sdf d)) (sdP d) := rfl
  rcases hte with ⟨W2, nb, bp, t1, hI⟩ | ⟨W2, t1, t2, t3⟩
  · refine Or.inr ?_
    have hI8 : TI w1 W2 (decide (8 = 8)) (sdM d) (sdc d) (sdb d) (sdf d) nb bp (sdZ d) 0 := hI
    have hb : ∀ k, k < sdM d → sdb d k < sdZ d := fun k hk => hd.bZ hk
    have hk := hI8.lq (L := 8) hc hb
    have hcn := hk.cnt
    have hnb := hI.2.2.2.2.1
    have hpw := pow_nb hnb
    have hid := hI8.rank (L := 8) hd.2.2.2.2.2.1 hd.2.2.2.2.2.2.1 hb
    have hbp : ∀ j, j < nb → bp j < sdM d := fun j hj => (hI.2.2.2.2.2.1 j hj).1
    have hh : ∀ j, j < nb → hbB true (sdc d (bp j)) = true := fun j hj => (hI.2.2.2.2.2.1 j hj).2.2.1
    have hTB : TB W2 true (sdM d) (sdZ d) nb (sdc d) (sdl d) (sdr d) (sdb d) (sde d) (sdy d) (sdf d) (jqF nb (fun j => sdf d (bp j))) bp := hI8.tb (L := 8) hc hb hW
    obtain ⟨g1, g2⟩ := gr_same hk hid hs hc hbp hnm hnb
    -- the class
    obtain ⟨rho, r1, r2, r3⟩ := any_end (fit := fitX 8 (CLf 8 (sdM d) (sdP d) (sdc d) (sdf d) (sdp d)) (TUf 8 (sdM d) (sdP d) (sdc d) (sdf d) (sdp d)) (brT 8 (sdM d) (sdP d) (sdc d) (sdl d) (sdr d) (sdf d) (sdp d))) (mf := mfX 8 (2 ^ nb) (CLf 8 (sdM d) (sdP d) (sdc d) (sdf d) (sdp d)) (TUf 8 (sdM d) (sdP d) (sdc d) (sdf d) (sdp d)) (OWf 8 (sdM d) (sdP d) (sdc d) (sdf d) (sdp d)) (brT 8 (sdM d) (sdP d) (sdc d) (sdl d) (sdr d) (sdf d) (sdp d))) (2 ^ nb)
    rw [hcn] at s2
    obtain ⟨wX2, x1, x2, y1, y2, y3, y4⟩ := s2 hnb rho r1 r2 r3
    have hwl : ∀ t, whT 8 (sdM d) (sdP d) (sdc d) (sdl d) (sdr d) (sdf d) (sdp d) t < 2 := fun t => evV_lt hs (by decide) (fun k _ a b ha hb => opT_lt ha hb) _ _ (Nat.lt_succ_self _) (by omega)
    have el := X_law hpw y4.1 y4.2 (fun t ht => (y1.2.2.2 t ht).2.2) hwl
    -- the model
    have e4 := M_s4 hTB hs (show sdM d ≤ 90 by omega) hnb
    obtain ⟨W3, u1, u2, u3, u4⟩ := M_s47 (w0 := w1) (rest := nI (restN (sdc d) bp nb)) hs hm (show sdM d ≤ 90 by omega) hnb (fun k _ => jq_lt hnb) hnm hh (2 ^ nb) 0 FU W2 (by omega) (FU_gt (by omega)) hI.1 hTB (fun u hu => absurd hu (Nat.not_lt_zero u))
    have hrest : restN (sdc d) bp nb < 2 ^ 10 := Nat.lt_of_lt_of_le (orF_lt (b := nb) (fun j hj => by
      split
      · exact Nat.two_pow_pos nb
      · exact pow_lt_of hj)) (Nat.pow_le_pow_right (by decide) hnb)
    have hB : SwB W3 nb (fun u => brkN (sdc d) (sdl d) (sdr d) (evV (opT true (sdc d) (sdf d) (jqF nb (fun j => sdf d (bp j))) u) (sdc d) (sdl d) (sdr d)) bp nb) (fun u => decide (evV (opT true (sdc d) (sdf d) (jqF nb (fun j => sdf d (bp j))) u) (sdc d) (sdl d) (sdr d) (sdM d - 1) = 1)) := ⟨u3.2.1, fun t ht => (u4 t ht).2⟩
    have key : ∀ b : Bool, decide ((if b = true then (-9 : Int32) else nI 0) = -9) = b := by
      intro b
      cases b <;> decide
    have hSw : SwI W3 W3 nb (fun t => fitG (sdc d) (sdl d) (sdr d) (evV (opT true (sdc d) (sdf d) (jqF nb (fun j => sdf d (bp j))) t) (sdc d) (sdl d) (sdr d)) bp nb t) := ⟨KM.rf W3, fun _ _ => rfl, fun u hu => by
      rw [(u4 u hu).1]
      exact key _⟩
    obtain ⟨W4, th2, v1, v2, v3, v4⟩ := M_s96 (fit := fun t => fitG (sdc d) (sdl d) (sdr d) (evV (opT true (sdc d) (sdf d) (jqF nb (fun j => sdf d (bp j))) t) (sdc d) (sdl d) (sdr d)) bp nb t) hB hnb hrest 1024 FU W3 _ (Nat.le_trans (cntF_le _ _) hpw) (FU_gt (by decide)) hSw ⟨fun _ _ h => h, fun S hS u hu z => (hS u hu z).1⟩
    have hth := gr_end g1 g2 r2 v3 v4
    have hbit : BitOK nb (fun j => rkF (hq 8 (sdM d) (sdc d) (sdf d)) (sdp d) (sdP d) (sdf d (bp j))) id := id_ok hk hid
    have same : lawB (thN (fitX 8 (CLf 8 (sdM d) (sdP d) (sdc d) (sdf d) (sdp d)) (TUf 8 (sdM d) (sdP d) (sdc d) (sdf d) (sdp d)) (brT 8 (sdM d) (sdP d) (sdc d) (sdl d) (sdr d) (sdf d) (sdp d))) (mfX 8 (2 ^ nb) (CLf 8 (sdM d) (sdP d) (sdc d) (sdf d) (sdp d)) (TUf 8 (sdM d) (sdP d) (sdc d) (sdf d) (sdp d)) (OWf 8 (sdM d) (sdP d) (sdc d) (sdf d) (sdp d)) (brT 8 (sdM d) (sdP d) (sdc d) (sdl d) (sdr d) (sdf d) (sdp d))) rho) (whT 8 (sdM d) (sdP d) (sdc d) (sdl d) (sdr d) (sdf d) (sdp d)) (2 ^ nb) = lawM th2 (fun u => decide (evV (opT true (sdc d) (sdf d) (jqF nb (fun j => sdf d (bp j))) u) (sdc d) (sdl d) (sdr d) (sdM d - 1) = 1)) (2 ^ nb) := by
      unfold lawB lawM
      refine allT_cg (fun t ht => ?_)
      have hev := ev_same (L := 8) hk hs hc hbit ht (sdM d - 1) (by omega)
      have hev2 : whT 8 (sdM d) (sdP d) (sdc d) (sdl d) (sdr d) (sdf d) (sdp d) t = evV (opT true (sdc d) (sdf d) (jqF nb (fun j => sdf d (bp j))) t) (sdc d) (sdl d) (sdr d) (sdM d - 1) := hev
      rw [hth t ht, hev2]
    refine ⟨wX2, W2, W4, lawM th2 (fun u => decide (evV (opT true (sdc d) (sdf d) (jqF nb (fun j => sdf d (bp j))) u) (sdc d) (sdl d) (sdr d) (sdM d - 1) = 1)) (2 ^ nb), ?_, x2, t1, ?_, u2.tr v2⟩
    · rw [same] at el
      have x1' : mX3_sortOut (6 + i) 8 wX = some (nI 1, wX2) := x1
      have el' : mX3_answer 1 wX2 = some (nI (bN (lawM th2 (fun u => decide (evV (opT true (sdc d) (sdf d) (jqF nb (fun j => sdf d (bp j))) u) (sdc d) (sdl d) (sdr d) (sdM d - 1) = 1)) (2 ^ nb))), wX2) := el
      unfold mX5_shown_43
      rw [x1', cl_mk, if_pos n11, el', cl_mk]
    · unfold mX6_isShown
      have u1' : mX6_isShown_47 (nI (restN (sdc d) bp nb)) FU 0 W2 = mX6_isShown_96 (nI (restN (sdc d) bp nb)) FU 1 W3 := u1
      rw [e4, u1']
      exact v1
  · refine Or.inl ⟨?_, W2, t1, t2⟩
    have x1' : mX3_sortOut (6 + i) 8 wX = some (nI 0, wX) := s1 (by rw [← ecn]; omega)
    unfold mX5_shown_43
    rw [x1', cl_mk, if_neg n00]
    rfl
end SD8
theorem pub_shown : Pub_shown Rel := by
  rintro wX wM ⟨N, S, A, T, y, D, h⟩ v0 v2
  have hR := h
  obtain ⟨hN, hX, hM, hT, h2, hS, h12⟩ := h
  have n10 : ¬ (nI 1 : Int32) = 0 := by decide
  have n11 : (nI 1 : Int32) ≠ 0 := by decide
  have n00 : ¬ ((nI 0 : Int32) ≠ 0) := fun z => z rfl
  by_cases c0 : ∃ k, k < 6 ∧ v0 = nI k
  rotate_left
  · refine pub_same hR (-nI 1) ?_ ?_ (KX.rf _) (KM0 wM)
    · simp only [mX5_shown, X_sen_f _ c0, nS_none, cl_mk, nm_mk, pu_mk, lit, if_true, if_false, ne_eq, not_false_eq_true, not_true_eq_false, nI_add, nI_or, nI_and, Bool.false_eq_true, ne01, ne10, nI_m1', Nat.or_zero]
    · simp only [mX6_shown, M_sen_f _ c0, cl_mk, nm_mk, pu_mk, lit, if_true, if_false, ne_eq, not_false_eq_true, not_true_eq_false, nI_add, nI_or, nI_and, Bool.false_eq_true, ne01, ne10, nI_m1', Nat.or_zero]
  obtain ⟨i, hi, rfl⟩ := c0
  have hcl := cls_sen i hi
  obtain ⟨hd, hSX, hSM⟩ := hS i hi
  generalize D i = d at hd hSX hSM
  have f2 := X_isPlain hSX (len_sen hi hd.P40) hd.2.2.1 (by have := hd.P40; omega) hd.2.2.2.2.2.2.2.1 hd.dlt
  have hX0 : mX5_shown (nI i) v2 wX = (if v2 < 0 then some ((-1), wX) else if v2 ≤ 1 then cl (mX2_isPlain (6 + i) wX) fun x_5 w_4 => if x_5 = 0 then some ((-2), w_4) else if v2 ≠ 0 then mX5_shown_43 0 (6 + i) w_4 else mX5_shown_43 8 (6 + i) w_4 else some ((-1), wX)) := by
    unfold mX5_shown
    rw [X_sen_t _ hi, cl_mk, nS_some hcl]
  by_cases c2 : ∃ k, k < 2 ∧ v2 = nI k
  rotate_left
  · refine pub_same hR (-nI 1) ?_ ?_ (KX.rf _) (KM0 wM)
    · rw [hX0]
      rcases in2 c2 with q | q
      · rw [if_pos q]; rfl
      · rw [if_neg q]
        split <;> rfl
    · unfold mX6_shown
      rw [pu_mk, M_sen_t _ hi, cl_mk, if_neg n10, M_in2_f _ c2, cl_mk, if_neg n00]
      rfl
  obtain ⟨what, hw, rfl⟩ := c2
  have e1 := M_works (hSM.k (KM0 wM)) hi hd.2.1 hd.2.2.2.2.1
  have k1 := wkW_K (w := am_set wM 0 0 0 (nI 0)) (m := sdM d) (z := sdZ d) (c := sdc d) (l := sdl d) (r := sdr d) (b := sdb d) (e := sde d) (y := sdy d)
  have hW := wkW_W (w := am_set wM 0 0 0 (nI 0)) (m := sdM d) (z := sdZ d) (c := sdc d) (l := sdl d) (r := sdr d) (b := sdb d) (e := sde d) (y := sdy d)
  generalize wkW (am_set wM 0 0 0 (nI 0)) (sdM d) (sdZ d) (sdc d) (sdl d) (sdr d) (sdb d) (sde d) (sdy d) = w1 at e1 k1 hW
  have e2 := M_isPlain hW hd.sh (by have := hd.2.1; omega)
  rw [hd.plain] at e2
  have hXg : mX5_shown (nI i) (nI what) wX = cl (mX2_isPlain (6 + i) wX) fun x_5 w_4 => if x_5 = 0 then some ((-2), w_4) else if nI what ≠ 0 then mX5_shown_43 0 (6 + i) w_4 else mX5_shown_43 8 (6 + i) w_4 := by
    rw [hX0, if_neg (nI_pos (by omega)), if_pos (show nI what ≤ 1 from nI_le (b := 1) (by omega) (by decide))]
  have hMg : mX6_shown (nI i) (nI what) wM = cl (mX6_isPlain w1) fun x_9 w_8 => if x_9 = 0 then some ((-2), w_8) else if nI what ≠ 0 then mX6_shown_50 (nI what) w_8 else cl (mX6_tells 1 w_8) fun x_11 w_10 => if x_11 ≠ 0 then mX6_shown_50 (nI what) w_10 else some ((-2), w_10) := by
    have e1' : mX6_works (nI i) (am_set wM 0 0 0 0) = some ((), w1) := e1
    unfold mX6_shown
    rw [pu_mk, M_sen_t _ hi, cl_mk, if_neg n10, M_in2_t _ hw, cl_mk, if_pos n11, e1', cl_mk]
  by_cases q : sdd d (sdf d (sdM d - 1)) = 0
  rotate_left
  · rw [decide_eq_false q] at e2 f2
    refine pub_same hR (-nI 2) ?_ ?_ (KX.rf _) ((KM0 wM).tr k1)
    · rw [hXg, f2, cl_mk, if_pos (show nI (bN false) = 0 from rfl)]; rfl
    · rw [hMg, e2, cl_mk, if_pos (show nI (bN false) = 0 from rfl)]; rfl
  have hnm : ∀ k, k < sdM d → modB (sdc d k) = false := fun k hk => by
    have := hd.plain
    rw [q, show decide (0 = 0) = true from rfl, allT_iff] at this
    have := this k hk
    simpa using this
  rw [decide_eq_true q] at e2 f2
  rw [f2, cl_mk, if_neg (show ¬ (nI (bN true) = 0) by decide)] at hXg
  rw [e2, cl_mk, if_neg (show ¬ (nI (bN true) = 0) by decide)] at hMg
  have out : ∀ x : Bool, ∀ W : AW, (if nI (bN x) = 0 then (some (0, W) : Option (Int32 × AW)) else some (1, W)) = some (nI (bN x), W) := fun x W => by
    cases x
    · rw [if_pos (show nI (bN false) = 0 from rfl)]; rfl
    · rw [if_neg (show ¬ (nI (bN true) = 0) by decide)]; rfl
  rcases (show what = 0 ∨ what = 1 by omega) with rfl | rfl
  · rw [if_neg n00] at hXg hMg
    rcases both_grow hd hi hSX hW hnm with ⟨a1, W2, a2, a3⟩ | ⟨wX2, W2, W3, x, a1, a2, a3, a4, a5⟩
    · refine pub_same hR (-nI 2) (hXg.trans a1) ?_ (KX.rf _) (((KM0 wM).tr k1).tr a3)
      rw [hMg, a2, cl_mk, if_neg n00]; rfl
    · refine pub_same hR (nI (bN x)) (hXg.trans a1) ?_ a2 (((KM0 wM).tr k1).tr a5)
      rw [hMg, a3, cl_mk, if_pos n11]
      unfold mX6_shown_50
      rw [if_neg n00, a4, cl_mk, out]
  · rw [if_pos n11] at hXg hMg
    obtain ⟨wX2, a1, a2⟩ := X_true hd hi hSX hnm
    have eT := M_isTrue hW hd.sh hd.1 (show sdM d ≤ 90 by have := hd.2.1; omega) hnm
    refine pub_same hR (nI (bN (truB (sdM d) (sdc d) (sdl d) (sdr d)))) (hXg.trans a1) ?_ a2 (((KM0 wM).tr k1).tr (trW_K (w := w1) (c := sdc d) (l := sdl d) (r := sdr d) (M := sdM d) 16))
    rw [hMg]
    unfold mX6_shown_50
    rw [if_pos n11, eT, cl_mk, out]
end
