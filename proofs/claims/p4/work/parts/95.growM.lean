/-! the model: growing types, fit and broken -/
/-- whether the part of bit j is as it should be where it is held -/
def gdJ (c l r V bp : Nat → Nat) (j : Nat) : Bool := atmB (c (bp j)) || decide (joinF (c (bp j)) (V (l (bp j))) (V (r (bp j))) = 1)
def fitG (c l r V bp : Nat → Nat) (nb t : Nat) : Bool := allT (fun j => !t.testBit j || gdJ c l r V bp j) nb
def brkN (c l r V bp : Nat → Nat) (nb : Nat) : Nat := orF (fun j => if gdJ c l r V bp j = true then 0 else 2 ^ j) nb
section GM
variable {w J : AW} {M Z nb : Nat} {c l r b e y ph btq bp V : Nat → Nat}
theorem jn_33 {x y : Nat} (hx : x < 2) : (joinF 33 x y = 1) ↔ x = 0 := by
  unfold joinF
  rw [if_pos rfl]
  rcases (show x = 0 ∨ x = 1 by omega) with q | q
  · rw [q]; decide
  · rw [q]; decide
theorem jn_62 {x y : Nat} (hx : x < 2) (hy : y < 2) : (joinF 62 x y = 1) ↔ (x = 0 ∨ y = 1) := by
  unfold joinF
  rw [if_neg (by decide), if_neg (by decide), if_pos rfl]
  rcases (show x = 0 ∨ x = 1 by omega) with q | q <;> rcases (show y = 0 ∨ y = 1 by omega) with z | z <;> rw [q, z] <;> decide
theorem hb_grow {cc : Nat} (h : hbB true cc = true) (ha : atmB cc = false) : cc = 62 ∨ cc = 33 := by
  unfold hbB at h
  rw [ha, Bool.false_or, if_pos rfl, decide_eq_true_eq] at h
  exact h
/-- what a judged world tells of the part of bit j -/
def JW (J : AW) (M Z nb : Nat) (c l r b e y ph btq bp V : Nat → Nat) : Prop := TB J true M Z nb c l r b e y ph btq bp ∧ (∀ k, k < M → J.1 0 38 k = nI (V k)) ∧ (∀ k, k < M → V k < 2) ∧ ∀ j, j < nb → hbB true (c (bp j)) = true
theorem JW.at (h : JW J M Z nb c l r b e y ph btq bp V) (hs : ShapeOK M c l r) (hM : M ≤ 90) {j : Nat} (hj : j < nb) : (bp j < M ∧ J.1 0 37 j = nI (bp j) ∧ J.1 0 30 (bp j) = nI (c (bp j)) ∧ c (bp j) < 128 ∧ (atmB (c (bp j)) = true ∨ c (bp j) = 33 ∨ c (bp j) = 62)) ∧
    (c (bp j) = 33 ∨ c (bp j) = 62 → V (l (bp j)) < 2 ∧ ∀ f : Int32 → Option (Int32 × AW), (rd 90 (J.1 0 31) (nI (bp j)) fun x => rd 90 (J.1 0 38) x f) = f (nI (V (l (bp j))))) ∧
    (c (bp j) = 62 → V (r (bp j)) < 2 ∧ ∀ f : Int32 → Option (Int32 × AW), (rd 90 (J.1 0 32) (nI (bp j)) fun x => rd 90 (J.1 0 38) x f) = f (nI (V (r (bp j))))) := by
  obtain ⟨⟨hW, h35, hbp, hbt⟩, h38, hV, hh⟩ := h
  obtain ⟨p1, p2⟩ := hbp j hj
  obtain ⟨w30, w31, w32, -⟩ := hW.2.2.1 _ p1
  have hcc := kinds_of hs p1
  have hc := kinds_lt hcc
  have hlr : (c (bp j) = 33 ∨ c (bp j) = 62 → l (bp j) < bp j) ∧ (c (bp j) = 62 → r (bp j) < bp j) := by
    rcases hs _ p1 with g | ⟨g, g1⟩ | ⟨g, g1, g2⟩
    · unfold isLeaf at g
      exact ⟨fun z => by omega, fun z => by omega⟩
    · unfold isPre at g
      exact ⟨fun _ => g1, fun z => by omega⟩
    · exact ⟨fun _ => g1, fun _ => g2⟩
  refine ⟨⟨p1, p2, w30, hc, ?_⟩, fun z => ?_, fun z => ?_⟩
  · cases ha : atmB (c (bp j))
    · rcases hb_grow (hh j hj) ha with q | q
      · exact Or.inr (Or.inr q)
      · exact Or.inr (Or.inl q)
    · exact Or.inl rfl
  · have hl := hlr.1 z
    exact ⟨hV _ (by omega), fun f => by rw [rd_in (by omega) (by decide), w31, rd_in (by omega) (by decide), h38 _ (by omega)]⟩
  · have hr := hlr.2 z
    exact ⟨hV _ (by omega), fun f => by rw [rd_in (by omega) (by decide), w32, rd_in (by omega) (by decide), h38 _ (by omega)]⟩
theorem atm_ne {cc : Nat} (h : atmB cc = true) : cc ≠ 33 ∧ cc ≠ 62 := by
  have : 112 ≤ cc ∧ cc ≤ 115 := of_decide_eq_true h
  omega
theorem M_fit9 (h : JW J M Z nb c l r b e y ph btq bp V) (hs : ShapeOK M c l r) (hM : M ≤ 90) (hnb : nb ≤ 10) {t : Nat} (ht : t < 1024) : mX6_isFit_9 (nI t) FU 1 0 J = some (nI (bN (fitG c l r V bp nb t)), J) := by
  unfold fitG
  refine loopE (fun n (s : Int32 × Int32) => mX6_isFit_9 (nI t) n s.1 s.2 J) nb (fun k => (nI (bN (allT (fun j => !t.testBit j || gdJ c l r V bp j) k)), nI k)) _ ?_ ?_ FU 0 (Nat.zero_le _) (FU_gt (by omega))
  · intro n j hj
    obtain ⟨⟨p1, p2, p3, p4, p5⟩, pl, pr⟩ := h.at hs hM hj
    have r30 : ∀ f : Int32 → Option (Int32 × AW), rd 90 (J.1 0 30) (nI (bp j)) f = f (nI (c (bp j))) := fun f => by rw [rd_in (by omega) (by decide), p3]
    generalize hA : allT (fun j => !t.testBit j || gdJ c l r V bp j) j = A
    have eA : allT (fun j => !t.testBit j || gdJ c l r V bp j) (j + 1) = (A && (!t.testBit j || gdJ c l r V bp j)) := by rw [← hA]; rfl
    have e135 : ∀ x a : Bool, mX6_isFit_135 (mX6_isFit_9 (nI t) n) (nI t) (nI j) (nI (bN x)) (nI (bN a)) J = mX6_isFit_9 (nI t) n (nI (bN (a && x))) (nI (j + 1)) J := fun x a => by
      unfold mX6_isFit_135
      rw [nm_mk, nm_mk, nbN_and, show nI j + 1 = nI (j + 1) from nI_add j 1]
    have e130 : ∀ a : Bool, mX6_isFit_130 (mX6_isFit_9 (nI t) n) (nI t) (nI j) (nI (bN a)) J = mX6_isFit_9 (nI t) n (nI (bN a)) (nI (j + 1)) J := fun a => by
      have := e135 true a
      rw [Bool.and_true] at this
      exact this
    have esh : nI t >>> nI (j &&& 31) &&& 1 = nI (bN (t.testBit j)) := shr_B (by omega) (by omega)
    have e1 : nI j &&& 31 = nI (j &&& 31) := nI_and j 31
    dsimp only
    rw [mX6_isFit_9, h.1.2.1, if_neg (nI_ge hj (by omega)), rd_in (by omega) (by decide), p2, e1, esh, eA]
    cases q : t.testBit j
    · rw [if_pos (show nI (bN false) ≠ 1 by decide), Bool.not_false, Bool.true_or, Bool.and_true]
      unfold mX6_isFit_39 mX6_isFit_74 mX6_isFit_79
      rw [if_pos (show (0 : Int32) = 0 from rfl), nm_mk, show nI (bN A) &&& 1 = nI (bN A) by have := nbN_and A true; rw [Bool.and_true] at this; exact this, if_pos (show (0 : Int32) = 0 from rfl)]
      exact e130 A
    · rw [if_neg (show ¬ (nI (bN true) ≠ 1) from fun z => z rfl), Bool.not_true, Bool.false_or]
      unfold mX6_isFit_39
      have a1 : nI (bN A) &&& 1 = nI (bN A) := by have := nbN_and A true; rw [Bool.and_true] at this; exact this
      have a0 : nI (bN A) &&& 0 = nI (bN false) := by have := nbN_and A false; rw [Bool.and_false] at this; exact this
      rw [if_neg (show ¬ ((1 : Int32) = 0) by decide), r30]
      rcases p5 with ha | h33 | h62
      · obtain ⟨z1, z2⟩ := atm_ne ha
        have eg : gdJ c l r V bp j = true := by unfold gdJ; rw [ha]; rfl
        rw [if_pos (show nI (c (bp j)) ≠ 33 from ne_nI (b := 33) (by omega) (by decide) z1), eg, Bool.and_true]
        unfold mX6_isFit_74 mX6_isFit_79
        rw [nm_mk, a1, if_neg (show ¬ ((1 : Int32) = 0) by decide), r30, if_pos (show nI (c (bp j)) ≠ 62 from ne_nI (b := 62) (by omega) (by decide) z2)]
        exact e130 A
      · obtain ⟨v1, v2⟩ := pl (Or.inl h33)
        have ea : atmB (c (bp j)) = false := by rw [h33]; rfl
        have eg : gdJ c l r V bp j = decide (V (l (bp j)) = 0) := by
          unfold gdJ
          rw [ea, Bool.false_or, h33]
          exact decide_eq_decide.mpr (jn_33 v1)
        rw [if_neg (show ¬ (nI (c (bp j)) ≠ 33) from fun z => z (by rw [h33]; rfl)), v2, eg]
        by_cases z : V (l (bp j)) = 0
        · rw [if_neg (show ¬ (nI (V (l (bp j))) ≠ 0) from fun y => y (by rw [z]; rfl)), decide_eq_true z, Bool.and_true]
          unfold mX6_isFit_74 mX6_isFit_79
          rw [nm_mk, a1, if_neg (show ¬ ((1 : Int32) = 0) by decide), r30, if_pos (show nI (c (bp j)) ≠ 62 by rw [h33]; decide)]
          exact e130 A
        · rw [if_pos (show nI (V (l (bp j))) ≠ 0 from ne_nI (b := 0) (by omega) (by decide) z), decide_eq_false z, Bool.and_false]
          unfold mX6_isFit_79
          rw [nm_mk, a0, if_neg (show ¬ ((1 : Int32) = 0) by decide), r30, if_pos (show nI (c (bp j)) ≠ 62 by rw [h33]; decide)]
          exact e130 false
      · obtain ⟨v1, v2⟩ := pl (Or.inr h62)
        obtain ⟨u1, u2⟩ := pr h62
        have ea : atmB (c (bp j)) = false := by rw [h62]; rfl
        have eg : gdJ c l r V bp j = (decide (V (l (bp j)) = 0) || decide (V (r (bp j)) = 1)) := by
          unfold gdJ
          rw [ea, Bool.false_or, h62, ← Bool.decide_or]
          exact decide_eq_decide.mpr (jn_62 v1 u1)
        rw [if_pos (show nI (c (bp j)) ≠ 33 by rw [h62]; decide), eg]
        unfold mX6_isFit_74 mX6_isFit_79
        rw [nm_mk, a1, if_neg (show ¬ ((1 : Int32) = 0) by decide), r30, if_neg (show ¬ (nI (c (bp j)) ≠ 62) from fun z => z (by rw [h62]; rfl)), v2]
        by_cases z : V (l (bp j)) = 0
        · rw [if_pos (show nI (V (l (bp j))) = 0 by rw [z]; rfl), decide_eq_true z, Bool.true_or, Bool.and_true]
          exact e130 A
        · rw [if_neg (show ¬ (nI (V (l (bp j))) = 0) from ne_nI (b := 0) (by omega) (by decide) z), u2, decide_eq_false z, Bool.false_or]
          by_cases x : V (r (bp j)) = 1
          · rw [if_neg (show ¬ (nI (V (r (bp j))) ≠ 1) from fun y => y (by rw [x]; rfl)), decide_eq_true x, Bool.and_true]
            exact e130 A
          · rw [if_pos (show nI (V (r (bp j))) ≠ 1 from ne_nI (b := 1) (by omega) (by decide) x), decide_eq_false x]
            exact e135 false A
  · intro n
    dsimp only
    rw [mX6_isFit_9, h.1.2.1, if_pos (nI_le (Nat.le_refl nb) (by omega)), zr_B]
theorem M_brk9 (h : JW J M Z nb c l r b e y ph btq bp V) (hs : ShapeOK M c l r) (hM : M ≤ 90) (hnb : nb ≤ 10) : mX6_breaks_9 FU 0 0 J = some (nI (brkN c l r V bp nb), J) := by
  unfold brkN
  refine loopE (fun n (s : Int32 × Int32) => mX6_breaks_9 n s.1 s.2 J) nb (fun k => (nI (orF (fun j => if gdJ c l r V bp j = true then 0 else 2 ^ j) k), nI k)) _ ?_ ?_ FU 0 (Nat.zero_le _) (FU_gt (by omega))
  · intro n j hj
    obtain ⟨⟨p1, p2, p3, p4, p5⟩, pl, pr⟩ := h.at hs hM hj
    have r30 : ∀ f : Int32 → Option (Int32 × AW), rd 90 (J.1 0 30) (nI (bp j)) f = f (nI (c (bp j))) := fun f => by rw [rd_in (by omega) (by decide), p3]
    generalize hA : orF (fun j => if gdJ c l r V bp j = true then 0 else 2 ^ j) j = A
    have eA : orF (fun j => if gdJ c l r V bp j = true then 0 else 2 ^ j) (j + 1) = (A ||| (if gdJ c l r V bp j = true then 0 else 2 ^ j)) := by rw [← hA]; rfl
    have e101 : ∀ x : Nat, mX6_breaks_101 (mX6_breaks_9 n) (nI j) (nI x) (nI A) J = mX6_breaks_9 n (nI (A ||| x)) (nI (j + 1)) J := fun x => by
      unfold mX6_breaks_101
      rw [nm_mk, nm_mk, nI_or, show nI j + 1 = nI (j + 1) from nI_add j 1]
    have e1 : (1 : Int32) <<< (nI j &&& 31) = nI (2 ^ j) := by
      have : nI j &&& 31 = nI (j &&& 31) := nI_and j 31
      rw [this]
      exact one_shl (by omega)
    have e85 : gdJ c l r V bp j = true → mX6_breaks_85 (mX6_breaks_9 n) (nI A) (nI j) J = mX6_breaks_9 n (nI (A ||| (if gdJ c l r V bp j = true then 0 else 2 ^ j))) (nI (j + 1)) J := fun z => by
      unfold mX6_breaks_85 mX6_breaks_86
      rw [if_pos (show (0 : Int32) = 0 from rfl), if_pos z]
      exact e101 0
    have e81 : gdJ c l r V bp j = false → mX6_breaks_81 (mX6_breaks_9 n) (nI A) (nI j) J = mX6_breaks_9 n (nI (A ||| (if gdJ c l r V bp j = true then 0 else 2 ^ j))) (nI (j + 1)) J := fun z => by
      unfold mX6_breaks_81 mX6_breaks_86
      rw [if_neg (show ¬ ((1 : Int32) = 0) by decide), e1, z, if_neg (by decide)]
      exact e101 (2 ^ j)
    have ea : decide (112 ≤ c (bp j) ∧ c (bp j) ≤ 115) = atmB (c (bp j)) := rfl
    dsimp only
    rw [mX6_breaks_9, h.1.2.1, if_neg (nI_ge hj (by omega)), rd_in (by omega) (by decide), p2, r30, M_isAtom J (by omega), cl_mk, ea, eA]
    rcases p5 with ha | h33 | h62
    · have eg : gdJ c l r V bp j = true := by unfold gdJ; rw [ha]; rfl
      rw [ha, if_pos (show nI (bN true) ≠ 0 by decide)]
      exact e85 eg
    · obtain ⟨v1, v2⟩ := pl (Or.inl h33)
      have ha : atmB (c (bp j)) = false := by rw [h33]; rfl
      have eg : gdJ c l r V bp j = decide (V (l (bp j)) = 0) := by
        unfold gdJ
        rw [ha, Bool.false_or, h33]
        exact decide_eq_decide.mpr (jn_33 v1)
      rw [ha, if_neg (show ¬ (nI (bN false) ≠ 0) from fun z => z rfl), v2]
      by_cases z : V (l (bp j)) = 1
      · rw [if_neg (show ¬ (nI (V (l (bp j))) ≠ 1) from fun y => y (by rw [z]; rfl)), r30, if_pos (show nI (c (bp j)) = 33 by rw [h33]; rfl)]
        exact e81 (by rw [eg]; exact decide_eq_false (by omega))
      · rw [if_pos (show nI (V (l (bp j))) ≠ 1 from ne_nI (b := 1) (by omega) (by decide) z)]
        exact e85 (by rw [eg]; exact decide_eq_true (by omega))
    · obtain ⟨v1, v2⟩ := pl (Or.inr h62)
      obtain ⟨u1, u2⟩ := pr h62
      have ha : atmB (c (bp j)) = false := by rw [h62]; rfl
      have eg : gdJ c l r V bp j = (decide (V (l (bp j)) = 0) || decide (V (r (bp j)) = 1)) := by
        unfold gdJ
        rw [ha, Bool.false_or, h62, ← Bool.decide_or]
        exact decide_eq_decide.mpr (jn_62 v1 u1)
      rw [ha, if_neg (show ¬ (nI (bN false) ≠ 0) from fun z => z rfl), v2]
      by_cases z : V (l (bp j)) = 1
      · rw [if_neg (show ¬ (nI (V (l (bp j))) ≠ 1) from fun y => y (by rw [z]; rfl)), r30, if_neg (show ¬ (nI (c (bp j)) = 33) by rw [h62]; decide), u2]
        by_cases x : V (r (bp j)) = 0
        · rw [if_neg (show ¬ (nI (V (r (bp j))) ≠ 0) from fun y => y (by rw [x]; rfl))]
          exact e81 (by rw [eg, decide_eq_false (by omega), decide_eq_false (by omega)]; rfl)
        · rw [if_pos (show nI (V (r (bp j))) ≠ 0 from ne_nI (b := 0) (by omega) (by decide) x)]
          exact e85 (by rw [eg, decide_eq_true (show V (r (bp j)) = 1 by omega), Bool.or_true])
      · rw [if_pos (show nI (V (l (bp j))) ≠ 1 from ne_nI (b := 1) (by omega) (by decide) z)]
        exact e85 (by rw [eg, decide_eq_true (show V (l (bp j)) = 0 by omega)]; rfl)
  · intro n
    dsimp only
    rw [mX6_breaks_9, h.1.2.1, if_pos (nI_le (Nat.le_refl nb) (by omega))]
/-- the world after a type has been judged -/
theorem JW.of {w : AW} {t : Nat} (hB : TB w true M Z nb c l r b e y ph btq bp) (hs : ShapeOK M c l r) (hM1 : 1 ≤ M) (hM2 : M ≤ 90) (ht : t < 1024) (hbt : ∀ k, k < M → btq (ph k) < 10) (hnm : ∀ k, k < M → modB (c k) = false) (hh : ∀ j, j < nb → hbB true (c (bp j)) = true) :
    ∃ J, mX6_judges (nI t) w = some ((), J) ∧ KM w J ∧ JW J M Z nb c l r b e y ph btq bp (evV (opT true c ph btq t) c l r) ∧ J.1 0 41 t = nI (bN (decide (evV (opT true c ph btq t) c l r (M - 1) = 1))) ∧ (∀ a, a ≠ 38 → a ≠ 41 → J.1 0 a = w.1 0 a) ∧ (∀ u, u ≠ t → J.1 0 41 u = w.1 0 41 u) := by
  have hb : ∀ k, k < M → evV (opT true c ph btq t) c l r k < 2 := fun k hk => evV_lt hs (by decide) (fun k _ a b ha hb => opT_lt ha hb) (k + 1) k (Nat.lt_succ_self k) hk
  have ej := M_judges (gr := true) hB.1 hs hM1 hM2 ht hbt (fun k hk _ => hnm k hk) hB.2.2.2
  have row : ∀ a, a ≠ 38 → a ≠ 41 → (am_set (hdW w (evV (opT true c ph btq t) c l r) M) 0 41 t (nI (bN (decide (evV (opT true c ph btq t) c l r (M - 1) = 1))))).1 0 a = w.1 0 a := fun a h1 h2 => by rw [am_get_row (Or.inr h2), hdW_row M a h1]
  refine ⟨_, ej, (hdW_K M).set (Or.inl (by decide)), ⟨hB.keep (fun a h1 h2 => row a (by omega) (by omega)) (fun j _ => by rw [row 0 (by decide) (by decide)]), fun k hk => ?_, hb, hh⟩, am_get_self _ _ _ _ _, row, fun u hu => ?_⟩
  · rw [am_get_row (by decide)]
    exact setRow_in M hk
  · rw [am_get_other hu, hdW_row M 41 (by decide)]
end GM
