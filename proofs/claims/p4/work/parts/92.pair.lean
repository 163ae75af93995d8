/-! ( i > j ) in the model's work area -/
theorem takes_W {W : AW} {M0 Z0 m z : Nat} {c l r b e y C L R B E Y : Nat → Nat} (hW : WorkM W M0 Z0 C L R B E Y) (hc : ∀ k, k < m → C (M0 + k) = c k ∧ L (M0 + k) = l k + M0 ∧ R (M0 + k) = r k + M0 ∧ B (M0 + k) = b k + Z0 ∧ E (M0 + k) = e k + Z0) (hy : ∀ j, j < z → Y (Z0 + j) = y j) : WorkM (takesW W M0 Z0 m z c l r b e y) (M0 + m) (Z0 + z) C L R B E Y := by
  obtain ⟨h1, h2, h3, h4⟩ := hW
  have row : ∀ a k, 30 ≤ a → (takesW W M0 Z0 m z c l r b e y).1 0 a k = (tk5 W M0 Z0 c l r b e m).1 0 a k := fun a k ha => by
    unfold takesW
    rw [am_get_row (Or.inr (by omega)), am_get_row (Or.inr (by omega)), setAt_row (Or.inr (by omega))]
  refine ⟨?_, ?_, fun k hk => ?_, fun j hj => ?_⟩
  · unfold takesW
    rw [am_get_other (by decide), am_get_self]
  · unfold takesW
    rw [am_get_self]
  · rw [row 30 k (by decide), row 31 k (by decide), row 32 k (by decide), row 33 k (by decide), row 34 k (by decide)]
    by_cases q : k < M0
    · rw [tk5_out q, tk5_out q, tk5_out q, tk5_out q, tk5_out q]
      exact h3 k q
    · obtain ⟨i, rfl⟩ := Nat.exists_eq_add_of_le (Nat.le_of_not_lt q)
      have hi : i < m := by omega
      obtain ⟨g1, g2, g3, g4, g5⟩ := hc i hi
      rw [g1, g2, g3, g4, g5]
      exact tk5_in m hi
  · have e29 : (takesW W M0 Z0 m z c l r b e y).1 0 29 j = (setAt (tk5 W M0 Z0 c l r b e m) 0 29 Z0 (fun j => nI (y j)) z).1 0 29 j := by
      unfold takesW
      rw [am_get_row (by decide), am_get_row (by decide)]
    rw [e29]
    by_cases q : j < Z0
    · rw [setAt_out q, tk5_row (by decide)]
      exact h4 j q
    · obtain ⟨i, rfl⟩ := Nat.exists_eq_add_of_le (Nat.le_of_not_lt q)
      have hi : i < z := by omega
      rw [setAt_in z hi, hy i hi]
/-- the nodes and the text of ( d1 > d2 ) -/
def pcC (d1 d2 : SD) (k : Nat) : Nat := if k < sdM d1 then sdc d1 k else if k < sdM d1 + sdM d2 then sdc d2 (k - sdM d1) else 62
def pcL (d1 d2 : SD) (k : Nat) : Nat := if k < sdM d1 then sdl d1 k else if k < sdM d1 + sdM d2 then sdl d2 (k - sdM d1) + sdM d1 else sdM d1 - 1
def pcR (d1 d2 : SD) (k : Nat) : Nat := if k < sdM d1 then sdr d1 k else if k < sdM d1 + sdM d2 then sdr d2 (k - sdM d1) + sdM d1 else sdM d1 + sdM d2 - 1
def pcB (d1 d2 : SD) (k : Nat) : Nat := if k < sdM d1 then sdb d1 k + 1 else if k < sdM d1 + sdM d2 then sdb d2 (k - sdM d1) + (sdZ d1 + 2) else 0
def pcE (d1 d2 : SD) (k : Nat) : Nat := if k < sdM d1 then sde d1 k + 1 else if k < sdM d1 + sdM d2 then sde d2 (k - sdM d1) + (sdZ d1 + 2) else sdZ d1 + sdZ d2 + 3
def pcY (d1 d2 : SD) (j : Nat) : Nat := if j < 1 then 40 else if j < 1 + sdZ d1 then sdy d1 (j - 1) else if j < sdZ d1 + 2 then 62 else if j < sdZ d1 + 2 + sdZ d2 then sdy d2 (j - (sdZ d1 + 2)) else 41
/-- the same, but that leaves have no first and second -/
def pcL0 (d1 d2 : SD) (k : Nat) : Nat := if kd (pcC d1 d2 k) = 0 then 0 else pcL d1 d2 k
def pcR0 (d1 d2 : SD) (k : Nat) : Nat := if kd (pcC d1 d2 k) = 2 then pcR d1 d2 k else 0
section PC
variable {d1 d2 : SD}
theorem pc_1 {k : Nat} (hk : k < sdM d1) : pcC d1 d2 k = sdc d1 k ∧ pcL d1 d2 k = sdl d1 k ∧ pcR d1 d2 k = sdr d1 k ∧ pcB d1 d2 k = sdb d1 k + 1 ∧ pcE d1 d2 k = sde d1 k + 1 := ⟨if_pos hk, if_pos hk, if_pos hk, if_pos hk, if_pos hk⟩
theorem pc_2 {k : Nat} (hk : k < sdM d2) : pcC d1 d2 (sdM d1 + k) = sdc d2 k ∧ pcL d1 d2 (sdM d1 + k) = sdl d2 k + sdM d1 ∧ pcR d1 d2 (sdM d1 + k) = sdr d2 k + sdM d1 ∧ pcB d1 d2 (sdM d1 + k) = sdb d2 k + (sdZ d1 + 2) ∧ pcE d1 d2 (sdM d1 + k) = sde d2 k + (sdZ d1 + 2) := by
  have h1 : ¬ sdM d1 + k < sdM d1 := by omega
  have h2 : sdM d1 + k < sdM d1 + sdM d2 := by omega
  have h3 : sdM d1 + k - sdM d1 = k := by omega
  unfold pcC pcL pcR pcB pcE
  rw [if_neg h1, if_pos h2, if_neg h1, if_pos h2, if_neg h1, if_pos h2, if_neg h1, if_pos h2, if_neg h1, if_pos h2, h3]
  exact ⟨rfl, rfl, rfl, rfl, rfl⟩
theorem pc_3 : pcC d1 d2 (sdM d1 + sdM d2) = 62 ∧ pcL d1 d2 (sdM d1 + sdM d2) = sdM d1 - 1 ∧ pcR d1 d2 (sdM d1 + sdM d2) = sdM d1 + sdM d2 - 1 ∧ pcB d1 d2 (sdM d1 + sdM d2) = 0 ∧ pcE d1 d2 (sdM d1 + sdM d2) = sdZ d1 + sdZ d2 + 3 := by
  have h1 : ¬ sdM d1 + sdM d2 < sdM d1 := by omega
  have h2 : ¬ sdM d1 + sdM d2 < sdM d1 + sdM d2 := by omega
  unfold pcC pcL pcR pcB pcE
  rw [if_neg h1, if_neg h2, if_neg h1, if_neg h2, if_neg h1, if_neg h2, if_neg h1, if_neg h2, if_neg h1, if_neg h2]
  exact ⟨rfl, rfl, rfl, rfl, rfl⟩
theorem pcY_0 : pcY d1 d2 0 = 40 := rfl
theorem pcY_1 {j : Nat} (hj : j < sdZ d1) : pcY d1 d2 (j + 1) = sdy d1 j := by
  unfold pcY
  rw [if_neg (by omega), if_pos (by omega)]
  rfl
theorem pcY_2 : pcY d1 d2 (sdZ d1 + 1) = 62 := by
  unfold pcY
  rw [if_neg (by omega), if_neg (by omega), if_pos (by omega)]
theorem pcY_3 {j : Nat} (hj : j < sdZ d2) : pcY d1 d2 (j + (sdZ d1 + 2)) = sdy d2 j := by
  unfold pcY
  rw [if_neg (by omega), if_neg (by omega), if_neg (by omega), if_pos (by omega), Nat.add_sub_cancel]
theorem pcY_4 : pcY d1 d2 (sdZ d1 + sdZ d2 + 2) = 41 := by
  unfold pcY
  rw [if_neg (by omega), if_neg (by omega), if_neg (by omega), if_neg (by omega)]
theorem pcY_lt (h1 : SDok d1) (h2 : SDok d2) (j : Nat) : pcY d1 d2 j < 256 := by
  unfold pcY
  split
  · decide
  split
  · exact h1.2.2.2.2.2.2.2.2.2.2.1 _
  split
  · decide
  split
  · exact h2.2.2.2.2.2.2.2.2.2.2.1 _
  · decide
/-- a node is one of the three kinds of places -/
theorem pc_cases {k : Nat} (hk : k < sdM d1 + sdM d2 + 1) : k < sdM d1 ∨ (∃ j, j < sdM d2 ∧ k = sdM d1 + j) ∨ k = sdM d1 + sdM d2 := by
  rcases Nat.lt_or_ge k (sdM d1) with q | q
  · exact Or.inl q
  · rcases Nat.lt_or_ge k (sdM d1 + sdM d2) with q2 | q2
    · exact Or.inr (Or.inl ⟨k - sdM d1, by omega, by omega⟩)
    · exact Or.inr (Or.inr (by omega))
theorem jn62 : isJn 62 := Or.inr (Or.inr rfl)
theorem pc_shape (h1 : SDok d1) (h2 : SDok d2) : ShapeOK (sdM d1 + sdM d2 + 1) (pcC d1 d2) (pcL d1 d2) (pcR d1 d2) := by
  intro k hk
  have m1 := h1.1
  have m2 := h2.1
  rcases pc_cases hk with q | ⟨j, hj, rfl⟩ | rfl
  · obtain ⟨a1, a2, a3, -⟩ := pc_1 (d2 := d2) q
    rw [a1, a2, a3]
    exact h1.sh k q
  · obtain ⟨a1, a2, a3, -⟩ := pc_2 (d1 := d1) hj
    rw [a1, a2, a3]
    rcases h2.sh j hj with g | ⟨g, g1⟩ | ⟨g, g1, g2⟩
    · exact Or.inl g
    · exact Or.inr (Or.inl ⟨g, by omega⟩)
    · exact Or.inr (Or.inr ⟨g, by omega, by omega⟩)
  · obtain ⟨a1, a2, a3, -⟩ := pc_3 (d1 := d1) (d2 := d2)
    rw [a1, a2, a3]
    exact Or.inr (Or.inr ⟨jn62, by omega, by omega⟩)
theorem pc_tree (h1 : SDok d1) (h2 : SDok d2) : TreeOK (sdM d1 + sdM d2 + 1) (pcC d1 d2) (pcL0 d1 d2) (pcR0 d1 d2) (pcB d1 d2) (pcE d1 d2) (pcY d1 d2) := by
  intro k hk
  have m1 := h1.1
  have m2 := h2.1
  have T1 := h1.2.2.2.2.2.1
  have T2 := h2.2.2.2.2.2.1
  have E1 := h1.2.2.2.2.2.2.2.2.2.2.2.1
  have E2 := h2.2.2.2.2.2.2.2.2.2.2.2.1
  have lz : ∀ i, kd (pcC d1 d2 i) = 0 → pcL0 d1 d2 i = 0 := fun i z => if_pos z
  have ln : ∀ i, kd (pcC d1 d2 i) ≠ 0 → pcL0 d1 d2 i = pcL d1 d2 i := fun i z => if_neg z
  have rz : ∀ i, kd (pcC d1 d2 i) ≠ 2 → pcR0 d1 d2 i = 0 := fun i z => if_neg z
  have rn : ∀ i, kd (pcC d1 d2 i) = 2 → pcR0 d1 d2 i = pcR d1 d2 i := fun i z => if_pos z
  rcases pc_cases hk with q | ⟨j, hj, rfl⟩ | rfl
  · obtain ⟨a1, a2, a3, a4, a5⟩ := pc_1 (d2 := d2) q
    have b1 := h1.bZ q
    have b2 := E1 k q
    rcases T1 k q with ⟨g, g1, g2, g3, g4⟩ | ⟨g, g1, g2, g3, g4, g5⟩ | ⟨g, g1, g2, g3, g4, g5, g6, g7, g8⟩
    · refine Or.inl ⟨by rw [a1]; exact g, lz k (by rw [a1]; exact kd_leaf g), rz k (by rw [a1, kd_leaf g]; decide), by rw [a4, a5]; omega, by rw [a4, pcY_1 b1, a1]; exact g4⟩
    · have l1 := pc_1 (d2 := d2) (show sdl d1 k < sdM d1 by omega)
      refine Or.inr (Or.inl ⟨by rw [a1]; exact g, ?_, rz k (by rw [a1, kd_pre g]; decide), ?_, ?_, ?_⟩)
      · rw [ln k (by rw [a1, kd_pre g]; decide), a2]; exact g1
      · rw [ln k (by rw [a1, kd_pre g]; decide), a2, a5, l1.2.2.2.2, g3]
      · rw [ln k (by rw [a1, kd_pre g]; decide), a2, a4, l1.2.2.2.1, g4]
      · rw [a4, pcY_1 b1, a1]; exact g5
    · have l1 := pc_1 (d2 := d2) (show sdl d1 k < sdM d1 by omega)
      have r1 := pc_1 (d2 := d2) (show sdr d1 k < sdM d1 by omega)
      have ne := ln k (by rw [a1, kd_jn g]; decide)
      have re := rn k (by rw [a1]; exact kd_jn g)
      have el := E1 _ (show sdl d1 k < sdM d1 by omega)
      have er := E1 _ (show sdr d1 k < sdM d1 by omega)
      have bl := h1.bZ (show sdr d1 k < sdM d1 by omega)
      have b2' := E1 k q
      refine Or.inr (Or.inr ⟨by rw [a1]; exact g, ?_, ?_, ?_, ?_, ?_, ?_, ?_, ?_⟩)
      · rw [ne, a2]; exact g1
      · rw [re, a3]; exact g2
      · rw [a4, pcY_1 b1]; exact g3
      · rw [ne, a2, a4, l1.2.2.2.1, g4]
      · rw [ne, a2, l1.2.2.2.2, pcY_1 (by omega), a1]; exact g5
      · rw [ne, re, a2, a3, r1.2.2.2.1, l1.2.2.2.2, g6]
      · rw [re, a3, a5, r1.2.2.2.2, g7]
      · rw [re, a3, r1.2.2.2.2, pcY_1 (by omega)]; exact g8
  · obtain ⟨a1, a2, a3, a4, a5⟩ := pc_2 (d1 := d1) hj
    have b1 := h2.bZ hj
    have b2 := E2 j hj
    rcases T2 j hj with ⟨g, g1, g2, g3, g4⟩ | ⟨g, g1, g2, g3, g4, g5⟩ | ⟨g, g1, g2, g3, g4, g5, g6, g7, g8⟩
    · refine Or.inl ⟨by rw [a1]; exact g, lz _ (by rw [a1]; exact kd_leaf g), rz _ (by rw [a1, kd_leaf g]; decide), by rw [a4, a5]; omega, by rw [a4, pcY_3 b1, a1]; exact g4⟩
    · have l1 := pc_2 (d1 := d1) (show sdl d2 j < sdM d2 by omega)
      rw [Nat.add_comm (sdM d1) (sdl d2 j)] at l1
      have ne := ln (sdM d1 + j) (by rw [a1, kd_pre g]; decide)
      refine Or.inr (Or.inl ⟨by rw [a1]; exact g, ?_, rz _ (by rw [a1, kd_pre g]; decide), ?_, ?_, ?_⟩)
      · rw [ne, a2]; omega
      · rw [ne, a2, a5, l1.2.2.2.2, g3]
      · rw [ne, a2, a4, l1.2.2.2.1, g4]; omega
      · rw [a4, pcY_3 b1, a1]; exact g5
    · have l1 := pc_2 (d1 := d1) (show sdl d2 j < sdM d2 by omega)
      have r1 := pc_2 (d1 := d1) (show sdr d2 j < sdM d2 by omega)
      rw [Nat.add_comm (sdM d1) (sdl d2 j)] at l1
      rw [Nat.add_comm (sdM d1) (sdr d2 j)] at r1
      have ne := ln (sdM d1 + j) (by rw [a1, kd_jn g]; decide)
      have re := rn (sdM d1 + j) (by rw [a1]; exact kd_jn g)
      have el := E2 _ (show sdl d2 j < sdM d2 by omega)
      have er := E2 _ (show sdr d2 j < sdM d2 by omega)
      have bl := h2.bZ (show sdr d2 j < sdM d2 by omega)
      refine Or.inr (Or.inr ⟨by rw [a1]; exact g, ?_, ?_, ?_, ?_, ?_, ?_, ?_, ?_⟩)
      · rw [ne, a2]; omega
      · rw [re, a3]; omega
      · rw [a4, pcY_3 b1]; exact g3
      · rw [ne, a2, a4, l1.2.2.2.1, g4]; omega
      · rw [ne, a2, l1.2.2.2.2, pcY_3 (by omega), a1]; exact g5
      · rw [ne, re, a2, a3, r1.2.2.2.1, l1.2.2.2.2, g6]; omega
      · rw [re, a3, a5, r1.2.2.2.2, g7]; omega
      · rw [re, a3, r1.2.2.2.2, pcY_3 (by omega)]; exact g8
  · obtain ⟨a1, a2, a3, a4, a5⟩ := pc_3 (d1 := d1) (d2 := d2)
    have l1 := pc_1 (d1 := d1) (d2 := d2) (show sdM d1 - 1 < sdM d1 by omega)
    have r1 := pc_2 (d1 := d1) (d2 := d2) (show sdM d2 - 1 < sdM d2 by omega)
    rw [show sdM d1 + (sdM d2 - 1) = sdM d1 + sdM d2 - 1 by omega] at r1
    have ne := ln (sdM d1 + sdM d2) (by rw [a1]; decide)
    have re := rn (sdM d1 + sdM d2) (by rw [a1]; decide)
    have f1 := h1.2.2.2.2.2.2.2.2.1
    have f2 := h1.2.2.2.2.2.2.2.2.2.1
    have f3 := h2.2.2.2.2.2.2.2.2.1
    have f4 := h2.2.2.2.2.2.2.2.2.2.1
    refine Or.inr (Or.inr ⟨by rw [a1]; exact jn62, ?_, ?_, ?_, ?_, ?_, ?_, ?_, ?_⟩)
    · rw [ne, a2]; omega
    · rw [re, a3]; omega
    · rw [a4]; exact pcY_0
    · rw [ne, a2, a4, l1.2.2.2.1, f1]
    · rw [ne, a2, l1.2.2.2.2, f2, pcY_2, a1]
    · rw [ne, re, a2, a3, r1.2.2.2.1, l1.2.2.2.2, f2, f3]; omega
    · rw [re, a3, a5, r1.2.2.2.2, f4]; omega
    · rw [re, a3, r1.2.2.2.2, f4, show sdZ d2 + (sdZ d1 + 2) = sdZ d1 + sdZ d2 + 2 by omega]; exact pcY_4
theorem pc_E (h1 : SDok d1) (h2 : SDok d2) : ∀ k, k < sdM d1 + sdM d2 + 1 → pcE d1 d2 k ≤ sdZ d1 + sdZ d2 + 3 := by
  intro k hk
  rcases pc_cases hk with q | ⟨j, hj, rfl⟩ | rfl
  · have := h1.2.2.2.2.2.2.2.2.2.2.2.1 k q
    rw [(pc_1 (d2 := d2) q).2.2.2.2]; omega
  · have := h2.2.2.2.2.2.2.2.2.2.2.2.1 j hj
    rw [(pc_2 (d1 := d1) hj).2.2.2.2]; omega
  · rw [(pc_3 (d1 := d1) (d2 := d2)).2.2.2.2]
    omega
/-- the model's follows, up to tells -/
theorem M_pair {wM : AW} {i j L : Nat} (h1 : SDok d1) (h2 : SDok d2) (hi : i < 6) (hj : j < 6) (hL : L < 8) (hS1 : SenM wM i (sdM d1) (sdZ d1) (sdc d1) (sdl d1) (sdr d1) (sdb d1) (sde d1) (sdy d1)) (hS2 : SenM wM j (sdM d2) (sdZ d2) (sdc d2) (sdl d2) (sdr d2) (sdb d2) (sde d2) (sdy d2)) :
    ∃ W, mX6_follows (nI i) (nI j) (nI L) wM = (cl (mX6_tells 0 W) fun x_27 w_26 => if x_27 ≠ 0 then cl (mX6_types w_26) fun x_29 w_28 => cl (mX6_rounds (nI L) w_28) fun x_31 w_30 => cl (mX6_isLaw w_30) fun x_33 w_32 => if x_33 = 0 then some (0, w_32) else some (1, w_32) else some ((-2), w_26)) ∧ KM wM W ∧ WorkM W (sdM d1 + sdM d2 + 1) (sdZ d1 + sdZ d2 + 3) (pcC d1 d2) (pcL d1 d2) (pcR d1 d2) (pcB d1 d2) (pcE d1 d2) (pcY d1 d2) := by
  have m1 := h1.1
  have m2 := h2.1
  have M1 := h1.2.1
  have M2 := h2.2.1
  have Z1 := h1.2.2.2.2.1
  have Z2 := h2.2.2.2.2.1
  have n10 : ¬ (nI 1 : Int32) = 0 := by decide
  have n11 : (nI 1 : Int32) ≠ 0 := by decide
  have K0 := KM0 wM
  -- the first half
  have K3 : KM wM (am_set (am_set (am_set (am_set wM 0 0 0 (nI 0)) 0 0 26 (nI 0)) 0 29 0 (nI 40)) 0 0 27 (nI 1)) := ((K0.set (Or.inr ⟨rfl, by decide, by decide⟩)).set (Or.inl (by decide))).set (Or.inr ⟨rfl, by decide, by decide⟩)
  have w3 : WorkM (am_set (am_set (am_set (am_set wM 0 0 0 (nI 0)) 0 0 26 (nI 0)) 0 29 0 (nI 40)) 0 0 27 (nI 1)) 0 1 (pcC d1 d2) (pcL d1 d2) (pcR d1 d2) (pcB d1 d2) (pcE d1 d2) (pcY d1 d2) := by
    refine ⟨?_, am_get_self _ _ _ _ _, fun k hk => absurd hk (Nat.not_lt_zero k), fun j hj => ?_⟩
    · rw [am_get_other (by decide), am_get_row (by decide), am_get_self]
    · have : j = 0 := by omega
      subst this
      rw [am_get_row (by decide), am_get_self]
      rfl
  generalize hw3 : am_set (am_set (am_set (am_set wM 0 0 0 (nI 0)) 0 0 26 (nI 0)) 0 29 0 (nI 40)) 0 0 27 (nI 1) = W3 at K3 w3
  have t1 := M_takes (hS1.k K3) hi w3.1 w3.2.1 M1 (by omega) Z1 (by omega)
  have w4 := takes_W (m := sdM d1) (z := sdZ d1) (c := sdc d1) (l := sdl d1) (r := sdr d1) (b := sdb d1) (e := sde d1) (y := sdy d1) w3 (fun k hk => by
    obtain ⟨a1, a2, a3, a4, a5⟩ := pc_1 (d2 := d2) hk
    rw [Nat.zero_add, a1, a2, a3, a4, a5]
    exact ⟨rfl, rfl, rfl, rfl, rfl⟩) (fun j hj => by rw [Nat.add_comm]; exact pcY_1 hj)
  have K4 := K3.tr (takesW_K (w := W3) (M0 := 0) (Z0 := 1) (m := sdM d1) (z := sdZ d1) (c := sdc d1) (l := sdl d1) (r := sdr d1) (b := sdb d1) (e := sde d1) (y := sdy d1))
  rw [Nat.zero_add] at w4
  generalize takesW W3 0 1 (sdM d1) (sdZ d1) (sdc d1) (sdl d1) (sdr d1) (sdb d1) (sde d1) (sdy d1) = W4 at t1 w4 K4
  -- the sign between
  have K6 : KM wM (am_set (am_set W4 0 29 (1 + sdZ d1) (nI 62)) 0 0 27 (nI (sdZ d1 + 2))) := (K4.set (Or.inl (by decide))).set (Or.inr ⟨rfl, by decide, by decide⟩)
  have w6 : WorkM (am_set (am_set W4 0 29 (1 + sdZ d1) (nI 62)) 0 0 27 (nI (sdZ d1 + 2))) (sdM d1) (sdZ d1 + 2) (pcC d1 d2) (pcL d1 d2) (pcR d1 d2) (pcB d1 d2) (pcE d1 d2) (pcY d1 d2) := by
    obtain ⟨a1, a2, a3, a4⟩ := w4
    refine ⟨?_, am_get_self _ _ _ _ _, fun k hk => ?_, fun j hj => ?_⟩
    · rw [am_get_other (by decide), am_get_row (by decide)]; exact a1
    · rw [am_get_row (by decide), am_get_row (by decide), am_get_row (by decide), am_get_row (by decide), am_get_row (by decide), am_get_row (by decide), am_get_row (by decide), am_get_row (by decide), am_get_row (by decide), am_get_row (by decide)]
      exact a3 k hk
    · rw [am_get_row (by decide)]
      by_cases e : j = 1 + sdZ d1
      · rw [e, am_get_self, show 1 + sdZ d1 = sdZ d1 + 1 by omega, pcY_2]
      · rw [am_get_other e]
        exact a4 j (by omega)
  generalize hw6 : am_set (am_set W4 0 29 (1 + sdZ d1) (nI 62)) 0 0 27 (nI (sdZ d1 + 2)) = W6 at K6 w6
  have t2 := M_takes (hS2.k K6) hj w6.1 w6.2.1 M2 (by omega) Z2 (by omega)
  have w7 := takes_W (m := sdM d2) (z := sdZ d2) (c := sdc d2) (l := sdl d2) (r := sdr d2) (b := sdb d2) (e := sde d2) (y := sdy d2) w6 (fun k hk => pc_2 hk) (fun j hj => by rw [Nat.add_comm]; exact pcY_3 hj)
  have K7 := K6.tr (takesW_K (w := W6) (M0 := sdM d1) (Z0 := sdZ d1 + 2) (m := sdM d2) (z := sdZ d2) (c := sdc d2) (l := sdl d2) (r := sdr d2) (b := sdb d2) (e := sde d2) (y := sdy d2))
  generalize takesW W6 (sdM d1) (sdZ d1 + 2) (sdM d2) (sdZ d2) (sdc d2) (sdl d2) (sdr d2) (sdb d2) (sde d2) (sdy d2) = W7 at t2 w7 K7
  -- the whole
  refine ⟨am_set (am_set (am_set (am_set (am_set (am_set (am_set (am_set W7 0 30 (sdM d1 + sdM d2) (nI 62)) 0 31 (sdM d1 + sdM d2) (nI (sdM d1 - 1))) 0 32 (sdM d1 + sdM d2) (nI (sdM d1 + sdM d2 - 1))) 0 29 (sdZ d1 + 2 + sdZ d2) (nI 41)) 0 0 27 (nI (sdZ d1 + sdZ d2 + 3))) 0 33 (sdM d1 + sdM d2) (nI 0)) 0 34 (sdM d1 + sdM d2) (nI (sdZ d1 + sdZ d2 + 3))) 0 0 26 (nI (sdM d1 + sdM d2 + 1)), ?_, ?_, ?_⟩
  · have t1' : mX6_takes (nI i) (am_set (am_set (am_set (am_set wM 0 0 0 0) 0 0 26 0) 0 29 0 40) 0 0 27 1) = some ((), W4) := by
      have : am_set (am_set (am_set (am_set wM 0 0 0 0) 0 0 26 0) 0 29 0 40) 0 0 27 1 = W3 := hw3
      rw [this]
      exact t1
    have e26 : W4.1 0 0 26 = nI (sdM d1) := w4.1
    have e27 : W4.1 0 0 27 = nI (1 + sdZ d1) := w4.2.1
    have x26 : W7.1 0 0 26 = nI (sdM d1 + sdM d2) := w7.1
    have x27 : W7.1 0 0 27 = nI (sdZ d1 + 2 + sdZ d2) := w7.2.1
    have w0 : ∀ (W : AW) (x : Int32) (f : AW → Option (Int32 × AW)), wr 420 W 0 29 0 x f = f (am_set W 0 29 0 x) := fun W x f => wr_in (show 0 < 420 by decide) (by decide) W 0 29 x f
    unfold mX6_follows
    rw [pu_mk, M_sen_t _ hi, cl_mk, if_neg n10, M_sen_t _ hj, cl_mk, if_neg n10, M_log_t _ hL, cl_mk, if_pos n11, pu_mk, w0, pu_mk, t1', cl_mk, e26, show nI (sdM d1) - 1 = nI (sdM d1 - 1) from pk_sub (a := sdM d1) (b := 1) m1, nm_mk, e27, wr_in (show 1 + sdZ d1 < 420 by omega) (by decide), am_get_row (by decide), e27, show nI (1 + sdZ d1) + 1 = nI (sdZ d1 + 2) by rw [show (1 : Int32) = nI 1 from rfl, nI_add]; congr 1; omega, pu_mk]
    have hw6' : am_set (am_set W4 0 29 (1 + sdZ d1) 62) 0 0 27 (nI (sdZ d1 + 2)) = W6 := hw6
    rw [hw6', t2, cl_mk, x26, wr_in (show sdM d1 + sdM d2 < 90 by omega) (by decide), am_get_row (by decide), x26, wr_in (show sdM d1 + sdM d2 < 90 by omega) (by decide), am_get_row (by decide), am_get_row (by decide), x26, show nI (sdM d1 + sdM d2) - 1 = nI (sdM d1 + sdM d2 - 1) from pk_sub (a := sdM d1 + sdM d2) (b := 1) (by omega), wr_in (show sdM d1 + sdM d2 < 90 by omega) (by decide), am_get_row (by decide), am_get_row (by decide), am_get_row (by decide), x27, wr_in (show sdZ d1 + 2 + sdZ d2 < 420 by omega) (by decide), am_get_row (by decide), am_get_row (by decide), am_get_row (by decide), am_get_row (by decide), x27, show nI (sdZ d1 + 2 + sdZ d2) + 1 = nI (sdZ d1 + sdZ d2 + 3) by rw [show (1 : Int32) = nI 1 from rfl, nI_add]; congr 1; omega, pu_mk]
    have q29 : ∀ (V : AW) (k : Nat) (x : Int32), (am_set V 0 29 k x).1 0 0 = V.1 0 0 := fun V k x => am_get_row (Or.inr (by decide))
    have q30 : ∀ (V : AW) (k : Nat) (x : Int32), (am_set V 0 30 k x).1 0 0 = V.1 0 0 := fun V k x => am_get_row (Or.inr (by decide))
    have q31 : ∀ (V : AW) (k : Nat) (x : Int32), (am_set V 0 31 k x).1 0 0 = V.1 0 0 := fun V k x => am_get_row (Or.inr (by decide))
    have q32 : ∀ (V : AW) (k : Nat) (x : Int32), (am_set V 0 32 k x).1 0 0 = V.1 0 0 := fun V k x => am_get_row (Or.inr (by decide))
    have q33 : ∀ (V : AW) (k : Nat) (x : Int32), (am_set V 0 33 k x).1 0 0 = V.1 0 0 := fun V k x => am_get_row (Or.inr (by decide))
    have q34 : ∀ (V : AW) (k : Nat) (x : Int32), (am_set V 0 34 k x).1 0 0 = V.1 0 0 := fun V k x => am_get_row (Or.inr (by decide))
    have s26 : ∀ (V : AW) (x : Int32), (am_set V 0 0 27 x).1 0 0 26 = V.1 0 0 26 := fun V x => am_get_other (by decide)
    have s27 : ∀ (V : AW) (x : Int32), (am_set V 0 0 27 x).1 0 0 27 = x := fun V x => am_get_self _ _ _ _ _
    rw [s26, q29, q32, q31, q30, x26, wr_in (show sdM d1 + sdM d2 < 90 by omega) (by decide), q33, s26, s27, q29, q32, q31, q30, x26, wr_in (show sdM d1 + sdM d2 < 90 by omega) (by decide), q34, q33, s26, q29, q32, q31, q30, x26, show nI (sdM d1 + sdM d2) + 1 = nI (sdM d1 + sdM d2 + 1) from nI_add _ 1, pu_mk]
    rfl
  · exact (((((((K7.set (Or.inl (by decide))).set (Or.inl (by decide))).set (Or.inl (by decide))).set (Or.inl (by decide))).set (Or.inr ⟨rfl, by decide, by decide⟩)).set (Or.inl (by decide))).set (Or.inl (by decide))).set (Or.inr ⟨rfl, by decide, by decide⟩)
  · obtain ⟨a1, a2, a3, a4⟩ := w7
    obtain ⟨p1, p2, p3, p4, p5⟩ := pc_3 (d1 := d1) (d2 := d2)
    refine ⟨am_get_self _ _ _ _ _, ?_, fun k hk => ?_, fun j hj => ?_⟩
    · rw [am_get_other (by decide), am_get_row (by decide), am_get_row (by decide), am_get_self]
    · by_cases e : k = sdM d1 + sdM d2
      · subst e
        simp only [p1, p2, p3, p4, p5, am_get, and_true, true_and, if_true, if_false, and_false, false_and, Nat.reduceEqDiff, reduceCtorEq]
      · have := a3 k (by omega)
        simp only [am_get, e, and_false, if_false, false_and, Nat.reduceEqDiff]
        exact this
    · have e0 : (am_set (am_set (am_set (am_set (am_set (am_set (am_set (am_set W7 0 30 (sdM d1 + sdM d2) (nI 62)) 0 31 (sdM d1 + sdM d2) (nI (sdM d1 - 1))) 0 32 (sdM d1 + sdM d2) (nI (sdM d1 + sdM d2 - 1))) 0 29 (sdZ d1 + 2 + sdZ d2) (nI 41)) 0 0 27 (nI (sdZ d1 + sdZ d2 + 3))) 0 33 (sdM d1 + sdM d2) (nI 0)) 0 34 (sdM d1 + sdM d2) (nI (sdZ d1 + sdZ d2 + 3))) 0 0 26 (nI (sdM d1 + sdM d2 + 1))).1 0 29 j = if j = sdZ d1 + 2 + sdZ d2 then nI 41 else W7.1 0 29 j := by
        simp only [am_get, and_true, true_and, if_false, and_false, false_and, Nat.reduceEqDiff]
      rw [e0]
      by_cases e : j = sdZ d1 + 2 + sdZ d2
      · rw [if_pos e, e, show sdZ d1 + 2 + sdZ d2 = sdZ d1 + sdZ d2 + 2 by omega, pcY_4]
      · rw [if_neg e]
        exact a4 j (by omega)
end PC
