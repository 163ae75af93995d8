/-! the new objects belong together -/
def dT : SD := ((1, 1, 1), (fun _ => 84), (fun _ => 0), (fun _ => 0), (fun _ => 0), (fun _ => 1), (fun _ => 84), (fun _ => 0), (fun _ => 0), (fun _ => 0))
theorem dT_ok : SDok dT := by
  have l : isLeaf 84 := Or.inr (Or.inr (Or.inr (Or.inr (Or.inl rfl))))
  have np : ¬ isPre 84 := by unfold isPre; omega
  have nj : ¬ isJn 84 := by unfold isJn; omega
  refine ⟨Nat.le_refl 1, by decide, Nat.le_refl 1, Nat.le_refl 1, by decide, fun k hk => ?_, ⟨fun k hk => Nat.zero_lt_one, fun p hp => ⟨0, Nat.zero_lt_one, ?_, rfl⟩, fun k hk => Nat.le_refl 0, fun k hk g => absurd g np, fun k hk g => absurd g nj, fun k j hk hj => ⟨fun _ => ⟨rfl, fun _ => rfl, fun _ => ⟨rfl, rfl⟩⟩, fun _ => rfl⟩, fun k hk => ⟨fun _ => rfl, fun g => absurd g np, fun g => absurd g nj⟩⟩, rfl, rfl, rfl, fun j => (show (84 : Nat) < 256 by decide), fun k hk => Nat.le_refl 1, fun k hk => Nat.le_refl 0⟩
  · exact Or.inl ⟨l, rfl, rfl, rfl, rfl⟩
  · have : p < 1 := hp
    show 0 = p
    omega
set_option maxRecDepth 100000 in
theorem rel_0 : Rel wX0 wM1 := by
  refine ⟨3, fun _ => 0, fun _ => 0, 0, fun _ => 0, fun _ => dT, ⟨by decide, by decide, fun k => (show (0 : Nat) < 2 ^ 3 by decide), fun k _ => rfl, fun i => (show (0 : Nat) < 2 ^ 3 by decide)⟩, ⟨rfl, fun k hk => rfl, fun i hi => rfl⟩, ⟨rfl, fun k hk => ?_, fun i hi => ?_⟩, ⟨by decide, rfl, rfl, fun j hj => absurd hj (Nat.not_lt_zero j), fun j => (show (0 : Nat) < 256 by decide)⟩, rfl, fun i hi => ⟨dT_ok, ?_, ?_⟩, rfl⟩
  · unfold wM1
    simp only [am_get_row (show (0 : Nat) ≠ 0 ∨ 4 ≠ 8 from Or.inr (by decide)), am_get_row (show (0 : Nat) ≠ 0 ∨ 4 ≠ 9 from Or.inr (by decide)), am_get_row (show (0 : Nat) ≠ 0 ∨ 4 ≠ 10 from Or.inr (by decide)), am_get_row (show (0 : Nat) ≠ 0 ∨ 4 ≠ 11 from Or.inr (by decide)), am_get_row (show (0 : Nat) ≠ 0 ∨ 4 ≠ 15 from Or.inr (by decide))]
    rfl
  · unfold wM1
    simp only [am_get_row (show (0 : Nat) ≠ 0 ∨ 5 ≠ 8 from Or.inr (by decide)), am_get_row (show (0 : Nat) ≠ 0 ∨ 5 ≠ 9 from Or.inr (by decide)), am_get_row (show (0 : Nat) ≠ 0 ∨ 5 ≠ 10 from Or.inr (by decide)), am_get_row (show (0 : Nat) ≠ 0 ∨ 5 ≠ 11 from Or.inr (by decide)), am_get_row (show (0 : Nat) ≠ 0 ∨ 5 ≠ 15 from Or.inr (by decide))]
    rfl
  · have key : ∀ i, i < 6 → wX0.1 (6 + i) 0 5 = nI 1 ∧ wX0.1 (6 + i) 0 6 = nI 1 ∧ wX0.1 (6 + i) 1 0 = nI 84 ∧ wX0.1 (6 + i) 2 0 = -1 ∧ wX0.1 (6 + i) 3 0 = -1 ∧ wX0.1 (6 + i) 4 0 = nI 0 ∧ wX0.1 (6 + i) 5 0 = nI 0 := by decide +kernel
    obtain ⟨k1, k2, k3, k4, k5, k6, k7⟩ := key i hi
    have np : ¬ isPre 84 := by unfold isPre; omega
    have nj : ¬ isJn 84 := by unfold isJn; omega
    exact ⟨k1, k2, fun k hk => ⟨k3, fun _ => ⟨k4, k5⟩, fun g => absurd g np, fun g => absurd g nj⟩, fun p hp => by
      have : p < 1 := hp
      have : p = 0 := by omega
      subst this
      exact ⟨k6, k7⟩⟩
  · have key : ∀ i, i < 6 → wM1.1 0 9 i = nI 1 ∧ wM1.1 0 10 i = nI 1 ∧ wM1.1 0 11 (40 * i) = nI 84 ∧ wM1.1 0 12 (40 * i) = nI 0 ∧ wM1.1 0 13 (40 * i) = nI 0 ∧ wM1.1 0 14 (40 * i) = nI 0 ∧ wM1.1 0 15 (40 * i) = nI 1 ∧ wM1.1 0 8 (200 * i) = nI 84 := by decide +kernel
    obtain ⟨k1, k2, k3, k4, k5, k6, k7, k8⟩ := key i hi
    refine ⟨k1, k2, fun k hk => ?_, fun j hj => ?_⟩
    · have : k < 1 := hk
      have : k = 0 := by omega
      subst this
      exact ⟨k3, k4, k5, k6, k7⟩
    · have : j < 1 := hj
      have : j = 0 := by omega
      subst this
      exact k8
