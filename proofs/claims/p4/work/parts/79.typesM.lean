/-! the model's types: own, inner, holds -/
def muN (c bp : Nat → Nat) (nb : Nat) : Nat := orF (fun j => if c (bp j) = 91 then 2 ^ j else 0) nb
def myN (c bp : Nat → Nat) (nb : Nat) : Nat := orF (fun j => if c (bp j) = 123 then 2 ^ j else 0) nb
def inN (c l bp V : Nat → Nat) (nb : Nat) : Nat := orF (fun j => if (c (bp j) = 91 ∨ c (bp j) = 123) ∧ V (l (bp j)) = 1 then 2 ^ j else 0) nb
theorem tb_muN {c bp : Nat → Nat} {nb j : Nat} : (muN c bp nb).testBit j = true ↔ j < nb ∧ c (bp j) = 91 := by
  unfold muN
  rw [tb_orF]
  constructor
  · rintro ⟨k, h1, h2⟩
    split at h2
    · rename_i h
      rw [tb_pow, decide_eq_true_eq] at h2
      subst h2
      exact ⟨h1, h⟩
    · rw [Nat.zero_testBit] at h2; cases h2
  · rintro ⟨h1, h2⟩
    exact ⟨j, h1, by rw [if_pos h2, tb_pow, decide_eq_true_eq]⟩
theorem tb_myN {c bp : Nat → Nat} {nb j : Nat} : (myN c bp nb).testBit j = true ↔ j < nb ∧ c (bp j) = 123 := by
  unfold myN
  rw [tb_orF]
  constructor
  · rintro ⟨k, h1, h2⟩
    split at h2
    · rename_i h
      rw [tb_pow, decide_eq_true_eq] at h2
      subst h2
      exact ⟨h1, h⟩
    · rw [Nat.zero_testBit] at h2; cases h2
  · rintro ⟨h1, h2⟩
    exact ⟨j, h1, by rw [if_pos h2, tb_pow, decide_eq_true_eq]⟩
theorem mask_lt {f : Nat → Prop} [∀ j, Decidable (f j)] {nb : Nat} (h : nb ≤ 10) : orF (fun j => if f j then 2 ^ j else 0) nb < 2 ^ 10 := orF_lt (fun j hj => by
  split
  · exact pow_lt_of (by omega)
  · decide)
section TY
variable {w : AW} {M Z nb : Nat} {c l r b e y ph btq bp : Nat → Nat} {gr : Bool}
/-- what types() needs, and what stays as it is through it -/
def TB (w : AW) (gr : Bool) (M Z nb : Nat) (c l r b e y ph btq bp : Nat → Nat) : Prop := WorkM w M Z c l r b e y ∧ w.1 0 0 35 = nI nb ∧ (∀ j, j < nb → bp j < M ∧ w.1 0 37 j = nI (bp j)) ∧ (∀ k, k < M → w.1 0 35 k = if hbB gr (c k) = true then nI (btq (ph k)) else -9)
theorem TB.keep {w2 : AW} (h : TB w gr M Z nb c l r b e y ph btq bp) (e1 : ∀ a, a ≠ 0 → a < 38 → w2.1 0 a = w.1 0 a) (e2 : ∀ j, j < 44 → w2.1 0 0 j = w.1 0 0 j) : TB w2 gr M Z nb c l r b e y ph btq bp := by
  obtain ⟨h1, h2, h3, h4⟩ := h
  exact ⟨h1.c (e2 26 (by decide)) (e2 27 (by decide)) (fun a z1 z2 => e1 a (by omega) (by omega)), by rw [e2 35 (by decide)]; exact h2, by rw [e1 37 (by decide) (by decide)]; exact h3, by rw [e1 35 (by decide) (by decide)]; exact h4⟩
theorem M_inner {k92 : Int32 → AW → Option (Unit × AW)} {W : AW} {t : Nat} {V : Nat → Nat} (hT : TB W gr M Z nb c l r b e y ph btq bp) (hs : ShapeOK M c l r) (hM : M ≤ 90) (hnb : nb ≤ 10) (ht : t < 1024) (h44 : W.1 0 0 44 = nI (muN c bp nb)) (h45 : W.1 0 0 45 = nI (myN c bp nb)) (hV : ∀ k, k < M → W.1 0 38 k = nI (V k)) (hV2 : ∀ k, k < M → V k < 2) :
    mX6_types_133 k92 (nI t) FU (nI 0) (am_set W 0 40 t (nI 0)) = k92 (nI (t + 1)) (am_set W 0 40 t (nI (inN c l bp V nb))) := by
  have lm : muN c bp nb < 2 ^ 10 := mask_lt hnb
  have ly : myN c bp nb < 2 ^ 10 := mask_lt hnb
  have lmy : muN c bp nb ||| myN c bp nb < 2 ^ 10 := or_lt lm ly
  refine loopE (fun n (s : Int32 × AW) => mX6_types_133 k92 (nI t) n s.1 s.2) nb (fun j => (nI j, am_set W 0 40 t (nI (inN c l bp V j)))) _ ?_ ?_ FU 0 (Nat.zero_le _) (FU_gt (by omega))
  · intro n j hj
    obtain ⟨p1, p2⟩ := hT.2.2.1 j hj
    have f35 : ∀ x, (am_set W 0 40 t x).1 0 0 35 = nI nb := fun x => by rw [rn 40 0 rfl]; exact hT.2.1
    have f44 : ∀ x, (am_set W 0 40 t x).1 0 0 44 = nI (muN c bp nb) := fun x => by rw [rn 40 0 rfl]; exact h44
    have f45 : ∀ x, (am_set W 0 40 t x).1 0 0 45 = nI (myN c bp nb) := fun x => by rw [rn 40 0 rfl]; exact h45
    have ev : nI j + 1 = nI (j + 1) := nI_add j 1
    have e31 : nI j &&& 31 = nI (j &&& 31) := nI_and j 31
    have esh : ((nI (muN c bp nb) ||| nI (myN c bp nb)) >>> (nI j &&& 31)) &&& 1 = nI (bN ((muN c bp nb ||| myN c bp nb).testBit j)) := by
      rw [nI_or, e31]
      exact shr_B (by omega) (by omega)
    have r40 : ∀ f : Int32 → Option (Unit × AW), rd 1024 ((am_set W 0 40 t (nI (inN c l bp V j))).1 0 40) (nI t) f = f (nI (inN c l bp V j)) := fun f => by rw [rd_in ht (by decide), am_get_self]
    have ein : inN c l bp V (j + 1) = inN c l bp V j ||| (if (c (bp j) = 91 ∨ c (bp j) = 123) ∧ V (l (bp j)) = 1 then 2 ^ j else 0) := rfl
    have e1 : (1 : Int32) <<< (nI j &&& 31) = nI (2 ^ j) := by
      rw [e31]
      exact one_shl (by omega)
    have no : ¬ ((c (bp j) = 91 ∨ c (bp j) = 123) ∧ V (l (bp j)) = 1) → mX6_types_182 k92 (mX6_types_133 k92 (nI t) n) (nI t) (nI j) (am_set W 0 40 t (nI (inN c l bp V j))) = mX6_types_133 k92 (nI t) n (nI (j + 1)) (am_set W 0 40 t (nI (inN c l bp V (j + 1)))) := fun z => by
      unfold mX6_types_182 mX6_types_183
      rw [r40, if_pos rfl]
      unfold mX6_types_202
      have e0 : nI (inN c l bp V j) ||| 0 = nI (inN c l bp V (j + 1)) := by
        rw [ein, if_neg z]
        exact nI_or _ 0
      rw [e0, wr_in ht (by decide), am_set_set, nm_mk, ev]
    have tb : (muN c bp nb ||| myN c bp nb).testBit j = decide (c (bp j) = 91 ∨ c (bp j) = 123) := by
      rw [Bool.eq_iff_iff, Nat.testBit_or, Bool.or_eq_true, tb_muN, tb_myN, decide_eq_true_eq]
      constructor
      · rintro (⟨-, z⟩ | ⟨-, z⟩)
        · exact Or.inl z
        · exact Or.inr z
      · rintro (z | z)
        · exact Or.inl ⟨hj, z⟩
        · exact Or.inr ⟨hj, z⟩
    dsimp only
    rw [mX6_types_133, f35, if_neg (nI_ge hj (by omega)), f44, f45, esh, tb]
    by_cases q : c (bp j) = 91 ∨ c (bp j) = 123
    · obtain ⟨w30, w31, w32, w33, w34⟩ := hT.1.2.2.1 _ p1
      have hlp : l (bp j) < bp j := by
        rcases hs _ p1 with g | ⟨g, g1⟩ | ⟨g, g1, g2⟩
        · unfold isLeaf at g; omega
        · exact g1
        · exact g1
      rw [decide_eq_true q, if_neg (show ¬ (nI (bN true) ≠ 1) from fun z => z rfl), rd_in (by omega) (by decide), rn 40 37 rfl, p2, rd_in (by omega) (by decide), rn 40 31 rfl, w31, rd_in (by omega) (by decide), rn 40 38 rfl, hV _ (by omega)]
      by_cases q2 : V (l (bp j)) = 1
      · rw [if_neg (show ¬ (nI (V (l (bp j))) ≠ 1) from fun z => z (by rw [q2]; rfl))]
        unfold mX6_types_183
        rw [r40, if_neg (show ¬ ((1 : Int32) = 0) by decide), e1]
        unfold mX6_types_202
        rw [nI_or, wr_in ht (by decide), am_set_set, nm_mk, ev, ein, if_pos ⟨q, q2⟩]
      · rw [if_pos (show nI (V (l (bp j))) ≠ 1 from ne_nI (b := 1) (by have := hV2 (l (bp j)) (by omega); omega) (by decide) q2)]
        exact no (fun z => q2 z.2)
    · rw [decide_eq_false q, if_pos (show nI (bN false) ≠ 1 by decide)]
      exact no (fun z => q z.1)
  · intro n
    dsimp only
    rw [mX6_types_133, rn 40 0 rfl, hT.2.1, if_pos (nI_le (Nat.le_refl nb) (by omega)), nm_mk, show nI t + 1 = nI (t + 1) from nI_add t 1]
end TY
