/-! a node more -/
def NodeIs (m cc lm rm bm em : Nat) (b e y : Nat → Nat) : Prop :=
  (isLeaf cc ∧ lm = 0 ∧ rm = 0 ∧ em = bm + 1 ∧ y bm = cc) ∨ (isPre cc ∧ lm < m ∧ rm = 0 ∧ em = e lm ∧ b lm = bm + 1 ∧ y bm = cc) ∨
  (isJn cc ∧ lm < m ∧ rm < m ∧ y bm = 40 ∧ b lm = bm + 1 ∧ y (e lm) = cc ∧ b rm = e lm + 1 ∧ em = e rm + 1 ∧ y (e rm) = 41)
section ND
variable {m P cc lm rm bm em P' : Nat} {c l r b e y ph pl dp ph' pl' dp' : Nat → Nat}
theorem NodeIs.kinds (h : NodeIs m cc lm rm bm em b e y) : isLeaf cc ∨ isPre cc ∨ isJn cc := by
  rcases h with h | h | h
  · exact Or.inl h.1
  · exact Or.inr (Or.inl h.1)
  · exact Or.inr (Or.inr h.1)
theorem tree_add (hT : TreeOK m c l r b e y) (hn : NodeIs m cc lm rm bm em b e y) : TreeOK (m + 1) (ex1 c m cc) (ex1 l m lm) (ex1 r m rm) (ex1 b m bm) (ex1 e m em) y := by
  intro k hk
  by_cases q : k = m
  · subst q
    simp only [ex1_s]
    rcases hn with g | ⟨g, g1, g2, g3, g4, g5⟩ | ⟨g, g1, g2, g3, g4, g5, g6, g7, g8⟩
    · exact Or.inl g
    · refine Or.inr (Or.inl ⟨g, g1, g2, ?_, ?_, g5⟩)
      · rw [ex1_lt g1]; exact g3
      · rw [ex1_lt g1]; exact g4
    · refine Or.inr (Or.inr ⟨g, g1, g2, g3, ?_, ?_, ?_, ?_, ?_⟩)
      · rw [ex1_lt g1]; exact g4
      · rw [ex1_lt g1]; exact g5
      · rw [ex1_lt g2, ex1_lt g1]; exact g6
      · rw [ex1_lt g2]; exact g7
      · rw [ex1_lt g2]; exact g8
  · have hk' : k < m := by omega
    simp only [ex1_o q]
    rcases hT k hk' with g | ⟨g, g1, g2, g3, g4, g5⟩ | ⟨g, g1, g2, g3, g4, g5, g6, g7, g8⟩
    · exact Or.inl g
    · have hl : l k < m := by omega
      refine Or.inr (Or.inl ⟨g, g1, g2, ?_, ?_, g5⟩)
      · rw [ex1_lt hl]; exact g3
      · rw [ex1_lt hl]; exact g4
    · have hl : l k < m := by omega
      have hr : r k < m := by omega
      refine Or.inr (Or.inr ⟨g, g1, g2, g3, ?_, ?_, ?_, ?_, ?_⟩)
      · rw [ex1_lt hl]; exact g4
      · rw [ex1_lt hl]; exact g5
      · rw [ex1_lt hr, ex1_lt hl]; exact g6
      · rw [ex1_lt hr]; exact g7
      · rw [ex1_lt hr]; exact g8
theorem part_add (hT : TreeOK m c l r b e y) (hP : PartOK m P c l r b ph pl dp) (hn : NodeIs m cc lm rm bm em b e y) (he : ∀ k, k < m → e k ≤ em) (hA : PartAdd m P cc lm rm bm c l r ph pl dp P' ph' pl' dp') :
    PartOK (m + 1) P' (ex1 c m cc) (ex1 l m lm) (ex1 r m rm) (ex1 b m bm) ph' pl' dp' ∧ ((∀ k, k < m → 1 ≤ b k) → bm = 0 → ph' m = P' - 1) := by
  obtain ⟨hc, hph, hpd, hor⟩ := hA
  have hT' := tree_add hT hn
  have hs := hT.shape
  have hs' := hT'.shape
  obtain ⟨p1, p2, p3, p4, p5, p6, p7⟩ := hP
  -- of an elder part: the same length, so an elder place
  have old : ∀ j, j < m → ph' m = ph j → b j ≤ bm ∧ em - bm = e j - b j ∧ b j < e j := by
    intro j hj hz
    have := (like_of hT' hc (m + 1) m j (Nat.lt_succ_self m) (Nat.lt_succ_self m) (by omega) (by rw [hz, hph j hj])).1
    rw [ex1_s, ex1_s, ex1_lt hj, ex1_lt hj] at this
    have h1 := len_pos hT m j hj hj
    have h2 := len_pos hT' (m + 1) m (Nat.lt_succ_self m) (Nat.lt_succ_self m)
    rw [ex1_s, ex1_s] at h2
    have h3 := he j hj
    omega
  refine ⟨⟨hc.1, fun p hp => ?_, fun k hk => ?_, hc.2.2.1, hc.2.2.2.1, hc.2.2.2.2, fun k hk => ?_⟩, fun hb1 hb0 => ?_⟩
  · rcases hor with ⟨z1, z2, z3, z4⟩ | ⟨z1, -⟩
    · by_cases q : p = P
      · subst q
        exact ⟨m, by omega, z2, by rw [ex1_s, z3]⟩
      · obtain ⟨k, k1, k2, k3⟩ := p2 p (by omega)
        exact ⟨k, by omega, by rw [hph k k1]; exact k2, by rw [ex1_lt k1, (hpd p (by omega)).1]; exact k3⟩
    · obtain ⟨k, k1, k2, k3⟩ := p2 p (by omega)
      exact ⟨k, by omega, by rw [hph k k1]; exact k2, by rw [ex1_lt k1, (hpd p (by omega)).1]; exact k3⟩
  · by_cases q : k = m
    · subst q
      rw [ex1_s]
      rcases hor with ⟨z1, z2, z3, z4⟩ | ⟨z1, j, z2, z3⟩
      · rw [z2, z3]; exact Nat.le_refl _
      · rw [z3, (hpd _ (p1 j z2)).1]
        exact Nat.le_trans (p3 j z2) (old j z2 z3).1
    · have hk' : k < m := by omega
      rw [hph k hk', (hpd _ (p1 k hk')).1, ex1_lt hk']
      exact p3 k hk'
  · by_cases q : k = m
    · subst q
      rw [ex1_s]
      rcases hor with ⟨z1, z2, z3, z4⟩ | ⟨z1, j, z2, z3⟩
      · rw [z2, z4, ex1_s, ex1_s]
        refine ⟨fun g => ?_, fun g => ?_, fun g => ?_⟩
        · rw [kd_leaf g]
          have : modB cc = false := decide_eq_false (by unfold isLeaf at g; omega)
          rw [this]
          rfl
        · rcases hn with q | ⟨-, q, -⟩ | ⟨q, -⟩
          · exact absurd (kd_leaf q.1) (by rw [kd_pre g]; decide)
          · rw [kd_pre g, hph lm q, (hpd _ (p1 lm q)).2]
            show max (dp (ph lm)) 0 + bN (modB cc) = _
            unfold isPre at g
            by_cases q2 : cc = 33
            · have : modB cc = false := decide_eq_false (by omega)
              rw [this, if_pos q2, bN_f]
              omega
            · have : modB cc = true := decide_eq_true (by omega)
              rw [this, if_neg q2, bN_t]
              omega
          · exact absurd (kd_jn q) (by rw [kd_pre g]; decide)
        · rcases hn with q | ⟨q, -⟩ | ⟨-, q1, q2, -⟩
          · exact absurd (kd_leaf q.1) (by rw [kd_jn g]; decide)
          · exact absurd (kd_pre q) (by rw [kd_jn g]; decide)
          · rw [kd_jn g, hph lm q1, hph rm q2, (hpd _ (p1 lm q1)).2, (hpd _ (p1 rm q2)).2]
            have : modB cc = false := decide_eq_false (by unfold isJn at g; omega)
            rw [this]
            rfl
      · obtain ⟨i1, i2, i3⟩ := (hc.2.2.2.2 k j (Nat.lt_succ_self k) (by omega)).mp (by rw [z3, hph j z2])
        rw [ex1_s, ex1_lt z2] at i1
        rw [ex1_s, ex1_s, ex1_lt z2] at i2
        rw [ex1_s, ex1_s, ex1_s, ex1_lt z2, ex1_lt z2] at i3
        obtain ⟨d1, d2, d3⟩ := p7 j z2
        rw [z3, ex1_s, ex1_s, (hpd _ (p1 j z2)).2]
        refine ⟨fun g => d1 (by rw [← i1]; exact g), fun g => ?_, fun g => ?_⟩
        · have hlj : l j < k := by
            rcases hs j z2 with q | ⟨q, q1⟩ | ⟨q, q1, q2⟩
            · exact absurd (kd_leaf q) (by rw [← i1, kd_pre g]; decide)
            · omega
            · omega
          rw [i2 g, hph _ hlj, (hpd _ (p1 _ hlj)).2, i1]
          exact d2 (by rw [← i1]; exact g)
        · have hlj : l j < k ∧ r j < k := by
            rcases hs j z2 with q | ⟨q, q1⟩ | ⟨q, q1, q2⟩
            · exact absurd (kd_leaf q) (by rw [← i1, kd_jn g]; decide)
            · exact absurd (kd_pre q) (by rw [← i1, kd_jn g]; decide)
            · omega
          rw [(i3 g).1, (i3 g).2, hph _ hlj.1, hph _ hlj.2, (hpd _ (p1 _ hlj.1)).2, (hpd _ (p1 _ hlj.2)).2]
          exact d3 (by rw [← i1]; exact g)
    · have hk' : k < m := by omega
      obtain ⟨d1, d2, d3⟩ := p7 k hk'
      rw [ex1_o q, ex1_o q, ex1_o q, hph k hk', (hpd _ (p1 k hk')).2]
      refine ⟨d1, fun g => ?_, fun g => ?_⟩
      · have hlk : l k < m := by
          rcases hs k hk' with q | ⟨q, q1⟩ | ⟨q, q1, q2⟩
          · exact absurd (kd_leaf q) (by rw [kd_pre g]; decide)
          · omega
          · omega
        rw [hph _ hlk, (hpd _ (p1 _ hlk)).2]
        exact d2 g
      · have hlk : l k < m ∧ r k < m := by
          rcases hs k hk' with q | ⟨q, q1⟩ | ⟨q, q1, q2⟩
          · exact absurd (kd_leaf q) (by rw [kd_jn g]; decide)
          · exact absurd (kd_pre q) (by rw [kd_jn g]; decide)
          · omega
        rw [hph _ hlk.1, hph _ hlk.2, (hpd _ (p1 _ hlk.1)).2, (hpd _ (p1 _ hlk.2)).2]
        exact d3 g
  · rcases hor with ⟨z1, z2, z3, z4⟩ | ⟨z1, j, z2, z3⟩
    · rw [z2, z1]
      omega
    · exfalso
      have h1 := old j z2 z3
      have h2 := hb1 j z2
      have h3 := he j z2
      omega
end ND
/-! the model's part() -/
def NdM (w : AW) (m : Nat) (c l r b e : Nat → Nat) : Prop := w.1 0 0 15 = nI m ∧ ∀ k, k < m → w.1 0 18 k = nI (c k) ∧ w.1 0 19 k = nI (l k) ∧ w.1 0 20 k = nI (r k) ∧ w.1 0 21 k = nI (b k) ∧ w.1 0 22 k = nI (e k)
def ndW (w : AW) (m cc lm rm bm em : Nat) : AW := am_set (am_set (am_set (am_set (am_set (am_set w 0 18 m (nI cc)) 0 19 m (nI lm)) 0 20 m (nI rm)) 0 21 m (nI bm)) 0 22 m (nI em)) 0 0 15 (nI (m + 1))
section MP
variable {w : AW} {m cc lm rm bm em : Nat} {c l r b e : Nat → Nat}
theorem ndW_row {a : Nat} (h : 22 < a ∨ (a < 18 ∧ a ≠ 0)) : (ndW w m cc lm rm bm em).1 0 a = w.1 0 a := by
  unfold ndW
  rw [am_get_row (by omega), am_get_row (by omega), am_get_row (by omega), am_get_row (by omega), am_get_row (by omega), am_get_row (by omega)]
theorem ndW_K : KM w (ndW w m cc lm rm bm em) := ((((((KM.rf w).set (Or.inl (by decide))).set (Or.inl (by decide))).set (Or.inl (by decide))).set (Or.inl (by decide))).set (Or.inl (by decide))).set (Or.inr ⟨rfl, by decide, by decide⟩)
theorem M_part (h : w.1 0 0 15 = nI m) (hm : m < 40) : mX6_part (nI cc) (nI lm) (nI rm) (nI bm) (nI em) w = some (nI m, ndW w m cc lm rm bm em) := by
  have hw := fun (a : Nat) (W : AW) (z : Int32) => wr_in (α := Int32 × AW) hm (show 40 < 2 ^ 31 by decide) W 0 a z
  unfold mX6_part
  rw [h, hw, rn 18 0 rfl, h, hw, rn 19 0 rfl, rn 18 0 rfl, h, hw, rn 20 0 rfl, rn 19 0 rfl, rn 18 0 rfl, h, hw, rn 21 0 rfl, rn 20 0 rfl, rn 19 0 rfl, rn 18 0 rfl, h, hw, pu_mk, rn 22 0 rfl, rn 21 0 rfl, rn 20 0 rfl, rn 19 0 rfl, rn 18 0 rfl, h, am_get_self, lit, nI_add, pk_sub (by omega), Nat.add_sub_cancel]
  rfl
theorem ndW_N (h : NdM w m c l r b e) : NdM (ndW w m cc lm rm bm em) (m + 1) (ex1 c m cc) (ex1 l m lm) (ex1 r m rm) (ex1 b m bm) (ex1 e m em) := by
  refine ⟨am_get_self _ _ _ _ _, fun k hk => ?_⟩
  by_cases q : k = m
  · subst q
    simp [ndW, am_get, ex1_s]
  · have g := h.2 k (by omega)
    rw [ex1_o q, ex1_o q, ex1_o q, ex1_o q, ex1_o q]
    have q2 : ¬ (k = m) := q
    simp only [ndW, am_get, q2, and_false, if_false, false_and, show (0 : Nat) = 0 from rfl, true_and]
    simpa using g
end MP
