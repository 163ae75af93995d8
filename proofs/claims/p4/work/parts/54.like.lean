/-! the same text is the same part -/
section LK2
variable {m P : Nat} {c l r b e y ph : Nat → Nat}
theorem len_pos (hT : TreeOK m c l r b e y) : ∀ n k, k < n → k < m → b k < e k := by
  intro n
  induction n with
  | zero => intro k h; omega
  | succ n ih =>
    intro k hkn hk
    rcases hT k hk with ⟨g, g1, g2, g3, g4⟩ | ⟨g, g1, g2, g3, g4, g5⟩ | ⟨g, g1, g2, g3, g4, g5, g6, g7, g8⟩
    · omega
    · have := ih (l k) (by omega) (by omega)
      omega
    · have h1 := ih (l k) (by omega) (by omega)
      have h2 := ih (r k) (by omega) (by omega)
      omega
theorem read_uniq (hT : TreeOK m c l r b e y) (hc : ClassOK m P c l r ph) : ∀ n i j, i < n → i < m → j < m → (∀ t, t < e i - b i → y (b i + t) = y (b j + t)) → ph i = ph j ∧ e i - b i = e j - b j := by
  intro n
  induction n with
  | zero => intro i j h; omega
  | succ n ih =>
    intro i j hin hi hj ha
    have li := len_pos hT m i hi hi
    have lj := len_pos hT m j hj hj
    have a0 := ha 0 (by omega)
    rw [Nat.add_zero, Nat.add_zero] at a0
    have iff := hc.2.2.2.2 i j hi hj
    rcases hT i hi with ⟨g, g1, g2, g3, g4⟩ | ⟨g, g1, g2, g3, g4, g5⟩ | ⟨g, g1, g2, g3, g4, g5, g6, g7, g8⟩
    · rcases hT j hj with ⟨q, q1, q2, q3, q4⟩ | ⟨q, q1, q2, q3, q4, q5⟩ | ⟨q, q1, q2, q3, q4, q5, q6, q7, q8⟩
      · refine ⟨iff.mpr ⟨by rw [← g4, ← q4, a0], fun z => ?_, fun z => ?_⟩, by omega⟩
        · have := kd_leaf g; rw [kd_pre z] at this; cases this
        · have := kd_leaf g; rw [kd_jn z] at this; cases this
      · exfalso
        unfold isLeaf at g
        unfold isPre at q
        omega
      · exfalso
        unfold isLeaf at g
        omega
    · rcases hT j hj with ⟨q, q1, q2, q3, q4⟩ | ⟨q, q1, q2, q3, q4, q5⟩ | ⟨q, q1, q2, q3, q4, q5, q6, q7, q8⟩
      · exfalso
        unfold isLeaf at q
        unfold isPre at g
        omega
      · have l1 := len_pos hT m (l i) (by omega) (by omega)
        obtain ⟨z1, z2⟩ := ih (l i) (l j) (by omega) (by omega) (by omega) (fun t ht => by
          have := ha (1 + t) (by omega)
          rw [show b i + (1 + t) = b (l i) + t by omega, show b j + (1 + t) = b (l j) + t by omega] at this
          exact this)
        have l2 := len_pos hT m (l j) (by omega) (by omega)
        refine ⟨iff.mpr ⟨by rw [← g5, ← q5, a0], fun _ => z1, fun z => ?_⟩, by omega⟩
        have := kd_pre g; rw [kd_jn z] at this; cases this
      · exfalso
        unfold isPre at g
        omega
    · rcases hT j hj with ⟨q, q1, q2, q3, q4⟩ | ⟨q, q1, q2, q3, q4, q5⟩ | ⟨q, q1, q2, q3, q4, q5, q6, q7, q8⟩
      · exfalso
        unfold isLeaf at q
        omega
      · exfalso
        unfold isPre at q
        omega
      · have l1 := len_pos hT m (l i) (by omega) (by omega)
        have l2 := len_pos hT m (l j) (by omega) (by omega)
        have r1 := len_pos hT m (r i) (by omega) (by omega)
        have r2 := len_pos hT m (r j) (by omega) (by omega)
        obtain ⟨z1, z2⟩ := ih (l i) (l j) (by omega) (by omega) (by omega) (fun t ht => by
          have := ha (1 + t) (by omega)
          rw [show b i + (1 + t) = b (l i) + t by omega, show b j + (1 + t) = b (l j) + t by omega] at this
          exact this)
        have es := ha (e (l i) - b i) (by omega)
        rw [show b i + (e (l i) - b i) = e (l i) by omega, show b j + (e (l i) - b i) = e (l j) by omega, g5, q5] at es
        obtain ⟨z3, z4⟩ := ih (r i) (r j) (by omega) (by omega) (by omega) (fun t ht => by
          have := ha (b (r i) - b i + t) (by omega)
          rw [show b i + (b (r i) - b i + t) = b (r i) + t by omega, show b j + (b (r i) - b i + t) = b (r j) + t by omega] at this
          exact this)
        refine ⟨iff.mpr ⟨es, fun z => ?_, fun _ => ⟨z1, z3⟩⟩, by omega⟩
        have := kd_jn g; rw [kd_pre z] at this; cases this
theorem like_of (hT : TreeOK m c l r b e y) (hc : ClassOK m P c l r ph) : ∀ n i j, i < n → i < m → j < m → ph i = ph j → e i - b i = e j - b j ∧ ∀ t, t < e i - b i → y (b i + t) = y (b j + t) := by
  intro n
  induction n with
  | zero => intro i j h; omega
  | succ n ih =>
    intro i j hin hi hj hp
    obtain ⟨p1, p2, p3⟩ := (hc.2.2.2.2 i j hi hj).mp hp
    have li := len_pos hT m i hi hi
    have lj := len_pos hT m j hj hj
    rcases hT i hi with ⟨g, g1, g2, g3, g4⟩ | ⟨g, g1, g2, g3, g4, g5⟩ | ⟨g, g1, g2, g3, g4, g5, g6, g7, g8⟩
    · rcases hT j hj with ⟨q, q1, q2, q3, q4⟩ | ⟨q, q1, q2, q3, q4, q5⟩ | ⟨q, q1, q2, q3, q4, q5, q6, q7, q8⟩
      · refine ⟨by omega, fun t ht => ?_⟩
        have : t = 0 := by omega
        subst this
        rw [Nat.add_zero, Nat.add_zero, g4, q4, p1]
      · have := kd_leaf g; rw [p1, kd_pre q] at this; cases this
      · have := kd_leaf g; rw [p1, kd_jn q] at this; cases this
    · rcases hT j hj with ⟨q, q1, q2, q3, q4⟩ | ⟨q, q1, q2, q3, q4, q5⟩ | ⟨q, q1, q2, q3, q4, q5, q6, q7, q8⟩
      · have := kd_pre g; rw [p1, kd_leaf q] at this; cases this
      · have l1 := len_pos hT m (l i) (by omega) (by omega)
        have l2 := len_pos hT m (l j) (by omega) (by omega)
        obtain ⟨z1, z2⟩ := ih (l i) (l j) (by omega) (by omega) (by omega) (p2 g)
        refine ⟨by omega, fun t ht => ?_⟩
        by_cases e0 : t = 0
        · subst e0
          rw [Nat.add_zero, Nat.add_zero, g5, q5, p1]
        · have := z2 (t - 1) (by omega)
          rw [show b (l i) + (t - 1) = b i + t by omega, show b (l j) + (t - 1) = b j + t by omega] at this
          exact this
      · have := kd_pre g; rw [p1, kd_jn q] at this; cases this
    · rcases hT j hj with ⟨q, q1, q2, q3, q4⟩ | ⟨q, q1, q2, q3, q4, q5⟩ | ⟨q, q1, q2, q3, q4, q5, q6, q7, q8⟩
      · have := kd_jn g; rw [p1, kd_leaf q] at this; cases this
      · have := kd_jn g; rw [p1, kd_pre q] at this; cases this
      · have l1 := len_pos hT m (l i) (by omega) (by omega)
        have l2 := len_pos hT m (l j) (by omega) (by omega)
        have r1 := len_pos hT m (r i) (by omega) (by omega)
        have r2 := len_pos hT m (r j) (by omega) (by omega)
        obtain ⟨z1, z2⟩ := ih (l i) (l j) (by omega) (by omega) (by omega) (p3 g).1
        obtain ⟨z3, z4⟩ := ih (r i) (r j) (by omega) (by omega) (by omega) (p3 g).2
        refine ⟨by omega, fun t ht => ?_⟩
        by_cases e0 : t = 0
        · subst e0
          rw [Nat.add_zero, Nat.add_zero, g3, q3]
        · by_cases e1 : t < 1 + (e (l i) - b (l i))
          · have := z2 (t - 1) (by omega)
            rw [show b (l i) + (t - 1) = b i + t by omega, show b (l j) + (t - 1) = b j + t by omega] at this
            exact this
          · by_cases e2 : t = 1 + (e (l i) - b (l i))
            · rw [show b i + t = e (l i) by omega, show b j + t = e (l j) by omega, g5, q5, p1]
            · by_cases e3 : t < 2 + (e (l i) - b (l i)) + (e (r i) - b (r i))
              · have := z4 (t - (2 + (e (l i) - b (l i)))) (by omega)
                rw [show b (r i) + (t - (2 + (e (l i) - b (l i)))) = b i + t by omega, show b (r j) + (t - (2 + (e (l i) - b (l i)))) = b j + t by omega] at this
                exact this
              · rw [show b i + t = e (r i) by omega, show b j + t = e (r j) by omega, g8, q8]
theorem like_iff (hT : TreeOK m c l r b e y) (hc : ClassOK m P c l r ph) {i j : Nat} (hi : i < m) (hj : j < m) : (e i - b i = e j - b j ∧ ∀ t, t < e i - b i → y (b i + t) = y (b j + t)) ↔ ph i = ph j :=
  ⟨fun h => (read_uniq hT hc (i + 1) i j (Nat.lt_succ_self i) hi hj h.2).1, fun h => like_of hT hc (i + 1) i j (Nat.lt_succ_self i) hi hj h⟩
end LK2
section LM
variable {w : AW} {M Z P : Nat} {c l r b e y ph : Nat → Nat}
theorem M_isLike {l1 r1 : Nat → Nat} (hW : WorkM w M Z c l1 r1 b e y) (hT : TreeOK M c l r b e y) (hc : ClassOK M P c l r ph) (hM : M ≤ 90) (hZ : Z ≤ 420) (he : ∀ k, k < M → e k ≤ Z) (hy : ∀ j, y j < 256) {i j : Nat} (hi : i < M) (hj : j < M) : mX6_isLike (nI i) (nI j) w = some (nI (bN (decide (ph i = ph j))), w) := by
  have li := len_pos hT M i hi hi
  have lj := len_pos hT M j hj hj
  have hei := he i hi
  have hej := he j hj
  obtain ⟨-, -, -, wb1, we1⟩ := hW.2.2.1 i hi
  obtain ⟨-, -, -, wb2, we2⟩ := hW.2.2.1 j hj
  have r1 : ∀ f : Int32 → Option (Int32 × AW), rd 90 (w.1 0 34) (nI i) f = f (nI (e i)) := fun f => by rw [rd_in (by omega) (by decide), we1]
  have r2 : ∀ f : Int32 → Option (Int32 × AW), rd 90 (w.1 0 33) (nI i) f = f (nI (b i)) := fun f => by rw [rd_in (by omega) (by decide), wb1]
  have r3 : ∀ f : Int32 → Option (Int32 × AW), rd 90 (w.1 0 34) (nI j) f = f (nI (e j)) := fun f => by rw [rd_in (by omega) (by decide), we2]
  have r4 : ∀ f : Int32 → Option (Int32 × AW), rd 90 (w.1 0 33) (nI j) f = f (nI (b j)) := fun f => by rw [rd_in (by omega) (by decide), wb2]
  have s1 : nI (e i) - nI (b i) = nI (e i - b i) := pk_sub (by omega)
  have s2 : nI (e j) - nI (b j) = nI (e j - b j) := pk_sub (by omega)
  have iff := like_iff hT hc hi hj
  by_cases q : e i - b i = e j - b j
  rotate_left
  · have q2 : (nI (e i - b i) = nI (e j - b j)) = False := eq_false (fun z => q ((nI_eq (by omega) (by omega)).mp z))
    have q3 : ¬ ph i = ph j := fun z => q (iff.mpr z).1
    obtain ⟨n, hn⟩ := FU_succ
    have c1 : ¬ nI (e i - b i) ≤ nI 0 := nI_ge (show 0 < e i - b i by omega) (by omega)
    simp only [mX6_isLike, mX6_isLike_36, r1, r2, r3, r4, s1, s2, q2, q3, decide_false, bN_f, cl_mk, nm_mk, pu_mk, lit, if_true, if_false, ne_eq, not_false_eq_true, not_true_eq_false, nI_add, nI_or, nI_and, Bool.false_eq_true, ne01, ne10, nI_m1', Nat.or_zero]
    rw [hn]
    simp only [mX6_isLike_41, c1, zr_0, cl_mk, nm_mk, pu_mk, lit, if_true, if_false, ne_eq, not_false_eq_true, not_true_eq_false, nI_add, nI_or, nI_and, Bool.false_eq_true, ne01, ne10, nI_m1', Nat.or_zero]
  · have q2 : (nI (e i - b i) = nI (e j - b j)) = True := eq_true (by rw [q])
    simp only [mX6_isLike, mX6_isLike_36, r1, r2, r3, r4, s1, s2, q2, cl_mk, nm_mk, pu_mk, lit, if_true, if_false, ne_eq, not_false_eq_true, not_true_eq_false, nI_add, nI_or, nI_and, Bool.false_eq_true, ne01, ne10, nI_m1', Nat.or_zero]
    have byt : ∀ t, t < e i - b i → (∀ f : Int32 → Option (Int32 × AW), rd 420 (w.1 0 29) (nI (b i + t)) f = f (nI (y (b i + t)))) ∧ (∀ f : Int32 → Option (Int32 × AW), rd 420 (w.1 0 29) (nI (b j + t)) f = f (nI (y (b j + t)))) := fun t ht => ⟨fun f => by rw [rd_in (by omega) (by decide), hW.2.2.2 _ (by omega)], fun f => by rw [rd_in (by omega) (by decide), hW.2.2.2 _ (by omega)]⟩
    have step : ∀ n t, t < e i - b i → mX6_isLike_41 (nI i) (nI j) (nI (e i - b i)) (n + 1) (nI 1) (nI t) w = mX6_isLike_41 (nI i) (nI j) (nI (e i - b i)) n (nI (bN (decide (y (b i + t) = y (b j + t))))) (nI (t + 1)) w := fun n t ht => by
      have c1 : ¬ nI (e i - b i) ≤ nI t := nI_ge ht (by omega)
      obtain ⟨z1, z2⟩ := byt t ht
      have y1 := hy (b i + t)
      have y2 := hy (b j + t)
      by_cases z : y (b i + t) = y (b j + t)
      · simp only [mX6_isLike_41, mX6_isLike_88, c1, r2, r4, z1, z2, z, decide_true, bN_t, cl_mk, nm_mk, pu_mk, lit, if_true, if_false, ne_eq, not_false_eq_true, not_true_eq_false, nI_add, nI_or, nI_and, Bool.false_eq_true, ne01, ne10, nI_m1', Nat.or_zero]
      · have z3 : (nI (y (b i + t)) = nI (y (b j + t))) = False := eq_false (fun x => z ((nI_eq (by omega) (by omega)).mp x))
        simp only [mX6_isLike_41, mX6_isLike_88, c1, r2, r4, z1, z2, z, z3, decide_false, bN_f, cl_mk, nm_mk, pu_mk, lit, if_true, if_false, ne_eq, not_false_eq_true, not_true_eq_false, nI_add, nI_or, nI_and, Bool.false_eq_true, ne01, ne10, nI_m1', Nat.or_zero]
    by_cases z : ph i = ph j
    · have g := (iff.mpr z).2
      rw [z, decide_eq_true rfl]
      refine loopE (fun n t => mX6_isLike_41 (nI i) (nI j) (nI (e i - b i)) n (nI 1) t w) (e i - b i) nI _ (fun n t ht => ?_) ?_ FU 0 (Nat.zero_le _) (FU_gt (by omega))
      · rw [step n t ht, g t ht, decide_eq_true rfl]
        rfl
      · intro n
        have c1 : nI (e i - b i) ≤ nI (e i - b i) := nI_le (Nat.le_refl _) (by omega)
        simp only [mX6_isLike_41, c1, zr_1, bN_t, cl_mk, nm_mk, pu_mk, lit, if_true, if_false, ne_eq, not_false_eq_true, not_true_eq_false, nI_add, nI_or, nI_and, Bool.false_eq_true, ne01, ne10, nI_m1', Nat.or_zero]
    · have hex : ∃ t, t < e i - b i ∧ y (b i + t) ≠ y (b j + t) := Classical.byContradiction (fun h => z (iff.mp ⟨q, fun t ht => Classical.byContradiction (fun h2 => h ⟨t, ht, h2⟩)⟩))
      obtain ⟨t0, ⟨ht0, hne⟩, hmin⟩ := pk_least (fun t => t < e i - b i ∧ y (b i + t) ≠ y (b j + t)) hex
      rw [decide_eq_false z]
      refine loopE (fun n (s : Int32 × Int32) => mX6_isLike_41 (nI i) (nI j) (nI (e i - b i)) n s.1 s.2 w) (t0 + 1) (fun t => (nI (bN (decide (t ≤ t0))), nI t)) _ (fun n t ht => ?_) ?_ FU 0 (Nat.zero_le _) (FU_gt (by omega))
      · dsimp only
        rw [decide_eq_true (show t ≤ t0 by omega), bN_t, step n t (by omega)]
        by_cases e1 : t = t0
        · subst e1
          rw [decide_eq_false hne, decide_eq_false (show ¬ t + 1 ≤ t by omega)]
        · have e2 : y (b i + t) = y (b j + t) := Classical.byContradiction (fun h => hmin t (by omega) ⟨by omega, h⟩)
          rw [decide_eq_true e2, decide_eq_true (show t + 1 ≤ t0 by omega)]
      · intro n
        dsimp only
        rw [decide_eq_false (show ¬ t0 + 1 ≤ t0 by omega), bN_f]
        by_cases c1 : nI (e i - b i) ≤ nI (t0 + 1)
        · simp only [mX6_isLike_41, c1, zr_0, cl_mk, nm_mk, pu_mk, lit, if_true, if_false, ne_eq, not_false_eq_true, not_true_eq_false, nI_add, nI_or, nI_and, Bool.false_eq_true, ne01, ne10, nI_m1', Nat.or_zero]
        · simp only [mX6_isLike_41, c1, zr_0, cl_mk, nm_mk, pu_mk, lit, if_true, if_false, ne_eq, not_false_eq_true, not_true_eq_false, nI_add, nI_or, nI_and, Bool.false_eq_true, ne01, ne10, nI_m1', Nat.or_zero]
end LM
