/-! the model's work area -/
theorem rn {w : AW} {i : Nat} {x : Int32} (a a' : Nat) (h : (a' == a) = false) : (am_set w 0 a i x).1 0 a' = w.1 0 a' := am_get_row (Or.inr (by simpa using h))
def setAt (w : AW) (o a z0 : Nat) (f : Nat → Int32) : Nat → AW
  | 0 => w
  | n + 1 => am_set (setAt w o a z0 f n) o a (z0 + n) (f n)
theorem setAt_row {w : AW} {o a z0 o' a' : Nat} {f : Nat → Int32} (h : o' ≠ o ∨ a' ≠ a) : ∀ n, (setAt w o a z0 f n).1 o' a' = w.1 o' a'
  | 0 => rfl
  | n + 1 => (am_get_row h).trans (setAt_row h n)
theorem setAt_in {w : AW} {o a z0 i : Nat} {f : Nat → Int32} : ∀ n, i < n → (setAt w o a z0 f n).1 o a (z0 + i) = f i := by
  intro n
  induction n with
  | zero => intro h; omega
  | succ n ih =>
    intro h
    by_cases e : i = n
    · subst e
      exact am_get_self _ _ _ _ _
    · exact (am_get_other (by omega)).trans (ih (by omega))
theorem setAt_out {w : AW} {o a z0 i : Nat} {f : Nat → Int32} (h : i < z0) : ∀ n, (setAt w o a z0 f n).1 o a i = w.1 o a i
  | 0 => rfl
  | n + 1 => (am_get_other (by omega)).trans (setAt_out h n)
def tk5 (w : AW) (M0 Z0 : Nat) (c l r b e : Nat → Nat) : Nat → AW
  | 0 => w
  | k + 1 => am_set (am_set (am_set (am_set (am_set (tk5 w M0 Z0 c l r b e k) 0 30 (M0 + k) (nI (c k))) 0 31 (M0 + k) (nI (l k + M0))) 0 32 (M0 + k) (nI (r k + M0))) 0 33 (M0 + k) (nI (b k + Z0))) 0 34 (M0 + k) (nI (e k + Z0))
section TK
variable {w : AW} {M0 Z0 : Nat} {c l r b e : Nat → Nat}
theorem tk5_K : ∀ k, KM w (tk5 w M0 Z0 c l r b e k)
  | 0 => KM.rf w
  | k + 1 => (((((tk5_K k).set (Or.inl (by decide))).set (Or.inl (by decide))).set (Or.inl (by decide))).set (Or.inl (by decide))).set (Or.inl (by decide))
theorem tk5_row {a : Nat} (h : a < 30 ∨ 34 < a) : ∀ k, (tk5 w M0 Z0 c l r b e k).1 0 a = w.1 0 a
  | 0 => rfl
  | k + 1 => by
    unfold tk5
    rw [am_get_row (by omega), am_get_row (by omega), am_get_row (by omega), am_get_row (by omega), am_get_row (by omega)]
    exact tk5_row h k
theorem tk5_out {a j : Nat} (h : j < M0) : ∀ k, (tk5 w M0 Z0 c l r b e k).1 0 a j = w.1 0 a j
  | 0 => rfl
  | k + 1 => by
    unfold tk5
    rw [am_get, if_neg (by omega), am_get, if_neg (by omega), am_get, if_neg (by omega), am_get, if_neg (by omega), am_get, if_neg (by omega)]
    exact tk5_out h k
theorem tk5_in {j : Nat} : ∀ k, j < k → (tk5 w M0 Z0 c l r b e k).1 0 30 (M0 + j) = nI (c j) ∧ (tk5 w M0 Z0 c l r b e k).1 0 31 (M0 + j) = nI (l j + M0) ∧ (tk5 w M0 Z0 c l r b e k).1 0 32 (M0 + j) = nI (r j + M0) ∧ (tk5 w M0 Z0 c l r b e k).1 0 33 (M0 + j) = nI (b j + Z0) ∧ (tk5 w M0 Z0 c l r b e k).1 0 34 (M0 + j) = nI (e j + Z0) := by
  intro k
  induction k with
  | zero => intro h; omega
  | succ k ih =>
    intro h
    by_cases q : j = k
    · subst q
      simp [tk5, am_get]
    · have g := ih (by omega)
      have q2 : ¬ M0 + j = M0 + k := by omega
      simp only [tk5, am_get, q2, and_false, if_false]
      exact g
end TK
/-- the work area holds nodes and bytes -/
def WorkM (w : AW) (M Z : Nat) (c l r b e y : Nat → Nat) : Prop := w.1 0 0 26 = nI M ∧ w.1 0 0 27 = nI Z ∧ (∀ k, k < M → w.1 0 30 k = nI (c k) ∧ w.1 0 31 k = nI (l k) ∧ w.1 0 32 k = nI (r k) ∧ w.1 0 33 k = nI (b k) ∧ w.1 0 34 k = nI (e k)) ∧ (∀ j, j < Z → w.1 0 29 j = nI (y j))
theorem WorkM.c {w w2 : AW} {M Z : Nat} {c l r b e y : Nat → Nat} (h : WorkM w M Z c l r b e y) (e1 : w2.1 0 0 26 = w.1 0 0 26) (e2 : w2.1 0 0 27 = w.1 0 0 27) (e3 : ∀ a, 29 ≤ a → a ≤ 34 → w2.1 0 a = w.1 0 a) : WorkM w2 M Z c l r b e y := by
  unfold WorkM
  rw [e1, e2, e3 29 (by decide) (by decide), e3 30 (by decide) (by decide), e3 31 (by decide) (by decide), e3 32 (by decide) (by decide), e3 33 (by decide) (by decide), e3 34 (by decide) (by decide)]
  exact h
def takesW (w : AW) (M0 Z0 m z : Nat) (c l r b e y : Nat → Nat) : AW := am_set (am_set (setAt (tk5 w M0 Z0 c l r b e m) 0 29 Z0 (fun j => nI (y j)) z) 0 0 26 (nI (M0 + m))) 0 0 27 (nI (Z0 + z))
theorem setAt_K {w w0 : AW} {a z0 : Nat} {f : Nat → Int32} (h : KM w0 w) (ha : 16 ≤ a) : ∀ k, KM w0 (setAt w 0 a z0 f k)
  | 0 => h
  | k + 1 => (setAt_K h ha k).set (Or.inl ha)
theorem takesW_K {w : AW} {M0 Z0 m z : Nat} {c l r b e y : Nat → Nat} : KM w (takesW w M0 Z0 m z c l r b e y) := ((setAt_K (tk5_K m) (by decide) z).set (Or.inr ⟨rfl, by decide, by decide⟩)).set (Or.inr ⟨rfl, by decide, by decide⟩)
section TW
variable {w : AW} {i M0 Z0 m z : Nat} {c l r b e y : Nat → Nat}
theorem M_takes120 (hS : SenM w i m z c l r b e y) (hi : i < 6) (h26 : w.1 0 0 26 = nI M0) (h27 : w.1 0 0 27 = nI Z0) (hz : z ≤ 200) (hZ : Z0 + z ≤ 402) : mX6_takes_120 (nI i) FU (nI 0) w = some ((), am_set (am_set (setAt w 0 29 Z0 (fun j => nI (y j)) z) 0 0 26 (nI (M0 + m))) 0 0 27 (nI (Z0 + z))) := by
  refine loopE (fun n (s : Int32 × AW) => mX6_takes_120 (nI i) n s.1 s.2) z (fun k => (nI k, setAt w 0 29 Z0 (fun j => nI (y j)) k)) _ ?_ ?_ FU 0 (Nat.zero_le _) (FU_gt (by omega))
  · intro n k hk
    have c1 : ¬ nI z ≤ nI k := nI_ge hk (by omega)
    have r1 : ∀ f : Int32 → Option (Unit × AW), rd 6 ((setAt w 0 29 Z0 (fun j => nI (y j)) k).1 0 9) (nI i) f = f (nI z) := fun f => by
      rw [rd_in hi (by decide), setAt_row (by decide), hS.1]
    have r2 : ∀ f : Int32 → Option (Unit × AW), rd 1200 ((setAt w 0 29 Z0 (fun j => nI (y j)) k).1 0 8) (nI (200 * i + k)) f = f (nI (y k)) := fun f => by
      rw [rd_in (by omega) (by decide), setAt_row (by decide), hS.2.2.2 k hk]
    have r3 : (setAt w 0 29 Z0 (fun j => nI (y j)) k).1 0 0 27 = nI Z0 := by rw [setAt_row (by decide), h27]
    simp only [mX6_takes_120, r1, c1, pk_mul, r2, r3, wr_in (show Z0 + k < 420 by omega) (show 420 < 2 ^ 31 by decide), cl_mk, nm_mk, pu_mk, lit, if_true, if_false, ne_eq, not_false_eq_true, not_true_eq_false, nI_add, nI_or, nI_and, Bool.false_eq_true, ne01, ne10, nI_m1', Nat.or_zero]
    rfl
  · intro n
    have c1 : nI z ≤ nI z := nI_le (Nat.le_refl z) (by omega)
    have r1 : ∀ f : Int32 → Option (Unit × AW), rd 6 ((setAt w 0 29 Z0 (fun j => nI (y j)) z).1 0 9) (nI i) f = f (nI z) := fun f => by
      rw [rd_in hi (by decide), setAt_row (by decide), hS.1]
    have r2 : ∀ f : Int32 → Option (Unit × AW), rd 6 ((setAt w 0 29 Z0 (fun j => nI (y j)) z).1 0 10) (nI i) f = f (nI m) := fun f => by
      rw [rd_in hi (by decide), setAt_row (by decide), hS.2.1]
    have r3 : (setAt w 0 29 Z0 (fun j => nI (y j)) z).1 0 0 26 = nI M0 := by rw [setAt_row (by decide), h26]
    have r4 : ∀ f : Int32 → Option (Unit × AW), rd 6 ((am_set (setAt w 0 29 Z0 (fun j => nI (y j)) z) 0 0 26 (nI (M0 + m))).1 0 9) (nI i) f = f (nI z) := fun f => by
      rw [rd_in hi (by decide), am_get_row (by decide), setAt_row (by decide), hS.1]
    have r5 : (am_set (setAt w 0 29 Z0 (fun j => nI (y j)) z) 0 0 26 (nI (M0 + m))).1 0 0 27 = nI Z0 := by rw [am_get_other (by decide), setAt_row (by decide), h27]
    simp only [mX6_takes_120, r1, r2, r3, r4, r5, c1, cl_mk, nm_mk, pu_mk, lit, if_true, if_false, ne_eq, not_false_eq_true, not_true_eq_false, nI_add, nI_or, nI_and, Bool.false_eq_true, ne01, ne10, nI_m1', Nat.or_zero]
theorem M_takes (hS : SenM w i m z c l r b e y) (hi : i < 6) (h26 : w.1 0 0 26 = nI M0) (h27 : w.1 0 0 27 = nI Z0) (hm : m ≤ 40) (hM : M0 + m ≤ 81) (hz : z ≤ 200) (hZ : Z0 + z ≤ 402) : mX6_takes (nI i) w = some ((), takesW w M0 Z0 m z c l r b e y) := by
  unfold mX6_takes
  refine loopE (fun n (s : Int32 × AW) => mX6_takes_2 (nI i) n s.1 s.2) m (fun k => (nI k, tk5 w M0 Z0 c l r b e k)) _ ?_ ?_ FU 0 (Nat.zero_le _) (FU_gt (by omega))
  · intro n k hk
    have c1 : ¬ nI m ≤ nI k := nI_ge hk (by omega)
    obtain ⟨g1, g2, g3, g4, g5⟩ := hS.2.2.1 k hk
    have hq : 40 * i + k < 240 := by omega
    have r0 : ∀ f : Int32 → Option (Unit × AW), rd 6 ((tk5 w M0 Z0 c l r b e k).1 0 10) (nI i) f = f (nI m) := fun f => by
      rw [rd_in hi (by decide), tk5_row (by decide), hS.2.1]
    have r1 : ∀ f : Int32 → Option (Unit × AW), rd 240 ((tk5 w M0 Z0 c l r b e k).1 0 11) (nI (40 * i + k)) f = f (nI (c k)) := fun f => by
      rw [rd_in hq (by decide), tk5_row (by decide), g1]
    have r2 : ∀ f : Int32 → Option (Unit × AW), rd 240 ((tk5 w M0 Z0 c l r b e k).1 0 12) (nI (40 * i + k)) f = f (nI (l k)) := fun f => by
      rw [rd_in hq (by decide), tk5_row (by decide), g2]
    have r3 : ∀ f : Int32 → Option (Unit × AW), rd 240 ((tk5 w M0 Z0 c l r b e k).1 0 13) (nI (40 * i + k)) f = f (nI (r k)) := fun f => by
      rw [rd_in hq (by decide), tk5_row (by decide), g3]
    have r4 : ∀ f : Int32 → Option (Unit × AW), rd 240 ((tk5 w M0 Z0 c l r b e k).1 0 14) (nI (40 * i + k)) f = f (nI (b k)) := fun f => by
      rw [rd_in hq (by decide), tk5_row (by decide), g4]
    have r5 : ∀ f : Int32 → Option (Unit × AW), rd 240 ((tk5 w M0 Z0 c l r b e k).1 0 15) (nI (40 * i + k)) f = f (nI (e k)) := fun f => by
      rw [rd_in hq (by decide), tk5_row (by decide), g5]
    have r6 : (tk5 w M0 Z0 c l r b e k).1 0 0 26 = nI M0 := by rw [tk5_row (by decide), h26]
    have r7 : (tk5 w M0 Z0 c l r b e k).1 0 0 27 = nI Z0 := by rw [tk5_row (by decide), h27]
    simp only [mX6_takes_2, r0, c1, pk_mul, r1, r2, r3, r4, r5, r6, r7, wr_in (show M0 + k < 90 by omega) (show 90 < 2 ^ 31 by decide), rn 30 12 rfl, rn 30 13 rfl, rn 30 14 rfl, rn 30 15 rfl, rn 30 0 rfl, rn 31 13 rfl, rn 31 14 rfl, rn 31 15 rfl, rn 31 0 rfl, rn 32 14 rfl, rn 32 15 rfl, rn 32 0 rfl, rn 33 15 rfl, rn 33 0 rfl, cl_mk, nm_mk, pu_mk, lit, if_true, if_false, ne_eq, not_false_eq_true, not_true_eq_false, nI_add, nI_or, nI_and, Bool.false_eq_true, ne01, ne10, nI_m1', Nat.or_zero]
    rfl
  · intro n
    have c1 : nI m ≤ nI m := nI_le (Nat.le_refl m) (by omega)
    have r0 : ∀ f : Int32 → Option (Unit × AW), rd 6 ((tk5 w M0 Z0 c l r b e m).1 0 10) (nI i) f = f (nI m) := fun f => by
      rw [rd_in hi (by decide), tk5_row (by decide), hS.2.1]
    have e1 := M_takes120 (w := tk5 w M0 Z0 c l r b e m) (M0 := M0) (Z0 := Z0) (hS.k (tk5_K m)) hi (by rw [tk5_row (by decide), h26]) (by rw [tk5_row (by decide), h27]) hz hZ
    simp only [mX6_takes_2, r0, c1, cl_mk, nm_mk, pu_mk, lit, if_true, if_false, ne_eq, not_false_eq_true, not_true_eq_false, nI_add, nI_or, nI_and, Bool.false_eq_true, ne01, ne10, nI_m1', Nat.or_zero]
    exact e1
end TW
def wkW (w : AW) (m z : Nat) (c l r b e y : Nat → Nat) : AW := takesW (am_set (am_set w 0 0 26 (nI 0)) 0 0 27 (nI 0)) 0 0 m z c l r b e y
section WK
variable {w : AW} {i m z : Nat} {c l r b e y : Nat → Nat}
theorem wkW_K : KM w (wkW w m z c l r b e y) := (((KM.rf w).set (Or.inr ⟨rfl, by decide, by decide⟩)).set (Or.inr ⟨rfl, by decide, by decide⟩)).tr takesW_K
theorem M_works (hS : SenM w i m z c l r b e y) (hi : i < 6) (hm : m ≤ 40) (hz : z ≤ 200) : mX6_works (nI i) w = some ((), wkW w m z c l r b e y) := by
  have k1 : KM w (am_set (am_set w 0 0 26 (nI 0)) 0 0 27 (nI 0)) := ((KM.rf w).set (Or.inr ⟨rfl, by decide, by decide⟩)).set (Or.inr ⟨rfl, by decide, by decide⟩)
  have e1 := M_takes (w := am_set (am_set w 0 0 26 (nI 0)) 0 0 27 (nI 0)) (M0 := 0) (Z0 := 0) (hS.k k1) hi rfl rfl hm (by omega) hz (by omega)
  simp only [mX6_works, e1, cl_mk, nm_mk, pu_mk, lit, if_true, if_false, ne_eq, not_false_eq_true, not_true_eq_false, nI_add, nI_or, nI_and, Bool.false_eq_true, ne01, ne10, nI_m1', Nat.or_zero]
  rfl
theorem wkW_W : WorkM (wkW w m z c l r b e y) m z c l r b e y := by
  refine ⟨?_, ?_, fun k hk => ?_, fun j hj => ?_⟩
  · unfold wkW takesW
    rw [am_get_other (by decide), am_get_self, Nat.zero_add]
  · unfold wkW takesW
    rw [am_get_self, Nat.zero_add]
  · have g := tk5_in (w := am_set (am_set w 0 0 26 (nI 0)) 0 0 27 (nI 0)) (M0 := 0) (Z0 := 0) (c := c) (l := l) (r := r) (b := b) (e := e) m hk
    simp only [Nat.zero_add, Nat.add_zero] at g
    unfold wkW takesW
    rw [am_get_row (by decide), am_get_row (by decide), am_get_row (by decide), am_get_row (by decide), am_get_row (by decide), am_get_row (by decide), am_get_row (by decide), am_get_row (by decide), am_get_row (by decide), am_get_row (by decide), setAt_row (by decide), setAt_row (by decide), setAt_row (by decide), setAt_row (by decide), setAt_row (by decide)]
    exact g
  · have g := setAt_in (w := tk5 (am_set (am_set w 0 0 26 (nI 0)) 0 0 27 (nI 0)) 0 0 c l r b e m) (o := 0) (a := 29) (z0 := 0) (f := fun j => nI (y j)) z hj
    rw [Nat.zero_add] at g
    unfold wkW takesW
    rw [am_get_row (by decide), am_get_row (by decide)]
    exact g
end WK
