/-! read -/
def cpW (w : AW) (o : Nat) : Nat → AW
  | 0 => w
  | k + 1 => am_set (am_set (am_set (am_set (am_set (cpW w o k) o 1 k (w.1 5 1 k)) o 2 k (w.1 5 2 k)) o 3 k (w.1 5 3 k)) o 4 k (w.1 5 4 k)) o 5 k (w.1 5 5 k)
section CP
variable {w : AW} {o : Nat}
theorem cpW_row {o' a' : Nat} (h : o' ≠ o ∨ a' = 0 ∨ 5 < a') : ∀ k, (cpW w o k).1 o' a' = w.1 o' a'
  | 0 => rfl
  | k + 1 => by
    unfold cpW
    rw [am_get_row (by omega), am_get_row (by omega), am_get_row (by omega), am_get_row (by omega), am_get_row (by omega)]
    exact cpW_row h k
theorem cpW_2 : ∀ k, (cpW w o k).2 = w.2
  | 0 => rfl
  | k + 1 => cpW_2 k
theorem cpW_in {j : Nat} : ∀ k, j < k → (cpW w o k).1 o 1 j = w.1 5 1 j ∧ (cpW w o k).1 o 2 j = w.1 5 2 j ∧ (cpW w o k).1 o 3 j = w.1 5 3 j ∧ (cpW w o k).1 o 4 j = w.1 5 4 j ∧ (cpW w o k).1 o 5 j = w.1 5 5 j := by
  intro k
  induction k with
  | zero => intro h; omega
  | succ k ih =>
    intro h
    by_cases q : j = k
    · subst q
      simp [cpW, am_get]
    · have g := ih (by omega)
      simp only [cpW, am_get, q, and_false, if_false]
      exact g
end CP
def bcW (w : AW) (o P sg : Nat) : AW := cpW (am_set (am_set w o 0 5 (nI P)) o 0 6 (nI sg)) o P
theorem X_become {w : AW} {i P sg : Nat} (hi : i < 6) (h5 : w.1 5 0 5 = nI P) (h6 : w.1 5 0 6 = nI sg) (hP : P ≤ 40) : mX2_become (6 + i) 5 w = some ((), bcW w (6 + i) P sg) := by
  have hl : ∀ a, 1 ≤ a → a ≤ 5 → am_aL false (6 + i) a = 40 := fun a h1 h2 => by
    have e : ∀ i, i < 6 → ∀ a, a < 6 → 1 ≤ a → am_aL false (6 + i) a = 40 := by decide
    exact e i hi a (by omega) h1
  have hl5 : ∀ a, 1 ≤ a → a ≤ 5 → am_aL false 5 a = 81 := fun a h1 h2 => by
    have e : ∀ a, a < 6 → 1 ≤ a → am_aL false 5 a = 81 := by decide
    exact e a (by omega) h1
  unfold mX2_become
  rw [h5, hl 1 (by decide) (by decide), if_neg (show ¬ (Int32.ofNat 40 < nI P) from nI_nlt hP (by omega)), pu_mk, am_row_ne (by omega), h6, pu_mk]
  have key : ∀ (W : AW), W.1 (6 + i) 0 5 = nI P → mX2_become_26 (6 + i) 5 FU (nI 0) W = some ((), cpW W (6 + i) P) := by
    intro W hW
    refine loopE (fun n (s : Int32 × AW) => mX2_become_26 (6 + i) 5 n s.1 s.2) P (fun k => (nI k, cpW W (6 + i) k)) _ ?_ ?_ FU 0 (Nat.zero_le _) (FU_gt (by omega))
    · intro n k hk
      have c1 : ¬ nI P ≤ nI k := nI_ge hk (by omega)
      have z5 : (cpW W (6 + i) k).1 (6 + i) 0 5 = nI P := by rw [cpW_row (Or.inr (Or.inl rfl))]; exact hW
      have hat : ∀ a, 1 ≤ a → a ≤ 5 → ∀ W2 : AW, W2.1 5 = W.1 5 → mX5_at 5 a (nI k) W2 = some (W.1 5 a k, W2) := fun a h1 h2 W2 hW2 => by
        rw [at_in W2 (by rw [hl5 a h1 h2]; omega) (by rw [hl5 a h1 h2]; decide), hW2]
      have hput : ∀ a, 1 ≤ a → a ≤ 5 → ∀ (W2 : AW) (x : Int32), mX5_put (6 + i) a (nI k) x W2 = some ((), am_set W2 (6 + i) a k x) := fun a h1 h2 W2 x => put_in W2 (by rw [hl a h1 h2]; omega) (by rw [hl a h1 h2]; decide)
      have r5 : (cpW W (6 + i) k).1 5 = W.1 5 := by funext a; exact cpW_row (Or.inl (by omega)) k
      have s5 : ∀ (W2 : AW) (a q : Nat) (x : Int32), W2.1 5 = W.1 5 → (am_set W2 (6 + i) a q x).1 5 = W.1 5 := fun W2 a q x h => by rw [am_row_ne (by omega)]; exact h
      dsimp only
      rw [mX2_become_26, z5, if_neg c1, hat 1 (by decide) (by decide) _ r5, cl_mk, hput 1 (by decide) (by decide), cl_mk]
      have r6 := s5 _ 1 k (W.1 5 1 k) r5
      rw [hat 2 (by decide) (by decide) _ r6, cl_mk, hput 2 (by decide) (by decide), cl_mk]
      have r7 := s5 _ 2 k (W.1 5 2 k) r6
      rw [hat 3 (by decide) (by decide) _ r7, cl_mk, hput 3 (by decide) (by decide), cl_mk]
      have r8 := s5 _ 3 k (W.1 5 3 k) r7
      rw [hat 4 (by decide) (by decide) _ r8, cl_mk, hput 4 (by decide) (by decide), cl_mk]
      have r9 := s5 _ 4 k (W.1 5 4 k) r8
      rw [hat 5 (by decide) (by decide) _ r9, cl_mk, hput 5 (by decide) (by decide), cl_mk, nm_mk, show nI k + 1 = nI (k + 1) from nI_add k 1]
      rfl
    · intro n
      have c1 : nI P ≤ nI P := nI_le (Nat.le_refl P) (by omega)
      have z5 : (cpW W (6 + i) P).1 (6 + i) 0 5 = nI P := by rw [cpW_row (Or.inr (Or.inl rfl))]; exact hW
      dsimp only
      rw [mX2_become_26, z5, if_pos c1]
  exact key _ (by rw [am_get_other (by decide), am_get_self])
theorem bcW_S {w : AW} {i m P : Nat} {c l r ph pl dp : Nat → Nat} (hD : DraftX w m P c l r ph pl dp) (hs : ShapeOK m c l r) (hc : ClassOK m P c l r ph) : SenX (bcW w (6 + i) P m) (6 + i) m P c l r ph pl dp := by
  have h0 : ∀ a, (am_set (am_set w (6 + i) 0 5 (nI P)) (6 + i) 0 6 (nI m)).1 5 a = w.1 5 a := fun a => by rw [am_get_row (by omega), am_get_row (by omega)]
  unfold bcW
  refine ⟨?_, ?_, fun k hk => ?_, fun p hp => ?_⟩
  · rw [cpW_row (Or.inr (Or.inl rfl)), am_get_other (by decide), am_get_self]
  · rw [cpW_row (Or.inr (Or.inl rfl)), am_get_self]
  · obtain ⟨g1, g2, g3, -, -⟩ := cpW_in (w := am_set (am_set w (6 + i) 0 5 (nI P)) (6 + i) 0 6 (nI m)) (o := 6 + i) P (hc.1 k hk)
    obtain ⟨d1, d2, d3⟩ := hD.2.1 k hk
    rw [g1, g2, g3, h0, h0, h0, d1, d2, d3]
    unfold fsX ssX
    refine ⟨rfl, fun g => ?_, fun g => ?_, fun g => ?_⟩
    · rw [kd_leaf g]; exact ⟨rfl, rfl⟩
    · rw [kd_pre g]; exact ⟨rfl, rfl⟩
    · rw [kd_jn g]; exact ⟨rfl, rfl⟩
  · obtain ⟨-, -, -, g4, g5⟩ := cpW_in (w := am_set (am_set w (6 + i) 0 5 (nI P)) (6 + i) 0 6 (nI m)) (o := 6 + i) P hp
    rw [g4, g5, h0, h0]
    exact hD.2.2 p hp
/-! the model's copy -/
theorem setAt_out2 {w : AW} {o a z0 i : Nat} {f : Nat → Int32} : ∀ n, (i < z0 ∨ z0 + n ≤ i) → (setAt w o a z0 f n).1 o a i = w.1 o a i
  | 0, _ => rfl
  | n + 1, h => (am_get_other (by omega)).trans (setAt_out2 n (by omega))
def nd5 (w : AW) (b0 : Nat) (c l r b e : Nat → Nat) : Nat → AW
  | 0 => w
  | k + 1 => am_set (am_set (am_set (am_set (am_set (nd5 w b0 c l r b e k) 0 11 (b0 + k) (nI (c k))) 0 12 (b0 + k) (nI (l k))) 0 13 (b0 + k) (nI (r k))) 0 14 (b0 + k) (nI (b k))) 0 15 (b0 + k) (nI (e k))
section N5
variable {w : AW} {b0 : Nat} {c l r b e : Nat → Nat}
theorem nd5_row {o a : Nat} (h : o ≠ 0 ∨ a < 11 ∨ 15 < a) : ∀ k, (nd5 w b0 c l r b e k).1 o a = w.1 o a
  | 0 => rfl
  | k + 1 => by
    unfold nd5
    rw [am_get_row (by omega), am_get_row (by omega), am_get_row (by omega), am_get_row (by omega), am_get_row (by omega)]
    exact nd5_row h k
theorem nd5_2 : ∀ k, (nd5 w b0 c l r b e k).2 = w.2
  | 0 => rfl
  | k + 1 => nd5_2 k
theorem nd5_out {a j : Nat} : ∀ k, (j < b0 ∨ b0 + k ≤ j) → (nd5 w b0 c l r b e k).1 0 a j = w.1 0 a j
  | 0, _ => rfl
  | k + 1, h => by
    unfold nd5
    rw [am_get, if_neg (by omega), am_get, if_neg (by omega), am_get, if_neg (by omega), am_get, if_neg (by omega), am_get, if_neg (by omega)]
    exact nd5_out k (by omega)
theorem nd5_in {j : Nat} : ∀ k, j < k → (nd5 w b0 c l r b e k).1 0 11 (b0 + j) = nI (c j) ∧ (nd5 w b0 c l r b e k).1 0 12 (b0 + j) = nI (l j) ∧ (nd5 w b0 c l r b e k).1 0 13 (b0 + j) = nI (r j) ∧ (nd5 w b0 c l r b e k).1 0 14 (b0 + j) = nI (b j) ∧ (nd5 w b0 c l r b e k).1 0 15 (b0 + j) = nI (e j) := by
  intro k
  induction k with
  | zero => intro h; omega
  | succ k ih =>
    intro h
    by_cases q : j = k
    · subst q
      simp [nd5, am_get]
    · have g := ih (by omega)
      have q2 : ¬ b0 + j = b0 + k := by omega
      simp only [nd5, am_get, q2, and_false, if_false]
      exact g
end N5
def rdW (w : AW) (i m T : Nat) (c l r b e y : Nat → Nat) : AW := nd5 (am_set (am_set (am_set (setAt w 0 8 (200 * i) (fun j => nI (y j)) T) 0 9 i (nI T)) 0 0 6 (nI 0)) 0 10 i (nI m)) (40 * i) c l r b e m
section RM
variable {w : AW} {i m T : Nat} {c l r b e y : Nat → Nat}
theorem M_read31 (hi : i < 6) (hm : m ≤ 40) (hT : T ≤ 200) (hN : NdM w m c l r b e) (h6 : w.1 0 0 6 = nI T) (hy : ∀ j, j < T → w.1 0 6 j = nI (y j)) : mX6_read_31 (nI i) FU (nI 0) w = some (nI m, rdW w i m T c l r b e y) := by
  have k90 : ∀ W : AW, NdM W m c l r b e → mX6_read_90 (nI i) FU (nI 0) W = some (nI m, nd5 W (40 * i) c l r b e m) := by
    intro W hW
    refine loopE (fun n (s : Int32 × AW) => mX6_read_90 (nI i) n s.1 s.2) m (fun k => (nI k, nd5 W (40 * i) c l r b e k)) _ ?_ ?_ FU 0 (Nat.zero_le _) (FU_gt (by omega))
    · intro n k hk
      have c1 : ¬ nI m ≤ nI k := nI_ge hk (by omega)
      obtain ⟨g1, g2, g3, g4, g5⟩ := hW.2 k hk
      have z15 : (nd5 W (40 * i) c l r b e k).1 0 0 15 = nI m := by rw [nd5_row (by decide)]; exact hW.1
      have rr : ∀ (a : Nat) (W2 : AW) (x : Int32) (f : Int32 → Option (Int32 × AW)), W2.1 0 a k = x → rd 40 (W2.1 0 a) (nI k) f = f x := fun a W2 x f h => by rw [rd_in (by omega) (by decide), h]
      have ww : ∀ (a : Nat) (W2 : AW) (x : Int32) (f : AW → Option (Int32 × AW)), wr 240 W2 0 a (nI (40 * i + k)) x f = f (am_set W2 0 a (40 * i + k) x) := fun a W2 x f => wr_in (by omega) (by decide) W2 0 a x f
      have eidx : 40 * nI i + nI k = nI (40 * i + k) := by
        show nI 40 * nI i + nI k = _
        rw [pk_mul, nI_add]
      dsimp only
      rw [mX6_read_90, z15, if_neg c1, eidx, nm_mk, rr 18 _ (nI (c k)) _ (by rw [nd5_row (by decide)]; exact g1), ww, rr 19 _ (nI (l k)) _ (by rw [rn 11 19 rfl, nd5_row (by decide)]; exact g2), ww, rr 20 _ (nI (r k)) _ (by rw [rn 12 20 rfl, rn 11 20 rfl, nd5_row (by decide)]; exact g3), ww, rr 21 _ (nI (b k)) _ (by rw [rn 13 21 rfl, rn 12 21 rfl, rn 11 21 rfl, nd5_row (by decide)]; exact g4), ww, rr 22 _ (nI (e k)) _ (by rw [rn 14 22 rfl, rn 13 22 rfl, rn 12 22 rfl, rn 11 22 rfl, nd5_row (by decide)]; exact g5), ww, nm_mk, show nI k + 1 = nI (k + 1) from nI_add k 1]
      rfl
    · intro n
      have c1 : nI m ≤ nI m := nI_le (Nat.le_refl m) (by omega)
      have z15 : (nd5 W (40 * i) c l r b e m).1 0 0 15 = nI m := by rw [nd5_row (by decide)]; exact hW.1
      dsimp only
      rw [mX6_read_90, z15, if_pos c1]
  refine loopE (fun n (s : Int32 × AW) => mX6_read_31 (nI i) n s.1 s.2) T (fun k => (nI k, setAt w 0 8 (200 * i) (fun j => nI (y j)) k)) _ ?_ ?_ FU 0 (Nat.zero_le _) (FU_gt (by omega))
  · intro n k hk
    have c1 : ¬ nI T ≤ nI k := nI_ge hk (by omega)
    have z6 : (setAt w 0 8 (200 * i) (fun j => nI (y j)) k).1 0 0 6 = nI T := by rw [setAt_row (by decide)]; exact h6
    have r6 : ∀ f : Int32 → Option (Int32 × AW), rd 200 ((setAt w 0 8 (200 * i) (fun j => nI (y j)) k).1 0 6) (nI k) f = f (nI (y k)) := fun f => by
      rw [rd_in (by omega) (by decide), setAt_row (by decide), hy k hk]
    have eidx : 200 * nI i + nI k = nI (200 * i + k) := by
      show nI 200 * nI i + nI k = _
      rw [pk_mul, nI_add]
    dsimp only
    rw [mX6_read_31, z6, if_neg c1, r6, eidx, wr_in (by omega) (by decide), nm_mk, show nI k + 1 = nI (k + 1) from nI_add k 1]
    rfl
  · intro n
    have c1 : nI T ≤ nI T := nI_le (Nat.le_refl T) (by omega)
    have z6 : (setAt w 0 8 (200 * i) (fun j => nI (y j)) T).1 0 0 6 = nI T := by rw [setAt_row (by decide)]; exact h6
    have z15 : (am_set (am_set (setAt w 0 8 (200 * i) (fun j => nI (y j)) T) 0 9 i (nI T)) 0 0 6 0).1 0 0 15 = nI m := by
      rw [am_get_other (by decide), am_get_row (by decide), setAt_row (by decide)]
      exact hN.1
    have hW : NdM (am_set (am_set (am_set (setAt w 0 8 (200 * i) (fun j => nI (y j)) T) 0 9 i (nI T)) 0 0 6 (nI 0)) 0 10 i (nI m)) m c l r b e := by
      have hr : ∀ a, 18 ≤ a → (am_set (am_set (am_set (setAt w 0 8 (200 * i) (fun j => nI (y j)) T) 0 9 i (nI T)) 0 0 6 (nI 0)) 0 10 i (nI m)).1 0 a = w.1 0 a := fun a h => by rw [am_get_row (by omega), am_get_row (by omega), am_get_row (by omega), setAt_row (by omega)]
      unfold NdM
      rw [hr 18 (by decide), hr 19 (by decide), hr 20 (by decide), hr 21 (by decide), hr 22 (by decide)]
      refine ⟨?_, hN.2⟩
      rw [am_get_row (by decide)]
      exact z15
    dsimp only
    rw [mX6_read_31, z6, if_pos c1, wr_in hi (by decide), pu_mk, z15, wr_in hi (by decide)]
    exact k90 _ hW
end RM
theorem pub_read : Pub_read Rel := by
  rintro wX wM ⟨N, S, A, T, y, D, h⟩ v0
  have hR := h
  obtain ⟨hN, hX, hM, hT, h2, hS, h12⟩ := h
  by_cases c0 : ∃ k, k < 6 ∧ v0 = nI k
  rotate_left
  · refine pub_same hR (-nI 1) ?_ ?_ (KX.rf _) (KM0 wM)
    · simp only [mX5_read, X_sen_f _ c0, nS_none, cl_mk, nm_mk, pu_mk, lit, if_true, if_false, ne_eq, not_false_eq_true, not_true_eq_false, nI_add, nI_or, nI_and, Bool.false_eq_true, ne01, ne10, nI_m1', Nat.or_zero]
    · simp only [mX6_read, M_sen_f _ c0, cl_mk, nm_mk, pu_mk, lit, if_true, if_false, ne_eq, not_false_eq_true, not_true_eq_false, nI_add, nI_or, nI_and, Bool.false_eq_true, ne01, ne10, nI_m1', Nat.or_zero]
  obtain ⟨i, hi, rfl⟩ := c0
  have hcl := cls_sen i hi
  obtain ⟨hT2, hx9, hm6, hty, hyb⟩ := hT
  have kX1 : KX wX (am_set (am_set (am_set (am_set wX 3 0 4 0) 3 0 5 0) 5 0 5 0) 5 0 6 0) := (K3 (K3 (KX.rf wX))).set (Or.inl ⟨by decide, by decide⟩) |>.set (Or.inl ⟨by decide, by decide⟩)
  have kM1 : KM wM (am_set (am_set wM 0 0 0 (nI 0)) 0 0 15 0) := (KM0 wM).set (Or.inr ⟨rfl, by decide, by decide⟩)
  have hP0 : PR (am_set (am_set (am_set (am_set wX 3 0 4 0) 3 0 5 0) 5 0 5 0) 5 0 6 0) (am_set (am_set wM 0 0 0 (nI 0)) 0 0 15 0) ((0, 0, T), (fun _ => 0), (fun _ => 0), (fun _ => 0), (fun _ => 0), (fun _ => 0), y, (fun _ => 0), (fun _ => 0), (fun _ => 0)) 0 0 0 0 (fun _ => 0) (fun _ => 0) (fun _ => 0) (fun _ => 0) := by
    refine ⟨⟨⟨?_, fun k hk => absurd hk (Nat.not_lt_zero k), fun p hp => absurd hp (Nat.not_lt_zero p)⟩, am_get_self _ _ _ _ _, ?_, fun i hi => absurd hi (Nat.not_lt_zero i), ⟨am_get_self _ _ _ _ _, fun k hk => absurd hk (Nat.not_lt_zero k)⟩, fun i hi => absurd hi (Nat.not_lt_zero i)⟩, ⟨fun k hk => absurd hk (Nat.not_lt_zero k), ⟨fun k hk => absurd hk (Nat.not_lt_zero k), fun k hk => absurd hk (Nat.not_lt_zero k), fun k hk => absurd hk (Nat.not_lt_zero k), fun k hk => absurd hk (Nat.not_lt_zero k), fun k hk => absurd hk (Nat.not_lt_zero k), fun k _ hk => absurd hk (Nat.not_lt_zero k), fun k hk => absurd hk (Nat.not_lt_zero k)⟩, fun k hk => absurd hk (Nat.not_lt_zero k), fun k hk => absurd hk (Nat.not_lt_zero k), fun k hk => absurd hk (by omega), fun k hk => absurd hk (Nat.not_lt_zero k), fun hk => absurd hk (Nat.not_lt_zero 0), fun k hk => absurd hk (by omega), rfl, by decide, by decide, fun hk => absurd hk (Nat.not_lt_zero 0), fun k hk => absurd hk (Nat.not_lt_zero k)⟩, Or.inl ⟨rfl, fun k hk => absurd hk (Nat.not_lt_zero k), rfl, fun _ => rfl⟩, ?_⟩
    · rw [am_get_other (by decide), am_get_self]; rfl
    · rw [am_row_ne (by decide), am_row_ne (by decide), am_get_other (by decide), am_get_self]; rfl
    · rw [am_row_ne (by decide), am_row_ne (by decide), am_get_self]; rfl
  obtain ⟨wX2, wM2, kX2, kM2, hor⟩ := loop_both (T := T) hT2 hyb T 0 _ 0 0 0 _ _ _ _ _ _ (by omega) hP0 rfl rfl (fun j hj => by rw [kX1.2.2.2.1]; exact (hty j hj).1) (fun j hj => by rw [kM1.2.2.2.2 6 (by decide) (by decide) (by decide)]; exact (hty j hj).2) (kM1.2.2.2.1.trans hm6) FU FU (FU_gt (by omega)) (FU_gt (by omega))
  have eX : mX5_read (nI i) wX = cl (mX1_fault_17 0 9 (nI T) 5 FU (nI 0) (am_set (am_set (am_set (am_set wX 3 0 4 0) 3 0 5 0) 5 0 5 0) 5 0 6 0)) fun x_5 w_4 => if x_5 = (-1) then cl (mX2_become (6 + i) 5 w_4) fun x_7 w_6 => pu w_6 0 9 0 fun w_8 => cl (mX2_signs (6 + i) w_8) fun x_10 w_9 => some (x_10, w_9) else some ((-10) - x_5, w_4) := by
    unfold mX5_read
    rw [X_sen_t _ hi, cl_mk, nS_some hcl]
    unfold mX1_fault mX2_begin
    rw [hx9, pu_mk, pu_mk, pu_mk, pu_mk, cl_mk]
    rfl
  have eM : mX6_read (nI i) wM = cl (mX6_reads_17 FU (nI 0) (nI 0) (nI (bN (decide (0 = 3)))) (nI (bN (decide (0 = 0)))) (nI 0) (am_set (am_set wM 0 0 0 (nI 0)) 0 0 15 0)) fun x_5 w_4 => if x_5 ≠ 0 then mX6_read_31 (nI i) FU 0 w_4 else some ((-10) - (w_4.1 0 0 16), w_4) := by
    unfold mX6_read
    rw [pu_mk]
    have e0 : am_set wM 0 0 0 0 = am_set wM 0 0 0 (nI 0) := rfl
    rw [e0, M_sen_t _ hi, cl_mk, if_pos (show nI 1 ≠ 0 by decide)]
    unfold mX6_reads
    rw [pu_mk]
    rfl
  rcases hor with ⟨f, hf, g1, g2, g3⟩ | ⟨d, sg, op, at_, st, lf, g1, g2, hPR, hdy, hdZ⟩
  · have n1 : nI f ≠ -1 := fun z => by
      have := nI_pos (show f < 2 ^ 31 by omega)
      rw [z] at this
      exact this (by decide)
    refine pub_same hR ((-10) - nI f) ?_ ?_ (kX1.tr kX2) (kM1.tr kM2)
    · rw [eX, g1, cl_mk, if_neg n1]
    · rw [eM, g2, cl_mk, if_neg (show ¬ (nI 0 ≠ 0) from fun z => z rfl), g3]
  · have hdy : sdy d = y := hdy
    have hdZ : sdZ d = T := hdZ
    obtain ⟨hJ, hI, hD, -⟩ := hPR
    obtain ⟨hM40, -, hP40, hsh, hclsok⟩ := hI.facts
    obtain ⟨j1, j2, j3, j4, j5, j6⟩ := hJ
    obtain ⟨i1, i2, i3, i4, i5, i6, i7, i8, i9, i10, i11, i12, i13⟩ := hI
    have hsg : sg = sdM d := i9
    subst hsg
    obtain ⟨-, -, q1, q2, q3, q4⟩ : 3 = 3 ∧ 0 = 0 ∧ 1 ≤ sdM d ∧ sdb d (sdM d - 1) = 0 ∧ sde d (sdM d - 1) = T ∧ sdf d (sdM d - 1) = sdP d - 1 := by
      rcases hD with ⟨z, -⟩ | ⟨z1, z2, z3, z4, z5, z6⟩ | ⟨z, -⟩ | ⟨z, -⟩
      · cases z
      · exact ⟨rfl, rfl, z3, z4, z5, z6⟩
      · cases z
      · cases z
    have hP1 : 1 ≤ sdP d := by have := hclsok.1 0 (by omega); omega
    have hPM := P_le_M hclsok
    have hok : SDok d := ⟨q1, hM40, hP1, hPM, by rw [hdZ]; exact hT2, i1, i2, q4, q2, by rw [hdZ]; exact q3, by rw [hdy]; exact hyb, by rw [hdZ]; exact i3, fun k hk => by
      obtain ⟨a, a1, a2, a3⟩ := i13 k hk
      rcases a2 with ⟨z, z1, -⟩ | ⟨-, z⟩
      · omega
      · rw [show sdM d - 1 = a by omega]; exact a3⟩
    have RX := hR.k (kX1.tr kX2) (kM1.tr kM2)
    obtain ⟨hN', hX', hM', ⟨-, hx9', hm6', hty', -⟩, h2', hS', h12'⟩ := RX
    have eb := X_become (w := wX2) hi j1.1 j2 hP40
    have em := M_read31 (i := i) hi hM40 hT2 j5 hm6' (fun j hj => (hty' j hj).2)
    refine ⟨nI (sdM d), am_set (bcW wX2 (6 + i) (sdP d) (sdM d)) 0 0 9 (nI 0), rdW wM2 i (sdM d) T (sdc d) (sdl d) (sdr d) (sdb d) (sde d) y, ?_, ?_, N, S, A, 0, y, (fun j => if j = i then d else D j), hN', ?_, ?_, ?_, ?_, fun j hj => ?_, ?_⟩
    · rw [eX, g1, cl_mk, if_pos (show -nI 1 = -1 from rfl), eb, cl_mk, pu_mk]
      unfold mX2_signs
      rw [cl_mk]
      have e6 : (am_set (bcW wX2 (6 + i) (sdP d) (sdM d)) 0 0 9 0).1 (6 + i) 0 6 = nI (sdM d) := by
        rw [am_row_ne (by omega)]
        exact (bcW_S (i := i) j1 hsh hclsok).2.1
      rw [e6]
      rfl
    · rw [eM, g2, cl_mk, if_pos (show nI 1 ≠ 0 by decide)]
      exact em
    · have hr : (am_set (bcW wX2 (6 + i) (sdP d) (sdM d)) 0 0 9 (nI 0)).1 1 = wX2.1 1 := by
        funext a
        unfold bcW
        rw [am_get_row (Or.inl (by decide)), cpW_row (Or.inl (by omega)), am_get_row (Or.inl (by omega)), am_get_row (Or.inl (by omega))]
      exact hX'.c (by rw [hr]) (by rw [hr]) (by rw [hr])
    · refine hM'.c ?_ ?_ ?_
      · unfold rdW
        rw [nd5_row (by decide), am_get_row (by decide), am_get_other (by decide), am_get_row (by decide), setAt_row (by decide)]
      · unfold rdW
        rw [nd5_row (by decide), am_get_row (by decide), am_get_row (by decide), am_get_row (by decide), setAt_row (by decide)]
      · unfold rdW
        rw [nd5_row (by decide), am_get_row (by decide), am_get_row (by decide), am_get_row (by decide), setAt_row (by decide)]
    · refine ⟨by omega, am_get_self _ _ _ _ _, ?_, fun j hj => absurd hj (Nat.not_lt_zero j), hyb⟩
      unfold rdW
      rw [nd5_row (by decide), am_get_row (by decide), am_get_self]
    · have s2 : ∀ (w : AW) (o a z0 : Nat) (f : Nat → Int32) (n : Nat), (setAt w o a z0 f n).2 = w.2 := by
        intro w o a z0 f n
        induction n with
        | zero => rfl
        | succ n ih => exact ih
      unfold bcW rdW
      rw [am_set_2, cpW_2, am_set_2, am_set_2, nd5_2, am_set_2, am_set_2, am_set_2, s2]
      exact h2'
    · dsimp only
      by_cases q : j = i
      · subst q
        rw [if_pos rfl]
        refine ⟨hok, ?_, ?_⟩
        · exact (bcW_S (i := j) j1 hsh hclsok).cg (am_row_ne (by omega))
        · unfold rdW
          refine ⟨?_, ?_, fun k hk => ?_, fun t ht => ?_⟩
          · rw [nd5_row (by decide), am_get_row (by decide), am_get_row (by decide), am_get_self, hdZ]
          · rw [nd5_row (by decide), am_get_self]
          · exact nd5_in (sdM d) hk
          · rw [nd5_row (by decide), am_get_row (by decide), am_get_row (by decide), am_get_row (by decide)]
            have := setAt_in (w := wM2) (o := 0) (a := 8) (z0 := 200 * j) (f := fun j => nI (y j)) T (show t < T by rw [← hdZ]; exact ht)
            rw [hdy]
            exact this
      · rw [if_neg q]
        obtain ⟨s1, s2, s3⟩ := hS' j hj
        refine ⟨s1, ?_, ?_⟩
        · refine s2.cg ?_
          rw [am_row_ne (by omega)]
          funext a
          unfold bcW
          rw [cpW_row (Or.inl (by omega)), am_get_row (Or.inl (by omega)), am_get_row (Or.inl (by omega))]
        · obtain ⟨u1, u2, u3, u4⟩ := s3
          have hM40' := s1.2.1
          have hZ' := s1.2.2.2.2.1
          unfold rdW
          refine ⟨?_, ?_, fun k hk => ?_, fun t ht => ?_⟩
          · rw [nd5_row (by decide), am_get_row (by decide), am_get_row (by decide), am_get_other q, setAt_row (by decide)]; exact u1
          · rw [nd5_row (by decide), am_get_other q, am_get_row (by decide), am_get_row (by decide), setAt_row (by decide)]; exact u2
          · have ho : 40 * j + k < 40 * i ∨ 40 * i + sdM d ≤ 40 * j + k := by omega
            rw [nd5_out _ ho, nd5_out _ ho, nd5_out _ ho, nd5_out _ ho, nd5_out _ ho, rn 10 11 rfl, rn 0 11 rfl, rn 9 11 rfl, setAt_row (by decide), rn 10 12 rfl, rn 0 12 rfl, rn 9 12 rfl, setAt_row (by decide), rn 10 13 rfl, rn 0 13 rfl, rn 9 13 rfl, setAt_row (by decide), rn 10 14 rfl, rn 0 14 rfl, rn 9 14 rfl, setAt_row (by decide), rn 10 15 rfl, rn 0 15 rfl, rn 9 15 rfl, setAt_row (by decide)]
            exact u3 k hk
          · rw [nd5_row (by decide), rn 10 8 rfl, rn 0 8 rfl, rn 9 8 rfl, setAt_out2 T (by omega)]
            exact u4 t ht
    · unfold bcW
      rw [am_get_row (by decide), cpW_row (by omega), am_get_row (by omega), am_get_row (by omega)]
      exact h12'
