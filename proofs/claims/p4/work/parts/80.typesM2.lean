/-! the model's types as a whole -/
section TZ
variable {w0 : AW} {M Z nb : Nat} {c l r b e y ph btq bp : Nat → Nat} {gr : Bool}
/-- what the model knows of the types -/
def TYM (W : AW) (nb mu my : Nat) (inn : Nat → Nat) (hd : Nat → Bool) (T : Nat) : Prop := W.1 0 0 35 = nI nb ∧ W.1 0 0 44 = nI mu ∧ W.1 0 0 45 = nI my ∧ ∀ t, t < T → W.1 0 39 t = nI (t &&& (mu ||| my)) ∧ W.1 0 40 t = nI (inn t) ∧ W.1 0 41 t = nI (bN (hd t))
theorem M_types92 (hs : ShapeOK M c l r) (hM1 : 1 ≤ M) (hM : M ≤ 90) (hnb : nb ≤ 10) (hbt : ∀ k, k < M → btq (ph k) < 10) (hnm : ∀ k, k < M → hbB gr (c k) = false → modB (c k) = false) : ∀ (q t n : Nat) (W : AW), 2 ^ nb = t + q → q < n → KM w0 W → TB W gr M Z nb c l r b e y ph btq bp → TYM W nb (muN c bp nb) (myN c bp nb) (fun u => inN c l bp (evV (opT gr c ph btq u) c l r) nb) (fun u => decide (evV (opT gr c ph btq u) c l r (M - 1) = 1)) t →
    ∃ W2, mX6_types_92 n (nI t) W = some ((), W2) ∧ KM w0 W2 ∧ TYM W2 nb (muN c bp nb) (myN c bp nb) (fun u => inN c l bp (evV (opT gr c ph btq u) c l r) nb) (fun u => decide (evV (opT gr c ph btq u) c l r (M - 1) = 1)) (2 ^ nb) := by
  have hpw : 2 ^ nb ≤ 1024 := Nat.le_trans (Nat.pow_le_pow_right (by decide) hnb) (by decide)
  have e1s : (1 : Int32) <<< (nI nb &&& 31) = nI (2 ^ nb) := by
    have : nI nb &&& 31 = nI (nb &&& 31) := nI_and nb 31
    rw [this]
    exact one_shl (by omega)
  intro q
  induction q with
  | zero =>
    intro t n W hq2 hn hK hB hT
    obtain ⟨n, rfl⟩ : ∃ i, n = i + 1 := ⟨n - 1, by omega⟩
    have e2 : t = 2 ^ nb := by omega
    refine ⟨W, ?_, hK, by rw [← e2]; exact hT⟩
    rw [mX6_types_92, hB.2.1, e1s, if_pos (nI_le (by omega) (by omega))]
  | succ q ih =>
    intro t n W hq2 hn hK hB hT
    obtain ⟨n, rfl⟩ : ∃ i, n = i + 1 := ⟨n - 1, by omega⟩
    have ht : t < 1024 := by omega
    obtain ⟨g1, g2, g3, g4⟩ := hT
    have ej := M_judges (gr := gr) (btq := btq) hB.1 hs hM1 hM ht hbt hnm hB.2.2.2
    -- the world behind judges
    have rW1 : ∀ a, a ≠ 38 → a ≠ 41 → (am_set (hdW W (evV (opT gr c ph btq t) c l r) M) 0 41 t (nI (bN (decide (evV (opT gr c ph btq t) c l r (M - 1) = 1))))).1 0 a = W.1 0 a := fun a z1 z2 => by rw [am_get_row (Or.inr z2), hdW_row M a z1]
    have K1 : KM W (am_set (hdW W (evV (opT gr c ph btq t) c l r) M) 0 41 t (nI (bN (decide (evV (opT gr c ph btq t) c l r (M - 1) = 1))))) := (hdW_K M).set (Or.inl (by decide))
    have r41 : (am_set (hdW W (evV (opT gr c ph btq t) c l r) M) 0 41 t (nI (bN (decide (evV (opT gr c ph btq t) c l r (M - 1) = 1))))).1 0 41 t = nI (bN (decide (evV (opT gr c ph btq t) c l r (M - 1) = 1))) := am_get_self _ _ _ _ _
    have o41 : ∀ u, u ≠ t → (am_set (hdW W (evV (opT gr c ph btq t) c l r) M) 0 41 t (nI (bN (decide (evV (opT gr c ph btq t) c l r (M - 1) = 1))))).1 0 41 u = W.1 0 41 u := fun u z => by rw [am_get_other z, hdW_row M 41 (by decide)]
    have r38 : ∀ k, k < M → (am_set (hdW W (evV (opT gr c ph btq t) c l r) M) 0 41 t (nI (bN (decide (evV (opT gr c ph btq t) c l r (M - 1) = 1))))).1 0 38 k = nI (evV (opT gr c ph btq t) c l r k) := fun k hk => by
      rw [am_get_row (by decide)]
      exact setRow_in M hk
    generalize hW1 : am_set (hdW W (evV (opT gr c ph btq t) c l r) M) 0 41 t (nI (bN (decide (evV (opT gr c ph btq t) c l r (M - 1) = 1)))) = W1 at ej rW1 K1 r41 o41 r38
    have f44 : W1.1 0 0 44 = nI (muN c bp nb) := by rw [rW1 0 (by decide) (by decide)]; exact g2
    have f45 : W1.1 0 0 45 = nI (myN c bp nb) := by rw [rW1 0 (by decide) (by decide)]; exact g3
    have hB1 : TB W1 gr M Z nb c l r b e y ph btq bp := hB.keep (fun a z1 z2 => rW1 a (by omega) (by omega)) (fun j _ => by rw [rW1 0 (by decide) (by decide)])
    have hB2 : TB (am_set W1 0 39 t (nI (t &&& (muN c bp nb ||| myN c bp nb)))) gr M Z nb c l r b e y ph btq bp := hB1.keep (fun a z1 z2 => rn 39 a (by simpa using (show a ≠ 39 by omega))) (fun j _ => by rw [rn 39 0 rfl])
    have ei := M_inner (k92 := mX6_types_92 n) (V := evV (opT gr c ph btq t) c l r) hB2 hs hM hnb ht (by rw [rn 39 0 rfl]; exact f44) (by rw [rn 39 0 rfl]; exact f45) (fun k hk => by rw [rn 39 38 rfl]; exact r38 k hk) (fun k hk => evV_lt hs (by decide) (fun k _ a b ha hb => opT_lt ha hb) (k + 1) k (Nat.lt_succ_self k) hk)
    obtain ⟨W2, f⟩ := ih (t + 1) n (am_set (am_set W1 0 39 t (nI (t &&& (muN c bp nb ||| myN c bp nb)))) 0 40 t (nI (inN c l bp (evV (opT gr c ph btq t) c l r) nb))) (by omega) (by omega) (((hK.tr K1).set (Or.inl (by decide))).set (Or.inl (by decide))) (hB2.keep (fun a z1 z2 => rn 40 a (by simpa using (show a ≠ 40 by omega))) (fun j _ => by rw [rn 40 0 rfl])) ⟨by rw [rn 40 0 rfl, rn 39 0 rfl, rW1 0 (by decide) (by decide)]; exact g1, by rw [rn 40 0 rfl, rn 39 0 rfl]; exact f44, by rw [rn 40 0 rfl, rn 39 0 rfl]; exact f45, fun u hu => by
        rw [rn 40 39 rfl, rn 40 41 rfl, rn 39 41 rfl]
        by_cases z : u = t
        · subst z
          rw [am_get_self, am_get_self, r41]
          exact ⟨rfl, rfl, rfl⟩
        · rw [am_get_other z, am_get_other z, rn 39 40 rfl, o41 u z, rW1 39 (by decide) (by decide), rW1 40 (by decide) (by decide)]
          exact g4 u (by omega)⟩
    refine ⟨W2, ?_, f.2⟩
    rw [mX6_types_92, hB.2.1, e1s, if_neg (nI_ge (show t < 2 ^ nb by omega) (by omega)), ej, cl_mk, f44, f45, nI_or, nI_and, wr_in (show t < 1024 from ht) (by decide), wr_in (show t < 1024 from ht) (by decide)]
    have ei' : mX6_types_133 (mX6_types_92 n) (nI t) FU 0 (am_set (am_set W1 0 39 t (nI (t &&& (muN c bp nb ||| myN c bp nb)))) 0 40 t 0) = mX6_types_92 n (nI (t + 1)) (am_set (am_set W1 0 39 t (nI (t &&& (muN c bp nb ||| myN c bp nb)))) 0 40 t (nI (inN c l bp (evV (opT gr c ph btq t) c l r) nb))) := ei
    rw [ei']
    exact f.1
theorem M_types12 (hs : ShapeOK M c l r) (hM : M ≤ 90) (hnb : nb ≤ 10) : ∀ (q j n : Nat) (W : AW), nb = j + q → q < n → KM w0 W → TB W gr M Z nb c l r b e y ph btq bp → W.1 0 0 44 = nI (muN c bp j) → W.1 0 0 45 = nI (myN c bp j) →
    ∃ W2, mX6_types_12 n (nI j) W = mX6_types_92 FU (nI 0) W2 ∧ KM w0 W2 ∧ TB W2 gr M Z nb c l r b e y ph btq bp ∧ W2.1 0 0 44 = nI (muN c bp nb) ∧ W2.1 0 0 45 = nI (myN c bp nb) := by
  intro q
  induction q with
  | zero =>
    intro j n W hq2 hn hK hB h44 h45
    obtain ⟨n, rfl⟩ : ∃ i, n = i + 1 := ⟨n - 1, by omega⟩
    have e2 : j = nb := by omega
    subst e2
    refine ⟨W, ?_, hK, hB, h44, h45⟩
    rw [mX6_types_12, hB.2.1, if_pos (nI_le (Nat.le_refl j) (by omega))]
    rfl
  | succ q ih =>
    intro j n W hq2 hn hK hB h44 h45
    obtain ⟨n, rfl⟩ : ∃ i, n = i + 1 := ⟨n - 1, by omega⟩
    have hj : j < nb := by omega
    obtain ⟨p1, p2⟩ := hB.2.2.1 j hj
    have w30 := (hB.1.2.2.1 _ p1).1
    have ev : nI j + 1 = nI (j + 1) := nI_add j 1
    have e1 : (1 : Int32) <<< (nI j &&& 31) = nI (2 ^ j) := by
      have : nI j &&& 31 = nI (j &&& 31) := nI_and j 31
      rw [this]
      exact one_shl (by omega)
    have hc128 := kinds_lt (kinds_of hs p1)
    have smu : muN c bp (j + 1) = muN c bp j ||| (if c (bp j) = 91 then 2 ^ j else 0) := rfl
    have smy : myN c bp (j + 1) = myN c bp j ||| (if c (bp j) = 123 then 2 ^ j else 0) := rfl
    have hB3 : TB (am_set (am_set W 0 0 44 (nI (muN c bp (j + 1)))) 0 0 45 (nI (myN c bp (j + 1)))) gr M Z nb c l r b e y ph btq bp := hB.keep (fun a z1 z2 => by rw [am_get_row (Or.inr z1), am_get_row (Or.inr z1)]) (fun i z => by rw [am_get_other (by omega), am_get_other (by omega)])
    obtain ⟨W2, f⟩ := ih (j + 1) n (am_set (am_set W 0 0 44 (nI (muN c bp (j + 1)))) 0 0 45 (nI (myN c bp (j + 1)))) (by omega) (by omega) ((hK.set (Or.inr ⟨rfl, by decide, by decide⟩)).set (Or.inr ⟨rfl, by decide, by decide⟩)) hB3 (by rw [am_get_other (by decide), am_get_self]) (am_get_self _ _ _ _ _)
    refine ⟨W2, ?_, f.2⟩
    have r37 : ∀ (V : AW) (g : Int32 → Option (Unit × AW)), V.1 0 37 j = nI (bp j) → rd 10 (V.1 0 37) (nI j) g = g (nI (bp j)) := fun V g h => by rw [rd_in (by omega) (by decide), h]
    have r30 : ∀ (V : AW) (g : Int32 → Option (Unit × AW)), V.1 0 30 (bp j) = nI (c (bp j)) → rd 90 (V.1 0 30) (nI (bp j)) g = g (nI (c (bp j))) := fun V g h => by rw [rd_in (by omega) (by decide), h]
    have e48 : mX6_types_48 (mX6_types_12 n) (nI j) (nI (if c (bp j) = 91 then 2 ^ j else 0)) (nI (muN c bp j)) W = mX6_types_12 n (nI (j + 1)) (am_set (am_set W 0 0 44 (nI (muN c bp (j + 1)))) 0 0 45 (nI (myN c bp (j + 1)))) := by
      unfold mX6_types_48
      rw [nI_or, ← smu, pu_mk, r37 _ _ (by rw [rn 0 37 rfl]; exact p2), r30 _ _ (by rw [rn 0 30 rfl]; exact w30), am_get_other (show (45 : Nat) ≠ 44 by decide), h45]
      unfold mX6_types_80
      by_cases z : c (bp j) = 123
      · rw [if_neg (show ¬ (nI (c (bp j)) ≠ 123) from fun y => y (by rw [z]; rfl)), e1, nI_or, pu_mk, nm_mk, ev, smy, if_pos z]
      · have e0 : nI (myN c bp j) ||| 0 = nI (myN c bp (j + 1)) := by
          rw [smy, if_neg z]
          exact nI_or _ 0
        rw [if_pos (show nI (c (bp j)) ≠ 123 from ne_nI (b := 123) (by omega) (by decide) z), e0, pu_mk, nm_mk, ev]
    rw [mX6_types_12, hB.2.1, if_neg (nI_ge hj (by omega)), r37 _ _ p2, r30 _ _ w30]
    by_cases z : c (bp j) = 91
    · rw [if_neg (show ¬ (nI (c (bp j)) ≠ 91) from fun y => y (by rw [z]; rfl)), e1, h44]
      rw [if_pos z] at e48
      rw [e48]
      exact f.1
    · rw [if_neg z] at e48
      have e48' : mX6_types_48 (mX6_types_12 n) (nI j) 0 (nI (muN c bp j)) W = mX6_types_12 n (nI (j + 1)) (am_set (am_set W 0 0 44 (nI (muN c bp (j + 1)))) 0 0 45 (nI (myN c bp (j + 1)))) := e48
      rw [if_pos (show nI (c (bp j)) ≠ 91 from ne_nI (b := 91) (by omega) (by decide) z), h44, e48']
      exact f.1
theorem M_types {w : AW} (hs : ShapeOK M c l r) (hM1 : 1 ≤ M) (hM : M ≤ 90) (hnb : nb ≤ 10) (hbt : ∀ k, k < M → btq (ph k) < 10) (hnm : ∀ k, k < M → hbB gr (c k) = false → modB (c k) = false) (hB : TB w gr M Z nb c l r b e y ph btq bp) :
    ∃ W2, mX6_types w = some ((), W2) ∧ KM w W2 ∧ TYM W2 nb (muN c bp nb) (myN c bp nb) (fun u => inN c l bp (evV (opT gr c ph btq u) c l r) nb) (fun u => decide (evV (opT gr c ph btq u) c l r (M - 1) = 1)) (2 ^ nb) := by
  have hpw : 2 ^ nb ≤ 1024 := Nat.le_trans (Nat.pow_le_pow_right (by decide) hnb) (by decide)
  have K0 : KM w (am_set (am_set w 0 0 44 0) 0 0 45 0) := ((KM.rf w).set (Or.inr ⟨rfl, by decide, by decide⟩)).set (Or.inr ⟨rfl, by decide, by decide⟩)
  have hB0 : TB (am_set (am_set w 0 0 44 0) 0 0 45 0) gr M Z nb c l r b e y ph btq bp := hB.keep (fun a z1 z2 => by rw [am_get_row (Or.inr z1), am_get_row (Or.inr z1)]) (fun i z => by rw [am_get_other (by omega), am_get_other (by omega)])
  obtain ⟨W1, f1, f2, f3, f4, f5⟩ := M_types12 hs hM hnb nb 0 FU _ (by omega) (FU_gt (by omega)) K0 hB0 (by rw [am_get_other (by decide), am_get_self]; rfl) (by rw [am_get_self]; rfl)
  obtain ⟨W2, g1, g2, g3⟩ := M_types92 hs hM1 hM hnb hbt hnm (2 ^ nb) 0 FU W1 (by omega) (FU_gt (by omega)) f2 f3 ⟨f3.2.1, f4, f5, fun t ht => absurd ht (Nat.not_lt_zero t)⟩
  refine ⟨W2, ?_, g2, g3⟩
  unfold mX6_types
  rw [pu_mk, pu_mk]
  exact f1.trans g1
end TZ
