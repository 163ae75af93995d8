/-! sortOut as a whole -/
section SO
variable {w : AW} {o m P L : Nat} {c l r ph pl dp : Nat → Nat}
noncomputable def btF (L m P : Nat) (c ph pl : Nat → Nat) (q : Nat) : Nat := rkF (hq L m c ph) pl P q
noncomputable def CLf (L m P : Nat) (c ph pl : Nat → Nat) : Nat := mskF (clF L m c ph) (rkF (hq L m c ph) pl P) P
noncomputable def TUf (L m P : Nat) (c ph pl : Nat → Nat) : Nat := mskF (tuF L m c ph) (rkF (hq L m c ph) pl P) P
noncomputable def OWf (L m P : Nat) (c ph pl : Nat → Nat) : Nat := mskF (owF L m c ph) (rkF (hq L m c ph) pl P) P
noncomputable def brT (L m P : Nat) (c l r ph pl : Nat → Nat) (t : Nat) : Nat := brF L m c l r ph (rkF (hq L m c ph) pl P) t P
noncomputable def whT (L m P : Nat) (c l r ph pl : Nat → Nat) (t : Nat) : Nat := evV (opT (decide (L = 8)) c ph (rkF (hq L m c ph) pl P) t) c l r (m - 1)
theorem msk_lt {f h : Nat → Bool} {P B : Nat} {pl : Nat → Nat} (hf : ∀ q, f q = true → h q = true) (hB : cntF h P ≤ B) : mskF f (rkF h pl P) P < 2 ^ B := orF_lt (fun q hq2 => by
  split
  · rename_i z
    have := rkF_lt (pl := pl) hq2 (hf q z)
    exact pow_lt_of (by omega)
  · exact Nat.two_pow_pos B)
theorem X_weighs (hX : SenP w o m P c l r ph pl dp) (hL : LenOK o P) (hc : ClassOK m P c l r ph) (hs : ShapeOK m c l r) (hP : P ≤ 81) (hm : 1 ≤ m) (hlast : ph (m - 1) = P - 1) (ho : o ≠ 4) {W0 : AW} {Z : Nat} (hZ : Z ≤ 1024) (hB : cntF (hq L m c ph) P ≤ 10) (hG : GB W0 L m P Z c ph pl P) : ∀ (e t n : Nat) (W : AW), Z = t + e → e < n → KX w W → W.1 o = w.1 o → W.1 4 0 = W0.1 4 0 → W.1 4 1 = W0.1 4 1 → (∀ u, u < t → W.1 4 3 u = nI (clN (CLf L m P c ph pl) (TUf L m P c ph pl) u) ∧ W.1 4 4 u = nI (brT L m P c l r ph pl u) ∧ W.1 4 5 u = nI (whT L m P c l r ph pl u)) →
    ∃ W2, mX3_sortOut_34 o n (nI t) W = (cl (mX3_beginWithFit W2) fun _ w_1 => pu w_1 4 12 0 fun w_3 => mX3_sortOut_65 FU w_3) ∧ KX w W2 ∧ W2.1 o = w.1 o ∧ W2.1 4 0 = W0.1 4 0 ∧ (∀ u, u < Z → W2.1 4 3 u = nI (clN (CLf L m P c ph pl) (TUf L m P c ph pl) u) ∧ W2.1 4 4 u = nI (brT L m P c l r ph pl u) ∧ W2.1 4 5 u = nI (whT L m P c l r ph pl u)) := by
  obtain ⟨g1, g2, g3, g4, g5, g6⟩ := hG
  intro e
  induction e with
  | zero =>
    intro t n W he hn hK hWo h0 h1 hr
    obtain ⟨n, rfl⟩ : ∃ q, n = q + 1 := ⟨n - 1, by omega⟩
    have e2 : t = Z := by omega
    subst e2
    refine ⟨W, ?_, hK, hWo, h0, hr⟩
    rw [mX3_sortOut_34, h0, g6, if_pos (nI_le (Nat.le_refl t) (by omega))]
  | succ e ih =>
    intro t n W he hn hK hWo h0 h1 hr
    obtain ⟨n, rfl⟩ : ∃ q, n = q + 1 := ⟨n - 1, by omega⟩
    have ht : t < Z := by omega
    have c1 : ¬ nI Z ≤ nI t := nI_ge ht (by omega)
    have ew := X_weigh (L := L) (bt := rkF (hq L m c ph) pl P) (t := t) (hX.cg hWo) hL hc hs hP hm hlast ho (fun q hq2 => by rw [h1]; exact g1 q hq2) (fun q hq2 z => by
      have := rkF_lt (pl := pl) hq2 z
      omega) (CL := CLf L m P c ph pl) (TU := TUf L m P c ph pl) (by rw [h0]; exact g2) (by rw [h0]; exact g3) (by omega)
    have kw : ∀ k, KX W (wgW W L m c l r ph (rkF (hq L m c ph) pl P) t k) := by
      intro k
      induction k with
      | zero => exact KX.rf W
      | succ k ih => exact ih.set (Or.inl ⟨by decide, by decide⟩)
    have rw4 : ∀ a, a ≠ 2 → (wgW W L m c l r ph (rkF (hq L m c ph) pl P) t P).1 4 a = W.1 4 a := fun a ha => setRow_row (Or.inr ha) P
    obtain ⟨W2, f⟩ := ih (t + 1) n (am_set (am_set (am_set (wgW W L m c l r ph (rkF (hq L m c ph) pl P) t P) 4 3 t (nI (clN (CLf L m P c ph pl) (TUf L m P c ph pl) t))) 4 4 t (nI (brF L m c l r ph (rkF (hq L m c ph) pl P) t P))) 4 5 t (nI (evV (opT (decide (L = 8)) c ph (rkF (hq L m c ph) pl P) t) c l r (m - 1)))) (by omega) (by omega) ((((hK.tr (kw P)).set (Or.inl ⟨by decide, by decide⟩)).set (Or.inl ⟨by decide, by decide⟩)).set (Or.inl ⟨by decide, by decide⟩)) (by
      rw [am_row_ne ho, am_row_ne ho, am_row_ne ho, ← hWo]
      funext a
      exact setRow_row (Or.inl ho) P) (by rw [am_get_row (by decide), am_get_row (by decide), am_get_row (by decide), rw4 0 (by decide)]; exact h0) (by rw [am_get_row (by decide), am_get_row (by decide), am_get_row (by decide), rw4 1 (by decide)]; exact h1) (fun u hu => by
      rw [am_get_row (show (4 : Nat) ≠ 4 ∨ 3 ≠ 5 from Or.inr (by decide)), am_get_row (show (4 : Nat) ≠ 4 ∨ 4 ≠ 5 from Or.inr (by decide)), am_get_row (show (4 : Nat) ≠ 4 ∨ 3 ≠ 4 from Or.inr (by decide))]
      by_cases q : u = t
      · subst q
        rw [am_get_self, am_get_self, am_get_self]
        exact ⟨rfl, rfl, rfl⟩
      · rw [am_get_other q, am_get_other q, am_get_other q, am_get_row (show (4 : Nat) ≠ 4 ∨ 4 ≠ 3 from Or.inr (by decide)), am_get_row (show (4 : Nat) ≠ 4 ∨ 5 ≠ 4 from Or.inr (by decide)), am_get_row (show (4 : Nat) ≠ 4 ∨ 5 ≠ 3 from Or.inr (by decide)), rw4 3 (by decide), rw4 4 (by decide), rw4 5 (by decide)]
        exact hr u (by omega))
    refine ⟨W2, ?_, f.2⟩
    rw [mX3_sortOut_34, h0, g6, if_neg c1, ew, cl_mk, nm_mk, show nI t + 1 = nI (t + 1) from nI_add t 1]
    exact f.1
theorem X_sortOut (hX : SenP w o m P c l r ph pl dp) (hL : LenOK o P) (hc : ClassOK m P c l r ph) (hs : ShapeOK m c l r) (hP : P ≤ 81) (hm : 1 ≤ m) (hlast : ph (m - 1) = P - 1) (ho : o ≠ 4) (hL9 : L < 9) (hpl : ∀ p, p < P → pl p < 1000) :
    (10 < cntF (hq L m c ph) P → mX3_sortOut o (nI L) w = some (nI 0, w)) ∧
    (cntF (hq L m c ph) P ≤ 10 → ∀ rho, rho ≤ 2 ^ cntF (hq L m c ph) P → anyN (fitX L (CLf L m P c ph pl) (TUf L m P c ph pl) (brT L m P c l r ph pl)) (mfX L (2 ^ cntF (hq L m c ph) P) (CLf L m P c ph pl) (TUf L m P c ph pl) (OWf L m P c ph pl) (brT L m P c l r ph pl)) (2 ^ cntF (hq L m c ph) P) rho = false → (∀ s, s < rho → anyN (fitX L (CLf L m P c ph pl) (TUf L m P c ph pl) (brT L m P c l r ph pl)) (mfX L (2 ^ cntF (hq L m c ph) P) (CLf L m P c ph pl) (TUf L m P c ph pl) (OWf L m P c ph pl) (brT L m P c l r ph pl)) (2 ^ cntF (hq L m c ph) P) s = true) →
      ∃ W2, mX3_sortOut o (nI L) w = some (nI 1, W2) ∧ KX w W2 ∧ SO W2 L (2 ^ cntF (hq L m c ph) P) (CLf L m P c ph pl) (TUf L m P c ph pl) (OWf L m P c ph pl) (brT L m P c l r ph pl) (whT L m P c l r ph pl) rho) := by
  have e0 := X_countBits hX hL hc hs hP hL9
  have hcle := cntF_le (hq L m c ph) P
  refine ⟨fun hB => ?_, fun hB rho hrho hend hgo => ?_⟩
  · unfold mX3_sortOut
    rw [e0, cl_mk, if_neg (show ¬ (nI (cntF (hq L m c ph) P) ≤ 10) from nI_ge (a := 10) hB (by omega))]
    rfl
  · have hZ : 2 ^ cntF (hq L m c ph) P ≤ 1024 := Nat.le_trans (Nat.pow_le_pow_right (by decide) hB) (by decide)
    have K1 : KX w (am_set (am_set w 4 0 7 (nI L)) 4 0 8 (nI (2 ^ cntF (hq L m c ph) P))) := ((KX.rf w).set (Or.inl ⟨by decide, by decide⟩)).set (Or.inl ⟨by decide, by decide⟩)
    have o1 : (am_set (am_set w 4 0 7 (nI L)) 4 0 8 (nI (2 ^ cntF (hq L m c ph) P))).1 o = w.1 o := by rw [am_row_ne ho, am_row_ne ho]
    obtain ⟨W1, f1, f2, f3, f4⟩ := X_give (Z := 2 ^ cntF (hq L m c ph) P) (hX.cg o1) hL hc hs hP hL9 hpl hB ho (by rw [am_get_other (by decide), am_get_self]) (am_get_self _ _ _ _ _)
    have f3' : W1.1 o = w.1 o := f3.trans o1
    obtain ⟨W2, g1, g2, g3, g4, g5⟩ := X_weighs hX hL hc hs hP hm hlast ho hZ hB f4 (2 ^ cntF (hq L m c ph) P) 0 FU W1 (by omega) (FU_gt (by omega)) (K1.tr f2) f3' rfl rfl (fun u hu => absurd hu (Nat.not_lt_zero u))
    obtain ⟨b1, b2, b3, b4, b5, b6⟩ := f4
    have hCL : CLf L m P c ph pl < 2 ^ 10 := msk_lt (fun q z => by
      unfold clF at z
      rw [Bool.and_eq_true] at z
      exact z.1) hB
    have hOW : OWf L m P c ph pl < 2 ^ 10 := msk_lt (fun q z => by
      unfold owF at z
      rw [Bool.and_eq_true] at z
      exact z.1) hB
    have hT : TX W2 L (2 ^ cntF (hq L m c ph) P) (CLf L m P c ph pl) (TUf L m P c ph pl) (OWf L m P c ph pl) (brT L m P c l r ph pl) (whT L m P c l r ph pl) := ⟨by rw [g4]; exact b5, by rw [g4]; exact b6, by rw [g4]; exact b4, g5⟩
    obtain ⟨W5, u1, u2, u3, u4, u5⟩ := X_fits7 (W0 := am_set W2 4 0 13 (nI 0)) (OW := OWf L m P c ph pl) (wh := whT L m P c l r ph pl) hZ hCL hL9 (hT.row (am_get_other (by decide)) (am_get_other (by decide)) (am_get_other (by decide)) (am_get_row (Or.inr (by decide))) (am_get_row (Or.inr (by decide))) (am_get_row (Or.inr (by decide)))) (2 ^ cntF (hq L m c ph) P) 0 FU _ (by omega) (FU_gt (by omega)) (KX.rf _) (fun _ _ _ => rfl) (fun _ _ => rfl) (am_get_self _ _ _ _ _) (fun u hu => absurd hu (Nat.not_lt_zero u)) (fun u hu => absurd hu (Nat.not_lt_zero u))
    have k2 : KX w W5 := (g2.set (Or.inl ⟨by decide, by decide⟩)).tr u2
    have n0 : ∀ (j : Nat) (x : Int32), j ≠ 12 → (am_set W5 4 0 12 x).1 4 0 j = W5.1 4 0 j := fun j x hj => am_get_other hj
    have na : ∀ (a : Nat) (x : Int32), a ≠ 0 → (am_set W5 4 0 12 x).1 4 a = W5.1 4 a := fun a x ha => am_get_row (Or.inr ha)
    obtain ⟨W3, q1, q2, q3⟩ := X_rest (W0 := w) hZ hCL hOW hL9 hrho hend hgo rho 0 FU (am_set W5 4 0 12 (nI 0)) (by omega) (FU_gt (by omega)) (k2.set (Or.inl ⟨by decide, by decide⟩)) (u3.row (n0 7 _ (by decide)) (n0 8 _ (by decide)) (n0 11 _ (by decide)) (na 3 _ (by decide)) (na 4 _ (by decide)) (na 5 _ (by decide))) (fun u hu => by
      rw [na 6 _ (by decide)]
      exact u4 u hu) (u5.row (n0 13 _ (by decide)) (na 7 _ (by decide))) (am_get_self _ _ _ _ _)
    refine ⟨W3, ?_, q2, q3⟩
    unfold mX3_sortOut
    have e1 : (1 : Int32) <<< (nI (cntF (hq L m c ph) P) &&& 31) = nI (2 ^ cntF (hq L m c ph) P) := by
      have : nI (cntF (hq L m c ph) P) &&& 31 = nI (cntF (hq L m c ph) P &&& 31) := nI_and _ 31
      rw [this]
      exact one_shl (by omega)
    rw [e0, cl_mk, if_pos (show nI (cntF (hq L m c ph) P) ≤ 10 from nI_le (b := 10) hB (by decide)), pu_mk, e1, pu_mk, f1, cl_mk]
    have g1' : mX3_sortOut_34 o FU 0 W1 = (cl (mX3_beginWithFit W2) fun _ w_1 => pu w_1 4 12 0 fun w_3 => mX3_sortOut_65 FU w_3) := g1
    have u1' : mX3_beginWithFit W2 = some ((), W5) := by
      unfold mX3_beginWithFit
      rw [pu_mk]
      exact u1
    rw [g1', u1', cl_mk, pu_mk]
    exact q1
end SO
