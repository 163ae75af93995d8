/-! the class sorts the types out -/
/-- what the class knows when it has sorted out -/
def SO (W : AW) (L Z CL TU OW : Nat) (br wh : Nat → Nat) (rho : Nat) : Prop := TX W L Z CL TU OW br wh ∧ (∀ u, u < Z → W.1 4 6 u = flV (fitX L CL TU br) (mfX L Z CL TU OW br) rho u) ∧ W.1 4 0 12 = nI rho ∧ StL W (thN (fitX L CL TU br) (mfX L Z CL TU OW br) rho) Z
section RS
variable {W0 : AW} {L Z CL TU OW rho : Nat} {br wh : Nat → Nat}
theorem X_rest (hZ : Z ≤ 1024) (hC : CL < 2 ^ 10) (hO : OW < 2 ^ 10) (hL : L < 9) (hrho : rho ≤ Z) (hend : anyN (fitX L CL TU br) (mfX L Z CL TU OW br) Z rho = false) (hgo : ∀ s, s < rho → anyN (fitX L CL TU br) (mfX L Z CL TU OW br) Z s = true) : ∀ (e r n : Nat) (W : AW), rho = r + e → e < n → KX W0 W → TX W L Z CL TU OW br wh → (∀ u, u < Z → W.1 4 6 u = flV (fitX L CL TU br) (mfX L Z CL TU OW br) r u) → StL W (thN (fitX L CL TU br) (mfX L Z CL TU OW br) r) Z → W.1 4 0 12 = nI r →
    ∃ W2, mX3_sortOut_65 n W = some (nI 1, W2) ∧ KX W0 W2 ∧ SO W2 L Z CL TU OW br wh rho := by
  intro e
  induction e with
  | zero =>
    intro r n W he hn hK hT hF hS h12
    obtain ⟨n, rfl⟩ : ∃ q, n = q + 1 := ⟨n - 1, by omega⟩
    have e2 : r = rho := by omega
    subst e2
    rw [mX3_sortOut_65, hT.2.1, h12]
    by_cases hr : Z ≤ r
    · rw [if_pos (nI_le hr (by omega))]
      exact ⟨W, rfl, hK, hT, hF, h12, hS⟩
    · obtain ⟨W2, a1, a2, a3, a4, a5, a6⟩ := X_anyFall hT hZ hC hO hL (r := r) (by omega) hF hS
      have hno : ∀ u, u < Z → ¬ (thN (fitX L CL TU br) (mfX L Z CL TU OW br) r u = true ∧ mfX L Z CL TU OW br (thN (fitX L CL TU br) (mfX L Z CL TU OW br) r) u = true) := fun u hu z => by
        have : anyN (fitX L CL TU br) (mfX L Z CL TU OW br) Z r = true := exB_iff.mpr ⟨u, hu, by rw [z.1, z.2]; rfl⟩
        rw [hend] at this
        cases this
      have hsame : ∀ u, u < Z → flV (fitX L CL TU br) (mfX L Z CL TU OW br) (r + 1) u = flV (fitX L CL TU br) (mfX L Z CL TU OW br) r u := fun u hu => by
        show (if thN (fitX L CL TU br) (mfX L Z CL TU OW br) r u = true ∧ mfX L Z CL TU OW br (thN (fitX L CL TU br) (mfX L Z CL TU OW br) r) u = true then nI (r + 1) else flV (fitX L CL TU br) (mfX L Z CL TU OW br) r u) = _
        exact if_neg (hno u hu)
      have hth : ∀ u, u < Z → thN (fitX L CL TU br) (mfX L Z CL TU OW br) (r + 1) u = thN (fitX L CL TU br) (mfX L Z CL TU OW br) r u := fun u hu => by
        show (thN (fitX L CL TU br) (mfX L Z CL TU OW br) r u && !mfX L Z CL TU OW br (thN (fitX L CL TU br) (mfX L Z CL TU OW br) r) u) = _
        have := hno u hu
        cases q : thN (fitX L CL TU br) (mfX L Z CL TU OW br) r u
        · rfl
        · cases q2 : mfX L Z CL TU OW br (thN (fitX L CL TU br) (mfX L Z CL TU OW br) r) u
          · rfl
          · exact absurd ⟨q, q2⟩ this
      have hcn : ∀ t, t ≤ Z → cntF (thN (fitX L CL TU br) (mfX L Z CL TU OW br) (r + 1)) t = cntF (thN (fitX L CL TU br) (mfX L Z CL TU OW br) r) t := by
        intro t
        induction t with
        | zero => intro _; rfl
        | succ t ih =>
          intro h
          show cntF _ t + bN _ = cntF _ t + bN _
          rw [ih (by omega), hth t (by omega)]
      rw [hend] at a1
      refine ⟨W2, ?_, hK.tr a2, a3, fun u hu => (a4 u hu).trans (hsame u hu), a6.trans h12, ?_⟩
      · rw [if_neg (nI_ge (by omega) (by omega)), show nI r + 1 = nI (r + 1) from nI_add r 1, a1, cl_mk, if_pos (show nI (bN false) = 0 from rfl)]
        rfl
      · refine ⟨by rw [← hcn Z (Nat.le_refl Z)]; exact a5.1, fun t ht z => ?_⟩
        rw [← hcn t (by omega)]
        exact a5.2 t ht (by rw [hth t ht]; exact z)
  | succ e ih =>
    intro r n W he hn hK hT hF hS h12
    obtain ⟨n, rfl⟩ : ∃ q, n = q + 1 := ⟨n - 1, by omega⟩
    obtain ⟨W2, a1, a2, a3, a4, a5, a6⟩ := X_anyFall hT hZ hC hO hL (r := r) (by omega) hF hS
    rw [hgo r (by omega)] at a1
    have g0 : ∀ (j : Nat) (x : Int32), j ≠ 12 → (am_set W2 4 0 12 x).1 4 0 j = W2.1 4 0 j := fun j x hj => am_get_other hj
    have ga : ∀ (a : Nat) (x : Int32), a ≠ 0 → (am_set W2 4 0 12 x).1 4 a = W2.1 4 a := fun a x ha => am_get_row (Or.inr ha)
    obtain ⟨W3, f1, f2⟩ := ih (r + 1) n (am_set W2 4 0 12 (nI (r + 1))) (by omega) (by omega) ((hK.tr a2).set (Or.inl ⟨by decide, by decide⟩)) (a3.row (g0 7 _ (by decide)) (g0 8 _ (by decide)) (g0 11 _ (by decide)) (ga 3 _ (by decide)) (ga 4 _ (by decide)) (ga 5 _ (by decide))) (fun u hu => by
      rw [ga 6 _ (by decide)]
      exact a4 u hu) (a5.row (g0 13 _ (by decide)) (ga 7 _ (by decide))) (am_get_self _ _ _ _ _)
    refine ⟨W3, ?_, f2⟩
    have ev : nI r + 1 = nI (r + 1) := nI_add r 1
    rw [mX3_sortOut_65, hT.2.1, h12, if_neg (nI_ge (show r < Z by omega) (by omega)), ev, a1, cl_mk, if_neg (show ¬ (nI (bN true) = 0) by decide), a6, h12, ev, pu_mk]
    exact f1
theorem X_fits7 (hZ : Z ≤ 1024) (hC : CL < 2 ^ 10) (hL : L < 9) (hT0 : TX W0 L Z CL TU OW br wh) : ∀ (e t n : Nat) (W : AW), Z = t + e → e < n → KX W0 W → (∀ o a, (o ≠ 4 ∨ (a ≠ 0 ∧ a ≠ 6 ∧ a ≠ 7)) → W.1 o a = W0.1 o a) → (∀ j, j ≠ 13 → W.1 4 0 j = W0.1 4 0 j) → W.1 4 0 13 = nI (cntF (fitX L CL TU br) t) → (∀ u, u < t → W.1 4 6 u = if fitX L CL TU br u = true then -9 else nI 0) → (∀ u, u < t → fitX L CL TU br u = true → W.1 4 7 (cntF (fitX L CL TU br) u) = nI u) →
    ∃ W2, mX3_beginWithFit_7 n (nI t) W = some ((), W2) ∧ KX W0 W2 ∧ TX W2 L Z CL TU OW br wh ∧ (∀ u, u < Z → W2.1 4 6 u = flV (fitX L CL TU br) (mfX L Z CL TU OW br) 0 u) ∧ StL W2 (fitX L CL TU br) Z := by
  intro e
  induction e with
  | zero =>
    intro t n W he hn hK h1 h2 h3 h4 h5
    obtain ⟨n, rfl⟩ : ∃ q, n = q + 1 := ⟨n - 1, by omega⟩
    have e2 : t = Z := by omega
    subst e2
    have ga : ∀ a, a ≠ 0 → a ≠ 6 → a ≠ 7 → W.1 4 a = W0.1 4 a := fun a x y z => h1 4 a (Or.inr ⟨x, y, z⟩)
    have hT := hT0.row (h2 7 (by decide)) (h2 8 (by decide)) (h2 11 (by decide)) (ga 3 (by decide) (by decide) (by decide)) (ga 4 (by decide) (by decide) (by decide)) (ga 5 (by decide) (by decide) (by decide))
    exact ⟨W, by rw [mX3_beginWithFit_7, hT.2.1, if_pos (nI_le (Nat.le_refl t) (by omega))], hK, hT, h4, h3, h5⟩
  | succ e ih =>
    intro t n W he hn hK h1 h2 h3 h4 h5
    obtain ⟨n, rfl⟩ : ∃ q, n = q + 1 := ⟨n - 1, by omega⟩
    have ht : t < Z := by omega
    have ev : nI t + 1 = nI (t + 1) := nI_add t 1
    have hcl := cntF_le (fitX L CL TU br) t
    have ecn : cntF (fitX L CL TU br) (t + 1) = cntF (fitX L CL TU br) t + bN (fitX L CL TU br t) := rfl
    have e37 : ∀ V : AW, mX3_beginWithFit_37 (mX3_beginWithFit_7 n) (nI t) V = mX3_beginWithFit_7 n (nI (t + 1)) V := fun V => by
      unfold mX3_beginWithFit_37
      rw [nm_mk, ev]
    have hput : ∀ x, mX5_put 4 6 (nI t) x W = some ((), am_set W 4 6 t x) := fun x => put_in _ (show t < 1024 by omega) (by decide)
    have ga : ∀ a, a ≠ 0 → a ≠ 6 → a ≠ 7 → (am_set W 4 6 t 0).1 4 a = W0.1 4 a := fun a x y z => by rw [am_get_row (Or.inr y)]; exact h1 4 a (Or.inr ⟨x, y, z⟩)
    have g0 : ∀ j, j ≠ 13 → (am_set W 4 6 t 0).1 4 0 j = W0.1 4 0 j := fun j hj => by rw [am_get_row (by decide)]; exact h2 j hj
    have hT := hT0.row (g0 7 (by decide)) (g0 8 (by decide)) (g0 11 (by decide)) (ga 3 (by decide) (by decide) (by decide)) (ga 4 (by decide) (by decide) (by decide)) (ga 5 (by decide) (by decide) (by decide))
    have ef := X_isFit hT hZ hC hL ht
    have K1 := hK.set (o := 4) (a := 6) (i := t) (x := 0) (Or.inl ⟨by decide, by decide⟩)
    have head : ∀ X, (if nI (bN (fitX L CL TU br t)) = 0 then mX3_beginWithFit_37 (mX3_beginWithFit_7 n) (nI t) (am_set W 4 6 t 0) else cl (mX3_stay (nI t) (am_set W 4 6 t 0)) fun x_6 w_5 => mX3_beginWithFit_37 (mX3_beginWithFit_7 n) (nI t) w_5) = X → mX3_beginWithFit_7 (n + 1) (nI t) W = X := fun X hX => by
      rw [mX3_beginWithFit_7, h2 8 (by decide), hT0.2.1, if_neg (nI_ge ht (by omega)), hput, cl_mk, ef, cl_mk]
      exact hX
    cases q : fitX L CL TU br t
    · obtain ⟨W2, f⟩ := ih (t + 1) n (am_set W 4 6 t 0) (by omega) (by omega) K1 (fun o a z => by rw [am_get_row (by omega)]; exact h1 o a z) g0 (by rw [am_get_row (by decide), ecn, q]; exact h3) (fun u hu => by
        by_cases y : u = t
        · rw [y, am_get_self, q, if_neg (by decide)]; rfl
        · rw [am_get_other y]
          exact h4 u (by omega)) (fun u hu z => by
        rw [am_get_row (by decide)]
        by_cases y : u = t
        · rw [y, q] at z; cases z
        · exact h5 u (by omega) z)
      exact ⟨W2, head _ (by rw [q, if_pos (show nI (bN false) = 0 from rfl), e37]; exact f.1), f.2⟩
    · have est := X_stay (W := am_set W 4 6 t 0) (t := t) (n := cntF (fitX L CL TU br) t) (by omega) (by omega) (by rw [am_get_row (by decide)]; exact h3)
      obtain ⟨W2, f⟩ := ih (t + 1) n (am_set (am_set (am_set (am_set W 4 6 t 0) 4 6 t (-9)) 4 7 (cntF (fitX L CL TU br) t) (nI t)) 4 0 13 (nI (cntF (fitX L CL TU br) t + 1))) (by omega) (by omega) (((K1.set (Or.inl ⟨by decide, by decide⟩)).set (Or.inl ⟨by decide, by decide⟩)).set (Or.inl ⟨by decide, by decide⟩)) (fun o a z => by rw [am_get_row (by omega), am_get_row (by omega), am_get_row (by omega), am_get_row (by omega)]; exact h1 o a z) (fun j hj => by rw [am_get_other hj, am_get_row (by decide), am_get_row (by decide)]; exact g0 j hj) (by rw [am_get_self, ecn, q]; rfl) (fun u hu => by
        rw [am_get_row (by decide), am_get_row (by decide)]
        by_cases y : u = t
        · rw [y, am_get_self, q, if_pos rfl]
        · rw [am_get_other y, am_get_other y]
          exact h4 u (by omega)) (fun u hu z => by
        rw [am_get_row (by decide)]
        by_cases y : u = t
        · rw [y, am_get_self]
        · have hlt := cntF_lt (h := fitX L CL TU br) (show u < t by omega) z
          rw [am_get_other (by omega), am_get_row (by decide), am_get_row (by decide)]
          exact h5 u (by omega) z)
      exact ⟨W2, head _ (by rw [q, if_neg (show ¬ (nI (bN true) = 0) by decide), est, cl_mk, e37]; exact f.1), f.2⟩
end RS
