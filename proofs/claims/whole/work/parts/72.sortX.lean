/-! the class sorts the types out -/
section LS
variable {W0 : AW} {Z : Nat} {th : Nat → Bool}
theorem X_list7 (hZ : Z ≤ 1024) (h7 : W0.1 4 0 7 = nI Z) (hth : ∀ t, t < Z → (W0.1 4 5 t = -9 ↔ th t = true)) : ∀ (e k n : Nat) (W : AW), Z = k + e → e < n → KX W0 W → (∀ o a, (o ≠ 4 ∨ (a ≠ 0 ∧ a ≠ 6)) → W.1 o a = W0.1 o a) → (∀ j, j ≠ 12 → W.1 4 0 j = W0.1 4 0 j) → W.1 4 0 12 = nI (cntF th k) → (∀ t, t < k → th t = true → W.1 4 6 (cntF th t) = nI t) →
    ∃ W2, mX3_listStays_7 n (nI k) W = some ((), W2) ∧ KX W0 W2 ∧ (∀ o a, (o ≠ 4 ∨ (a ≠ 0 ∧ a ≠ 6)) → W2.1 o a = W0.1 o a) ∧ (∀ j, j ≠ 12 → W2.1 4 0 j = W0.1 4 0 j) ∧ W2.1 4 0 12 = nI (cntF th Z) ∧ (∀ t, t < Z → th t = true → W2.1 4 6 (cntF th t) = nI t) := by
  intro e
  induction e with
  | zero =>
    intro k n W he hn hK h1 h2 h3 h4
    obtain ⟨n, rfl⟩ : ∃ q, n = q + 1 := ⟨n - 1, by omega⟩
    have e2 : k = Z := by omega
    subst e2
    refine ⟨W, ?_, hK, h1, h2, h3, h4⟩
    rw [mX3_listStays_7, h2 7 (by decide), h7, if_pos (nI_le (Nat.le_refl k) (by omega))]
  | succ e ih =>
    intro k n W he hn hK h1 h2 h3 h4
    obtain ⟨n, rfl⟩ : ∃ q, n = q + 1 := ⟨n - 1, by omega⟩
    have hk : k < Z := by omega
    have c1 : ¬ nI Z ≤ nI k := nI_ge hk (by omega)
    have ev : nI k + 1 = nI (k + 1) := nI_add k 1
    have e53 : ∀ V : AW, mX3_listStays_53 (mX3_listStays_7 n) (nI k) V = mX3_listStays_7 n (nI (k + 1)) V := fun V => by
      unfold mX3_listStays_53
      rw [nm_mk, ev]
    have ecn : cntF th (k + 1) = cntF th k + bN (th k) := rfl
    have hcl := cntF_le th k
    have e5 : mX5_at 4 5 (nI k) W = some (W0.1 4 5 k, W) := by rw [at_in W (show k < 1024 by omega) (by decide), h1 4 5 (Or.inr ⟨by decide, by decide⟩)]
    have hd := hth k hk
    cases q : th k
    · have n9 : ¬ (W0.1 4 5 k = -9) := fun z => by rw [hd.mp z] at q; cases q
      obtain ⟨W2, f⟩ := ih (k + 1) n W (by omega) (by omega) hK h1 h2 (by rw [ecn, q]; exact h3) (fun t ht z => by
        by_cases y : t = k
        · rw [y, q] at z; cases z
        · exact h4 t (by omega) z)
      refine ⟨W2, ?_, f.2⟩
      rw [mX3_listStays_7, h2 7 (by decide), h7, if_neg c1, e5, cl_mk, if_neg n9, e53]
      exact f.1
    · have y9 := hd.mpr q
      have hput : mX5_put 4 6 (nI (cntF th k)) (nI k) W = some ((), am_set W 4 6 (cntF th k) (nI k)) := put_in W (show cntF th k < 1024 by omega) (by decide)
      obtain ⟨W2, f⟩ := ih (k + 1) n (am_set (am_set W 4 6 (cntF th k) (nI k)) 4 0 12 (nI (cntF th k + 1))) (by omega) (by omega) ((hK.set (Or.inl ⟨by decide, by decide⟩)).set (Or.inl ⟨by decide, by decide⟩)) (fun o a z => by rw [am_get_row (by omega), am_get_row (by omega)]; exact h1 o a z) (fun j z => by rw [am_get_other z, am_get_row (by decide)]; exact h2 j z) (by rw [am_get_self, ecn, q]; rfl) (fun t ht z => by
        rw [am_get_row (by decide)]
        by_cases y : t = k
        · rw [y, am_get_self]
        · have hlt : cntF th t < cntF th k := by
            have mono : ∀ a b, a ≤ b → cntF th a ≤ cntF th b := fun a b hab => by
              obtain ⟨d, rfl⟩ := Nat.exists_eq_add_of_le hab
              clear hab
              induction d with
              | zero => exact Nat.le_refl _
              | succ d ihd => exact Nat.le_trans ihd (Nat.le_add_right _ _)
            have h5 : cntF th (t + 1) = cntF th t + bN (th t) := rfl
            rw [z, bN_t] at h5
            have := mono (t + 1) k (by omega)
            omega
          rw [am_get_other (by omega)]
          exact h4 t (by omega) z)
      refine ⟨W2, ?_, f.2⟩
      rw [mX3_listStays_7, h2 7 (by decide), h7, if_neg c1, e5, cl_mk, if_pos y9, h3, hput, cl_mk, am_get_row (by decide), h3, show nI (cntF th k) + 1 = nI (cntF th k + 1) from nI_add _ 1, pu_mk, e53]
      exact f.1
end LS
/-- what the class knows when it has sorted out -/
def SO (W : AW) (L Z CL TU OW : Nat) (br wh : Nat → Nat) (rho : Nat) : Prop := TX W L Z CL TU OW br wh ∧ (∀ u, u < Z → W.1 4 5 u = flV (fitX L CL TU br) (mfX L Z CL TU OW br) rho u) ∧ W.1 4 0 11 = nI rho ∧ W.1 4 0 12 = nI (cntF (thN (fitX L CL TU br) (mfX L Z CL TU OW br) rho) Z) ∧ ∀ t, t < Z → thN (fitX L CL TU br) (mfX L Z CL TU OW br) rho t = true → W.1 4 6 (cntF (thN (fitX L CL TU br) (mfX L Z CL TU OW br) rho) t) = nI t
section RS
variable {W0 : AW} {L Z CL TU OW rho : Nat} {br wh : Nat → Nat}
theorem X_rest (hZ : Z ≤ 1024) (hC : CL < 2 ^ 10) (hO : OW < 2 ^ 10) (hL : L < 9) (hrho : rho ≤ Z) (hend : anyN (fitX L CL TU br) (mfX L Z CL TU OW br) Z rho = false) (hgo : ∀ s, s < rho → anyN (fitX L CL TU br) (mfX L Z CL TU OW br) Z s = true) : ∀ (e r n : Nat) (W : AW), rho = r + e → e < n → KX W0 W → TX W L Z CL TU OW br wh → (∀ u, u < Z → W.1 4 5 u = flV (fitX L CL TU br) (mfX L Z CL TU OW br) r u) → W.1 4 0 11 = nI r →
    ∃ W2, mX3_sortOut_103 n W = some (nI 1, W2) ∧ KX W0 W2 ∧ SO W2 L Z CL TU OW br wh rho := by
  have tail : ∀ W : AW, KX W0 W → TX W L Z CL TU OW br wh → (∀ u, u < Z → W.1 4 5 u = flV (fitX L CL TU br) (mfX L Z CL TU OW br) rho u) → W.1 4 0 11 = nI rho → ∃ W2, mX3_sortOut_140 W = some (nI 1, W2) ∧ KX W0 W2 ∧ SO W2 L Z CL TU OW br wh rho := by
    intro W hK hT hF h11
    have hth := flV_th (fit := fitX L CL TU br) (mf := mfX L Z CL TU OW br) (fun _ _ => trivial) rho (by omega)
    have K12 : KX W (am_set W 4 0 12 0) := (KX.rf W).set (Or.inl ⟨by decide, by decide⟩)
    obtain ⟨W2, f1, f2, f3, f4, f5, f6⟩ := X_list7 (W0 := am_set W 4 0 12 0) (th := thN (fitX L CL TU br) (mfX L Z CL TU OW br) rho) hZ (by rw [am_get_other (by decide)]; exact hT.2.1) (fun t ht => by rw [am_get_row (by decide), hF t ht]; exact (hth t).1) Z 0 FU (am_set W 4 0 12 0) (by omega) (FU_gt (by omega)) (KX.rf _) (fun _ _ _ => rfl) (fun _ _ => rfl) (am_get_self _ _ _ _ _) (fun t ht => absurd ht (Nat.not_lt_zero t))
    refine ⟨W2, ?_, (hK.tr K12).tr f2, hT.row (fun j h1 h2 => by rw [f4 j (by omega), am_get_other (by omega)]) (by rw [f3 4 3 (Or.inr ⟨by decide, by decide⟩), am_get_row (by decide)]) (by rw [f3 4 4 (Or.inr ⟨by decide, by decide⟩), am_get_row (by decide)]), fun u hu => ?_, ?_, f5, f6⟩
    · unfold mX3_sortOut_140 mX3_listStays
      rw [pu_mk]
      have f1' : mX3_listStays_7 FU 0 (am_set W 4 0 12 0) = some ((), W2) := f1
      rw [f1', cl_mk]
      rfl
    · rw [f3 4 5 (Or.inr ⟨by decide, by decide⟩), am_get_row (by decide)]
      exact hF u hu
    · rw [f4 11 (by decide), am_get_other (by decide)]
      exact h11
  intro e
  induction e with
  | zero =>
    intro r n W he hn hK hT hF h11
    obtain ⟨n, rfl⟩ : ∃ q, n = q + 1 := ⟨n - 1, by omega⟩
    have e2 : r = rho := by omega
    subst e2
    rw [mX3_sortOut_103, hT.2.1, h11]
    by_cases hr : Z ≤ r
    · rw [if_pos (nI_le hr (by omega))]
      exact tail W hK hT hF h11
    · have eaf := X_anyFall hT hZ hC hO hL (r := r) (by omega) hF
      rw [hend] at eaf
      rw [if_neg (nI_ge (by omega) (by omega)), show nI r + 1 = nI (r + 1) from nI_add r 1, eaf, cl_mk, if_pos (show nI (bN false) = 0 from rfl)]
      have hsame : ∀ u, u < Z → flV (fitX L CL TU br) (mfX L Z CL TU OW br) (r + 1) u = flV (fitX L CL TU br) (mfX L Z CL TU OW br) r u := fun u hu => by
        show (if thN (fitX L CL TU br) (mfX L Z CL TU OW br) r u = true ∧ mfX L Z CL TU OW br (thN (fitX L CL TU br) (mfX L Z CL TU OW br) r) u = true then nI (r + 1) else flV (fitX L CL TU br) (mfX L Z CL TU OW br) r u) = _
        refine if_neg (fun z => ?_)
        have : anyN (fitX L CL TU br) (mfX L Z CL TU OW br) Z r = true := exB_iff.mpr ⟨u, hu, by rw [z.1, z.2]; rfl⟩
        rw [hend] at this
        cases this
      have hr5 : ∀ a, a ≠ 5 → (afW W (fitX L CL TU br) (mfX L Z CL TU OW br) r Z).1 4 a = W.1 4 a := fun a ha => setRow_row (Or.inr ha) Z
      refine tail (afW W (fitX L CL TU br) (mfX L Z CL TU OW br) r Z) (hK.tr ?_) (hT.row (fun j _ _ => by rw [hr5 0 (by decide)]) (hr5 3 (by decide)) (hr5 4 (by decide))) (fun u hu => ?_) (by rw [hr5 0 (by decide)]; exact h11)
      · have : ∀ k, KX W (afW W (fitX L CL TU br) (mfX L Z CL TU OW br) r k) := by
          intro k
          induction k with
          | zero => exact KX.rf W
          | succ k ih => exact ih.set (Or.inl ⟨by decide, by decide⟩)
        exact this Z
      · rw [← hsame u hu]
        exact setRow_in Z hu
  | succ e ih =>
    intro r n W he hn hK hT hF h11
    obtain ⟨n, rfl⟩ : ∃ q, n = q + 1 := ⟨n - 1, by omega⟩
    have eaf := X_anyFall hT hZ hC hO hL (r := r) (by omega) hF
    rw [hgo r (by omega)] at eaf
    have hr5 : ∀ a, a ≠ 5 → (afW W (fitX L CL TU br) (mfX L Z CL TU OW br) r Z).1 4 a = W.1 4 a := fun a ha => setRow_row (Or.inr ha) Z
    have hKa : KX W (afW W (fitX L CL TU br) (mfX L Z CL TU OW br) r Z) := by
      have : ∀ k, KX W (afW W (fitX L CL TU br) (mfX L Z CL TU OW br) r k) := by
        intro k
        induction k with
        | zero => exact KX.rf W
        | succ k ih => exact ih.set (Or.inl ⟨by decide, by decide⟩)
      exact this Z
    obtain ⟨W2, f1, f2⟩ := ih (r + 1) n (am_set (afW W (fitX L CL TU br) (mfX L Z CL TU OW br) r Z) 4 0 11 (nI (r + 1))) (by omega) (by omega) ((hK.tr hKa).set (Or.inl ⟨by decide, by decide⟩)) (hT.row (fun j h1 h2 => by rw [am_get_other (by omega), hr5 0 (by decide)]) (by rw [am_get_row (by decide)]; exact hr5 3 (by decide)) (by rw [am_get_row (by decide)]; exact hr5 4 (by decide))) (fun u hu => by
      rw [am_get_row (by decide)]
      exact setRow_in Z hu) (am_get_self _ _ _ _ _)
    refine ⟨W2, ?_, f2⟩
    have ev : nI r + 1 = nI (r + 1) := nI_add r 1
    rw [mX3_sortOut_103, hT.2.1, h11, if_neg (nI_ge (show r < Z by omega) (by omega)), ev, eaf, cl_mk, if_neg (show ¬ (nI (bN true) = 0) by decide), hr5 0 (by decide), h11, ev, pu_mk]
    exact f1
theorem X_fits (hZ : Z ≤ 1024) (hC : CL < 2 ^ 10) (hL : L < 9) {W : AW} (hT : TX W L Z CL TU OW br wh) : mX3_sortOut_59 FU (nI 0) W = mX3_sortOut_103 FU (am_set (setRow W 4 5 (flV (fitX L CL TU br) (mfX L Z CL TU OW br) 0) Z) 4 0 11 (nI 0)) := by
  refine loopE (fun n (s : Int32 × AW) => mX3_sortOut_59 n s.1 s.2) Z (fun k => (nI k, setRow W 4 5 (flV (fitX L CL TU br) (mfX L Z CL TU OW br) 0) k)) _ ?_ ?_ FU 0 (Nat.zero_le _) (FU_gt (by omega))
  · intro n t ht
    have hTk : TX (setRow W 4 5 (flV (fitX L CL TU br) (mfX L Z CL TU OW br) 0) t) L Z CL TU OW br wh := hT.row (fun j _ _ => by rw [setRow_row (Or.inr (by decide))]) (setRow_row (Or.inr (by decide)) t) (setRow_row (Or.inr (by decide)) t)
    have c1 : ¬ nI Z ≤ nI t := nI_ge ht (by omega)
    have ev : nI t + 1 = nI (t + 1) := nI_add t 1
    have hput : ∀ x, mX5_put 4 5 (nI t) x (setRow W 4 5 (flV (fitX L CL TU br) (mfX L Z CL TU OW br) 0) t) = some ((), am_set (setRow W 4 5 (flV (fitX L CL TU br) (mfX L Z CL TU OW br) 0) t) 4 5 t x) := fun x => put_in _ (show t < 1024 by omega) (by decide)
    have fin : ∀ x, flV (fitX L CL TU br) (mfX L Z CL TU OW br) 0 t = x → am_set (setRow W 4 5 (flV (fitX L CL TU br) (mfX L Z CL TU OW br) 0) t) 4 5 t x = setRow W 4 5 (flV (fitX L CL TU br) (mfX L Z CL TU OW br) 0) (t + 1) := fun x hx => by rw [← hx]; rfl
    have e89 : ∀ x, flV (fitX L CL TU br) (mfX L Z CL TU OW br) 0 t = x → mX3_sortOut_89 (mX3_sortOut_59 n) (nI t) x (nI t) (setRow W 4 5 (flV (fitX L CL TU br) (mfX L Z CL TU OW br) 0) t) = mX3_sortOut_59 n (nI (t + 1)) (setRow W 4 5 (flV (fitX L CL TU br) (mfX L Z CL TU OW br) 0) (t + 1)) := fun x hx => by
      unfold mX3_sortOut_89
      rw [hput, cl_mk, nm_mk, ev, fin x hx]
    have e0 : flV (fitX L CL TU br) (mfX L Z CL TU OW br) 0 t = if fitX L CL TU br t = true then -9 else nI 0 := rfl
    dsimp only
    rw [mX3_sortOut_59, hTk.2.1, if_neg c1, X_isFit hTk hZ hC hL ht, cl_mk]
    cases q : fitX L CL TU br t
    · rw [if_pos (show nI (bN false) = 0 from rfl)]
      exact e89 0 (by rw [e0, q]; rfl)
    · rw [if_neg (show ¬ (nI (bN true) = 0) by decide)]
      exact e89 (-9) (by rw [e0, q]; rfl)
  · intro n
    have hTk : TX (setRow W 4 5 (flV (fitX L CL TU br) (mfX L Z CL TU OW br) 0) Z) L Z CL TU OW br wh := hT.row (fun j _ _ => by rw [setRow_row (Or.inr (by decide))]) (setRow_row (Or.inr (by decide)) Z) (setRow_row (Or.inr (by decide)) Z)
    dsimp only
    rw [mX3_sortOut_59, hTk.2.1, if_pos (nI_le (Nat.le_refl Z) (by omega)), pu_mk]
    rfl
end RS
