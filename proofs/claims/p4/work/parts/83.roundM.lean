/-! the model's rounds -/
def fitM (L mu my : Nat) (inn : Nat → Nat) (t : Nat) : Bool := if L = 2 ∨ L = 4 ∨ 5 < L then seeM L mu my inn t t else true
section RM
variable {W : AW} {nb mu my L : Nat} {inn : Nat → Nat} {hd : Nat → Bool}
theorem TYM.row {W2 : AW} {T : Nat} (h : TYM W nb mu my inn hd T) (e35 : W2.1 0 0 35 = W.1 0 0 35) (e44 : W2.1 0 0 44 = W.1 0 0 44) (e45 : W2.1 0 0 45 = W.1 0 0 45) (e39 : W2.1 0 39 = W.1 0 39) (e40 : W2.1 0 40 = W.1 0 40) (e41 : W2.1 0 41 = W.1 0 41) : TYM W2 nb mu my inn hd T := by
  unfold TYM
  rw [e35, e44, e45, e39, e40, e41]
  exact h
theorem TYM.r42 {T a : Nat} {f : Nat → Int32} (h : TYM W nb mu my inn hd T) (ha : 42 ≤ a) (k : Nat) : TYM (setRow W 0 a f k) nb mu my inn hd T :=
  h.row (by rw [setRow_row (Or.inr (by omega))]) (by rw [setRow_row (Or.inr (by omega))]) (by rw [setRow_row (Or.inr (by omega))]) (setRow_row (Or.inr (by omega)) k) (setRow_row (Or.inr (by omega)) k) (setRow_row (Or.inr (by omega)) k)
theorem pow_nb (hnb : nb ≤ 10) : 2 ^ nb ≤ 1024 := Nat.le_trans (Nat.pow_le_pow_right (by decide) hnb) (by decide)
theorem sh_nb (hnb : nb ≤ 10) : (1 : Int32) <<< (nI nb &&& 31) = nI (2 ^ nb) := by
  have : nI nb &&& 31 = nI (nb &&& 31) := nI_and nb 31
  rw [this]
  exact one_shl (by omega)
theorem setRow_K {w0 : AW} {a : Nat} {f : Nat → Int32} (h : KM w0 W) (ha : 16 ≤ a) : ∀ k, KM w0 (setRow W 0 a f k)
  | 0 => h
  | k + 1 => (setRow_K h ha k).set (Or.inl ha)
theorem M_self (hL : L < 8) : mX6_rounds (nI L) W = mX6_rounds_23 (nI L) (nI (bN (decide (L = 2 ∨ L = 4 ∨ 5 < L)))) FU 0 W := by
  unfold mX6_rounds mX6_rounds_15 mX6_rounds_20
  match L, hL with
  | 0, _ => rfl
  | 1, _ => rfl
  | 2, _ => rfl
  | 3, _ => rfl
  | 4, _ => rfl
  | 5, _ => rfl
  | 6, _ => rfl
  | 7, _ => rfl
theorem M_fit23 (h : TYM W nb mu my inn hd (2 ^ nb)) (hnb : nb ≤ 10) (hmu : mu < 2 ^ 10) (hmy : my < 2 ^ 10) (hL : L < 8) (mf : (Nat → Bool) → Nat → Bool) : mX6_rounds_23 (nI L) (nI (bN (decide (L = 2 ∨ L = 4 ∨ 5 < L)))) FU 0 W = mX6_rounds_70 (nI L) FU 0 1 (setRow W 0 42 (flV (fitM L mu my inn) mf 0) (2 ^ nb)) := by
  have hpw := pow_nb hnb
  refine loopE (fun n (s : Int32 × AW) => mX6_rounds_23 (nI L) (nI (bN (decide (L = 2 ∨ L = 4 ∨ 5 < L)))) n s.1 s.2) (2 ^ nb) (fun k => (nI k, setRow W 0 42 (flV (fitM L mu my inn) mf 0) k)) _ ?_ ?_ FU 0 (Nat.zero_le _) (FU_gt (by omega))
  · intro n t ht
    have hT := h.r42 (f := flV (fitM L mu my inn) mf 0) (Nat.le_refl 42) t
    have ev : nI t + 1 = nI (t + 1) := nI_add t 1
    have e0 : flV (fitM L mu my inn) mf 0 t = if fitM L mu my inn t = true then -9 else nI 0 := rfl
    have fin : ∀ x, flV (fitM L mu my inn) mf 0 t = x → am_set (setRow W 0 42 (flV (fitM L mu my inn) mf 0) t) 0 42 t x = setRow W 0 42 (flV (fitM L mu my inn) mf 0) (t + 1) := fun x hx => by rw [← hx]; rfl
    have e58 : ∀ x, flV (fitM L mu my inn) mf 0 t = x → mX6_rounds_58 (mX6_rounds_23 (nI L) (nI (bN (decide (L = 2 ∨ L = 4 ∨ 5 < L)))) n) (nI L) (nI (bN (decide (L = 2 ∨ L = 4 ∨ 5 < L)))) (nI t) x (nI t) (setRow W 0 42 (flV (fitM L mu my inn) mf 0) t) = mX6_rounds_23 (nI L) (nI (bN (decide (L = 2 ∨ L = 4 ∨ 5 < L)))) n (nI (t + 1)) (setRow W 0 42 (flV (fitM L mu my inn) mf 0) (t + 1)) := fun x hx => by
      unfold mX6_rounds_58
      rw [wr_in (show t < 1024 by omega) (by decide), nm_mk, ev, fin x hx]
    have ef : fitM L mu my inn t = if L = 2 ∨ L = 4 ∨ 5 < L then seeM L mu my inn t t else true := rfl
    dsimp only
    rw [mX6_rounds_23, hT.1, sh_nb hnb, if_neg (nI_ge ht (by omega))]
    unfold mX6_rounds_56
    by_cases q : L = 2 ∨ L = 4 ∨ 5 < L
    · rw [decide_eq_true q] at e58 ⊢
      rw [if_neg (show ¬ (nI (bN true) = 0) by decide), M_maySee hT hpw hmu hmy hL ht ht, cl_mk]
      rw [if_pos q] at ef
      cases q2 : seeM L mu my inn t t
      · rw [if_neg (show ¬ (nI (bN false) ≠ 0) from fun z => z rfl)]
        exact e58 0 (by rw [e0, ef, q2]; rfl)
      · rw [if_pos (show nI (bN true) ≠ 0 by decide)]
        exact e58 (-9) (by rw [e0, ef, q2]; rfl)
    · rw [decide_eq_false q] at e58 ⊢
      rw [if_pos (show nI (bN false) = 0 from rfl)]
      rw [if_neg q] at ef
      exact e58 (-9) (by rw [e0, ef]; rfl)
  · intro n
    have hT := h.r42 (f := flV (fitM L mu my inn) mf 0) (Nat.le_refl 42) (2 ^ nb)
    dsimp only
    rw [mX6_rounds_23, hT.1, sh_nb hnb, if_pos (nI_le (Nat.le_refl _) (by omega))]
/-- one round -/
def rnW (W : AW) (th mt : Nat → Bool) (fl' : Nat → Int32) (Z : Nat) : AW := setRow (setRow W 0 43 (fun t => nI (bN (th t && mt t))) Z) 0 42 fl' Z
theorem nar_B (x : Bool) : vp_nar .boolean (nI (bN x)) = nI (bN x) := by cases x <;> decide
theorem nbN_or (a b : Bool) : nI (bN a) ||| nI (bN b) = nI (bN (a || b)) := by cases a <;> cases b <;> decide
theorem M_round (h : TYM W nb mu my inn hd (2 ^ nb)) (hnb : nb ≤ 10) (hmu : mu < 2 ^ 10) (hmy : my < 2 ^ 10) (hL : L < 8) {fit : Nat → Bool} {r : Nat} (hr : r < 2000) (hF : ∀ u, u < 2 ^ nb → W.1 0 42 u = flV fit (mfM L mu my inn (2 ^ nb)) r u) {k70 : Int32 → Int32 → AW → Option (Int32 × AW)} :
    mX6_rounds_81 k70 (nI L) (nI r) FU 0 0 W = k70 (nI (r + bN (anyN fit (mfM L mu my inn (2 ^ nb)) (2 ^ nb) r))) (nI (bN (anyN fit (mfM L mu my inn (2 ^ nb)) (2 ^ nb) r))) (rnW W (thN fit (mfM L mu my inn (2 ^ nb)) r) (mfM L mu my inn (2 ^ nb) (thN fit (mfM L mu my inn (2 ^ nb)) r)) (flV fit (mfM L mu my inn (2 ^ nb)) (r + 1)) (2 ^ nb)) := by
  have hpw := pow_nb hnb
  have hth := flV_th (fit := fit) (mf := mfM L mu my inn (2 ^ nb)) (fun _ _ => trivial) r (by omega)
  have efl : ∀ t, flV fit (mfM L mu my inn (2 ^ nb)) (r + 1) t = if thN fit (mfM L mu my inn (2 ^ nb)) r t = true ∧ mfM L mu my inn (2 ^ nb) (thN fit (mfM L mu my inn (2 ^ nb)) r) t = true then nI (r + 1) else flV fit (mfM L mu my inn (2 ^ nb)) r t := fun _ => rfl
  have ean : anyN fit (mfM L mu my inn (2 ^ nb)) (2 ^ nb) r = exB (fun t => thN fit (mfM L mu my inn (2 ^ nb)) r t && mfM L mu my inn (2 ^ nb) (thN fit (mfM L mu my inn (2 ^ nb)) r) t) (2 ^ nb) := rfl
  generalize hfl' : flV fit (mfM L mu my inn (2 ^ nb)) (r + 1) = fl' at *
  generalize hfl : flV fit (mfM L mu my inn (2 ^ nb)) r = fl at *
  generalize hthe : thN fit (mfM L mu my inn (2 ^ nb)) r = th at *
  generalize hmt : mfM L mu my inn (2 ^ nb) th = mt at *
  have e81 : mX6_rounds_81 k70 (nI L) (nI r) FU 0 0 W = (if nI (bN (exB (fun t => th t && mt t) (2 ^ nb))) = 0 then mX6_rounds_152 k70 (nI L) (nI (bN (exB (fun t => th t && mt t) (2 ^ nb)))) 0 (nI r) (setRow W 0 43 (fun t => nI (bN (th t && mt t))) (2 ^ nb)) else mX6_rounds_152 k70 (nI L) (nI (bN (exB (fun t => th t && mt t) (2 ^ nb)))) 1 (nI r) (setRow W 0 43 (fun t => nI (bN (th t && mt t))) (2 ^ nb))) := by
    refine loopE (fun n (s : Int32 × Int32 × AW) => mX6_rounds_81 k70 (nI L) (nI r) n s.1 s.2.1 s.2.2) (2 ^ nb) (fun k => (nI (bN (exB (fun t => th t && mt t) k)), nI k, setRow W 0 43 (fun t => nI (bN (th t && mt t))) k)) _ ?_ ?_ FU 0 (Nat.zero_le _) (FU_gt (by omega))
    · intro n t ht
      have hT := h.r42 (f := fun t => nI (bN (th t && mt t))) (show 42 ≤ 43 by decide) t
      have ev : nI t + 1 = nI (t + 1) := nI_add t 1
      have h42 : ∀ u, u < 2 ^ nb → decide ((setRow W 0 43 (fun t => nI (bN (th t && mt t))) t).1 0 42 u = -9) = th u := fun u hu => by
        rw [setRow_row (Or.inr (by decide)), hF u hu]
        have := (hth u).1
        cases q : th u
        · exact decide_eq_false (fun z => by rw [this.mp z] at q; cases q)
        · exact decide_eq_true (this.mpr q)
      have eis : mX6_isThere (nI t) (setRow W 0 43 (fun t => nI (bN (th t && mt t))) t) = some (nI (bN (th t)), setRow W 0 43 (fun t => nI (bN (th t && mt t))) t) := by
        rw [M_isThere (show t < 1024 by omega) rfl, h42 t ht]
      have efa := M_isFalling hT hnb hmu hmy hL ht th h42
      rw [hmt] at efa
      have e122 : ∀ (s0 : Int32), s0 = nI (bN (th t && mt t)) → mX6_rounds_122 k70 (mX6_rounds_81 k70 (nI L) (nI r) n) (nI L) (nI r) (nI (bN (exB (fun t => th t && mt t) t))) (nI t) s0 (nI t) (setRow W 0 43 (fun t => nI (bN (th t && mt t))) t) = mX6_rounds_81 k70 (nI L) (nI r) n (nI (bN (exB (fun t => th t && mt t) (t + 1)))) (nI (t + 1)) (setRow W 0 43 (fun t => nI (bN (th t && mt t))) (t + 1)) := fun s0 hs0 => by
        unfold mX6_rounds_122
        rw [hs0, nar_B, wr_in (show t < 1024 by omega) (by decide), rd_in (show t < 1024 by omega) (by decide), am_get_self, nm_mk, nm_mk, nbN_or, ev]
        rfl
      dsimp only
      rw [mX6_rounds_81, hT.1, sh_nb hnb, if_neg (nI_ge ht (by omega)), eis, cl_mk]
      unfold mX6_rounds_121
      cases q : th t
      · rw [if_pos (show nI (bN false) = 0 from rfl)]
        exact e122 0 (by rw [q]; rfl)
      · rw [if_neg (show ¬ (nI (bN true) = 0) by decide), efa, cl_mk]
        cases q2 : mt t
        · rw [if_pos (show nI (bN false) = 0 from rfl)]
          exact e122 0 (by rw [q, q2]; rfl)
        · rw [if_neg (show ¬ (nI (bN true) = 0) by decide)]
          exact e122 1 (by rw [q, q2]; rfl)
    · intro n
      have hT := h.r42 (f := fun t => nI (bN (th t && mt t))) (show 42 ≤ 43 by decide) (2 ^ nb)
      dsimp only
      rw [mX6_rounds_81, hT.1, sh_nb hnb, if_pos (nI_le (Nat.le_refl _) (by omega))]
  rw [e81, ean]
  have e157 : mX6_rounds_157 k70 (nI L) (nI (r + bN (exB (fun t => th t && mt t) (2 ^ nb)))) (nI (bN (exB (fun t => th t && mt t) (2 ^ nb)))) FU 0 (setRow W 0 43 (fun t => nI (bN (th t && mt t))) (2 ^ nb)) = k70 (nI (r + bN (exB (fun t => th t && mt t) (2 ^ nb)))) (nI (bN (exB (fun t => th t && mt t) (2 ^ nb)))) (rnW W th mt fl' (2 ^ nb)) := by
    refine loopE (fun n (s : Int32 × AW) => mX6_rounds_157 k70 (nI L) (nI (r + bN (exB (fun t => th t && mt t) (2 ^ nb)))) (nI (bN (exB (fun t => th t && mt t) (2 ^ nb)))) n s.1 s.2) (2 ^ nb) (fun k => (nI k, setRow (setRow W 0 43 (fun t => nI (bN (th t && mt t))) (2 ^ nb)) 0 42 fl' k)) _ ?_ ?_ FU 0 (Nat.zero_le _) (FU_gt (by omega))
    · intro n t ht
      have hT := (h.r42 (f := fun t => nI (bN (th t && mt t))) (show 42 ≤ 43 by decide) (2 ^ nb)).r42 (f := fl') (Nat.le_refl 42) t
      have ev : nI t + 1 = nI (t + 1) := nI_add t 1
      have e43 : (setRow (setRow W 0 43 (fun t => nI (bN (th t && mt t))) (2 ^ nb)) 0 42 fl' t).1 0 43 t = nI (bN (th t && mt t)) := by rw [setRow_row (Or.inr (by decide)), setRow_in _ ht]
      have e42 : (setRow (setRow W 0 43 (fun t => nI (bN (th t && mt t))) (2 ^ nb)) 0 42 fl' t).1 0 42 t = fl t := by rw [setRow_out t (Nat.le_refl t), setRow_row (Or.inr (by decide)), hF t ht]
      have e195 : ∀ (s0 : Int32), s0 = fl' t → mX6_rounds_195 k70 (mX6_rounds_157 k70 (nI L) (nI (r + bN (exB (fun t => th t && mt t) (2 ^ nb)))) (nI (bN (exB (fun t => th t && mt t) (2 ^ nb)))) n) (nI L) (nI (r + bN (exB (fun t => th t && mt t) (2 ^ nb)))) (nI (bN (exB (fun t => th t && mt t) (2 ^ nb)))) (nI t) s0 (nI t) (setRow (setRow W 0 43 (fun t => nI (bN (th t && mt t))) (2 ^ nb)) 0 42 fl' t) = mX6_rounds_157 k70 (nI L) (nI (r + bN (exB (fun t => th t && mt t) (2 ^ nb)))) (nI (bN (exB (fun t => th t && mt t) (2 ^ nb)))) n (nI (t + 1)) (setRow (setRow W 0 43 (fun t => nI (bN (th t && mt t))) (2 ^ nb)) 0 42 fl' (t + 1)) := fun s0 hs0 => by
        unfold mX6_rounds_195
        rw [hs0, wr_in (show t < 1024 by omega) (by decide), nm_mk, ev]
        rfl
      dsimp only
      rw [mX6_rounds_157, hT.1, sh_nb hnb, if_neg (nI_ge ht (by omega)), rd_in (show t < 1024 by omega) (by decide), e43]
      cases q : (th t && mt t)
      · rw [if_pos (show nI (bN false) = 0 from rfl), rd_in (show t < 1024 by omega) (by decide), e42]
        refine e195 _ ?_
        rw [efl, if_neg (fun z => by rw [z.1, z.2] at q; cases q)]
      · have hany : exB (fun t => th t && mt t) (2 ^ nb) = true := exB_iff.mpr ⟨t, ht, q⟩
        rw [if_neg (show ¬ (nI (bN true) = 0) by decide)]
        refine e195 _ ?_
        rw [Bool.and_eq_true] at q
        rw [efl, if_pos q, hany]
        rfl
    · intro n
      have hT := (h.r42 (f := fun t => nI (bN (th t && mt t))) (show 42 ≤ 43 by decide) (2 ^ nb)).r42 (f := fl') (Nat.le_refl 42) (2 ^ nb)
      dsimp only
      rw [mX6_rounds_157, hT.1, sh_nb hnb, if_pos (nI_le (Nat.le_refl _) (by omega))]
      rfl
  unfold mX6_rounds_152
  cases q : exB (fun t => th t && mt t) (2 ^ nb)
  · rw [q] at e157
    rw [if_pos (show nI (bN false) = 0 from rfl), nm_mk, show nI r + 0 = nI (r + bN false) from nI_add r 0]
    exact e157
  · rw [q] at e157
    rw [if_neg (show ¬ (nI (bN true) = 0) by decide), nm_mk, show nI r + 1 = nI (r + bN true) from nI_add r 1]
    exact e157
theorem rnW_K {w0 : AW} {th mt : Nat → Bool} {fl' : Nat → Int32} {Z : Nat} (h : KM w0 W) : KM w0 (rnW W th mt fl' Z) := setRow_K (setRow_K h (by decide) Z) (by decide) Z
theorem rnW_T {T : Nat} {th mt : Nat → Bool} {fl' : Nat → Int32} {Z : Nat} (h : TYM W nb mu my inn hd T) : TYM (rnW W th mt fl' Z) nb mu my inn hd T := (h.r42 (by decide) Z).r42 (by decide) Z
theorem M_r70 {w0 : AW} {fit : Nat → Bool} {rho : Nat} (hnb : nb ≤ 10) (hmu : mu < 2 ^ 10) (hmy : my < 2 ^ 10) (hL : L < 8) (hrho : rho ≤ 2 ^ nb) (hend : anyN fit (mfM L mu my inn (2 ^ nb)) (2 ^ nb) rho = false) (hgo : ∀ s, s < rho → anyN fit (mfM L mu my inn (2 ^ nb)) (2 ^ nb) s = true) : ∀ (e r n : Nat) (W : AW), rho = r + e → e + 1 < n → KM w0 W → TYM W nb mu my inn hd (2 ^ nb) → (∀ u, u < 2 ^ nb → W.1 0 42 u = flV fit (mfM L mu my inn (2 ^ nb)) r u) →
    ∃ W2, mX6_rounds_70 (nI L) n (nI r) 1 W = some (nI rho, W2) ∧ KM w0 W2 ∧ TYM W2 nb mu my inn hd (2 ^ nb) ∧ (∀ u, u < 2 ^ nb → W2.1 0 42 u = flV fit (mfM L mu my inn (2 ^ nb)) rho u) := by
  have hpw := pow_nb hnb
  intro e
  induction e with
  | zero =>
    intro r n W he hn hK hT hF
    obtain ⟨n, rfl⟩ : ∃ q, n = q + 2 := ⟨n - 2, by omega⟩
    have e2 : r = rho := by omega
    subst e2
    have er := M_round hT hnb hmu hmy hL (fit := fit) (r := r) (by omega) hF (k70 := mX6_rounds_70 (nI L) (n + 1))
    refine ⟨rnW W (thN fit (mfM L mu my inn (2 ^ nb)) r) (mfM L mu my inn (2 ^ nb) (thN fit (mfM L mu my inn (2 ^ nb)) r)) (flV fit (mfM L mu my inn (2 ^ nb)) (r + 1)) (2 ^ nb), ?_, rnW_K hK, rnW_T hT, fun u hu => ?_⟩
    · rw [mX6_rounds_70, if_neg (show ¬ ((1 : Int32) = 0) by decide), er, hend, mX6_rounds_70, if_pos (show nI (bN false) = 0 from rfl)]
      rfl
    · show (setRow _ 0 42 _ (2 ^ nb)).1 0 42 u = _
      rw [setRow_in _ hu]
      show (if thN fit (mfM L mu my inn (2 ^ nb)) r u = true ∧ mfM L mu my inn (2 ^ nb) (thN fit (mfM L mu my inn (2 ^ nb)) r) u = true then nI (r + 1) else flV fit (mfM L mu my inn (2 ^ nb)) r u) = _
      refine if_neg (fun z => ?_)
      have : anyN fit (mfM L mu my inn (2 ^ nb)) (2 ^ nb) r = true := exB_iff.mpr ⟨u, hu, by rw [z.1, z.2]; rfl⟩
      rw [hend] at this
      cases this
  | succ e ih =>
    intro r n W he hn hK hT hF
    obtain ⟨n, rfl⟩ : ∃ q, n = q + 1 := ⟨n - 1, by omega⟩
    have er := M_round hT hnb hmu hmy hL (fit := fit) (r := r) (by omega) hF (k70 := mX6_rounds_70 (nI L) n)
    rw [hgo r (by omega)] at er
    obtain ⟨W2, f1, f2⟩ := ih (r + 1) n (rnW W (thN fit (mfM L mu my inn (2 ^ nb)) r) (mfM L mu my inn (2 ^ nb) (thN fit (mfM L mu my inn (2 ^ nb)) r)) (flV fit (mfM L mu my inn (2 ^ nb)) (r + 1)) (2 ^ nb)) (by omega) (by omega) (rnW_K hK) (rnW_T hT) (fun u hu => setRow_in _ hu)
    refine ⟨W2, ?_, f2⟩
    rw [mX6_rounds_70, if_neg (show ¬ ((1 : Int32) = 0) by decide), er]
    exact f1
theorem M_rounds (h : TYM W nb mu my inn hd (2 ^ nb)) (hnb : nb ≤ 10) (hmu : mu < 2 ^ 10) (hmy : my < 2 ^ 10) (hL : L < 8) {rho : Nat} (hrho : rho ≤ 2 ^ nb) (hend : anyN (fitM L mu my inn) (mfM L mu my inn (2 ^ nb)) (2 ^ nb) rho = false) (hgo : ∀ s, s < rho → anyN (fitM L mu my inn) (mfM L mu my inn (2 ^ nb)) (2 ^ nb) s = true) :
    ∃ W2, mX6_rounds (nI L) W = some (nI rho, W2) ∧ KM W W2 ∧ TYM W2 nb mu my inn hd (2 ^ nb) ∧ (∀ u, u < 2 ^ nb → W2.1 0 42 u = flV (fitM L mu my inn) (mfM L mu my inn (2 ^ nb)) rho u) := by
  have hpw := pow_nb hnb
  obtain ⟨W2, f1, f2⟩ := M_r70 (w0 := W) (hd := hd) hnb hmu hmy hL hrho hend hgo rho 0 FU (setRow W 0 42 (flV (fitM L mu my inn) (mfM L mu my inn (2 ^ nb)) 0) (2 ^ nb)) (by omega) (FU_gt (by omega)) (setRow_K (KM.rf W) (by decide) _) (h.r42 (by decide) _) (fun u hu => setRow_in _ hu)
  refine ⟨W2, ?_, f2⟩
  rw [M_self hL, M_fit23 h hnb hmu hmy hL (mfM L mu my inn (2 ^ nb))]
  exact f1
/-- whether it holds at all that stay -/
def lawM (th hd : Nat → Bool) (Z : Nat) : Bool := allT (fun t => !th t || hd t) Z
theorem nbN_and (a b : Bool) : nI (bN a) &&& nI (bN b) = nI (bN (a && b)) := by cases a <;> cases b <;> decide
theorem M_isLaw (h35 : W.1 0 0 35 = nI nb) (hnb : nb ≤ 10) (h41 : ∀ t, t < 2 ^ nb → W.1 0 41 t = nI (bN (hd t))) {th : Nat → Bool} (hth : ∀ u, u < 2 ^ nb → decide (W.1 0 42 u = -9) = th u) : mX6_isLaw W = some (nI (bN (lawM th hd (2 ^ nb))), W) := by
  have hpw := pow_nb hnb
  unfold mX6_isLaw lawM
  refine loopE (fun n (s : Int32 × Int32) => mX6_isLaw_4 n s.1 s.2 W) (2 ^ nb) (fun k => (nI (bN (allT (fun t => !th t || hd t) k)), nI k)) _ ?_ ?_ FU 0 (Nat.zero_le _) (FU_gt (by omega))
  · intro n t ht
    have ev : nI t + 1 = nI (t + 1) := nI_add t 1
    have eis : mX6_isThere (nI t) W = some (nI (bN (th t)), W) := by rw [M_isThere (show t < 1024 by omega) rfl, hth t ht]
    have e37 : ∀ x : Bool, x = (!th t || hd t) → mX6_isLaw_37 (mX6_isLaw_4 n) (nI t) (nI (bN x)) (nI (bN (allT (fun t => !th t || hd t) t))) W = mX6_isLaw_4 n (nI (bN (allT (fun t => !th t || hd t) (t + 1)))) (nI (t + 1)) W := fun x hx => by
      unfold mX6_isLaw_37
      rw [nm_mk, nm_mk, nbN_and, ev, hx]
      rfl
    dsimp only
    rw [mX6_isLaw_4, h35, sh_nb hnb, if_neg (nI_ge ht (by omega)), eis, cl_mk]
    unfold mX6_isLaw_32
    cases q : th t
    · rw [if_pos (show nI (bN false) = 0 from rfl)]
      exact e37 true (by rw [q]; rfl)
    · rw [if_neg (show ¬ (nI (bN true) = 0) by decide), rd_in (show t < 1024 by omega) (by decide), h41 t ht]
      cases q2 : hd t
      · rw [if_pos (show nI (bN false) = 0 from rfl)]
        exact e37 false (by rw [q, q2]; rfl)
      · rw [if_neg (show ¬ (nI (bN true) = 0) by decide)]
        exact e37 true (by rw [q, q2]; rfl)
  · intro n
    dsimp only
    rw [mX6_isLaw_4, h35, sh_nb hnb, if_pos (nI_le (Nat.le_refl _) (by omega)), zr_B]
end RM
