/-! rounds in which types fall (both sides), and the class's -/
def thN (fit : Nat → Bool) (mf : (Nat → Bool) → Nat → Bool) : Nat → Nat → Bool
  | 0 => fit
  | r + 1 => fun t => thN fit mf r t && !mf (thN fit mf r) t
def flV (fit : Nat → Bool) (mf : (Nat → Bool) → Nat → Bool) : Nat → Nat → Int32
  | 0 => fun t => if fit t = true then -9 else nI 0
  | r + 1 => fun t => if thN fit mf r t = true ∧ mf (thN fit mf r) t = true then nI (r + 1) else flV fit mf r t
section FL
variable {fit : Nat → Bool} {mf : (Nat → Bool) → Nat → Bool}
theorem nI_n9 {k : Nat} (h : k < 2 ^ 31) : nI k ≠ -9 := fun z => by
  have := nI_pos h
  rw [z] at this
  exact this (by decide)
theorem flV_th (hr : ∀ r, r < 2 ^ 20 → True) : ∀ r, r < 2 ^ 20 → ∀ t, (flV fit mf r t = -9 ↔ thN fit mf r t = true) ∧ (flV fit mf r t = -9 ∨ ∃ s, s ≤ r ∧ flV fit mf r t = nI s) := by
  intro r
  induction r with
  | zero =>
    intro _ t
    show ((if fit t = true then (-9 : Int32) else nI 0) = -9 ↔ fit t = true) ∧ ((if fit t = true then (-9 : Int32) else nI 0) = -9 ∨ ∃ s, s ≤ 0 ∧ (if fit t = true then (-9 : Int32) else nI 0) = nI s)
    by_cases h : fit t = true
    · rw [if_pos h]
      exact ⟨⟨fun _ => h, fun _ => rfl⟩, Or.inl rfl⟩
    · rw [if_neg h]
      exact ⟨⟨fun z => absurd z (nI_n9 (by decide)), fun z => absurd z h⟩, Or.inr ⟨0, Nat.le_refl 0, rfl⟩⟩
  | succ r ih =>
    intro h20 t
    obtain ⟨i1, i2⟩ := ih (by omega) t
    have e1 : flV fit mf (r + 1) t = if thN fit mf r t = true ∧ mf (thN fit mf r) t = true then nI (r + 1) else flV fit mf r t := rfl
    have e2 : thN fit mf (r + 1) t = (thN fit mf r t && !mf (thN fit mf r) t) := rfl
    rw [e1, e2]
    by_cases h : thN fit mf r t = true ∧ mf (thN fit mf r) t = true
    · rw [if_pos h, h.1, h.2]
      exact ⟨⟨fun z => absurd z (nI_n9 (by omega)), fun z => by cases z⟩, Or.inr ⟨r + 1, Nat.le_refl _, rfl⟩⟩
    · rw [if_neg h]
      refine ⟨?_, ?_⟩
      · rw [i1]
        cases q : thN fit mf r t
        · exact ⟨(fun z => by cases z), (fun z => by cases z)⟩
        · cases q2 : mf (thN fit mf r) t
          · exact ⟨fun _ => rfl, fun _ => rfl⟩
          · exact absurd ⟨q, q2⟩ h
      · rcases i2 with i2 | ⟨s, s1, s2⟩
        · exact Or.inl i2
        · exact Or.inr ⟨s, by omega, s2⟩
def anyN (fit : Nat → Bool) (mf : (Nat → Bool) → Nat → Bool) (Z r : Nat) : Bool := exB (fun t => thN fit mf r t && mf (thN fit mf r) t) Z
theorem any_cnt {Z r : Nat} (h : ∀ s, s < r → anyN fit mf Z s = true) : cntF (thN fit mf r) Z + r ≤ Z := by
  induction r with
  | zero => exact cntF_le _ Z
  | succ r ih =>
    have i1 := ih (fun s hs => h s (by omega))
    obtain ⟨t, t1, t2⟩ := exB_iff.mp (h r (Nat.lt_succ_self r))
    rw [Bool.and_eq_true] at t2
    have := cntF_strict (h := thN fit mf (r + 1)) (g := thN fit mf r) t1 (fun q _ z => by
      have : (thN fit mf r q && !mf (thN fit mf r) q) = true := z
      rw [Bool.and_eq_true] at this
      exact this.1) (by
      show (thN fit mf r t && !mf (thN fit mf r) t) = false
      rw [t2.1, t2.2]
      rfl) t2.1
    omega
theorem any_end (Z : Nat) : ∃ r, r ≤ Z ∧ anyN fit mf Z r = false ∧ ∀ s, s < r → anyN fit mf Z s = true := by
  have hex : ∃ r, anyN fit mf Z r = false := by
    apply Classical.byContradiction
    intro hno
    have : ∀ s, anyN fit mf Z s = true := fun s => by
      cases q : anyN fit mf Z s
      · exact absurd ⟨s, q⟩ hno
      · rfl
    have := any_cnt (Z := Z) (r := Z + 1) (fun s _ => this s)
    omega
  obtain ⟨r, h1, h2⟩ := pk_least _ hex
  have h3 : ∀ s, s < r → anyN fit mf Z s = true := fun s hs => by
    cases q : anyN fit mf Z s
    · exact absurd q (h2 s hs)
    · rfl
  have := any_cnt h3
  exact ⟨r, by omega, h1, h3⟩
end FL
theorem am_same {w : AW} {o a i : Nat} {x : Int32} (h : w.1 o a i = x) : am_set w o a i x = w := by
  unfold am_set
  refine Prod.ext ?_ rfl
  funext o' a' i'
  show (if o' = o ∧ a' = a ∧ i' = i then x else w.1 o' a' i') = w.1 o' a' i'
  by_cases q : o' = o ∧ a' = a ∧ i' = i
  · rw [if_pos q, q.1, q.2.1, q.2.2, h]
  · rw [if_neg q]
section RX
variable {W : AW} {L Z CL TU OW : Nat} {br wh : Nat → Nat}
def mfX (L Z CL TU OW : Nat) (br : Nat → Nat) (th : Nat → Bool) (t : Nat) : Bool := mfB (fun u => th u && seeX L CL TU br t u) br (sdiff OW (clN CL TU t)) (decide (L = 1)) Z
def afW (W : AW) (fit : Nat → Bool) (mf : (Nat → Bool) → Nat → Bool) (r k : Nat) : AW := setRow W 4 5 (flV fit mf (r + 1)) k
theorem TX.row {W W2 : AW} (h : TX W L Z CL TU OW br wh) (e0 : ∀ j, 6 ≤ j → j ≤ 10 → W2.1 4 0 j = W.1 4 0 j) (e3 : W2.1 4 3 = W.1 4 3) (e4 : W2.1 4 4 = W.1 4 4) : TX W2 L Z CL TU OW br wh := by
  unfold TX
  rw [e0 6 (by decide) (by decide), e0 7 (by decide) (by decide), e0 8 (by decide) (by decide), e0 9 (by decide) (by decide), e0 10 (by decide) (by decide), e3, e4]
  exact h
theorem X_anyFall (h : TX W L Z CL TU OW br wh) (hZ : Z ≤ 1024) (hC : CL < 2 ^ 10) (hO : OW < 2 ^ 10) (hL : L < 9) {fit : Nat → Bool} {r : Nat} (hr : r < 2000) (hF : ∀ u, u < Z → W.1 4 5 u = flV fit (mfX L Z CL TU OW br) r u) :
    mX3_anyFall (nI (r + 1)) W = some (nI (bN (anyN fit (mfX L Z CL TU OW br) Z r)), afW W fit (mfX L Z CL TU OW br) r Z) := by
  have hth := flV_th (fit := fit) (mf := mfX L Z CL TU OW br) (fun _ _ => trivial) r (by omega)
  unfold mX3_anyFall anyN
  have e0 : nI (bN (exB (fun t => thN fit (mfX L Z CL TU OW br) r t && mfX L Z CL TU OW br (thN fit (mfX L Z CL TU OW br) r) t) 0)) = nI 0 := rfl
  have := loopE (fun n (s : Int32 × Int32 × AW) => mX3_anyFall_4 (nI (r + 1)) n s.1 s.2.1 s.2.2) Z (fun k => (nI (bN (exB (fun t => thN fit (mfX L Z CL TU OW br) r t && mfX L Z CL TU OW br (thN fit (mfX L Z CL TU OW br) r) t) k)), nI k, afW W fit (mfX L Z CL TU OW br) r k)) (some (nI (bN (exB (fun t => thN fit (mfX L Z CL TU OW br) r t && mfX L Z CL TU OW br (thN fit (mfX L Z CL TU OW br) r) t) Z)), afW W fit (mfX L Z CL TU OW br) r Z)) ?_ ?_ FU 0 (Nat.zero_le _) (FU_gt (by omega))
  · exact this
  · intro n t ht
    have c1 : ¬ nI Z ≤ nI t := nI_ge ht (by omega)
    have hT : TX (afW W fit (mfX L Z CL TU OW br) r t) L Z CL TU OW br wh := h.row (fun j _ _ => by unfold afW; rw [setRow_row (Or.inr (by decide))]) (by unfold afW; rw [setRow_row (Or.inr (by decide))]) (by unfold afW; rw [setRow_row (Or.inr (by decide))])
    have hrow : (afW W fit (mfX L Z CL TU OW br) r t).1 4 5 t = flV fit (mfX L Z CL TU OW br) r t := by
      unfold afW
      rw [setRow_out t (Nat.le_refl t)]
      exact hF t ht
    have hthere : ∀ u, u < Z → decide ((afW W fit (mfX L Z CL TU OW br) r t).1 4 5 u = -9 ∨ (afW W fit (mfX L Z CL TU OW br) r t).1 4 5 u = nI (r + 1)) = thN fit (mfX L Z CL TU OW br) r u := fun u hu => by
      obtain ⟨i1, i2⟩ := hth u
      have nr : flV fit (mfX L Z CL TU OW br) r u ≠ nI (r + 1) := fun z => by
        rcases i2 with i2 | ⟨s, s1, s2⟩
        · rw [i2] at z; exact nI_n9 (by omega) z.symm
        · rw [s2] at z
          have := (nI_eq (by omega) (by omega)).mp z
          omega
      have base : decide (flV fit (mfX L Z CL TU OW br) r u = -9 ∨ flV fit (mfX L Z CL TU OW br) r u = nI (r + 1)) = thN fit (mfX L Z CL TU OW br) r u := by
        cases q : thN fit (mfX L Z CL TU OW br) r u
        · refine decide_eq_false (fun z => ?_)
          rcases z with z | z
          · rw [i1.mp z] at q; cases q
          · exact nr z
        · exact decide_eq_true (Or.inl (i1.mpr q))
      by_cases hut : u < t
      · have e : (afW W fit (mfX L Z CL TU OW br) r t).1 4 5 u = flV fit (mfX L Z CL TU OW br) (r + 1) u := setRow_in t hut
        rw [e]
        show decide ((if thN fit (mfX L Z CL TU OW br) r u = true ∧ mfX L Z CL TU OW br (thN fit (mfX L Z CL TU OW br) r) u = true then nI (r + 1) else flV fit (mfX L Z CL TU OW br) r u) = -9 ∨ (if thN fit (mfX L Z CL TU OW br) r u = true ∧ mfX L Z CL TU OW br (thN fit (mfX L Z CL TU OW br) r) u = true then nI (r + 1) else flV fit (mfX L Z CL TU OW br) r u) = nI (r + 1)) = _
        by_cases q : thN fit (mfX L Z CL TU OW br) r u = true ∧ mfX L Z CL TU OW br (thN fit (mfX L Z CL TU OW br) r) u = true
        · rw [if_pos q, q.1]
          exact decide_eq_true (Or.inr rfl)
        · rw [if_neg q]
          exact base
      · have e : (afW W fit (mfX L Z CL TU OW br) r t).1 4 5 u = flV fit (mfX L Z CL TU OW br) r u := by
          unfold afW
          rw [setRow_out t (by omega)]
          exact hF u hu
        rw [e]
        exact base
    have emf := X_mustFall (R := r + 1) hT hZ hC hO hL ht (thN fit (mfX L Z CL TU OW br) r) hthere
    have emf' : mX3_mustFall (nI t) (nI (r + 1)) (afW W fit (mfX L Z CL TU OW br) r t) = some (nI (bN (mfX L Z CL TU OW br (thN fit (mfX L Z CL TU OW br) r) t)), afW W fit (mfX L Z CL TU OW br) r t) := emf
    have ev : nI t + 1 = nI (t + 1) := nI_add t 1
    have eex : exB (fun t => thN fit (mfX L Z CL TU OW br) r t && mfX L Z CL TU OW br (thN fit (mfX L Z CL TU OW br) r) t) (t + 1) = (exB (fun t => thN fit (mfX L Z CL TU OW br) r t && mfX L Z CL TU OW br (thN fit (mfX L Z CL TU OW br) r) t) t || (thN fit (mfX L Z CL TU OW br) r t && mfX L Z CL TU OW br (thN fit (mfX L Z CL TU OW br) r) t)) := rfl
    have keep : flV fit (mfX L Z CL TU OW br) (r + 1) t = flV fit (mfX L Z CL TU OW br) r t → afW W fit (mfX L Z CL TU OW br) r (t + 1) = afW W fit (mfX L Z CL TU OW br) r t := fun z => am_same (hrow.trans z.symm)
    have e45 : ∀ (x : Int32) (V : AW), mX3_anyFall_45 (mX3_anyFall_4 (nI (r + 1)) n) (nI (r + 1)) x (nI t) V = mX3_anyFall_4 (nI (r + 1)) n x (nI (t + 1)) V := fun x V => by
      unfold mX3_anyFall_45
      rw [nm_mk, ev]
    have efl : flV fit (mfX L Z CL TU OW br) (r + 1) t = if thN fit (mfX L Z CL TU OW br) r t = true ∧ mfX L Z CL TU OW br (thN fit (mfX L Z CL TU OW br) r) t = true then nI (r + 1) else flV fit (mfX L Z CL TU OW br) r t := rfl
    dsimp only
    rw [mX3_anyFall_4, hT.2.1, if_neg c1, at_in _ (show t < 1024 by omega) (by decide), hrow, cl_mk]
    cases q : thN fit (mfX L Z CL TU OW br) r t
    · have n9 : flV fit (mfX L Z CL TU OW br) r t ≠ -9 := fun z => by rw [(hth t).1.mp z] at q; cases q
      rw [if_pos n9, e45, eex, q, Bool.false_and, Bool.or_false, keep (by rw [efl, q, if_neg (fun z => by cases z.1)])]
    · have y9 := (hth t).1.mpr q
      rw [if_neg (fun z => z y9), emf', cl_mk]
      cases q2 : mfX L Z CL TU OW br (thN fit (mfX L Z CL TU OW br) r) t
      · rw [if_pos (show nI (bN false) = 0 from rfl), e45, eex, q, q2, Bool.and_false, Bool.or_false, keep (by rw [efl, q2, if_neg (fun z => by cases z.2)])]
      · have hput : mX5_put 4 5 (nI t) (nI (r + 1)) (afW W fit (mfX L Z CL TU OW br) r t) = some ((), am_set (afW W fit (mfX L Z CL TU OW br) r t) 4 5 t (nI (r + 1))) := put_in _ (show t < 1024 by omega) (by decide)
        have e6 : am_set (afW W fit (mfX L Z CL TU OW br) r t) 4 5 t (nI (r + 1)) = afW W fit (mfX L Z CL TU OW br) r (t + 1) := by
          show _ = am_set (afW W fit (mfX L Z CL TU OW br) r t) 4 5 t (flV fit (mfX L Z CL TU OW br) (r + 1) t)
          rw [efl, if_pos ⟨q, q2⟩]
        rw [if_neg (show ¬ (nI (bN true) = 0) by decide), hput, cl_mk, e45, e6, eex, q, q2, Bool.and_true, Bool.or_true]
        rfl
  · intro n
    have c1 : nI Z ≤ nI Z := nI_le (Nat.le_refl Z) (by omega)
    have hT : TX (afW W fit (mfX L Z CL TU OW br) r Z) L Z CL TU OW br wh := h.row (fun j _ _ => by unfold afW; rw [setRow_row (Or.inr (by decide))]) (by unfold afW; rw [setRow_row (Or.inr (by decide))]) (by unfold afW; rw [setRow_row (Or.inr (by decide))])
    dsimp only
    rw [mX3_anyFall_4, hT.2.1, if_pos c1, zr_B]
end RX
