/-! rounds in which types fall (both sides), and the class's -/
def thN (fit : Nat → Bool) (mf : (Nat → Bool) → Nat → Bool) : Nat → Nat → Bool
  | 0 => fit
  | r + 1 => fun t => thN fit mf r t && !mf (thN fit mf r) t
def flV (fit : Nat → Bool) (mf : (Nat → Bool) → Nat → Bool) : Nat → Nat → Int32
  | 0 => fun t => if fit t = true then -9 else nI 0
  | r + 1 => fun t => if thN fit mf r t = true ∧ mf (thN fit mf r) t = true then nI (r + 1) else flV fit mf r t
section FL
variable {fit : Nat → Bool} {mf : (Nat → Bool) → Nat → Bool}
theorem nI_n9 {k : Nat} (h : k < 2 ^ 31) : nI k ≠ -9 := fun z => by
  have := nI_pos h
  rw [z] at this
  exact this (by decide)
theorem flV_th (hr : ∀ r, r < 2 ^ 20 → True) : ∀ r, r < 2 ^ 20 → ∀ t, (flV fit mf r t = -9 ↔ thN fit mf r t = true) ∧ (flV fit mf r t = -9 ∨ ∃ s, s ≤ r ∧ flV fit mf r t = nI s) := by
  intro r
  induction r with
  | zero =>
    intro _ t
    show ((if fit t = true then (-9 : Int32) else nI 0) = -9 ↔ fit t = true) ∧ ((if fit t = true then (-9 : Int32) else nI 0) = -9 ∨ ∃ s, s ≤ 0 ∧ (if fit t = true then (-9 : Int32) else nI 0) = nI s)
    by_cases h : fit t = true
    · rw [if_pos h]
      exact ⟨⟨fun _ => h, fun _ => rfl⟩, Or.inl rfl⟩
    · rw [if_neg h]
      exact ⟨⟨fun z => absurd z (nI_n9 (by decide)), fun z => absurd z h⟩, Or.inr ⟨0, Nat.le_refl 0, rfl⟩⟩
  | succ r ih =>
    intro h20 t
    obtain ⟨i1, i2⟩ := ih (by omega) t
    have e1 : flV fit mf (r + 1) t = if thN fit mf r t = true ∧ mf (thN fit mf r) t = true then nI (r + 1) else flV fit mf r t := rfl
    have e2 : thN fit mf (r + 1) t = (thN fit mf r t && !mf (thN fit mf r) t) := rfl
    rw [e1, e2]
    by_cases h : thN fit mf r t = true ∧ mf (thN fit mf r) t = true
    · rw [if_pos h, h.1, h.2]
      exact ⟨⟨fun z => absurd z (nI_n9 (by omega)), fun z => by cases z⟩, Or.inr ⟨r + 1, Nat.le_refl _, rfl⟩⟩
    · rw [if_neg h]
      refine ⟨?_, ?_⟩
      · rw [i1]
        cases q : thN fit mf r t
        · exact ⟨(fun z => by cases z), (fun z => by cases z)⟩
        · cases q2 : mf (thN fit mf r) t
          · exact ⟨fun _ => rfl, fun _ => rfl⟩
          · exact absurd ⟨q, q2⟩ h
      · rcases i2 with i2 | ⟨s, s1, s2⟩
        · exact Or.inl i2
        · exact Or.inr ⟨s, by omega, s2⟩
def anyN (fit : Nat → Bool) (mf : (Nat → Bool) → Nat → Bool) (Z r : Nat) : Bool := exB (fun t => thN fit mf r t && mf (thN fit mf r) t) Z
theorem any_cnt {Z r : Nat} (h : ∀ s, s < r → anyN fit mf Z s = true) : cntF (thN fit mf r) Z + r ≤ Z := by
  induction r with
  | zero => exact cntF_le _ Z
  | succ r ih =>
    have i1 := ih (fun s hs => h s (by omega))
    obtain ⟨t, t1, t2⟩ := exB_iff.mp (h r (Nat.lt_succ_self r))
    rw [Bool.and_eq_true] at t2
    have := cntF_strict (h := thN fit mf (r + 1)) (g := thN fit mf r) t1 (fun q _ z => by
      have : (thN fit mf r q && !mf (thN fit mf r) q) = true := z
      rw [Bool.and_eq_true] at this
      exact this.1) (by
      show (thN fit mf r t && !mf (thN fit mf r) t) = false
      rw [t2.1, t2.2]
      rfl) t2.1
    omega
theorem any_end (Z : Nat) : ∃ r, r ≤ Z ∧ anyN fit mf Z r = false ∧ ∀ s, s < r → anyN fit mf Z s = true := by
  have hex : ∃ r, anyN fit mf Z r = false := by
    apply Classical.byContradiction
    intro hno
    have : ∀ s, anyN fit mf Z s = true := fun s => by
      cases q : anyN fit mf Z s
      · exact absurd ⟨s, q⟩ hno
      · rfl
    have := any_cnt (Z := Z) (r := Z + 1) (fun s _ => this s)
    omega
  obtain ⟨r, h1, h2⟩ := pk_least _ hex
  have h3 : ∀ s, s < r → anyN fit mf Z s = true := fun s hs => by
    cases q : anyN fit mf Z s
    · exact absurd q (h2 s hs)
    · rfl
  have := any_cnt h3
  exact ⟨r, by omega, h1, h3⟩
end FL
theorem am_same {w : AW} {o a i : Nat} {x : Int32} (h : w.1 o a i = x) : am_set w o a i x = w := by
  unfold am_set
  refine Prod.ext ?_ rfl
  funext o' a' i'
  show (if o' = o ∧ a' = a ∧ i' = i then x else w.1 o' a' i') = w.1 o' a' i'
  by_cases q : o' = o ∧ a' = a ∧ i' = i
  · rw [if_pos q, q.1, q.2.1, q.2.2, h]
  · rw [if_neg q]
section RX
variable {W : AW} {L Z CL TU OW : Nat} {br wh : Nat → Nat}
def mfX (L Z CL TU OW : Nat) (br : Nat → Nat) (th : Nat → Bool) (t : Nat) : Bool := mfB (fun u => th u && seeX L CL TU br t u) br (sdiff OW (clN CL TU t)) (decide (L = 1)) Z
theorem TX.row {W W2 : AW} (h : TX W L Z CL TU OW br wh) (e7 : W2.1 4 0 7 = W.1 4 0 7) (e8 : W2.1 4 0 8 = W.1 4 0 8) (e11 : W2.1 4 0 11 = W.1 4 0 11) (e3 : W2.1 4 3 = W.1 4 3) (e4 : W2.1 4 4 = W.1 4 4) (e5 : W2.1 4 5 = W.1 4 5) : TX W2 L Z CL TU OW br wh := by
  unfold TX
  rw [e7, e8, e11, e3, e4, e5]
  exact h
theorem StL.row {W W2 : AW} {th : Nat → Bool} {Z : Nat} (h : StL W th Z) (e13 : W2.1 4 0 13 = W.1 4 0 13) (e7 : W2.1 4 7 = W.1 4 7) : StL W2 th Z := by
  unfold StL
  rw [e13, e7]
  exact h
/-- the first half of a round: those that must fall have fallen, of the first k in the list -/
noncomputable def p1W (W : AW) (th mf : Nat → Bool) (Z r : Nat) : Nat → AW
  | 0 => W
  | k + 1 => if mf (stQ th Z k) = true then am_set (p1W W th mf Z r k) 4 6 (stQ th Z k) (nI (r + 1)) else p1W W th mf Z r k
theorem p1_row {th mf : Nat → Bool} {r o a : Nat} (h : o ≠ 4 ∨ a ≠ 6) : ∀ k, (p1W W th mf Z r k).1 o a = W.1 o a
  | 0 => rfl
  | k + 1 => by
    unfold p1W
    split
    · rw [am_get_row h, p1_row h k]
    · exact p1_row h k
theorem p1_K {th mf : Nat → Bool} {r : Nat} : ∀ k, KX W (p1W W th mf Z r k)
  | 0 => KX.rf W
  | k + 1 => by
    unfold p1W
    split
    · exact (p1_K k).set (Or.inl ⟨by decide, by decide⟩)
    · exact p1_K k
theorem p1_out {th mf : Nat → Bool} {r u : Nat} : ∀ k, k ≤ cntF th Z → (th u = true → k ≤ cntF th u) → (p1W W th mf Z r k).1 4 6 u = W.1 4 6 u
  | 0, _, _ => rfl
  | k + 1, hk, h => by
    have ih := p1_out (th := th) (u := u) (r := r) (mf := mf) k (by omega) (fun z => by have := h z; omega)
    obtain ⟨s1, s2, s3⟩ := stQ_spec (th := th) (Z := Z) (p := k) (by omega)
    unfold p1W
    split
    · rw [am_get_other (fun e => by rw [e] at h; have := h s2; omega)]
      exact ih
    · exact ih
theorem p1_in {th mf : Nat → Bool} {r u : Nat} (hu : th u = true) (huZ : u < Z) : ∀ k, k ≤ cntF th Z → cntF th u < k → (p1W W th mf Z r k).1 4 6 u = if mf u = true then nI (r + 1) else W.1 4 6 u
  | 0, _, h => absurd h (Nat.not_lt_zero _)
  | k + 1, hk, h => by
    obtain ⟨s1, s2, s3⟩ := stQ_spec (th := th) (Z := Z) (p := k) (by omega)
    by_cases e : cntF th u = k
    · have eu : stQ th Z k = u := cnt_inj1 s2 hu (by omega)
      have io := p1_out (r := r) (W := W) (mf := mf) (u := u) (th := th) (Z := Z) k (by omega) (fun _ => by omega)
      unfold p1W
      rw [eu]
      split
      · exact am_get_self _ _ _ _ _
      · exact io
    · have ih := p1_in (th := th) (u := u) (r := r) (mf := mf) hu huZ k (by omega) (by omega)
      unfold p1W
      by_cases q : mf (stQ th Z k) = true
      · rw [if_pos q, am_get_other (fun z => e (by rw [z]; exact s3)), ih]
      · rw [if_neg q, ih]
theorem X_stay {t n : Nat} (ht : t < 1024) (hn : n < 1024) (h13 : W.1 4 0 13 = nI n) : mX3_stay (nI t) W = some ((), am_set (am_set (am_set W 4 6 t (-9)) 4 7 n (nI t)) 4 0 13 (nI (n + 1))) := by
  have p1 : ∀ x, mX5_put 4 6 (nI t) x W = some ((), am_set W 4 6 t x) := fun x => put_in _ (show t < 1024 from ht) (by decide)
  have p2 : ∀ x y, mX5_put 4 7 (nI n) x (am_set W 4 6 t y) = some ((), am_set (am_set W 4 6 t y) 4 7 n x) := fun x y => put_in _ (show n < 1024 from hn) (by decide)
  unfold mX3_stay
  rw [p1, cl_mk, am_get_row (by decide), h13, p2, cl_mk, am_get_row (by decide), am_get_row (by decide), h13, show nI n + 1 = nI (n + 1) from nI_add n 1, pu_mk]
theorem cnt_sub {th th' : Nat → Bool} {Z : Nat} (hs : ∀ t, th' t = true → th t = true) : ∀ t, t ≤ Z → cntF th' t = cntF (fun p => th' (stQ th Z p)) (cntF th t)
  | 0, _ => rfl
  | t + 1, h => by
    have ih := cnt_sub (Z := Z) hs t (by omega)
    have e1 : cntF th (t + 1) = cntF th t + bN (th t) := rfl
    have e2 : cntF th' (t + 1) = cntF th' t + bN (th' t) := rfl
    cases z : th t
    · have z' : th' t = false := by
        cases y : th' t
        · rfl
        · rw [hs t y] at z; cases z
      rw [e1, e2, z, z', bN_f, Nat.add_zero, Nat.add_zero, ih]
    · rw [e1, e2, z, bN_t, ih]
      show _ = cntF (fun p => th' (stQ th Z p)) (cntF th t) + bN (th' (stQ th Z (cntF th t)))
      rw [stQ_ls t (by omega) z]
/-- the second half: the list is closed up -/
theorem X_close {W0 : AW} {th th' : Nat → Bool} (hZ : Z ≤ 1024) (hs : ∀ t, th' t = true → th t = true) (h6 : ∀ t, t < Z → (W0.1 4 6 t = -9 ↔ th' t = true)) (h7 : ∀ p, p < cntF th Z → W0.1 4 7 p = nI (stQ th Z p)) : ∀ (e k n : Nat) (W : AW), cntF th Z = k + e → e < n → KX W0 W → (∀ o a, (o ≠ 4 ∨ (a ≠ 0 ∧ a ≠ 7)) → W.1 o a = W0.1 o a) → (∀ j, j ≠ 13 → W.1 4 0 j = W0.1 4 0 j) → W.1 4 0 13 = nI (cntF (fun p => th' (stQ th Z p)) k) → (∀ p, p < k → th' (stQ th Z p) = true → W.1 4 7 (cntF (fun p => th' (stQ th Z p)) p) = nI (stQ th Z p)) → (∀ p, k ≤ p → p < cntF th Z → W.1 4 7 p = nI (stQ th Z p)) →
    ∃ W2, mX3_anyFall_54 (nI (cntF th Z)) n (nI k) W = some (nI (bN (decide (cntF th' Z < cntF th Z))), W2) ∧ KX W0 W2 ∧ (∀ o a, (o ≠ 4 ∨ (a ≠ 0 ∧ a ≠ 7)) → W2.1 o a = W0.1 o a) ∧ (∀ j, j ≠ 13 → W2.1 4 0 j = W0.1 4 0 j) ∧ StL W2 th' Z := by
  have hcZ := cntF_le th Z
  intro e
  induction e with
  | zero =>
    intro k n W he hn hK h1 h2 h3 h4 h5
    obtain ⟨n, rfl⟩ : ∃ q, n = q + 1 := ⟨n - 1, by omega⟩
    have e2 : k = cntF th Z := by omega
    have e3 : cntF th' Z = cntF (fun p => th' (stQ th Z p)) k := by rw [e2]; exact cnt_sub (Z := Z) hs Z (Nat.le_refl Z)
    have hle := cntF_le (fun p => th' (stQ th Z p)) k
    refine ⟨W, ?_, hK, h1, h2, by rw [e3]; exact h3, fun t ht hz => ?_⟩
    · rw [mX3_anyFall_54, if_pos (nI_le (by omega) (by omega)), h3, ← e3]
      by_cases q : cntF th Z ≤ cntF th' Z
      · rw [if_pos (nI_le q (by omega)), decide_eq_false (by omega)]
        rfl
      · rw [if_neg (nI_ge (by omega) (by omega)), decide_eq_true (by omega)]
        rfl
    · have q1 := hs t hz
      have q2 := stQ_ls (th := th) (Z := Z) t ht q1
      have q3 := h4 (cntF th t) (by rw [e2]; exact cntF_lt ht q1) (by rw [q2]; exact hz)
      rw [q2] at q3
      rw [cnt_sub (Z := Z) hs t (by omega)]
      exact q3
  | succ e ih =>
    intro k n W he hn hK h1 h2 h3 h4 h5
    obtain ⟨n, rfl⟩ : ∃ q, n = q + 1 := ⟨n - 1, by omega⟩
    have hk : k < cntF th Z := by omega
    obtain ⟨s1, s2, s3⟩ := stQ_spec hk
    have ev : nI k + 1 = nI (k + 1) := nI_add k 1
    have e89 : ∀ V : AW, mX3_anyFall_89 (mX3_anyFall_54 (nI (cntF th Z)) n) (nI (cntF th Z)) (nI k) V = mX3_anyFall_54 (nI (cntF th Z)) n (nI (k + 1)) V := fun V => by
      unfold mX3_anyFall_89
      rw [nm_mk, ev]
    have e7 : mX5_at 4 7 (nI k) W = some (nI (stQ th Z k), W) := by rw [at_in W (show k < 1024 by omega) (by decide), h5 k (Nat.le_refl k) hk]
    have e6 : mX5_at 4 6 (nI (stQ th Z k)) W = some (W0.1 4 6 (stQ th Z k), W) := by rw [at_in W (show stQ th Z k < 1024 by omega) (by decide), h1 4 6 (Or.inr ⟨by decide, by decide⟩)]
    have hd := h6 _ s1
    have ecn : cntF (fun p => th' (stQ th Z p)) (k + 1) = cntF (fun p => th' (stQ th Z p)) k + bN (th' (stQ th Z k)) := rfl
    have hle := cntF_le (fun p => th' (stQ th Z p)) k
    cases q : th' (stQ th Z k)
    · have n9 : W0.1 4 6 (stQ th Z k) ≠ -9 := fun z => by rw [hd.mp z] at q; cases q
      obtain ⟨W2, f⟩ := ih (k + 1) n W (by omega) (by omega) hK h1 h2 (by rw [ecn, q]; exact h3) (fun p hp z => by
        by_cases y : p = k
        · rw [y, q] at z; cases z
        · exact h4 p (by omega) z) (fun p hp hp2 => h5 p (by omega) hp2)
      refine ⟨W2, ?_, f.2⟩
      rw [mX3_anyFall_54, if_neg (nI_ge hk (by omega)), e7, cl_mk, e6, cl_mk, if_pos n9, e89]
      exact f.1
    · have y9 := hd.mpr q
      have est := X_stay (W := W) (t := stQ th Z k) (by omega) (show cntF (fun p => th' (stQ th Z p)) k < 1024 by omega) h3
      have same : am_set W 4 6 (stQ th Z k) (-9) = W := am_same (by rw [h1 4 6 (Or.inr ⟨by decide, by decide⟩)]; exact y9)
      rw [same] at est
      obtain ⟨W2, f⟩ := ih (k + 1) n (am_set (am_set W 4 7 (cntF (fun p => th' (stQ th Z p)) k) (nI (stQ th Z k))) 4 0 13 (nI (cntF (fun p => th' (stQ th Z p)) k + 1))) (by omega) (by omega) ((hK.set (Or.inl ⟨by decide, by decide⟩)).set (Or.inl ⟨by decide, by decide⟩)) (fun o a z => by rw [am_get_row (by omega), am_get_row (by omega)]; exact h1 o a z) (fun j z => by rw [am_get_other z, am_get_row (by decide)]; exact h2 j z) (by rw [am_get_self, ecn, q]; rfl) (fun p hp z => by
        rw [am_get_row (by decide)]
        by_cases y : p = k
        · rw [y, am_get_self]
        · have hlt := cntF_lt (h := fun p => th' (stQ th Z p)) (show p < k by omega) z
          rw [am_get_other (by omega)]
          exact h4 p (by omega) z) (fun p hp hp2 => by
        rw [am_get_row (by decide), am_get_other (by omega)]
        exact h5 p (by omega) hp2)
      refine ⟨W2, ?_, f.2⟩
      rw [mX3_anyFall_54, if_neg (nI_ge hk (by omega)), e7, cl_mk, e6, cl_mk, y9, if_neg (fun z => z rfl), est, cl_mk, e89]
      exact f.1
theorem X_anyFall (h : TX W L Z CL TU OW br wh) (hZ : Z ≤ 1024) (hC : CL < 2 ^ 10) (hO : OW < 2 ^ 10) (hL : L < 9) {fit : Nat → Bool} {r : Nat} (hr : r < 2000) (hF : ∀ u, u < Z → W.1 4 6 u = flV fit (mfX L Z CL TU OW br) r u) (hS : StL W (thN fit (mfX L Z CL TU OW br) r) Z) :
    ∃ W2, mX3_anyFall (nI (r + 1)) W = some (nI (bN (anyN fit (mfX L Z CL TU OW br) Z r)), W2) ∧ KX W W2 ∧ TX W2 L Z CL TU OW br wh ∧ (∀ u, u < Z → W2.1 4 6 u = flV fit (mfX L Z CL TU OW br) (r + 1) u) ∧ StL W2 (thN fit (mfX L Z CL TU OW br) (r + 1)) Z ∧ W2.1 4 0 12 = W.1 4 0 12 := by
  have hth := flV_th (fit := fit) (mf := mfX L Z CL TU OW br) (fun _ _ => trivial) (r + 1) (by omega)
  have hth0 := flV_th (fit := fit) (mf := mfX L Z CL TU OW br) (fun _ _ => trivial) r (by omega)
  have efl : ∀ t, flV fit (mfX L Z CL TU OW br) (r + 1) t = if thN fit (mfX L Z CL TU OW br) r t = true ∧ mfX L Z CL TU OW br (thN fit (mfX L Z CL TU OW br) r) t = true then nI (r + 1) else flV fit (mfX L Z CL TU OW br) r t := fun _ => rfl
  have ety : ∀ t, thN fit (mfX L Z CL TU OW br) (r + 1) t = (thN fit (mfX L Z CL TU OW br) r t && !mfX L Z CL TU OW br (thN fit (mfX L Z CL TU OW br) r) t) := fun _ => rfl
  have ean : anyN fit (mfX L Z CL TU OW br) Z r = exB (fun t => thN fit (mfX L Z CL TU OW br) r t && mfX L Z CL TU OW br (thN fit (mfX L Z CL TU OW br) r) t) Z := rfl
  generalize hth' : thN fit (mfX L Z CL TU OW br) (r + 1) = th' at *
  generalize hfl' : flV fit (mfX L Z CL TU OW br) (r + 1) = fl' at *
  generalize hfl : flV fit (mfX L Z CL TU OW br) r = fl at *
  generalize hthe : thN fit (mfX L Z CL TU OW br) r = th at *
  have hcZ := cntF_le th Z
  -- the first half
  have first : mX3_anyFall_7 (nI (r + 1)) (nI (cntF th Z)) FU (nI 0) W = mX3_anyFall_54 (nI (cntF th Z)) FU (nI 0) (am_set (p1W W th (mfX L Z CL TU OW br th) Z r (cntF th Z)) 4 0 13 (nI 0)) := by
    refine loopE (fun n (s : Int32 × AW) => mX3_anyFall_7 (nI (r + 1)) (nI (cntF th Z)) n s.1 s.2) (cntF th Z) (fun k => (nI k, p1W W th (mfX L Z CL TU OW br th) Z r k)) _ ?_ ?_ FU 0 (Nat.zero_le _) (FU_gt (by omega))
    · intro n p hp
      obtain ⟨s1, s2, s3⟩ := stQ_spec hp
      have ev : nI p + 1 = nI (p + 1) := nI_add p 1
      have hT : TX (p1W W th (mfX L Z CL TU OW br th) Z r p) L Z CL TU OW br wh := h.row (by rw [p1_row (Or.inr (by decide))]) (by rw [p1_row (Or.inr (by decide))]) (by rw [p1_row (Or.inr (by decide))]) (p1_row (Or.inr (by decide)) p) (p1_row (Or.inr (by decide)) p) (p1_row (Or.inr (by decide)) p)
      have hS2 : StL (p1W W th (mfX L Z CL TU OW br th) Z r p) th Z := hS.row (by rw [p1_row (Or.inr (by decide))]) (p1_row (Or.inr (by decide)) p)
      have emf : mX3_mustFall (nI (stQ th Z p)) (p1W W th (mfX L Z CL TU OW br th) Z r p) = some (nI (bN (mfX L Z CL TU OW br th (stQ th Z p))), p1W W th (mfX L Z CL TU OW br th) Z r p) := X_mustFall hT hZ hC hO hL s1 th hS2
      have es : p1W W th (mfX L Z CL TU OW br th) Z r (p + 1) = if mfX L Z CL TU OW br th (stQ th Z p) = true then am_set (p1W W th (mfX L Z CL TU OW br th) Z r p) 4 6 (stQ th Z p) (nI (r + 1)) else p1W W th (mfX L Z CL TU OW br th) Z r p := rfl
      have e41 : ∀ V : AW, mX3_anyFall_41 (mX3_anyFall_7 (nI (r + 1)) (nI (cntF th Z)) n) (nI (r + 1)) (nI (cntF th Z)) (nI p) V = mX3_anyFall_7 (nI (r + 1)) (nI (cntF th Z)) n (nI (p + 1)) V := fun V => by
        unfold mX3_anyFall_41
        rw [nm_mk, ev]
      dsimp only
      rw [mX3_anyFall_7, if_neg (nI_ge hp (by omega)), hS2.at hZ hp, cl_mk, emf, cl_mk, es]
      cases q : mfX L Z CL TU OW br th (stQ th Z p)
      · rw [if_pos (show nI (bN false) = 0 from rfl), e41, if_neg (by decide)]
      · have hput : ∀ x, mX5_put 4 6 (nI (stQ th Z p)) x (p1W W th (mfX L Z CL TU OW br th) Z r p) = some ((), am_set (p1W W th (mfX L Z CL TU OW br th) Z r p) 4 6 (stQ th Z p) x) := fun x => put_in _ (show stQ th Z p < 1024 by omega) (by decide)
        rw [if_neg (show ¬ (nI (bN true) = 0) by decide), hput, cl_mk, e41, if_pos rfl]
    · intro n
      dsimp only
      rw [mX3_anyFall_7, if_pos (nI_le (Nat.le_refl _) (by omega)), pu_mk]
      rfl
  have sub : ∀ t, th' t = true → th t = true := fun t z => by
    rw [ety, Bool.and_eq_true] at z
    exact z.1
  have row6 : ∀ t, t < Z → (p1W W th (mfX L Z CL TU OW br th) Z r (cntF th Z)).1 4 6 t = fl' t := fun t ht => by
    rw [efl]
    cases q : th t
    · rw [p1_out _ (Nat.le_refl _) (fun z => by rw [q] at z; cases z), if_neg (fun z => by cases z.1)]
      exact hF t ht
    · rw [p1_in q ht _ (Nat.le_refl _) (cntF_lt ht q)]
      cases q2 : mfX L Z CL TU OW br th t
      · rw [if_neg (by decide), if_neg (fun z => by cases z.2)]
        exact hF t ht
      · rw [if_pos rfl, if_pos ⟨rfl, rfl⟩]
  obtain ⟨W2, f1, f2, f3, f4, f5⟩ := X_close (W0 := am_set (p1W W th (mfX L Z CL TU OW br th) Z r (cntF th Z)) 4 0 13 (nI 0)) (th := th) (th' := th') hZ sub (fun t ht => by
      rw [am_get_row (by decide), row6 t ht]
      exact (hth t).1) (fun p hp => by
      rw [am_get_row (by decide), p1_row (Or.inr (by decide))]
      obtain ⟨s1, s2, s3⟩ := stQ_spec hp
      have e := hS.2 _ s1 s2
      rw [s3] at e
      exact e) (cntF th Z) 0 FU _ (by omega) (FU_gt (by omega)) (KX.rf _) (fun _ _ _ => rfl) (fun _ _ => rfl) (am_get_self _ _ _ _ _) (fun p hp => absurd hp (Nat.not_lt_zero p)) (fun p _ hp => by
      rw [am_get_row (by decide), p1_row (Or.inr (by decide))]
      obtain ⟨s1, s2, s3⟩ := stQ_spec hp
      have e := hS.2 _ s1 s2
      rw [s3] at e
      exact e)
  have g0 : ∀ j, j ≠ 13 → W2.1 4 0 j = W.1 4 0 j := fun j hj => by rw [f4 j hj, am_get_other hj, p1_row (Or.inr (by decide))]
  have ga : ∀ a, a ≠ 0 → a ≠ 6 → a ≠ 7 → W2.1 4 a = W.1 4 a := fun a h0 h6 h7 => by rw [f3 4 a (Or.inr ⟨h0, h7⟩), am_get_row (Or.inr h0), p1_row (Or.inr h6)]
  refine ⟨W2, ?_, ((p1_K _).set (Or.inl ⟨by decide, by decide⟩)).tr f2, h.row (g0 7 (by decide)) (g0 8 (by decide)) (g0 11 (by decide)) (ga 3 (by decide) (by decide) (by decide)) (ga 4 (by decide) (by decide) (by decide)) (ga 5 (by decide) (by decide) (by decide)), fun u hu => ?_, f5, g0 12 (by decide)⟩
  · unfold mX3_anyFall
    rw [hS.1, nm_mk]
    have first' : mX3_anyFall_7 (nI (r + 1)) (nI (cntF th Z)) FU 0 W = _ := first
    have key : decide (cntF th' Z < cntF th Z) = exB (fun t => th t && mfX L Z CL TU OW br th t) Z := by
      cases q : exB (fun t => th t && mfX L Z CL TU OW br th t) Z
      · refine decide_eq_false (fun z => ?_)
        have : cntF th Z ≤ cntF th' Z := cntF_mono (fun t ht y => by
          rw [ety, y]
          cases x : mfX L Z CL TU OW br th t
          · rfl
          · exfalso
            have : exB (fun t => th t && mfX L Z CL TU OW br th t) Z = true := exB_iff.mpr ⟨t, ht, by rw [y, x]; rfl⟩
            rw [q] at this
            cases this)
        omega
      · obtain ⟨t, t1, t2⟩ := exB_iff.mp q
        rw [Bool.and_eq_true] at t2
        have := cntF_strict (h := th') (g := th) t1 (fun u _ z => sub u z) (by rw [ety, t2.1, t2.2]; rfl) t2.1
        exact decide_eq_true (by omega)
    rw [first', f1, ean, key]
  · rw [f3 4 6 (Or.inr ⟨by decide, by decide⟩), am_get_row (by decide)]
    exact row6 u hu
end RX
