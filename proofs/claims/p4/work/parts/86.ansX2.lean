/-! the class's answers about types -/
section RX2
variable {W0 : AW} {L Z CL TU OW wt : Nat} {br wh : Nat → Nat} {th : Nat → Bool}
/-- the class's list, the first r of it those come to so far -/
def QX (W0 W : AW) (th : Nat → Bool) (see : Nat → Nat → Bool) (Z w : Nat) (q : Nat → Nat) (r : Nat) : Prop := KX W0 W ∧ (∀ a, a ≠ 7 → W.1 4 a = W0.1 4 a) ∧ ReL th see Z w q r ∧ r ≤ cntF th Z ∧ (∀ i, i < cntF th Z → W.1 4 7 i = nI (q i) ∧ q i < Z ∧ th (q i) = true) ∧ (∀ i j, i < cntF th Z → j < cntF th Z → q i = q j → i = j)
theorem q_surj {q : Nat → Nat} (h1 : ∀ i, i < cntF th Z → q i < Z ∧ th (q i) = true) (h2 : ∀ i j, i < cntF th Z → j < cntF th Z → q i = q j → i = j) {b : Nat} (hb : b < Z) (hbt : th b = true) : ∃ i, i < cntF th Z ∧ q i = b := by
  apply Classical.byContradiction
  intro hno
  have hm : memB q (cntF th Z) b = false := by
    cases e : memB q (cntF th Z) b
    · rfl
    · exact absurd (memB_iff.mp e) hno
  have e1 := (memB_cnt (q := q) (P := Z) (cntF th Z)).2 (fun j hj => (h1 j hj).1) h2
  have := cntF_strict (h := memB q (cntF th Z)) (g := th) hb (fun p _ z => by
    obtain ⟨j, j1, j2⟩ := memB_iff.mp z
    rw [← j2]
    exact (h1 j j1).2) hm hbt
  omega
theorem X_swap {W : AW} {a b : Nat} {x y : Int32} (ha : a < 1024) (hb : b < 1024) (h1 : W.1 4 7 a = x) (h2 : W.1 4 7 b = y) : mX3_swapStays (nI a) (nI b) W = some ((), am_set (am_set W 4 7 a y) 4 7 b x) := by
  have p1 : ∀ z V, mX5_put 4 7 (nI a) z V = some ((), am_set V 4 7 a z) := fun z V => put_in V (show a < 1024 from ha) (by decide)
  have p2 : ∀ z V, mX5_put 4 7 (nI b) z V = some ((), am_set V 4 7 b z) := fun z V => put_in V (show b < 1024 from hb) (by decide)
  have a1 : mX5_at 4 7 (nI a) W = some (x, W) := by rw [at_in W (show a < 1024 from ha) (by decide), h1]
  have a2 : mX5_at 4 7 (nI b) W = some (y, W) := by rw [at_in W (show b < 1024 from hb) (by decide), h2]
  unfold mX3_swapStays
  rw [a1, cl_mk, a2, cl_mk, p1, cl_mk, p2, cl_mk]
def swp (q : Nat → Nat) (a b i : Nat) : Nat := if i = b then q a else if i = a then q b else q i
theorem swp_a {q : Nat → Nat} {a b : Nat} : swp q a b a = q b := by
  unfold swp
  by_cases e : a = b
  · rw [if_pos e, e]
  · rw [if_neg e, if_pos rfl]
theorem swp_b {q : Nat → Nat} {a b : Nat} : swp q a b b = q a := if_pos rfl
theorem swp_o {q : Nat → Nat} {a b i : Nat} (h1 : i ≠ a) (h2 : i ≠ b) : swp q a b i = q i := by
  unfold swp
  rw [if_neg h2, if_neg h1]
/-- where the value at i came from -/
theorem swp_at {q : Nat → Nat} {a b n : Nat} (ha : a < n) (hb : b < n) (i : Nat) (hi : i < n) : ∃ k, k < n ∧ swp q a b i = q k ∧ (k = if i = b then a else if i = a then b else i) := by
  unfold swp
  by_cases e : i = b
  · exact ⟨a, ha, by rw [if_pos e], by rw [if_pos e]⟩
  · by_cases e2 : i = a
    · exact ⟨b, hb, by rw [if_neg e, if_pos e2], by rw [if_neg e, if_pos e2]⟩
    · exact ⟨i, hi, by rw [if_neg e, if_neg e2], by rw [if_neg e, if_neg e2]⟩
theorem swp_inj {q : Nat → Nat} {a b n : Nat} (ha : a < n) (hb : b < n) (h : ∀ i j, i < n → j < n → q i = q j → i = j) : ∀ i j, i < n → j < n → swp q a b i = swp q a b j → i = j := by
  intro i j hi hj e
  obtain ⟨k, k1, k2, k3⟩ := swp_at ha hb i hi (q := q)
  obtain ⟨m, m1, m2, m3⟩ := swp_at ha hb j hj (q := q)
  have := h k m k1 m1 (by rw [← k2, ← m2]; exact e)
  rw [k3, m3] at this
  split at this
  · split at this
    · omega
    · split at this <;> omega
  · split at this
    · split at this
      · omega
      · split at this <;> omega
    · split at this
      · omega
      · split at this <;> omega
theorem swp_row {W : AW} {q : Nat → Nat} {a b n : Nat} (ha : a < n) (hb : b < n) (h : ∀ i, i < n → W.1 4 7 i = nI (q i)) : ∀ i, i < n → (am_set (am_set W 4 7 a (nI (q b))) 4 7 b (nI (q a))).1 4 7 i = nI (swp q a b i) := by
  intro i hi
  by_cases e : i = b
  · rw [e, am_get_self, swp_b]
  · rw [am_get_other e]
    by_cases e2 : i = a
    · rw [e2, am_get_self, swp_a]
    · rw [am_get_other e2, swp_o e2 e]
      exact h i hi
theorem X_q34 (hT : TX W0 L Z CL TU OW br wh) (hZ : Z ≤ 1024) (hC : CL < 2 ^ 10) (hL : L < 9) (h13 : W0.1 4 0 13 = nI (cntF th Z)) {k18 : Int32 → Int32 → AW → Option (Int32 × AW)} {p : Nat} : ∀ (e b n : Nat) (W : AW) (q : Nat → Nat) (r : Nat), cntF th Z = b + e → e < n → p < r → r ≤ b → QX W0 W th (seeX L CL TU br) Z wt q r → (∀ i, r ≤ i → i < b → seeX L CL TU br (q p) (q i) = false) → (∀ i, i < p → ∀ u, u < Z → th u = true → seeX L CL TU br (q i) u = true → ∃ j, j < r ∧ q j = u) →
    ∃ W2 q2 r2, mX3_howManyReached_34 k18 (nI p) n (nI r) (nI b) W = k18 (nI r2) (nI (p + 1)) W2 ∧ r ≤ r2 ∧ QX W0 W2 th (seeX L CL TU br) Z wt q2 r2 ∧ (∀ i, i < p + 1 → ∀ u, u < Z → th u = true → seeX L CL TU br (q2 i) u = true → ∃ j, j < r2 ∧ q2 j = u) := by
  have hcZ := cntF_le th Z
  intro e
  induction e with
  | zero =>
    intro b n W q r he hn hp hrb hQ h1 h2
    obtain ⟨n, rfl⟩ : ∃ k, n = k + 1 := ⟨n - 1, by omega⟩
    have e2 : b = cntF th Z := by omega
    subst e2
    obtain ⟨q1, q2, q3, q4, q5, q6⟩ := hQ
    refine ⟨W, q, r, ?_, Nat.le_refl r, ⟨q1, q2, q3, q4, q5, q6⟩, fun i hi u hu ht hs => ?_⟩
    · rw [mX3_howManyReached_34, q2 0 (by decide), h13, if_pos (nI_le (Nat.le_refl _) (by omega)), nm_mk, show nI p + 1 = nI (p + 1) from nI_add p 1]
    · by_cases z : i = p
      · rw [z] at hs
        obtain ⟨j, j1, j2⟩ := q_surj (fun i hi => (q5 i hi).2) q6 hu ht
        rcases Nat.lt_or_ge j r with y | y
        · exact ⟨j, y, j2⟩
        · have := h1 j y j1
          rw [j2, hs] at this
          cases this
      · exact h2 i (by omega) u hu ht hs
  | succ e ih =>
    intro b n W q r he hn hp hrb hQ h1 h2
    obtain ⟨n, rfl⟩ : ∃ k, n = k + 1 := ⟨n - 1, by omega⟩
    have hb : b < cntF th Z := by omega
    obtain ⟨q1, q2, q3, q4, q5, q6⟩ := hQ
    have hT' : TX W L Z CL TU OW br wh := hT.row (by rw [q2 0 (by decide)]) (by rw [q2 0 (by decide)]) (by rw [q2 0 (by decide)]) (q2 3 (by decide)) (q2 4 (by decide)) (q2 5 (by decide))
    have ap : mX5_at 4 7 (nI p) W = some (nI (q p), W) := by rw [at_in W (show p < 1024 by omega) (by decide), (q5 p (by omega)).1]
    have ab : mX5_at 4 7 (nI b) W = some (nI (q b), W) := by rw [at_in W (show b < 1024 by omega) (by decide), (q5 b hb).1]
    have es := X_maySee hT' hZ hC hL (q5 p (by omega)).2.1 (q5 b hb).2.1
    have e80 : ∀ (x : Int32) (V : AW), mX3_howManyReached_80 k18 (mX3_howManyReached_34 k18 (nI p) n) x (nI p) (nI b) V = mX3_howManyReached_34 k18 (nI p) n x (nI (b + 1)) V := fun x V => by
      unfold mX3_howManyReached_80
      rw [nm_mk, show nI b + 1 = nI (b + 1) from nI_add b 1]
    rw [mX3_howManyReached_34, q2 0 (by decide), h13, if_neg (nI_ge hb (by omega)), ap, cl_mk, ab, cl_mk, es, cl_mk]
    cases z : seeX L CL TU br (q p) (q b)
    · rw [if_neg (show ¬ (nI (bN false) ≠ 0) from fun y => y rfl), e80]
      exact ih (b + 1) n W q r (by omega) (by omega) hp (by omega) ⟨q1, q2, q3, q4, q5, q6⟩ (fun i hi hi2 => by
        by_cases y : i = b
        · rw [y]; exact z
        · exact h1 i hi (by omega)) h2
    · have esw := X_swap (W := W) (show r < 1024 by omega) (show b < 1024 by omega) (q5 r (by omega)).1 (q5 b hb).1
      rw [if_pos (show nI (bN true) ≠ 0 by decide), esw, cl_mk, nm_mk, show nI r + 1 = nI (r + 1) from nI_add r 1, e80]
      have el : ∀ i, i < r → swp q r b i = q i := fun i hi => swp_o (by omega) (by omega)
      have hnew : ∀ i, i < r → q i ≠ q b := fun i hi y => by
        have := q6 i b (by omega) hb y
        omega
      have hR : ReL th (seeX L CL TU br) Z wt (swp q r b) (r + 1) := (q3.cgq el).add hp (q5 b hb).2.1 (q5 b hb).2.2 (by rw [el p hp]; exact z) (fun i hi => by rw [el i hi]; exact hnew i hi) swp_a
      obtain ⟨W2, q2', r2, f1, f2, f3⟩ := ih (b + 1) n (am_set (am_set W 4 7 r (nI (q b))) 4 7 b (nI (q r))) (swp q r b) (r + 1) (by omega) (by omega) (by omega) (by omega) ⟨(q1.set (Or.inl ⟨by decide, by decide⟩)).set (Or.inl ⟨by decide, by decide⟩), fun a y => by rw [am_get_row (Or.inr y), am_get_row (Or.inr y)]; exact q2 a y, hR, by omega, fun i hi => by
          obtain ⟨k, k1, k2, -⟩ := swp_at (q := q) (show r < cntF th Z by omega) hb i hi
          exact ⟨swp_row (show r < cntF th Z by omega) hb (fun i hi => (q5 i hi).1) i hi, by rw [k2]; exact (q5 k k1).2⟩, swp_inj (show r < cntF th Z by omega) hb q6⟩ (fun i hi hi2 => by
        rw [el p hp]
        by_cases y : i = b
        · rw [y, swp_b]
          by_cases y2 : r = b
          · omega
          · exact h1 r (Nat.le_refl r) (by omega)
        · rw [swp_o (by omega) y]
          exact h1 i (by omega) (by omega)) (fun i hi u hu y1 y2 => by
        rw [el i (by omega)] at y2
        obtain ⟨j, j1, j2⟩ := h2 i hi u hu y1 y2
        exact ⟨j, by omega, by rw [el j j1]; exact j2⟩)
      exact ⟨W2, q2', r2, f1, by omega, f3⟩
theorem X_q18 (hT : TX W0 L Z CL TU OW br wh) (hZ : Z ≤ 1024) (hC : CL < 2 ^ 10) (hL : L < 9) (h13 : W0.1 4 0 13 = nI (cntF th Z)) : ∀ (e p n : Nat) (W : AW) (q : Nat → Nat) (r : Nat), cntF th Z = p + e → e < n → p ≤ r → QX W0 W th (seeX L CL TU br) Z wt q r → (∀ i, i < p → ∀ u, u < Z → th u = true → seeX L CL TU br (q i) u = true → ∃ j, j < r ∧ q j = u) →
    ∃ W2 r2, mX3_howManyReached_18 n (nI r) (nI p) W = some (nI r2, W2) ∧ KX W0 W2 ∧ ReN th (seeX L CL TU br) Z wt r2 := by
  have hcZ := cntF_le th Z
  intro e
  induction e with
  | zero =>
    intro p n W q r he hn hp hQ h2
    obtain ⟨n, rfl⟩ : ∃ k, n = k + 1 := ⟨n - 1, by omega⟩
    have := hQ.2.2.2.1
    have e2 : p = r := by omega
    subst e2
    exact ⟨W, p, by rw [mX3_howManyReached_18, if_pos (nI_le (Nat.le_refl p) (by omega))], hQ.1, hQ.2.2.1.done h2⟩
  | succ e ih =>
    intro p n W q r he hn hp hQ h2
    obtain ⟨n, rfl⟩ : ∃ k, n = k + 1 := ⟨n - 1, by omega⟩
    have hr := hQ.2.2.2.1
    by_cases hpr : p = r
    · subst hpr
      exact ⟨W, p, by rw [mX3_howManyReached_18, if_pos (nI_le (Nat.le_refl p) (by omega))], hQ.1, hQ.2.2.1.done h2⟩
    · obtain ⟨W2, q2, r2, f1, f2, f3, f4⟩ := X_q34 (wt := wt) (k18 := mX3_howManyReached_18 n) hT hZ hC hL h13 (cntF th Z - r) r FU W q r (by omega) (FU_gt (by omega)) (show p < r by omega) (Nat.le_refl r) hQ (fun i h1 h2 => by omega) h2
      obtain ⟨W3, r3, g⟩ := ih (p + 1) n W2 q2 r2 (by omega) (by omega) (by omega) f3 f4
      refine ⟨W3, r3, ?_, g.2⟩
      rw [mX3_howManyReached_18, if_neg (nI_ge (show p < r by omega) (by omega)), hQ.2.1 0 (by decide), h13, if_neg (nI_ge (show p < cntF th Z by omega) (by omega)), f1]
      exact g.1
theorem X_reached (hT : TX W0 L Z CL TU OW br wh) (hZ : Z ≤ 1024) (hC : CL < 2 ^ 10) (hL : L < 9) (hS : StL W0 th Z) (hwt : wt < Z) (hw : th wt = true) : ∃ W2 v, mX3_howManyReached (nI (cntF th wt)) W0 = some (nI v, W2) ∧ KX W0 W2 ∧ ReN th (seeX L CL TU br) Z wt v := by
  have hcZ := cntF_le th Z
  have hlt := cntF_lt hwt hw
  have hrow : ∀ i, i < cntF th Z → W0.1 4 7 i = nI (stQ th Z i) := fun i hi => by
    obtain ⟨s1, s2, s3⟩ := stQ_spec hi
    have e := hS.2 _ s1 s2
    rw [s3] at e
    exact e
  have esw := X_swap (W := W0) (a := 0) (b := cntF th wt) (by decide) (by omega) (hrow 0 (by omega)) (hrow _ hlt)
  have eq0 : stQ th Z (cntF th wt) = wt := stQ_ls wt hwt hw
  have inj : ∀ i j, i < cntF th Z → j < cntF th Z → stQ th Z i = stQ th Z j → i = j := fun i j hi hj e => by
    have h1 := (stQ_spec hi).2.2
    have h2 := (stQ_spec hj).2.2
    rw [e] at h1
    omega
  obtain ⟨W2, v, f1, f2, f3⟩ := X_q18 (W0 := W0) (wt := wt) hT hZ hC hL hS.1 (cntF th Z) 0 FU (am_set (am_set W0 4 7 0 (nI (stQ th Z (cntF th wt)))) 4 7 (cntF th wt) (nI (stQ th Z 0))) (swp (stQ th Z) 0 (cntF th wt)) 1 (by omega) (FU_gt (by omega)) (by omega) ⟨((KX.rf W0).set (Or.inl ⟨by decide, by decide⟩)).set (Or.inl ⟨by decide, by decide⟩), fun a y => by rw [am_get_row (Or.inr y), am_get_row (Or.inr y)], ⟨Nat.le_refl 1, by rw [swp_a, eq0], fun i hi => by
      have : i = 0 := by omega
      rw [this, swp_a, eq0]
      exact ⟨hwt, hw⟩, fun i j hi hj _ => by omega, fun S hSS i hi => by
      have : i = 0 := by omega
      rw [this, swp_a, eq0]
      exact hSS.1⟩, by omega, fun i hi => by
      obtain ⟨k, k1, k2, -⟩ := swp_at (q := stQ th Z) (show 0 < cntF th Z by omega) hlt i hi
      obtain ⟨s1, s2, -⟩ := stQ_spec k1
      exact ⟨swp_row (show 0 < cntF th Z by omega) hlt hrow i hi, by rw [k2]; exact ⟨s1, s2⟩⟩, swp_inj (show 0 < cntF th Z by omega) hlt inj⟩ (fun i hi => absurd hi (Nat.not_lt_zero i))
  refine ⟨W2, v, ?_, f2, f3⟩
  have esw' : mX3_swapStays 0 (nI (cntF th wt)) W0 = some ((), am_set (am_set W0 4 7 0 (nI (stQ th Z (cntF th wt)))) 4 7 (cntF th wt) (nI (stQ th Z 0))) := esw
  unfold mX3_howManyReached
  rw [if_pos (nI_n9 (by omega)), esw', cl_mk]
  exact f1
theorem X_fitC {fit : Nat → Bool} (h8 : W0.1 4 0 8 = nI Z) (hZ : Z ≤ 1024) (hft : ∀ u, u < Z → (W0.1 4 6 u = 0 ↔ fit u = false)) : mX3_howManyFit W0 = some (nI (cntF fit Z), W0) := by
  unfold mX3_howManyFit
  refine loopE (fun n (s : Int32 × Int32) => mX3_howManyFit_4 n s.1 s.2 W0) Z (fun k => (nI (cntF fit k), nI k)) _ ?_ ?_ FU 0 (Nat.zero_le _) (FU_gt (by omega))
  · intro n t ht
    have e26 : ∀ x : Int32, mX3_howManyFit_26 (mX3_howManyFit_4 n) x (nI t) W0 = mX3_howManyFit_4 n x (nI (t + 1)) W0 := fun x => by
      unfold mX3_howManyFit_26
      rw [nm_mk, show nI t + 1 = nI (t + 1) from nI_add t 1]
    have ecn : cntF fit (t + 1) = cntF fit t + bN (fit t) := rfl
    dsimp only
    rw [mX3_howManyFit_4, h8, if_neg (nI_ge ht (by omega)), at_in W0 (show t < 1024 by omega) (by decide), cl_mk, ecn]
    cases q : fit t
    · rw [if_pos ((hft t ht).mpr q), e26]
      rfl
    · rw [if_neg (fun z => by rw [(hft t ht).mp z] at q; cases q), nm_mk, e26, show nI (cntF fit t) + 1 = nI (cntF fit t + bN true) from nI_add _ 1]
  · intro n
    dsimp only
    rw [mX3_howManyFit_4, h8, if_pos (nI_le (Nat.le_refl Z) (by omega))]
theorem X_ans {fit : Nat → Bool} {rho : Nat} (hT : TX W0 L Z CL TU OW br wh) (hZ : Z ≤ 1024) (hC : CL < 2 ^ 10) (hL : L < 9) (hS : StL W0 th Z) (hwl : ∀ t, wh t < 2) (hft : ∀ u, u < Z → (W0.1 4 6 u = 0 ↔ fit u = false)) (h12 : W0.1 4 0 12 = nI rho) {what : Nat} (hw : what ≤ 6) :
    ∃ W2 a, mX3_answer (nI what) W0 = some (a, W2) ∧ KX W0 W2 ∧ AnsOK what th (seeX L CL TU br) fit (fun t => decide (wh t = 1)) Z rho a := by
  have h5 : ∀ t, t < Z → W0.1 4 5 t = nI (wh t) := fun t ht => (hT.2.2.2 t ht).2.2
  obtain ⟨x, px, hx⟩ := X_place hZ hS.1 hS.2 h5 hwl (v := 1) (by decide)
  have px' : mX3_placeWhere 1 W0 = some (x, W0) := px
  have d1 : ∀ t, (fun t => decide (wh t = 1)) t = true ↔ wh t = 1 := fun t => decide_eq_true_iff
  have d0 : ∀ t, wh t ≠ 1 → (fun t => decide (wh t = 1)) t = false := fun t h => decide_eq_false h
  rcases (show what = 0 ∨ what = 1 ∨ what = 2 ∨ what = 3 ∨ what = 4 ∨ what = 5 ∨ what = 6 by omega) with e | e | e | e | e | e | e
  · subst e
    unfold mX3_answer
    rw [if_pos (show nI 0 = 0 from rfl), px', cl_mk]
    have wh0 : ∀ b : Bool, (mX3_answer_55 (nI (bN b)) W0 : Option (Int32 × AW)) = some (nI (bN b), W0) := fun b => by cases b <;> rfl
    rcases hx with ⟨y1, y2⟩ | ⟨t, t1, t2, t3, t4, t5⟩
    · rw [if_pos y1]
      refine ⟨W0, _, wh0 false, KX.rf W0, fun _ => ?_, fun z => by omega, fun z => by omega, fun z => by omega, fun z => by omega, fun z => by omega, fun z => by omega⟩
      congr 2
      cases q : exB (fun t => th t && decide (wh t = 1)) Z
      · rfl
      · obtain ⟨k, k1, k2⟩ := exB_iff.mp q
        rw [Bool.and_eq_true, decide_eq_true_eq] at k2
        exact absurd k2.2 (y2 k k1 k2.1)
    · have := cntF_le th t
      rw [if_neg (show ¬ x = -9 by rw [t5]; exact nI_n9 (by omega))]
      refine ⟨W0, _, wh0 true, KX.rf W0, fun _ => ?_, fun z => by omega, fun z => by omega, fun z => by omega, fun z => by omega, fun z => by omega, fun z => by omega⟩
      rw [exB_iff.mpr ⟨t, t1, by show (th t && decide (wh t = 1)) = true; rw [t2, t3]; rfl⟩]
  · subst e
    have el := X_law hZ hS.1 hS.2 h5 hwl
    exact ⟨W0, _, el, KX.rf W0, fun z => by omega, fun _ => rfl, fun z => by omega, fun z => by omega, fun z => by omega, fun z => by omega, fun z => by omega⟩
  · subst e
    unfold mX3_answer
    rw [if_neg (show ¬ nI 2 = 0 by decide), if_neg (show ¬ nI 2 = 1 by decide), if_pos (show nI 2 = 2 from rfl), px', cl_mk]
    rcases hx with ⟨y1, y2⟩ | ⟨t, t1, t2, t3, t4, t5⟩
    · rw [if_neg (fun z => z y1)]
      exact ⟨W0, -9, rfl, KX.rf W0, fun z => by omega, fun z => by omega, fun _ => Or.inl ⟨rfl, fun t h1 h2 => d0 t (y2 t h1 h2)⟩, fun z => by omega, fun z => by omega, fun z => by omega, fun z => by omega⟩
    · have hle := cntF_le th t
      rw [if_pos (show x ≠ -9 by rw [t5]; exact nI_n9 (by omega)), px', cl_mk, t5, at_in W0 (show cntF th t < 1024 by omega) (by decide), hS.2 t t1 t2, cl_mk]
      exact ⟨W0, nI t, rfl, KX.rf W0, fun z => by omega, fun z => by omega, fun _ => Or.inr ⟨t, t1, t2, (d1 t).mpr t3, fun u h1 h2 => d0 u (t4 u h1 h2), rfl⟩, fun z => by omega, fun z => by omega, fun z => by omega, fun z => by omega⟩
  · subst e
    unfold mX3_answer
    rw [if_neg (show ¬ nI 3 = 0 by decide), if_neg (show ¬ nI 3 = 1 by decide), if_neg (show ¬ nI 3 = 2 by decide), if_pos (show nI 3 = 3 from rfl), px', cl_mk]
    rcases hx with ⟨y1, y2⟩ | ⟨t, t1, t2, t3, t4, t5⟩
    · have eh : mX3_howManyReached x W0 = some (0, W0) := by
        unfold mX3_howManyReached
        rw [if_neg (fun z => z y1)]
      rw [eh, cl_mk]
      exact ⟨W0, 0, rfl, KX.rf W0, fun z => by omega, fun z => by omega, fun z => by omega, fun _ => Or.inl ⟨rfl, fun t h1 h2 => d0 t (y2 t h1 h2)⟩, fun z => by omega, fun z => by omega, fun z => by omega⟩
    · obtain ⟨W2, v, g1, g2, g3⟩ := X_reached hT hZ hC hL hS t1 t2
      rw [t5, g1, cl_mk]
      exact ⟨W2, nI v, rfl, g2, fun z => by omega, fun z => by omega, fun z => by omega, fun _ => Or.inr ⟨t, v, t1, Or.inr ⟨t, t1, t2, (d1 t).mpr t3, fun u h1 h2 => d0 u (t4 u h1 h2), rfl⟩, g3, rfl⟩, fun z => by omega, fun z => by omega, fun z => by omega⟩
  · subst e
    unfold mX3_answer
    rw [if_neg (show ¬ nI 4 = 0 by decide), if_neg (show ¬ nI 4 = 1 by decide), if_neg (show ¬ nI 4 = 2 by decide), if_neg (show ¬ nI 4 = 3 by decide), if_pos (show nI 4 = 4 from rfl), X_fitC hT.2.1 hZ hft, cl_mk]
    exact ⟨W0, nI (cntF fit Z), rfl, KX.rf W0, fun z => by omega, fun z => by omega, fun z => by omega, fun z => by omega, fun _ => rfl, fun z => by omega, fun z => by omega⟩
  · subst e
    unfold mX3_answer
    rw [if_neg (show ¬ nI 5 = 0 by decide), if_neg (show ¬ nI 5 = 1 by decide), if_neg (show ¬ nI 5 = 2 by decide), if_neg (show ¬ nI 5 = 3 by decide), if_neg (show ¬ nI 5 = 4 by decide), if_pos (show nI 5 = 5 from rfl), hS.1]
    exact ⟨W0, nI (cntF th Z), rfl, KX.rf W0, fun z => by omega, fun z => by omega, fun z => by omega, fun z => by omega, fun z => by omega, fun _ => rfl, fun z => by omega⟩
  · subst e
    unfold mX3_answer
    rw [if_neg (show ¬ nI 6 = 0 by decide), if_neg (show ¬ nI 6 = 1 by decide), if_neg (show ¬ nI 6 = 2 by decide), if_neg (show ¬ nI 6 = 3 by decide), if_neg (show ¬ nI 6 = 4 by decide), if_neg (show ¬ nI 6 = 5 by decide), h12]
    exact ⟨W0, nI rho, rfl, KX.rf W0, fun z => by omega, fun z => by omega, fun z => by omega, fun z => by omega, fun z => by omega, fun z => by omega, fun _ => rfl⟩
end RX2
