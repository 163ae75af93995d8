/-! counting by a list -/
theorem cntF_add {g g' : Nat → Bool} {x : Nat} (h0 : g x = false) (h1 : g' x = true) (he : ∀ p, p ≠ x → g' p = g p) : ∀ P, cntF g' P = cntF g P + (if x < P then 1 else 0)
  | 0 => by rw [if_neg (by omega)]; rfl
  | P + 1 => by
    have ih := cntF_add h0 h1 he P
    show cntF g' P + bN (g' P) = cntF g P + bN (g P) + _
    rw [ih]
    by_cases e : P = x
    · subst e
      rw [h0, h1, bN_t, bN_f, if_neg (by omega), if_pos (by omega)]
    · rw [he P e]
      by_cases q : x < P
      · rw [if_pos q, if_pos (by omega)]; omega
      · rw [if_neg q, if_neg (by omega)]
        omega
def memB (q : Nat → Nat) (n p : Nat) : Bool := exB (fun j => decide (q j = p)) n
theorem memB_iff {q : Nat → Nat} {n p : Nat} : memB q n p = true ↔ ∃ j, j < n ∧ q j = p := by
  unfold memB
  rw [exB_iff]
  constructor
  · rintro ⟨j, h1, h2⟩
    exact ⟨j, h1, of_decide_eq_true h2⟩
  · rintro ⟨j, h1, h2⟩
    exact ⟨j, h1, decide_eq_true h2⟩
theorem memB_cnt {q : Nat → Nat} {P : Nat} : ∀ n, cntF (memB q n) P ≤ n ∧ ((∀ j, j < n → q j < P) → (∀ i j, i < n → j < n → q i = q j → i = j) → cntF (memB q n) P = n)
  | 0 => by
    have : ∀ P, cntF (memB q 0) P = 0 := by
      intro P
      induction P with
      | zero => rfl
      | succ P ih =>
        show cntF (memB q 0) P + bN (memB q 0 P) = 0
        rw [ih]
        rfl
    rw [this]
    exact ⟨Nat.le_refl 0, fun _ _ => rfl⟩
  | n + 1 => by
    obtain ⟨i1, i2⟩ := memB_cnt (q := q) (P := P) n
    have es : ∀ p, memB q (n + 1) p = (memB q n p || decide (q n = p)) := fun p => rfl
    cases z : memB q n (q n)
    · have h := cntF_add (g := memB q n) (g' := memB q (n + 1)) z (by rw [es, decide_eq_true rfl, Bool.or_true]) (fun p hp => by rw [es, decide_eq_false (fun y => hp y.symm), Bool.or_false]) P
      refine ⟨?_, fun h1 h2 => ?_⟩
      · rw [h]
        split <;> omega
      · rw [h, if_pos (h1 n (by omega)), i2 (fun j hj => h1 j (by omega)) (fun i j hi hj => h2 i j (by omega) (by omega))]
    · have same : ∀ p, memB q (n + 1) p = memB q n p := fun p => by
        rw [es]
        by_cases y : q n = p
        · rw [← y, z]; rfl
        · rw [decide_eq_false y, Bool.or_false]
      have h : ∀ P, cntF (memB q (n + 1)) P = cntF (memB q n) P := by
        intro P
        induction P with
        | zero => rfl
        | succ P ih =>
          show cntF (memB q (n + 1)) P + bN (memB q (n + 1) P) = cntF (memB q n) P + bN (memB q n P)
          rw [ih, same]
      refine ⟨by rw [h]; omega, fun h1 h2 => ?_⟩
      obtain ⟨j, j1, j2⟩ := memB_iff.mp z
      have := h2 j n (by omega) (by omega) j2
      omega
theorem cnt_inj {h : Nat → Bool} {P n : Nat} {q : Nat → Nat} (h1 : ∀ j, j < n → q j < P ∧ h (q j) = true) (h2 : ∀ i j, i < n → j < n → q i = q j → i = j) : n ≤ cntF h P := by
  rw [← (memB_cnt (q := q) (P := P) n).2 (fun j hj => (h1 j hj).1) h2]
  refine cntF_mono (fun p _ z => ?_)
  obtain ⟨j, j1, j2⟩ := memB_iff.mp z
  rw [← j2]
  exact (h1 j j1).2
theorem cnt_surj {h : Nat → Bool} {P n : Nat} {q : Nat → Nat} (h1 : ∀ p, p < P → h p = true → ∃ j, j < n ∧ q j = p) : cntF h P ≤ n :=
  Nat.le_trans (cntF_mono (fun p hp z => memB_iff.mpr (h1 p hp z))) (memB_cnt (q := q) (P := P) n).1
/-- the model's list of parts with a bit: their classes, in the order of their places -/
def ListOK (h : Nat → Bool) (P nb : Nat) (q pl : Nat → Nat) : Prop := (∀ j, j < nb → q j < P ∧ h (q j) = true) ∧ (∀ i j, i < j → j < nb → pl (q i) < pl (q j)) ∧ (∀ p, p < P → h p = true → ∃ j, j < nb ∧ q j = p)
theorem list_inj {h : Nat → Bool} {P nb : Nat} {q pl : Nat → Nat} (hl : ∀ i j, i < j → j < nb → pl (q i) < pl (q j)) : ∀ i j, i < nb → j < nb → q i = q j → i = j := by
  intro i j hi hj he
  rcases Nat.lt_trichotomy i j with z | z | z
  · have := hl i j z hj; rw [he] at this; omega
  · exact z
  · have := hl j i z hi; rw [he] at this; omega
/-- the class's bit of a part is its number in the list -/
theorem list_rank {h : Nat → Bool} {P nb : Nat} {q pl : Nat → Nat} (hk : ListOK h P nb q pl) {j : Nat} (hj : j < nb) : rkF h pl P (q j) = j := by
  obtain ⟨h1, h2, h3⟩ := hk
  have inj := list_inj (h := h) (P := P) h2
  unfold rkF
  apply Nat.le_antisymm
  · refine cnt_surj (q := q) (fun p hp z => ?_)
    unfold befB at z
    rw [Bool.and_eq_true, decide_eq_true_eq] at z
    obtain ⟨i, i1, i2⟩ := h3 p hp z.1
    refine ⟨i, ?_, i2⟩
    rcases Nat.lt_trichotomy i j with y | y | y
    · exact y
    · exfalso
      rw [← i2, y] at z
      omega
    · exfalso
      have := h2 j i y i1
      rw [← i2] at z
      omega
  · refine cnt_inj (q := q) (fun i hi => ⟨(h1 i (by omega)).1, ?_⟩) (fun a b ha hb => inj a b (by omega) (by omega))
    unfold befB
    rw [(h1 i (by omega)).2, decide_eq_true (Or.inl (h2 i j hi hj))]
    rfl
theorem list_cnt {h : Nat → Bool} {P nb : Nat} {q pl : Nat → Nat} (hk : ListOK h P nb q pl) : cntF h P = nb := by
  obtain ⟨h1, h2, h3⟩ := hk
  exact Nat.le_antisymm (cnt_surj h3) (cnt_inj h1 (list_inj (h := h) (P := P) h2))
