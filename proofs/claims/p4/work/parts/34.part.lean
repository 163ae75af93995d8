/-! worlds alike, by rounds: er r a b; no order of names in it -/
def e0 (A : Nat → Nat) (a b : Nat) : Bool := allT (fun i => (A i).testBit a == (A i).testBit b) 4
def exB (q : Nat → Bool) : Nat → Bool
  | 0 => false
  | n + 1 => exB q n || q n
theorem exB_iff {q : Nat → Bool} {n : Nat} : exB q n = true ↔ ∃ k, k < n ∧ q k = true := by
  induction n with
  | zero => exact ⟨(fun h => by cases h), (fun ⟨k, hk, _⟩ => by omega)⟩
  | succ n ih =>
    simp only [exB, Bool.or_eq_true, ih]
    constructor
    · rintro (⟨k, h1, h2⟩ | h)
      · exact ⟨k, by omega, h2⟩
      · exact ⟨n, by omega, h⟩
    · rintro ⟨k, h1, h2⟩
      by_cases e : k = n
      · subst e; exact Or.inr h2
      · exact Or.inl ⟨k, by omega, h2⟩
/-- each one seen from a has one alike seen from b -/
def goB (N : Nat) (Fr : Nat → Nat) (E : Nat → Nat → Bool) (a b : Nat) : Bool := allT (fun v => !(Fr a).testBit v || exB (fun u => (Fr b).testBit u && E v u) N) N
def er (N : Nat) (Fr A : Nat → Nat) : Nat → Nat → Nat → Bool
  | 0 => e0 A
  | r + 1 => fun a b => er N Fr A r a b && (goB N Fr (er N Fr A r) a b && goB N Fr (er N Fr A r) b a)
theorem goB_iff {N : Nat} {Fr : Nat → Nat} {E : Nat → Nat → Bool} {a b : Nat} : goB N Fr E a b = true ↔ ∀ v, v < N → (Fr a).testBit v = true → ∃ u, u < N ∧ (Fr b).testBit u = true ∧ E v u = true := by
  unfold goB
  rw [allT_iff]
  constructor
  · intro h v hv hb
    have := h v hv
    rw [hb] at this
    simp only [Bool.not_true, Bool.false_or] at this
    obtain ⟨u, h1, h2⟩ := exB_iff.mp this
    rw [Bool.and_eq_true] at h2
    exact ⟨u, h1, h2.1, h2.2⟩
  · intro h v hv
    cases q : (Fr a).testBit v
    · rfl
    · simp only [Bool.not_true, Bool.false_or]
      obtain ⟨u, h1, h2, h3⟩ := h v hv q
      exact exB_iff.mpr ⟨u, h1, by rw [h2, h3]; rfl⟩
section ER
variable {N : Nat} {Fr A : Nat → Nat}
theorem e0_refl (a : Nat) : e0 A a a = true := allT_iff.mpr (fun i _ => by simp)
theorem e0_symm {a b : Nat} (h : e0 A a b = true) : e0 A b a = true := allT_iff.mpr (fun i hi => by
  have := allT_iff.mp h i hi
  rw [beq_iff_eq] at this ⊢
  exact this.symm)
theorem e0_trans {a b c : Nat} (h : e0 A a b = true) (h2 : e0 A b c = true) : e0 A a c = true := allT_iff.mpr (fun i hi => by
  have q1 := allT_iff.mp h i hi
  have q2 := allT_iff.mp h2 i hi
  rw [beq_iff_eq] at q1 q2 ⊢
  exact q1.trans q2)
theorem er_eqv : ∀ r, (∀ a, er N Fr A r a a = true) ∧ (∀ a b, er N Fr A r a b = true → er N Fr A r b a = true) ∧ (∀ a b c, er N Fr A r a b = true → er N Fr A r b c = true → er N Fr A r a c = true)
  | 0 => ⟨e0_refl, fun _ _ => e0_symm, fun _ _ _ => e0_trans⟩
  | r + 1 => by
    obtain ⟨i1, i2, i3⟩ := er_eqv r
    simp only [er, Bool.and_eq_true, goB_iff]
    refine ⟨fun a => ⟨i1 a, fun v hv hb => ⟨v, hv, hb, i1 v⟩, fun v hv hb => ⟨v, hv, hb, i1 v⟩⟩, ?_, ?_⟩
    · rintro a b ⟨h1, h2, h3⟩
      exact ⟨i2 _ _ h1, h3, h2⟩
    · rintro a b c ⟨h1, h2, h3⟩ ⟨g1, g2, g3⟩
      refine ⟨i3 _ _ _ h1 g1, fun v hv hb => ?_, fun v hv hb => ?_⟩
      · obtain ⟨u, u1, u2, u3⟩ := h2 v hv hb
        obtain ⟨t, t1, t2, t3⟩ := g2 u u1 u2
        exact ⟨t, t1, t2, i3 _ _ _ u3 t3⟩
      · obtain ⟨u, u1, u2, u3⟩ := g3 v hv hb
        obtain ⟨t, t1, t2, t3⟩ := h3 u u1 u2
        exact ⟨t, t1, t2, i3 _ _ _ u3 t3⟩
theorem er_succ {r a b : Nat} : er N Fr A (r + 1) a b = true ↔ er N Fr A r a b = true ∧ (∀ v, v < N → (Fr a).testBit v = true → ∃ u, u < N ∧ (Fr b).testBit u = true ∧ er N Fr A r v u = true) ∧ (∀ v, v < N → (Fr b).testBit v = true → ∃ u, u < N ∧ (Fr a).testBit u = true ∧ er N Fr A r v u = true) := by
  show (er N Fr A r a b && (goB N Fr (er N Fr A r) a b && goB N Fr (er N Fr A r) b a)) = true ↔ _
  rw [Bool.and_eq_true, Bool.and_eq_true, goB_iff, goB_iff]
theorem er_down {r a b : Nat} (h : er N Fr A (r + 1) a b = true) : er N Fr A r a b = true := by
  simp only [er, Bool.and_eq_true] at h
  exact h.1
theorem er_le {r s a b : Nat} (hrs : r ≤ s) (h : er N Fr A s a b = true) : er N Fr A r a b = true := by
  obtain ⟨d, rfl⟩ := Nat.exists_eq_add_of_le hrs
  clear hrs
  induction d with
  | zero => exact h
  | succ d ih => exact ih (er_down h)
/-- nothing before w is like it -/
def isRep (N : Nat) (Fr A : Nat → Nat) (r w : Nat) : Bool := allT (fun v => !er N Fr A r v w) w
theorem isRep_iff {r w : Nat} : isRep N Fr A r w = true ↔ ∀ v, v < w → er N Fr A r v w = false := by
  unfold isRep
  rw [allT_iff]
  constructor
  · intro h v hv
    have := h v hv
    simpa using this
  · intro h v hv
    rw [h v hv]
    rfl
theorem isRep_up {r w : Nat} (h : isRep N Fr A r w = true) : isRep N Fr A (r + 1) w = true := by
  rw [isRep_iff] at h ⊢
  intro v hv
  cases q : er N Fr A (r + 1) v w
  · rfl
  · have := h v hv
    rw [er_down q] at this
    cases this
/-- the least that is like w -/
theorem rep_ex (N : Nat) (Fr A : Nat → Nat) (r w : Nat) : ∃ v, v ≤ w ∧ er N Fr A r v w = true ∧ isRep N Fr A r v = true := by
  obtain ⟨v, hv, hmin⟩ := pk_least (fun v => er N Fr A r v w = true) ⟨w, (er_eqv r).1 w⟩
  have hvw : v ≤ w := by
    rcases Nat.lt_or_ge w v with q | q
    · exact absurd ((er_eqv (N := N) (Fr := Fr) (A := A) r).1 w) (hmin w q)
    · exact q
  refine ⟨v, hvw, hv, isRep_iff.mpr (fun u hu => ?_)⟩
  cases q : er N Fr A r u v
  · rfl
  · exact absurd ((er_eqv r).2.2 _ _ _ q hv) (hmin u hu)
theorem rep_uniq {r u v : Nat} (hu : isRep N Fr A r u = true) (hv : isRep N Fr A r v = true) (h : er N Fr A r u v = true) : u = v := by
  rw [isRep_iff] at hu hv
  rcases Nat.lt_trichotomy u v with q | q | q
  · rw [hv u q] at h; cases h
  · exact q
  · have h2 := (er_eqv r).2.1 _ _ h
    rw [hu v q] at h2; cases h2
/-- the same least ones: nothing is cut -/
theorem rep_stable {r : Nat} (h : ∀ w, w < N → isRep N Fr A (r + 1) w = true → isRep N Fr A r w = true) {a b : Nat} (ha : a < N) (hb : b < N) (hab : er N Fr A r a b = true) : er N Fr A (r + 1) a b = true := by
  obtain ⟨v, v1, v2, v3⟩ := rep_ex N Fr A (r + 1) a
  obtain ⟨u, u1, u2, u3⟩ := rep_ex N Fr A (r + 1) b
  have e1 := h v (by omega) v3
  have e2 := h u (by omega) u3
  have e3 : er N Fr A r v u = true := (er_eqv r).2.2 _ _ _ ((er_eqv r).2.2 _ _ _ (er_down v2) hab) ((er_eqv r).2.1 _ _ (er_down u2))
  have := rep_uniq e1 e2 e3
  subst this
  exact (er_eqv (r + 1)).2.2 _ _ _ ((er_eqv (r + 1)).2.1 _ _ v2) u2
def repC (N : Nat) (Fr A : Nat → Nat) (r : Nat) : Nat → Nat
  | 0 => 0
  | w + 1 => repC N Fr A r w + bN (isRep N Fr A r w)
theorem repC_le (r : Nat) : ∀ w, repC N Fr A r w ≤ w
  | 0 => Nat.le_refl _
  | w + 1 => by
    have := repC_le r w
    have := bN_lt (isRep N Fr A r w)
    simp only [repC]
    omega
theorem repC_mono (r : Nat) : ∀ w, repC N Fr A r w ≤ repC N Fr A (r + 1) w
  | 0 => Nat.le_refl _
  | w + 1 => by
    have := repC_mono r w
    simp only [repC]
    cases q : isRep N Fr A r w
    · rw [bN_f]; omega
    · rw [isRep_up q]; omega
theorem repC_strict (r : Nat) : ∀ w, (∃ v, v < w ∧ isRep N Fr A (r + 1) v = true ∧ isRep N Fr A r v = false) → repC N Fr A r w + 1 ≤ repC N Fr A (r + 1) w := by
  intro w
  induction w with
  | zero => rintro ⟨v, hv, _⟩; omega
  | succ w ih =>
    rintro ⟨v, hv, h1, h2⟩
    simp only [repC]
    by_cases e : v = w
    · subst e
      have := repC_mono (N := N) (Fr := Fr) (A := A) r v
      rw [h1, h2, bN_t, bN_f]
      omega
    · have := ih ⟨v, by omega, h1, h2⟩
      cases q : isRep N Fr A r w
      · rw [bN_f]; omega
      · rw [isRep_up q]; omega
theorem repC_pos (r : Nat) (h : 1 ≤ N) : 1 ≤ repC N Fr A r N := by
  have e : ∀ w, 1 ≤ w → 1 ≤ repC N Fr A r w := by
    intro w
    induction w with
    | zero => intro h; omega
    | succ w ih =>
      intro _
      simp only [repC]
      by_cases e : w = 0
      · subst e
        have : isRep N Fr A r 0 = true := isRep_iff.mpr (fun v hv => by omega)
        rw [this]
        exact Nat.le_add_left 1 _
      · have := ih (by omega)
        omega
  exact e N h
theorem er_keeps {r a b : Nat} (ha : a < N) (hb : b < N) (h : ∀ a b, a < N → b < N → er N Fr A r a b = true → er N Fr A (r + 1) a b = true) : ∀ s, r ≤ s → er N Fr A r a b = true → er N Fr A s a b = true := by
  have key : ∀ d, ∀ a b, a < N → b < N → er N Fr A (r + d) a b = true → er N Fr A (r + d + 1) a b = true := by
    intro d
    induction d with
    | zero => exact h
    | succ d ih =>
      intro a b ha hb hab
      have h2 := er_succ.mp hab
      refine er_succ.mpr ⟨hab, fun v hv q => ?_, fun v hv q => ?_⟩
      · obtain ⟨u, u1, u2, u3⟩ := h2.2.1 v hv q
        exact ⟨u, u1, u2, ih v u hv u1 u3⟩
      · obtain ⟨u, u1, u2, u3⟩ := h2.2.2 v hv q
        exact ⟨u, u1, u2, ih v u hv u1 u3⟩
  intro s hs hab
  obtain ⟨d, rfl⟩ := Nat.exists_eq_add_of_le hs
  clear hs
  induction d with
  | zero => exact hab
  | succ d ih => exact key d a b ha hb ih
/-- after N - 1 rounds all that falls apart has -/
theorem er_end (h1 : 1 ≤ N) {r s a b : Nat} (hr : N ≤ r + 1) (hs : r ≤ s) (ha : a < N) (hb : b < N) (h : er N Fr A r a b = true) : er N Fr A s a b = true := by
  have grow : ∀ r, (∀ a b, a < N → b < N → er N Fr A r a b = true → er N Fr A (r + 1) a b = true) ∨ r + 2 ≤ repC N Fr A (r + 1) N := by
    intro r
    induction r with
    | zero =>
      by_cases q : ∃ v, v < N ∧ isRep N Fr A (0 + 1) v = true ∧ isRep N Fr A 0 v = false
      · have := repC_strict (N := N) (Fr := Fr) (A := A) 0 N q
        have := repC_pos (N := N) (Fr := Fr) (A := A) 0 h1
        exact Or.inr (by omega)
      · exact Or.inl (fun a b ha hb => rep_stable (fun w hw hw2 => by
          cases z : isRep N Fr A 0 w
          · exact absurd ⟨w, hw, hw2, z⟩ q
          · rfl) ha hb)
    | succ r ih =>
      by_cases q : ∃ v, v < N ∧ isRep N Fr A (r + 1 + 1) v = true ∧ isRep N Fr A (r + 1) v = false
      · rcases ih with ih | ih
        · refine Or.inl (fun a b ha hb hab => ?_)
          exact er_keeps ha hb ih (r + 1 + 1) (by omega) (er_down hab)
        · have := repC_strict (N := N) (Fr := Fr) (A := A) (r + 1) N q
          exact Or.inr (by omega)
      · exact Or.inl (fun a b ha hb => rep_stable (fun w hw hw2 => by
          cases z : isRep N Fr A (r + 1) w
          · exact absurd ⟨w, hw, hw2, z⟩ q
          · rfl) ha hb)
  rcases grow r with g | g
  · exact er_keeps ha hb g s hs h
  · have := repC_le (N := N) (Fr := Fr) (A := A) (r + 1) N
    omega
end ER
