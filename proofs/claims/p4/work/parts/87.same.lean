/-! the class's types and the model's: the same, but for the order of the bits -/
def BitOK (n : Nat) (pi f : Nat → Nat) : Prop := (∀ j, j < n → pi j < n) ∧ (∀ i, i < n → ∃ j, j < n ∧ pi j = i) ∧ (∀ t, t < 2 ^ n → f t < 2 ^ n) ∧ (∀ t j, t < 2 ^ n → j < n → (f t).testBit (pi j) = t.testBit j) ∧ (∀ u, u < 2 ^ n → ∃ t, t < 2 ^ n ∧ f t = u)
def MskOK (n : Nat) (pi : Nat → Nat) (CL TU OW mu my : Nat) : Prop := CL < 2 ^ n ∧ TU < 2 ^ n ∧ OW < 2 ^ n ∧ mu < 2 ^ n ∧ my < 2 ^ n ∧ ∀ j, j < n → CL.testBit (pi j) = (mu.testBit j || my.testBit j) ∧ TU.testBit (pi j) = my.testBit j ∧ OW.testBit (pi j) = (mu.testBit j || my.testBit j) ∧ (mu.testBit j && my.testBit j) = false
def BrOK (n : Nat) (pi f : Nat → Nat) (mu my : Nat) (br inn : Nat → Nat) : Prop := ∀ t, t < 2 ^ n → ∀ j, j < n → (mu.testBit j = true → (br (f t)).testBit (pi j) = (inn t).testBit j) ∧ (my.testBit j = true → (br (f t)).testBit (pi j) = !(inn t).testBit j)
theorem BitOK.rf (n : Nat) : BitOK n id id := ⟨fun _ h => h, fun i h => ⟨i, h, rfl⟩, fun _ h => h, fun _ _ _ _ => rfl, fun u h => ⟨u, h, rfl⟩⟩
theorem bool_eq {a b : Bool} (h : a = true ↔ b = true) : a = b := by
  cases a <;> cases b <;> simp at h ⊢
theorem mfB_iff {sees : Nat → Bool} {br : Nat → Nat} {o0 Z : Nat} {b0 : Bool} : mfB sees br o0 b0 Z = true ↔ (∃ k, o0.testBit k = true ∧ ∀ u, u < Z → sees u = true → (br u).testBit k = true) ∨ (b0 = true ∧ ∀ u, u < Z → sees u = false) := by
  have ho : ∀ Z k, (owN sees br o0 Z).testBit k = true ↔ (o0.testBit k = true ∧ ∀ u, u < Z → sees u = true → (br u).testBit k = true) := by
    intro Z k
    induction Z with
    | zero => exact ⟨fun h => ⟨h, fun u hu => absurd hu (Nat.not_lt_zero u)⟩, fun h => h.1⟩
    | succ Z ih =>
      show (if sees Z = true then owN sees br o0 Z &&& br Z else owN sees br o0 Z).testBit k = true ↔ _
      by_cases q : sees Z = true
      · rw [if_pos q, Nat.testBit_and, Bool.and_eq_true, ih]
        constructor
        · rintro ⟨⟨h1, h2⟩, h3⟩
          exact ⟨h1, fun u hu z => by
            by_cases e : u = Z
            · rw [e]; exact h3
            · exact h2 u (by omega) z⟩
        · rintro ⟨h1, h2⟩
          exact ⟨⟨h1, fun u hu z => h2 u (by omega) z⟩, h2 Z (by omega) q⟩
      · rw [if_neg q, ih]
        constructor
        · rintro ⟨h1, h2⟩
          exact ⟨h1, fun u hu z => by
            by_cases e : u = Z
            · rw [e] at z; exact absurd z q
            · exact h2 u (by omega) z⟩
        · rintro ⟨h1, h2⟩
          exact ⟨h1, fun u hu z => h2 u (by omega) z⟩
  have hm : ∀ Z, msN sees b0 Z = true ↔ (b0 = true ∧ ∀ u, u < Z → sees u = false) := by
    intro Z
    induction Z with
    | zero => exact ⟨fun h => ⟨h, fun u hu => absurd hu (Nat.not_lt_zero u)⟩, fun h => h.1⟩
    | succ Z ih =>
      show (msN sees b0 Z && !sees Z) = true ↔ _
      rw [Bool.and_eq_true, ih]
      constructor
      · rintro ⟨⟨h1, h2⟩, h3⟩
        exact ⟨h1, fun u hu => by
          by_cases e : u = Z
          · rw [e]; simpa using h3
          · exact h2 u (by omega)⟩
      · rintro ⟨h1, h2⟩
        exact ⟨⟨h1, fun u hu => h2 u (by omega)⟩, by rw [h2 Z (by omega)]; rfl⟩
  unfold mfB
  rw [Bool.or_eq_true, hm]
  constructor
  · rintro (h | h)
    · refine Or.inl ?_
      have hne : owN sees br o0 Z ≠ 0 := by simpa using h
      apply Classical.byContradiction
      intro hno
      apply hne
      refine zero_iff_bits.mpr (fun k => ?_)
      cases e : (owN sees br o0 Z).testBit k
      · rfl
      · exact absurd ⟨k, (ho Z k).mp e⟩ hno
    · exact Or.inr h
  · rintro (⟨k, hk⟩ | h)
    · refine Or.inl ?_
      have : owN sees br o0 Z ≠ 0 := fun z => by
        have := (ho Z k).mpr hk
        rw [z, Nat.zero_testBit] at this
        cases this
      simpa using this
    · exact Or.inr h
section SAME
variable {n : Nat} {pi f : Nat → Nat} {CL TU OW mu my L : Nat} {br inn : Nat → Nat}
theorem sd_pi (hb : BitOK n pi f) (hn : n ≤ 10) {x y : Nat} (hx : x < 2 ^ n) : sdiff x y = 0 ↔ ∀ j, j < n → x.testBit (pi j) = true → y.testBit (pi j) = true := by
  rw [sdiff_zero hx (by omega)]
  constructor
  · intro h j hj z
    exact h (pi j) (hb.1 j hj) z
  · intro h k hk z
    obtain ⟨j, j1, j2⟩ := hb.2.1 k hk
    rw [← j2]
    exact h j j1 (by rw [j2]; exact z)
theorem clN_bit (hb : BitOK n pi f) (hm : MskOK n pi CL TU OW mu my) {a j : Nat} (ha : a < 2 ^ n) (hj : j < n) : (clN CL TU (f a)).testBit (pi j) = ((mu.testBit j && a.testBit j) || (my.testBit j && !a.testBit j)) := by
  obtain ⟨m1, m2, m3, m4⟩ := hm.2.2.2.2.2 j hj
  unfold clN
  rw [Nat.testBit_and, Nat.testBit_xor, hb.2.2.2.1 a j ha hj, m1, m2]
  cases e1 : mu.testBit j <;> cases e2 : my.testBit j <;> cases e3 : a.testBit j <;> simp [e1, e2] at m4 ⊢
theorem clN_ltn (hm : MskOK n pi CL TU OW mu my) (t : Nat) : clN CL TU t < 2 ^ n := Nat.lt_of_le_of_lt Nat.and_le_right hm.1
theorem owM_bit {a j : Nat} : (owM mu my a).testBit j = (a.testBit j && (mu.testBit j || my.testBit j)) := by
  unfold owM
  rw [Nat.testBit_and, Nat.testBit_or]
theorem wnM_bit {a j : Nat} : (wnM mu my a).testBit j = (a.testBit j && mu.testBit j) := by
  unfold wnM
  rw [Nat.testBit_and, owM_bit]
  cases a.testBit j <;> cases mu.testBit j <;> cases my.testBit j <;> rfl
theorem baM_bit {a j : Nat} (hj : j < 32) : (baM mu my a).testBit j = (!a.testBit j && my.testBit j) := by
  unfold baM
  rw [Nat.testBit_and, Nat.testBit_xor, tb_all, owM_bit, decide_eq_true hj]
  cases a.testBit j <;> cases mu.testBit j <;> cases my.testBit j <;> rfl
theorem and_pi {x y : Nat} (hx : x < 2 ^ n) : x &&& y = 0 ↔ ∀ j, j < n → x.testBit j = true → y.testBit j = false := by
  rw [and_zero]
  constructor
  · intro h j _ z
    cases e : y.testBit j
    · rfl
    · exact absurd ⟨z, e⟩ (h j)
  · rintro h j ⟨z1, z2⟩
    have : j < n := by
      rcases Nat.lt_or_ge j n with q | q
      · exact q
      · rw [bits_of_lt hx q] at z1; cases z1
    rw [h j this z1] at z2
    cases z2
theorem see_1 (hb : BitOK n pi f) (hm : MskOK n pi CL TU OW mu my) (hr : BrOK n pi f mu my br inn) (hn : n ≤ 10) {a b : Nat} (ha : a < 2 ^ n) (hb2 : b < 2 ^ n) : sdiff (clN CL TU (f a)) (br (f b)) = 0 ↔ (sdiff (wnM mu my a) (inn b) = 0 ∧ baM mu my a &&& inn b = 0) := by
  have w1 : wnM mu my a < 2 ^ n := Nat.lt_of_le_of_lt Nat.and_le_right hm.2.2.2.1
  have w2 : baM mu my a < 2 ^ n := Nat.lt_of_le_of_lt Nat.and_le_right hm.2.2.2.2.1
  rw [sd_pi hb hn (clN_ltn hm _), sdiff_zero w1 (by omega), and_pi w2]
  constructor
  · intro h
    refine ⟨fun j hj z => ?_, fun j hj z => ?_⟩
    · have := h j hj
      rw [clN_bit hb hm ha hj] at this
      rw [wnM_bit, Bool.and_eq_true] at z
      rw [(hr b hb2 j hj).1 z.2, z.1, z.2] at this
      exact this rfl
    · have := h j hj
      rw [clN_bit hb hm ha hj] at this
      rw [baM_bit (by omega), Bool.and_eq_true] at z
      rw [(hr b hb2 j hj).2 z.2, z.1, z.2, Bool.true_and, Bool.or_true] at this
      simpa using this rfl
  · rintro ⟨h1, h2⟩ j hj z
    rw [clN_bit hb hm ha hj, Bool.or_eq_true, Bool.and_eq_true, Bool.and_eq_true] at z
    rcases z with ⟨z1, z2⟩ | ⟨z1, z2⟩
    · rw [(hr b hb2 j hj).1 z1]
      exact h1 j hj (by rw [wnM_bit, z1, z2]; rfl)
    · rw [(hr b hb2 j hj).2 z1, h2 j hj (by rw [baM_bit (by omega), z1, z2]; rfl)]
      rfl
theorem see_2 (hb : BitOK n pi f) (hm : MskOK n pi CL TU OW mu my) (hn : n ≤ 10) {a b : Nat} (ha : a < 2 ^ n) (hb2 : b < 2 ^ n) : sdiff (clN CL TU (f a)) (clN CL TU (f b)) = 0 ↔ (sdiff (wnM mu my a) (owM mu my b) = 0 ∧ baM mu my a &&& owM mu my b = 0) := by
  have w1 : wnM mu my a < 2 ^ n := Nat.lt_of_le_of_lt Nat.and_le_right hm.2.2.2.1
  have w2 : baM mu my a < 2 ^ n := Nat.lt_of_le_of_lt Nat.and_le_right hm.2.2.2.2.1
  rw [sd_pi hb hn (clN_ltn hm _), sdiff_zero w1 (by omega), and_pi w2]
  constructor
  · intro h
    refine ⟨fun j hj z => ?_, fun j hj z => ?_⟩
    · have := h j hj
      have m4 := (hm.2.2.2.2.2 j hj).2.2.2
      rw [clN_bit hb hm ha hj, clN_bit hb hm hb2 hj] at this
      rw [wnM_bit, Bool.and_eq_true] at z
      rw [owM_bit]
      cases e1 : my.testBit j <;> cases e3 : b.testBit j <;> simp [e1, e3, z.1, z.2] at this m4 ⊢
    · have := h j hj
      have m4 := (hm.2.2.2.2.2 j hj).2.2.2
      rw [clN_bit hb hm ha hj, clN_bit hb hm hb2 hj] at this
      rw [baM_bit (by omega), Bool.and_eq_true] at z
      rw [owM_bit]
      have z1 : a.testBit j = false := by simpa using z.1
      cases e1 : mu.testBit j <;> cases e3 : b.testBit j <;> simp [e1, e3, z1, z.2] at this m4 ⊢
  · rintro ⟨h1, h2⟩ j hj z
    have m4 := (hm.2.2.2.2.2 j hj).2.2.2
    rw [clN_bit hb hm ha hj, Bool.or_eq_true, Bool.and_eq_true, Bool.and_eq_true] at z
    rw [clN_bit hb hm hb2 hj]
    rcases z with ⟨z1, z2⟩ | ⟨z1, z2⟩
    · have := h1 j hj (by rw [wnM_bit, z1, z2]; rfl)
      rw [owM_bit, Bool.and_eq_true] at this
      rw [z1, this.1]
      rfl
    · have := h2 j hj (by rw [baM_bit (by omega), z1, z2]; rfl)
      rw [owM_bit, z1, Bool.or_true, Bool.and_true] at this
      rw [z1, this]
      simp
theorem see_3 (hb : BitOK n pi f) (hm : MskOK n pi CL TU OW mu my) {a b : Nat} (ha : a < 2 ^ n) (hb2 : b < 2 ^ n) : clN CL TU (f a) = clN CL TU (f b) ↔ owM mu my a = owM mu my b := by
  have lt : ∀ t, owM mu my t < 2 ^ n := fun t => Nat.lt_of_le_of_lt Nat.and_le_right (or_lt hm.2.2.2.1 hm.2.2.2.2.1)
  constructor
  · intro h
    refine Nat.eq_of_testBit_eq (fun j => ?_)
    rcases Nat.lt_or_ge j n with hj | hj
    · have e := congrArg (fun x => Nat.testBit x (pi j)) h
      have m4 := (hm.2.2.2.2.2 j hj).2.2.2
      rw [clN_bit hb hm ha hj, clN_bit hb hm hb2 hj] at e
      rw [owM_bit, owM_bit]
      cases e1 : mu.testBit j <;> cases e2 : my.testBit j <;> cases e3 : a.testBit j <;> cases e4 : b.testBit j <;> simp [e1, e2, e3, e4] at e m4 ⊢
    · rw [bits_of_lt (lt a) hj, bits_of_lt (lt b) hj]
  · intro h
    refine Nat.eq_of_testBit_eq (fun k => ?_)
    rcases Nat.lt_or_ge k n with hk | hk
    · obtain ⟨j, hj, rfl⟩ := hb.2.1 k hk
      have e := congrArg (fun x => Nat.testBit x j) h
      rw [owM_bit, owM_bit] at e
      rw [clN_bit hb hm ha hj, clN_bit hb hm hb2 hj]
      cases e1 : mu.testBit j <;> cases e2 : my.testBit j <;> cases e3 : a.testBit j <;> cases e4 : b.testBit j <;> simp [e1, e2, e3, e4] at e ⊢
    · rw [bits_of_lt (clN_ltn hm _) hk, bits_of_lt (clN_ltn hm _) hk]
theorem let_iff {far : Bool} {a b : Nat} : letB mu my inn far a b = true ↔ (sdiff (wnM mu my a) (inn b) = 0 ∧ baM mu my a &&& inn b = 0) ∧ (far = true → sdiff (wnM mu my a) (owM mu my b) = 0 ∧ baM mu my a &&& owM mu my b = 0) := by
  unfold letB
  rw [Bool.and_eq_true, Bool.and_eq_true, decide_eq_true_eq, decide_eq_true_eq, Bool.or_eq_true, Bool.and_eq_true, decide_eq_true_eq, decide_eq_true_eq]
  cases far <;> simp [and_assoc]
theorem see_eq (hb : BitOK n pi f) (hm : MskOK n pi CL TU OW mu my) (hr : BrOK n pi f mu my br inn) (hn : n ≤ 10) (hL : L < 8) {a b : Nat} (ha : a < 2 ^ n) (hb2 : b < 2 ^ n) : seeX L CL TU br (f a) (f b) = seeM L mu my inn a b := by
  have s1 := see_1 hb hm hr hn ha hb2
  have s1' := see_1 hb hm hr hn hb2 ha
  have s2 := see_2 hb hm hn ha hb2
  have s3 := see_3 hb hm ha hb2
  have l1 : ∀ far, letB mu my inn far a b = true ↔ (sdiff (clN CL TU (f a)) (br (f b)) = 0 ∧ (far = true → sdiff (clN CL TU (f a)) (clN CL TU (f b)) = 0)) := fun far => by rw [let_iff, s1, s2]
  have l2 : letB mu my inn false b a = true ↔ sdiff (clN CL TU (f b)) (br (f a)) = 0 := by rw [let_iff, s1']; simp
  apply bool_eq
  unfold seeX seeM
  rw [Bool.and_eq_true, Bool.and_eq_true, Bool.and_eq_true, decide_eq_true_eq, l1, Bool.or_eq_true, Bool.or_eq_true, l2, decide_eq_true_eq (p := owM mu my a = owM mu my b), ← s3]
  match L, hL with
  | 0, _ => simp
  | 1, _ => simp
  | 2, _ => simp
  | 3, _ => simp
  | 4, _ => simp
  | 5, _ => simp
  | 6, _ => simp
  | 7, _ => simp
theorem fit_eq (hb : BitOK n pi f) (hm : MskOK n pi CL TU OW mu my) (hr : BrOK n pi f mu my br inn) (hn : n ≤ 10) (hL : L < 8) {a : Nat} (ha : a < 2 ^ n) : fitX L CL TU br (f a) = fitM L mu my inn a := by
  unfold fitX fitM
  rw [see_eq hb hm hr hn hL ha ha]
  by_cases q : L = 2 ∨ L = 4 ∨ 5 < L
  · rw [if_pos q, if_pos (by omega)]
  · rw [if_neg q, if_neg (by omega)]
theorem o0M_bit {t j : Nat} (hj : j < 32) : (o0M mu my t).testBit j = ((t.testBit j && my.testBit j) || (!t.testBit j && mu.testBit j)) := by
  unfold o0M
  rw [Nat.testBit_or, Nat.testBit_and, Nat.testBit_and, Nat.testBit_xor, tb_all, owM_bit, decide_eq_true hj]
  cases t.testBit j <;> cases mu.testBit j <;> cases my.testBit j <;> rfl
theorem brM_bit {u j : Nat} (hj : j < 32) : (brM mu my inn u).testBit j = !(((inn u).testBit j && my.testBit j) || (!(inn u).testBit j && mu.testBit j)) := by
  unfold brM
  rw [Nat.testBit_xor, Nat.testBit_or, Nat.testBit_and, Nat.testBit_and, Nat.testBit_xor, tb_all, decide_eq_true hj]
  cases (inn u).testBit j <;> cases mu.testBit j <;> cases my.testBit j <;> rfl
theorem mf_eq (hb : BitOK n pi f) (hm : MskOK n pi CL TU OW mu my) (hr : BrOK n pi f mu my br inn) (hn : n ≤ 10) (hL : L < 8) {thX thM : Nat → Bool} (hth : ∀ u, u < 2 ^ n → thX (f u) = thM u) {t : Nat} (ht : t < 2 ^ n) : mfX L (2 ^ n) CL TU OW br thX (f t) = mfM L mu my inn (2 ^ n) thM t := by
  have hs : ∀ u, u < 2 ^ n → (thX (f u) && seeX L CL TU br (f t) (f u)) = (thM u && seeM L mu my inn t u) := fun u hu => by rw [hth u hu, see_eq hb hm hr hn hL ht hu]
  have hall : ∀ Q : Nat → Prop, (∀ v, v < 2 ^ n → Q v) ↔ ∀ u, u < 2 ^ n → Q (f u) := fun Q => ⟨fun h u hu => h _ (hb.2.2.1 u hu), fun h v hv => by
    obtain ⟨u, u1, u2⟩ := hb.2.2.2.2 v hv
    rw [← u2]
    exact h u u1⟩
  have ho : ∀ j, j < n → (sdiff OW (clN CL TU (f t))).testBit (pi j) = (o0M mu my t).testBit j := fun j hj => by
    obtain ⟨m1, m2, m3, m4⟩ := hm.2.2.2.2.2 j hj
    have hO : OW < 2 ^ 32 := Nat.lt_of_lt_of_le hm.2.2.1 (Nat.pow_le_pow_right (by decide) (by omega))
    rw [tb_sdiff hO, m3, clN_bit hb hm ht hj, o0M_bit (by omega)]
    cases e1 : mu.testBit j <;> cases e2 : my.testBit j <;> cases e3 : t.testBit j <;> simp [e1, e2] at m4 ⊢
  have hbr : ∀ j, j < n → (o0M mu my t).testBit j = true → ∀ u, u < 2 ^ n → (br (f u)).testBit (pi j) = (brM mu my inn u).testBit j := fun j hj z u hu => by
    obtain ⟨m1, m2, m3, m4⟩ := hm.2.2.2.2.2 j hj
    obtain ⟨r1, r2⟩ := hr u hu j hj
    rw [o0M_bit (by omega)] at z
    rw [brM_bit (by omega)]
    cases e1 : mu.testBit j
    · cases e2 : my.testBit j
      · rw [e1, e2] at z
        simp at z
      · rw [r2 e2]
        cases (inn u).testBit j <;> rfl
    · have e2 : my.testBit j = false := by
        rw [e1, Bool.true_and] at m4
        exact m4
      rw [r1 e1, e2]
      cases (inn u).testBit j <;> rfl
  have lo : sdiff OW (clN CL TU (f t)) < 2 ^ n := sdiff_lt hm.2.2.1
  have lo2 : o0M mu my t < 2 ^ n := or_lt (Nat.lt_of_le_of_lt Nat.and_le_right hm.2.2.2.2.1) (Nat.lt_of_le_of_lt Nat.and_le_right hm.2.2.2.1)
  apply bool_eq
  unfold mfX mfM
  rw [mfB_iff, mfB_iff]
  rw [hall (fun v => (thX v && seeX L CL TU br (f t) v) = false)]
  have h2 : (∀ u, u < 2 ^ n → (thX (f u) && seeX L CL TU br (f t) (f u)) = false) ↔ ∀ u, u < 2 ^ n → (thM u && seeM L mu my inn t u) = false := ⟨fun h u hu => by rw [← hs u hu]; exact h u hu, fun h u hu => by rw [hs u hu]; exact h u hu⟩
  rw [h2]
  have h1 : (∃ k, (sdiff OW (clN CL TU (f t))).testBit k = true ∧ ∀ u, u < 2 ^ n → (thX u && seeX L CL TU br (f t) u) = true → (br u).testBit k = true) ↔ ∃ k, (o0M mu my t).testBit k = true ∧ ∀ u, u < 2 ^ n → (thM u && seeM L mu my inn t u) = true → (brM mu my inn u).testBit k = true := by
    constructor
    · rintro ⟨k, k1, k2⟩
      have hk : k < n := by
        rcases Nat.lt_or_ge k n with q | q
        · exact q
        · rw [bits_of_lt lo q] at k1; cases k1
      obtain ⟨j, hj, rfl⟩ := hb.2.1 k hk
      rw [ho j hj] at k1
      refine ⟨j, k1, fun u hu z => ?_⟩
      rw [← hbr j hj k1 u hu]
      exact k2 (f u) (hb.2.2.1 u hu) (by rw [hs u hu]; exact z)
    · rintro ⟨j, k1, k2⟩
      have hj : j < n := by
        rcases Nat.lt_or_ge j n with q | q
        · exact q
        · rw [bits_of_lt lo2 q] at k1; cases k1
      refine ⟨pi j, by rw [ho j hj]; exact k1, ?_⟩
      rw [hall (fun v => (thX v && seeX L CL TU br (f t) v) = true → (br v).testBit (pi j) = true)]
      intro u hu z
      rw [hbr j hj k1 u hu]
      exact k2 u hu (by rw [← hs u hu]; exact z)
  rw [h1]
theorem th_eq (hb : BitOK n pi f) (hm : MskOK n pi CL TU OW mu my) (hr : BrOK n pi f mu my br inn) (hn : n ≤ 10) (hL : L < 8) : ∀ r t, t < 2 ^ n → thN (fitX L CL TU br) (mfX L (2 ^ n) CL TU OW br) r (f t) = thN (fitM L mu my inn) (mfM L mu my inn (2 ^ n)) r t := by
  intro r
  induction r with
  | zero => exact fun t ht => fit_eq hb hm hr hn hL ht
  | succ r ih =>
    intro t ht
    show (thN (fitX L CL TU br) (mfX L (2 ^ n) CL TU OW br) r (f t) && !mfX L (2 ^ n) CL TU OW br (thN (fitX L CL TU br) (mfX L (2 ^ n) CL TU OW br) r) (f t)) = (thN (fitM L mu my inn) (mfM L mu my inn (2 ^ n)) r t && !mfM L mu my inn (2 ^ n) (thN (fitM L mu my inn) (mfM L mu my inn (2 ^ n)) r) t)
    rw [ih t ht, mf_eq hb hm hr hn hL ih ht]
theorem fl_eq (hb : BitOK n pi f) (hm : MskOK n pi CL TU OW mu my) (hr : BrOK n pi f mu my br inn) (hn : n ≤ 10) (hL : L < 8) : ∀ r t, t < 2 ^ n → flV (fitX L CL TU br) (mfX L (2 ^ n) CL TU OW br) r (f t) = flV (fitM L mu my inn) (mfM L mu my inn (2 ^ n)) r t := by
  intro r
  induction r with
  | zero =>
    intro t ht
    show (if fitX L CL TU br (f t) = true then (-9 : Int32) else nI 0) = if fitM L mu my inn t = true then -9 else nI 0
    rw [fit_eq hb hm hr hn hL ht]
  | succ r ih =>
    intro t ht
    show (if thN (fitX L CL TU br) (mfX L (2 ^ n) CL TU OW br) r (f t) = true ∧ mfX L (2 ^ n) CL TU OW br (thN (fitX L CL TU br) (mfX L (2 ^ n) CL TU OW br) r) (f t) = true then nI (r + 1) else flV (fitX L CL TU br) (mfX L (2 ^ n) CL TU OW br) r (f t)) = if thN (fitM L mu my inn) (mfM L mu my inn (2 ^ n)) r t = true ∧ mfM L mu my inn (2 ^ n) (thN (fitM L mu my inn) (mfM L mu my inn (2 ^ n)) r) t = true then nI (r + 1) else flV (fitM L mu my inn) (mfM L mu my inn (2 ^ n)) r t
    rw [ih t ht, th_eq hb hm hr hn hL r t ht, mf_eq hb hm hr hn hL (th_eq hb hm hr hn hL r) ht]
theorem any_eq (hb : BitOK n pi f) (hm : MskOK n pi CL TU OW mu my) (hr : BrOK n pi f mu my br inn) (hn : n ≤ 10) (hL : L < 8) (r : Nat) : anyN (fitX L CL TU br) (mfX L (2 ^ n) CL TU OW br) (2 ^ n) r = anyN (fitM L mu my inn) (mfM L mu my inn (2 ^ n)) (2 ^ n) r := by
  apply bool_eq
  unfold anyN
  rw [exB_iff, exB_iff]
  constructor
  · rintro ⟨k, k1, k2⟩
    obtain ⟨t, t1, rfl⟩ := hb.2.2.2.2 k k1
    rw [th_eq hb hm hr hn hL r t t1, mf_eq hb hm hr hn hL (th_eq hb hm hr hn hL r) t1] at k2
    exact ⟨t, t1, k2⟩
  · rintro ⟨t, t1, k2⟩
    refine ⟨f t, hb.2.2.1 t t1, ?_⟩
    rw [th_eq hb hm hr hn hL r t t1, mf_eq hb hm hr hn hL (th_eq hb hm hr hn hL r) t1]
    exact k2
end SAME
