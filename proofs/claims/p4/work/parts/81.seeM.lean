/-! the model: which types may see which, which must fall -/
def owM (mu my t : Nat) : Nat := t &&& (mu ||| my)
def wnM (mu my t : Nat) : Nat := owM mu my t &&& mu
def baM (mu my t : Nat) : Nat := (owM mu my t ^^^ 4294967295) &&& my
def letB (mu my : Nat) (inn : Nat → Nat) (far : Bool) (a b : Nat) : Bool := decide (sdiff (wnM mu my a) (inn b) = 0) && (decide (baM mu my a &&& inn b = 0) && (!far || (decide (sdiff (wnM mu my a) (owM mu my b) = 0) && decide (baM mu my a &&& owM mu my b = 0))))
def seeM (L mu my : Nat) (inn : Nat → Nat) (a b : Nat) : Bool := letB mu my inn (decide (L = 3 ∨ L = 4)) a b && ((decide (L ≤ 4) || letB mu my inn false b a) && (!decide (L = 7) || decide (owM mu my a = owM mu my b)))
section SM2
variable {W : AW} {nb mu my L T : Nat} {inn : Nat → Nat} {hd : Nat → Bool}
theorem wnM_lt (hm : mu < 2 ^ 10) (t : Nat) : wnM mu my t < 2 ^ 10 := Nat.lt_of_le_of_lt Nat.and_le_right hm
theorem baM_lt (hm : my < 2 ^ 10) (t : Nat) : baM mu my t < 2 ^ 10 := Nat.lt_of_le_of_lt Nat.and_le_right hm
theorem M_lets (h : TYM W nb mu my inn hd T) (hT : T ≤ 1024) (hmu : mu < 2 ^ 10) (hmy : my < 2 ^ 10) (far : Bool) {a b : Nat} (ha : a < T) (hb : b < T) : mX6_lets (nI a) (nI b) (nI (bN far)) W = some (nI (bN (letB mu my inn far a b)), W) := by
  obtain ⟨g1, g2, g3, g4⟩ := h
  obtain ⟨a39, a40, a41⟩ := g4 a ha
  obtain ⟨b39, b40, b41⟩ := g4 b hb
  have r39a : ∀ f : Int32 → Option (Int32 × AW), rd 1024 (W.1 0 39) (nI a) f = f (nI (owM mu my a)) := fun f => by rw [rd_in (by omega) (by decide), a39]; rfl
  have r39b : ∀ f : Int32 → Option (Int32 × AW), rd 1024 (W.1 0 39) (nI b) f = f (nI (owM mu my b)) := fun f => by rw [rd_in (by omega) (by decide), b39]; rfl
  have r40b : ∀ f : Int32 → Option (Int32 × AW), rd 1024 (W.1 0 40) (nI b) f = f (nI (inn b)) := fun f => by rw [rd_in (by omega) (by decide), b40]
  have lw := wnM_lt (my := my) hmu a
  have lb := baM_lt (mu := mu) hmy a
  have ew : nI (owM mu my a) &&& nI mu = nI (wnM mu my a) := nI_and _ _
  have eb : (nI (owM mu my a) ^^^ (-1)) &&& nI my = nI (baM mu my a) := by
    show (nI (owM mu my a) ^^^ nI 4294967295) &&& nI my = _
    rw [nI_xor, nI_and]
    rfl
  have es : ∀ x y : Nat, nI x &&& (nI y ^^^ (-1)) = nI (sdiff x y) := fun x y => nI_sdiff x y
  have z : ∀ x : Nat, x < 2 ^ 31 → x ≠ 0 → nI x ≠ 0 := fun x hx hne => ne_nI (b := 0) hx (by decide) hne
  have s1 : ∀ y, sdiff (wnM mu my a) y < 2 ^ 31 := fun y => Nat.lt_trans (sdiff_lt lw) (by decide)
  have s2 : ∀ y, baM mu my a &&& y < 2 ^ 31 := fun y => Nat.lt_of_le_of_lt Nat.and_le_left (by omega)
  unfold mX6_lets letB
  rw [r39a, g2, ew, nm_mk, r39a, g3, eb, nm_mk, r40b, es]
  by_cases q1 : sdiff (wnM mu my a) (inn b) = 0
  · rw [if_neg (show ¬ (nI (sdiff (wnM mu my a) (inn b)) ≠ 0) from fun y => y (by rw [q1]; rfl)), r40b, nI_and, decide_eq_true q1, Bool.true_and]
    by_cases q2 : baM mu my a &&& inn b = 0
    · rw [if_neg (show ¬ (nI (baM mu my a &&& inn b) ≠ 0) from fun y => y (by rw [q2]; rfl)), decide_eq_true q2, Bool.true_and]
      unfold mX6_lets_59
      rw [if_neg (show ¬ ((1 : Int32) = 0) by decide)]
      cases far
      · rw [if_pos (show nI (bN false) = 0 from rfl)]
        rfl
      · rw [if_neg (show ¬ (nI (bN true) = 0) by decide), r39b, es, Bool.not_true, Bool.false_or]
        by_cases q3 : sdiff (wnM mu my a) (owM mu my b) = 0
        · rw [if_neg (show ¬ (nI (sdiff (wnM mu my a) (owM mu my b)) ≠ 0) from fun y => y (by rw [q3]; rfl)), r39b, nI_and, decide_eq_true q3, Bool.true_and]
          by_cases q4 : baM mu my a &&& owM mu my b = 0
          · rw [if_neg (show ¬ (nI (baM mu my a &&& owM mu my b) ≠ 0) from fun y => y (by rw [q4]; rfl)), decide_eq_true q4]
            rfl
          · rw [if_pos (z _ (s2 _) q4), decide_eq_false q4]
            rfl
        · rw [if_pos (z _ (s1 _) q3), decide_eq_false q3]
          rfl
    · rw [if_pos (z _ (s2 _) q2), decide_eq_false q2]
      rfl
  · rw [if_pos (z _ (s1 _) q1), decide_eq_false q1]
    rfl
theorem M_maySee (h : TYM W nb mu my inn hd T) (hT : T ≤ 1024) (hmu : mu < 2 ^ 10) (hmy : my < 2 ^ 10) (hL : L < 8) {a b : Nat} (ha : a < T) (hb : b < T) : mX6_maySee (nI L) (nI a) (nI b) W = some (nI (bN (seeM L mu my inn a b)), W) := by
  have l1 := fun far => M_lets h hT hmu hmy far ha hb
  have l2 := M_lets h hT hmu hmy false hb ha
  obtain ⟨g1, g2, g3, g4⟩ := h
  have r39 : ∀ t, t < T → ∀ f : Int32 → Option (Int32 × AW), rd 1024 (W.1 0 39) (nI t) f = f (nI (owM mu my t)) := fun t ht f => by rw [rd_in (by omega) (by decide), (g4 t ht).1]; rfl
  have lo : ∀ t, t < T → owM mu my t < 2 ^ 31 := fun t ht => Nat.lt_of_le_of_lt Nat.and_le_left (by omega)
  have e50 : ∀ x : Bool, mX6_maySee_50 (nI L) (nI a) (nI b) (nI (bN x)) W = some (nI (bN (x && (!decide (L = 7) || decide (owM mu my a = owM mu my b)))), W) := fun x => by
    unfold mX6_maySee_50
    cases x
    · rw [if_pos (show nI (bN false) = 0 from rfl)]
      rfl
    · rw [if_neg (show ¬ (nI (bN true) = 0) by decide), Bool.true_and]
      by_cases q : L = 7
      · rw [if_neg (show ¬ (nI L ≠ 7) from fun y => y (by rw [q]; rfl)), r39 a ha, r39 b hb, decide_eq_true q, Bool.not_true, Bool.false_or]
        by_cases q2 : owM mu my a = owM mu my b
        · rw [if_neg (fun y => y (by rw [q2])), decide_eq_true q2]
          rfl
        · rw [if_pos (ne_nI (lo a ha) (lo b hb) q2), decide_eq_false q2]
          rfl
      · rw [if_pos (show nI L ≠ 7 from ne_nI (b := 7) (by omega) (by decide) q), decide_eq_false q]
        rfl
  have e18 : ∀ far : Bool, mX6_maySee_18 (nI L) (nI a) (nI b) (nI (bN far)) (nI b) (nI a) W = some (nI (bN (letB mu my inn far a b && ((decide (L ≤ 4) || letB mu my inn false b a) && (!decide (L = 7) || decide (owM mu my a = owM mu my b))))), W) := fun far => by
    unfold mX6_maySee_18
    rw [l1 far, cl_mk]
    by_cases q : L ≤ 4
    · rw [if_pos (show nI L ≤ 4 from nI_le (b := 4) q (by decide)), e50, decide_eq_true q, Bool.true_or, Bool.true_and]
    · rw [if_neg (show ¬ nI L ≤ 4 from nI_ge (a := 4) (by omega) (by omega)), decide_eq_false q, Bool.false_or]
      cases q2 : letB mu my inn far a b
      · rw [if_pos (show nI (bN false) = 0 from rfl)]
        exact e50 false
      · have l2' : mX6_lets (nI b) (nI a) 0 W = some (nI (bN (letB mu my inn false b a)), W) := l2
        rw [if_neg (show ¬ (nI (bN true) = 0) by decide), l2', cl_mk, Bool.true_and]
        cases q3 : letB mu my inn false b a
        · rw [if_pos (show nI (bN false) = 0 from rfl)]
          exact e50 false
        · rw [if_neg (show ¬ (nI (bN true) = 0) by decide)]
          exact e50 true
  unfold mX6_maySee seeM
  by_cases h3 : L = 3
  · rw [if_pos (show nI L = 3 by rw [h3]; rfl), decide_eq_true (Or.inl h3)]
    exact e18 true
  · rw [if_neg (show ¬ nI L = 3 from ne_nI (b := 3) (by omega) (by decide) h3)]
    by_cases h4 : L = 4
    · rw [if_neg (show ¬ (nI L ≠ 4) from fun y => y (by rw [h4]; rfl)), decide_eq_true (Or.inr h4)]
      exact e18 true
    · rw [if_pos (show nI L ≠ 4 from ne_nI (b := 4) (by omega) (by decide) h4), decide_eq_false (by omega)]
      exact e18 false
end SM2
