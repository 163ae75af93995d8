/-! the model: which types must fall -/
def brM (mu my : Nat) (inn : Nat → Nat) (u : Nat) : Nat := ((inn u &&& my) ||| ((inn u ^^^ 4294967295) &&& mu)) ^^^ 4294967295
def o0M (mu my t : Nat) : Nat := (owM mu my t &&& my) ||| ((owM mu my t ^^^ 4294967295) &&& mu)
def mfM (L mu my : Nat) (inn : Nat → Nat) (Z : Nat) (th : Nat → Bool) (t : Nat) : Bool := mfB (fun u => th u && seeM L mu my inn t u) (brM mu my inn) (o0M mu my t) (decide (L = 1)) Z
section FM
variable {W : AW} {nb mu my L : Nat} {inn : Nat → Nat} {hd : Nat → Bool}
theorem M_isThere {u : Nat} (hu : u < 1024) {x : Int32} (hf : W.1 0 42 u = x) : mX6_isThere (nI u) W = some (nI (bN (decide (x = -9))), W) := by
  unfold mX6_isThere
  rw [rd_in hu (by decide), hf]
  by_cases h1 : x = -9
  · rw [if_neg (fun z => z h1), decide_eq_true h1]
    rfl
  · rw [if_pos h1, decide_eq_false h1]
    rfl
theorem M_isFalling (h : TYM W nb mu my inn hd (2 ^ nb)) (hnb : nb ≤ 10) (hmu : mu < 2 ^ 10) (hmy : my < 2 ^ 10) (hL : L < 8) {t : Nat} (ht : t < 2 ^ nb) (th : Nat → Bool) (hth : ∀ u, u < 2 ^ nb → decide (W.1 0 42 u = -9) = th u) :
    mX6_isFalling (nI L) (nI t) W = some (nI (bN (mfM L mu my inn (2 ^ nb) th t)), W) := by
  have hpw : 2 ^ nb ≤ 1024 := Nat.le_trans (Nat.pow_le_pow_right (by decide) hnb) (by decide)
  have e1s : (1 : Int32) <<< (nI nb &&& 31) = nI (2 ^ nb) := by
    have : nI nb &&& 31 = nI (nb &&& 31) := nI_and nb 31
    rw [this]
    exact one_shl (by omega)
  have o0l : o0M mu my t < 2 ^ 10 := or_lt (Nat.lt_of_le_of_lt Nat.and_le_right hmy) (Nat.lt_of_le_of_lt Nat.and_le_right hmu)
  have ol : ∀ n, owN (fun u => th u && seeM L mu my inn t u) (brM mu my inn) (o0M mu my t) n < 2 ^ 10 := fun n => Nat.lt_of_le_of_lt (owN_le n) o0l
  have hex : ∃ n, n = 2 ^ nb ∨ (owN (fun u => th u && seeM L mu my inn t u) (brM mu my inn) (o0M mu my t) n = 0 ∧ msN (fun u => th u && seeM L mu my inn t u) (decide (L = 1)) n = false) := ⟨2 ^ nb, Or.inl rfl⟩
  obtain ⟨E, hE, hmin⟩ := pk_least _ hex
  have hEZ : E ≤ 2 ^ nb := by
    rcases Nat.lt_or_ge (2 ^ nb) E with q | q
    · exact absurd (Or.inl rfl) (hmin _ q)
    · exact q
  have run : mX6_isFalling_41 (nI L) (nI t) FU (nI (o0M mu my t)) (nI (bN (!decide (L = 1)))) (nI 0) W = some (nI (bN (mfM L mu my inn (2 ^ nb) th t)), W) := by
    refine loopE (fun n (s : Int32 × Int32 × Int32) => mX6_isFalling_41 (nI L) (nI t) n s.1 s.2.1 s.2.2 W) E (fun k => (nI (owN (fun u => th u && seeM L mu my inn t u) (brM mu my inn) (o0M mu my t) k), nI (bN (!msN (fun u => th u && seeM L mu my inn t u) (decide (L = 1)) k)), nI k)) _ ?_ ?_ FU 0 (Nat.zero_le _) (FU_gt (by omega))
    · intro n u hu
      have huZ : u < 2 ^ nb := by omega
      have hno := hmin u hu
      have ev : nI u + 1 = nI (u + 1) := nI_add u 1
      obtain ⟨u39, u40, u41⟩ := h.2.2.2 u huZ
      have r40 : ∀ f : Int32 → Option (Int32 × AW), rd 1024 (W.1 0 40) (nI u) f = f (nI (inn u)) := fun f => by rw [rd_in (by omega) (by decide), u40]
      have e116 : ∀ (a b : Int32), mX6_isFalling_116 (mX6_isFalling_41 (nI L) (nI t) n) (nI L) (nI t) a b (nI u) W = mX6_isFalling_41 (nI L) (nI t) n a b (nI (u + 1)) W := fun a b => by
        unfold mX6_isFalling_116
        rw [nm_mk, ev]
      have ebr : (((nI (inn u) &&& nI my) ||| ((nI (inn u) ^^^ (-1)) &&& nI mu)) ^^^ (-1)) = nI (brM mu my inn u) := by
        show (((nI (inn u) &&& nI my) ||| ((nI (inn u) ^^^ nI 4294967295) &&& nI mu)) ^^^ nI 4294967295) = _
        rw [nI_and, nI_xor, nI_and, nI_or, nI_xor]
        rfl
      have e61 : mX6_isFalling_61 (mX6_isFalling_41 (nI L) (nI t) n) (nI L) (nI t) (nI (owN (fun u => th u && seeM L mu my inn t u) (brM mu my inn) (o0M mu my t) u)) (nI (bN (!msN (fun u => th u && seeM L mu my inn t u) (decide (L = 1)) u))) (nI u) W = mX6_isFalling_41 (nI L) (nI t) n (nI (owN (fun u => th u && seeM L mu my inn t u) (brM mu my inn) (o0M mu my t) (u + 1))) (nI (bN (!msN (fun u => th u && seeM L mu my inn t u) (decide (L = 1)) (u + 1)))) (nI (u + 1)) W := by
        have s1 : owN (fun u => th u && seeM L mu my inn t u) (brM mu my inn) (o0M mu my t) (u + 1) = if (th u && seeM L mu my inn t u) = true then owN (fun u => th u && seeM L mu my inn t u) (brM mu my inn) (o0M mu my t) u &&& brM mu my inn u else owN (fun u => th u && seeM L mu my inn t u) (brM mu my inn) (o0M mu my t) u := rfl
        have s2 : msN (fun u => th u && seeM L mu my inn t u) (decide (L = 1)) (u + 1) = (msN (fun u => th u && seeM L mu my inn t u) (decide (L = 1)) u && !(th u && seeM L mu my inn t u)) := rfl
        unfold mX6_isFalling_61
        rw [M_isThere (show u < 1024 by omega) rfl, hth u huZ, cl_mk]
        cases q : th u
        · rw [if_pos (show nI (bN false) = 0 from rfl), e116, s1, s2, q, Bool.false_and, if_neg (by decide), Bool.not_false, Bool.and_true]
        · rw [if_neg (show ¬ (nI (bN true) = 0) by decide), M_maySee h hpw hmu hmy hL ht huZ, cl_mk]
          cases q2 : seeM L mu my inn t u
          · rw [if_pos (show nI (bN false) = 0 from rfl), e116, s1, s2, q, q2, Bool.and_false, if_neg (by decide), Bool.not_false, Bool.and_true]
          · rw [if_neg (show ¬ (nI (bN true) = 0) by decide), r40, r40, h.2.1, h.2.2.1, ebr, nI_and, nm_mk, e116, s1, s2, q, q2, Bool.and_true, if_pos rfl, Bool.not_true, Bool.and_false]
            rfl
      dsimp only
      rw [mX6_isFalling_41, h.1, e1s, if_neg (nI_ge huZ (by omega))]
      by_cases z : owN (fun u => th u && seeM L mu my inn t u) (brM mu my inn) (o0M mu my t) u = 0
      · have z2 : msN (fun u => th u && seeM L mu my inn t u) (decide (L = 1)) u = true := by
          cases y : msN (fun u => th u && seeM L mu my inn t u) (decide (L = 1)) u
          · exact absurd (Or.inr ⟨z, y⟩) hno
          · rfl
        rw [if_neg (show ¬ (nI (owN (fun u => th u && seeM L mu my inn t u) (brM mu my inn) (o0M mu my t) u) ≠ 0) from fun y => y (by rw [z]; rfl)), if_neg (show ¬ (nI (bN (!msN (fun u => th u && seeM L mu my inn t u) (decide (L = 1)) u)) ≠ 0) from fun y => y (by rw [z2]; rfl))]
        exact e61
      · rw [if_pos (show nI (owN (fun u => th u && seeM L mu my inn t u) (brM mu my inn) (o0M mu my t) u) ≠ 0 from ne_nI (b := 0) (by have := ol u; omega) (by decide) z)]
        exact e61
    · intro n
      dsimp only
      rw [mX6_isFalling_41, h.1, e1s]
      unfold mfM mfB mX6_isFalling_122
      by_cases z : owN (fun u => th u && seeM L mu my inn t u) (brM mu my inn) (o0M mu my t) E = 0
      · have n0 : ¬ (nI (owN (fun u => th u && seeM L mu my inn t u) (brM mu my inn) (o0M mu my t) E) ≠ 0) := fun y => y (by rw [z]; rfl)
        rw [owN_zero z hEZ, decide_eq_true rfl, Bool.not_true, Bool.false_or, if_neg n0, if_neg n0]
        cases q : msN (fun u => th u && seeM L mu my inn t u) (decide (L = 1)) E
        · rw [msN_false q hEZ, if_pos (show nI (bN (!false)) ≠ 0 by decide), if_pos (show nI (bN (!false)) ≠ 0 by decide)]
          split <;> rfl
        · have hEq : E = 2 ^ nb := by
            rcases hE with y | ⟨-, y⟩
            · exact y
            · rw [q] at y; cases y
          rw [← hEq, q, if_pos (nI_le (Nat.le_refl E) (by omega)), if_neg (show ¬ (nI (bN (!true)) ≠ 0) from fun y => y rfl)]
          rfl
      · have hEq : E = 2 ^ nb := by
          rcases hE with y | ⟨y, -⟩
          · exact y
          · exact absurd y z
        rw [← hEq, decide_eq_false z, if_pos (nI_le (Nat.le_refl E) (by omega)), if_pos (show nI (owN (fun u => th u && seeM L mu my inn t u) (brM mu my inn) (o0M mu my t) E) ≠ 0 from ne_nI (b := 0) (by have := ol E; omega) (by decide) z)]
        rfl
  obtain ⟨t39, t40, t41⟩ := h.2.2.2 t ht
  have r39 : ∀ f : Int32 → Option (Int32 × AW), rd 1024 (W.1 0 39) (nI t) f = f (nI (owM mu my t)) := fun f => by rw [rd_in (by omega) (by decide), t39]; rfl
  have eo : (nI (owM mu my t) &&& nI my) ||| ((nI (owM mu my t) ^^^ (-1)) &&& nI mu) = nI (o0M mu my t) := by
    show (nI (owM mu my t) &&& nI my) ||| ((nI (owM mu my t) ^^^ nI 4294967295) &&& nI mu) = _
    rw [nI_and, nI_xor, nI_and, nI_or]
    rfl
  unfold mX6_isFalling
  rw [r39, r39, h.2.1, h.2.2.1, eo, nm_mk]
  unfold mX6_isFalling_36
  by_cases h1 : L = 1
  · rw [if_pos (show nI L = 1 by rw [h1]; rfl)]
    rw [decide_eq_true h1] at run
    exact run
  · rw [if_neg (show ¬ nI L = 1 from ne_nI (b := 1) (by omega) (by decide) h1)]
    rw [decide_eq_false h1] at run
    exact run
end FM
