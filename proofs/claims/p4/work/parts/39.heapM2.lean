/-! the model's names -/
def sA (A : Nat → Nat) (a : Nat) : Nat → Nat
  | 0 => 0
  | i + 1 => sA A a i + bN ((A i).testBit a) * 2 ^ i
theorem sA_lt (A : Nat → Nat) (a : Nat) : ∀ i, sA A a i < 2 ^ i
  | 0 => Nat.one_pos
  | i + 1 => by
    have h := sA_lt A a i
    have e : 2 ^ (i + 1) = 2 * 2 ^ i := Nat.pow_succ'
    simp only [sA, e]
    cases (A i).testBit a
    · rw [bN_f, Nat.zero_mul]; omega
    · rw [bN_t, Nat.one_mul]; omega
theorem sA_eq (A : Nat → Nat) (a b : Nat) : ∀ i, sA A a i = sA A b i ↔ ∀ k, k < i → (A k).testBit a = (A k).testBit b
  | 0 => ⟨fun _ k hk => by omega, fun _ => rfl⟩
  | i + 1 => by
    have h1 := sA_lt A a i
    have h2 := sA_lt A b i
    have ih := sA_eq A a b i
    constructor
    · intro h
      have key : (A i).testBit a = (A i).testBit b ∧ sA A a i = sA A b i := by
        simp only [sA] at h
        cases qa : (A i).testBit a <;> cases qb : (A i).testBit b <;> rw [qa, qb] at h <;> simp only [bN_t, bN_f, Nat.zero_mul, Nat.one_mul, Nat.add_zero] at h
        · exact ⟨rfl, h⟩
        · omega
        · omega
        · exact ⟨rfl, by omega⟩
      intro k hk
      by_cases z : k = i
      · subst z; exact key.1
      · exact ih.mp key.2 k (by omega)
    · intro h
      simp only [sA]
      rw [ih.mpr (fun k hk => h k (by omega)), h i (by omega)]
noncomputable def gM (N : Nat) (Fr A : Nat → Nat) : Nat → Nat → Nat
  | 0 => fun a => sA A a 4
  | r + 1 => fun a => repC N Fr A (r + 1) (lst (er N Fr A (r + 1)) a)
section GM
variable {N : Nat} {Fr A : Nat → Nat}
theorem repC_up (r : Nat) {u v : Nat} (h : u ≤ v) : repC N Fr A r u ≤ repC N Fr A r v := by
  obtain ⟨d, rfl⟩ := Nat.exists_eq_add_of_le h
  clear h
  induction d with
  | zero => exact Nat.le_refl _
  | succ d ih => exact Nat.le_trans ih (Nat.le_add_right _ _)
theorem repC_rep (r : Nat) {u v : Nat} (h : u < v) (hu : isRep N Fr A r u = true) : repC N Fr A r u < repC N Fr A r v := by
  have h1 := repC_up (N := N) (Fr := Fr) (A := A) r (show u + 1 ≤ v from h)
  have h2 : repC N Fr A r (u + 1) = repC N Fr A r u + 1 := by
    show repC N Fr A r u + bN (isRep N Fr A r u) = _
    rw [hu, bN_t]
  omega
theorem gM_Nm (h8 : N ≤ 8) : ∀ r, Nm N (er N Fr A r) (gM N Fr A r)
  | 0 => ⟨fun a b _ _ => by
      show sA A a 4 = sA A b 4 ↔ e0 A a b = true
      rw [sA_eq]
      unfold e0
      rw [allT_iff]
      simp only [beq_iff_eq], fun a _ => by
      have := sA_lt A a 4
      show sA A a 4 < 31
      omega⟩
  | r + 1 => by
    have hn := lst_Nm (N := N) (Fr := Fr) (A := A) (r + 1) h8
    refine ⟨fun a b ha hb => ?_, fun a ha => ?_⟩
    · rw [← hn.1 a b ha hb]
      show repC N Fr A (r + 1) (lst (er N Fr A (r + 1)) a) = repC N Fr A (r + 1) (lst (er N Fr A (r + 1)) b) ↔ _
      constructor
      · intro h
        rcases Nat.lt_trichotomy (lst (er N Fr A (r + 1)) a) (lst (er N Fr A (r + 1)) b) with q | q | q
        · have := repC_rep (r + 1) q lst_rep; omega
        · exact q
        · have := repC_rep (r + 1) q lst_rep; omega
      · intro h
        rw [h]
    · have h1 := (lst_spec ((er_eqv (N := N) (Fr := Fr) (A := A) (r + 1)).1 a)).1
      have h2 := repC_le (N := N) (Fr := Fr) (A := A) (r + 1) (lst (er N Fr A (r + 1)) a)
      show repC N Fr A (r + 1) (lst (er N Fr A (r + 1)) a) < 31
      omega
end GM
