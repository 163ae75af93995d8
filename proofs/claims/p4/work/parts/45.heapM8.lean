/-! the model's heaps: all rounds -/
section N4
variable {N : Nat} {S A Fr : Nat → Nat}
theorem M_splits135 (hN : NetOK N S A) (hF : ∀ k, k < N → Fr k < 2 ^ N) : ∀ (d r n : Nat) (v2 : Int32) (w : AW), r + d = 9 → d < n → (r = 9 → v2 = nI (repC N Fr A 9 N)) → NetM w N S A → ViewM w N Fr → HeapM w N (gM N Fr A r) → LevM w N Fr A r → ∃ w2, mX6_splits_135 n v2 (nI (r + 1)) w = some (nI (repC N Fr A 9 N), w2) ∧ KM w w2 ∧ LevM w2 N Fr A 9 := by
  intro d
  induction d with
  | zero =>
    intro r n v2 w e hn hv h hV hH hL
    obtain ⟨n, rfl⟩ : ∃ m, n = m + 1 := ⟨n - 1, by omega⟩
    have e2 : r = 9 := by omega
    subst e2
    have c1 : nI 9 < nI (9 + 1) := by decide
    refine ⟨w, ?_, KM.rf w, hL⟩
    simp only [mX6_splits_135, c1, hv rfl, cl_mk, nm_mk, pu_mk, lit, if_true, if_false, ne_eq, not_false_eq_true, not_true_eq_false, nI_add, nI_or, nI_and, Bool.false_eq_true, ne01, ne10, nI_m1', Nat.or_zero]
  | succ d ih =>
    intro r n v2 w e hn hv h hV hH hL
    obtain ⟨n, rfl⟩ : ∃ m, n = m + 1 := ⟨n - 1, by omega⟩
    have c1 : ¬ nI 9 < nI (r + 1) := nI_nlt (by omega) (by omega)
    have k1 := n1M_K w N Fr A r N
    have g1 := M_splits146 h hN hV hF hH (mX6_splits_135 n)
    have g2 := M_splits231 (r := r + 1) (Fr := Fr) (v2 := nI (repC N Fr A (r + 1) N)) (v3 := nI (r + 1)) (h.k k1) hN (fun k hk => setRow_in N hk) (mX6_splits_135 n)
    have k2 := k1.tr (n2M_K (n1M w N Fr A r N) N Fr A (r + 1) N)
    have g3 := M_splits263 (r := r) (v2 := nI (repC N Fr A (r + 1) N)) (h.k k2) hN (fun k hk => setRow_in N hk) (fun v hv => by
      unfold n2M n1M
      rw [setRow_row (by decide), setRow_row (by decide)]
      exact hL v hv) (mX6_splits_135 n)
    have k3 := k2.tr (l1M_K (n2M (n1M w N Fr A r N) N Fr A (r + 1) N) N Fr A (r + 1) 64)
    obtain ⟨w2, f1, f2, f3⟩ := ih (r + 1) n (nI (repC N Fr A (r + 1) N)) (l1M (n2M (n1M w N Fr A r N) N Fr A (r + 1) N) N Fr A (r + 1) 64) (by omega) (by omega) (fun z => by rw [z]) (h.k k3) (fun k hk => by
      unfold l1M n2M n1M
      rw [setRow_row (by decide), setRow_row (by decide), setRow_row (by decide)]
      exact hV k hk) (fun k hk => by
      unfold l1M n2M
      rw [setRow_row (by decide), setRow_in N hk]) (fun v hv => setRow_in 64 hv)
    refine ⟨w2, ?_, k3.tr f2, f3⟩
    simp only [mX6_splits_135, c1, cl_mk, nm_mk, pu_mk, lit, if_true, if_false, ne_eq, not_false_eq_true, not_true_eq_false, nI_add, nI_or, nI_and, Bool.false_eq_true, ne01, ne10, nI_m1', Nat.or_zero]
    rw [g1, g2, g3]
    exact f1
theorem M_splits {w : AW} (h : NetM w N S A) (hN : NetOK N S A) {sort : Nat} (hs : sort < 4) : ∃ w2, mX6_splits (nI sort) w = some (nI (repC N (seenS N S sort) A 9 N), w2) ∧ KM w w2 ∧ LevM w2 N (seenS N S sort) A 9 := by
  have hF : ∀ k, k < N → seenS N S sort k < 2 ^ N := fun k hk => seenS_lt hN hk
  have k1 := lookM_K w N S sort N
  have hM1 := h.k k1
  have k2 := k1.tr (h0M_K (lookM w N S sort N) A N)
  have k3 := k2.tr (l0M_K (h0M (lookM w N S sort N) A N) N (seenS N S sort) A 64)
  obtain ⟨w2, f1, f2, f3⟩ := M_splits135 hN hF 9 0 FU (nI 0) (l0M (h0M (lookM w N S sort N) A N) N (seenS N S sort) A 64) (by omega) (FU_gt (by omega)) (fun z => by omega) (h.k k3) (fun k hk => by
    unfold l0M h0M
    rw [setRow_row (by decide), setRow_row (by decide)]
    exact lookM_V w N S sort k hk) (fun k hk => by
    unfold l0M h0M
    rw [setRow_row (by decide), setRow_in N hk]
    rfl) (fun v hv => setRow_in 64 hv)
  have g1 := M_splits7 hM1 hN
  have g2 := M_splits64 (Fr := seenS N S sort) (h.k k2) hN (fun k hk => by
    unfold h0M
    rw [setRow_in N hk]
    rfl)
  refine ⟨w2, ?_, k3.tr f2, f3⟩
  simp only [mX6_splits, M_looks h hN hs, cl_mk, nm_mk, pu_mk, lit, if_true, if_false, ne_eq, not_false_eq_true, not_true_eq_false, nI_add, nI_or, nI_and, Bool.false_eq_true, ne01, ne10, nI_m1', Nat.or_zero]
  rw [g1, g2]
  exact f1
theorem repC_end (h1 : 1 ≤ N) (h8 : N ≤ 8) : ∀ w, w ≤ N → repC N Fr A N w = repC N Fr A 9 w := by
  intro w
  induction w with
  | zero => intro _; rfl
  | succ w ih =>
    intro hw
    have e : isRep N Fr A N w = isRep N Fr A 9 w := by
      rw [Bool.eq_iff_iff, isRep_iff, isRep_iff]
      constructor
      · intro h v hv
        cases q : er N Fr A 9 v w
        · rfl
        · rw [← h v hv]; exact (er_le (by omega) q).symm
      · intro h v hv
        cases q : er N Fr A N v w
        · rfl
        · rw [← h v hv]; exact (er_end h1 (by omega) (by omega) (by omega) (by omega) q).symm
    simp only [repC]
    rw [ih (by omega), e]
theorem lvF_true {a b : Nat} : ∀ r, (∀ s, s ≤ r → er N Fr A s a b = true) → lvF N Fr A a b r = -9
  | 0 => fun h => if_pos (h 0 (Nat.le_refl 0))
  | r + 1 => fun h => by
    show (if lvF N Fr A a b r = -9 then (if er N Fr A (r + 1) a b = true then -9 else nI (r + 1)) else lvF N Fr A a b r) = -9
    rw [if_pos (lvF_true r (fun s hs => h s (by omega))), if_pos (h (r + 1) (Nat.le_refl _))]
theorem lvF_first {a b r0 : Nat} (h0 : er N Fr A r0 a b = false) (hlt : ∀ s, s < r0 → er N Fr A s a b = true) : ∀ r, r0 ≤ r → r ≤ 9 → lvF N Fr A a b r = nI r0 := by
  have nz : ∀ k, k < 10 → nI k ≠ -9 := by decide +kernel
  intro r
  induction r with
  | zero =>
    intro hr _
    have e : r0 = 0 := by omega
    subst e
    show (if er N Fr A 0 a b = true then (-9 : Int32) else 0) = nI 0
    rw [h0]
    rfl
  | succ r ih =>
    intro hr h9
    show (if lvF N Fr A a b r = -9 then (if er N Fr A (r + 1) a b = true then -9 else nI (r + 1)) else lvF N Fr A a b r) = nI r0
    by_cases e : r0 = r + 1
    · subst e
      rw [if_pos (lvF_true r (fun s hs => hlt s (by omega))), h0]
      rfl
    · have g := ih (by omega) (by omega)
      rw [g, if_neg (nz r0 (by omega))]
theorem lvF_dep (h1 : 1 ≤ N) (h8 : N ≤ 8) {a b : Nat} (ha : a < N) (hb : b < N) {x : Int32} (h : DepIs N Fr A a b x) : lvF N Fr A a b 9 = x := by
  rcases h with ⟨r, hr, g1, g2, rfl⟩ | ⟨g, rfl⟩
  · exact lvF_first g1 g2 9 (by omega) (by omega)
  · refine lvF_true 9 (fun s hs => ?_)
    rcases Nat.lt_or_ge N s with q | q
    · exact er_end h1 (by omega) (by omega) ha hb (g N (Nat.le_refl N))
    · exact g s q
end N4
