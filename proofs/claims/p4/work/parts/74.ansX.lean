/-! the class's answers about types (but how many are reached) -/
/-- the least type there at which v -/
def PWis (th : Nat → Bool) (wh : Nat → Nat) (Z v : Nat) (x : Int32) : Prop := (x = -9 ∧ ∀ t, t < Z → th t = true → wh t ≠ v) ∨ ∃ t, t < Z ∧ th t = true ∧ wh t = v ∧ (∀ u, u < t → th u = true → wh u ≠ v) ∧ x = nI (cntF th t)
section AX
variable {W : AW} {Z : Nat} {th : Nat → Bool} {wh : Nat → Nat}
theorem X_place (hZ : Z ≤ 1024) (h12 : W.1 4 0 13 = nI (cntF th Z)) (h6 : ∀ t, t < Z → th t = true → W.1 4 7 (cntF th t) = nI t) (h4 : ∀ t, t < Z → W.1 4 5 t = nI (wh t)) (hwl : ∀ t, wh t < 2) {v : Nat} (hv : v < 2) : ∃ x, mX3_placeWhere (nI v) W = some (x, W) ∧ PWis th wh Z v x := by
  have hcZ := cntF_le th Z
  have step : ∀ n p, p < cntF th Z → (∀ t, t < Z → th t = true → cntF th t = p → wh t ≠ v) → mX3_placeWhere_2 (nI v) (n + 1) (nI p) W = mX3_placeWhere_2 (nI v) n (nI (p + 1)) W := fun n p hp hno => by
    obtain ⟨t, t1, t2, t3⟩ := cnt_ex Z hp
    have c1 : ¬ nI (cntF th Z) ≤ nI p := nI_ge hp (by omega)
    have e6 : mX5_at 4 7 (nI p) W = some (nI t, W) := by rw [at_in W (show p < 1024 by omega) (by decide), ← t3, h6 t t1 t2]
    have e4 : mX5_at 4 5 (nI t) W = some (nI (wh t), W) := by rw [at_in W (show t < 1024 by omega) (by decide), h4 t t1]
    rw [mX3_placeWhere_2, h12, if_neg c1, e6, cl_mk, e4, cl_mk, if_pos (ne_nI (by have := hwl t; omega) (by omega) (hno t t1 t2 t3)), nm_mk, show nI p + 1 = nI (p + 1) from nI_add p 1]
  by_cases hex : ∃ t, t < Z ∧ th t = true ∧ wh t = v
  · obtain ⟨t0, ⟨a1, a2, a3⟩, hmin⟩ := pk_least _ hex
    have hmin2 : ∀ u, u < t0 → th u = true → wh u ≠ v := fun u hu q z => hmin u hu ⟨by omega, q, z⟩
    refine ⟨nI (cntF th t0), ?_, Or.inr ⟨t0, a1, a2, a3, hmin2, rfl⟩⟩
    have hlt := cntF_lt a1 a2
    refine loopE (fun n p => mX3_placeWhere_2 (nI v) n p W) (cntF th t0) nI _ (fun n p hp => step n p (by omega) (fun t t1 t2 t3 => ?_)) ?_ FU 0 (Nat.zero_le _) (FU_gt (by omega))
    · rcases Nat.lt_or_ge t t0 with q | q
      · exact hmin2 t q t2
      · have := cntF_up (h := th) q
        omega
    · intro n
      have c1 : ¬ nI (cntF th Z) ≤ nI (cntF th t0) := nI_ge hlt (by omega)
      have e6 : mX5_at 4 7 (nI (cntF th t0)) W = some (nI t0, W) := by rw [at_in W (show cntF th t0 < 1024 by omega) (by decide), h6 t0 a1 a2]
      have e4 : mX5_at 4 5 (nI t0) W = some (nI (wh t0), W) := by rw [at_in W (show t0 < 1024 by omega) (by decide), h4 t0 a1]
      rw [mX3_placeWhere_2, h12, if_neg c1, e6, cl_mk, e4, cl_mk, a3, if_neg (fun z => z rfl)]
  · have hno : ∀ t, t < Z → th t = true → wh t ≠ v := fun t t1 t2 z => hex ⟨t, t1, t2, z⟩
    refine ⟨-9, ?_, Or.inl ⟨rfl, hno⟩⟩
    refine loopE (fun n p => mX3_placeWhere_2 (nI v) n p W) (cntF th Z) nI _ (fun n p hp => step n p hp (fun t t1 t2 _ => hno t t1 t2)) ?_ FU 0 (Nat.zero_le _) (FU_gt (by omega))
    intro n
    rw [mX3_placeWhere_2, h12, if_pos (nI_le (Nat.le_refl _) (by omega))]
theorem PW_n9 {v : Nat} {x : Int32} (hZ : Z ≤ 1024) (h : PWis th wh Z v x) : (x = -9 ↔ ∀ t, t < Z → th t = true → wh t ≠ v) := by
  rcases h with ⟨h1, h2⟩ | ⟨t, t1, t2, t3, t4, rfl⟩
  · exact ⟨fun _ => h2, fun _ => h1⟩
  · have := cntF_le th t
    exact ⟨fun z => absurd z (nI_n9 (by omega)), fun z => absurd t3 (z t t1 t2)⟩
/-- whether the sentence holds at all that stay -/
def lawB (th : Nat → Bool) (wh : Nat → Nat) (Z : Nat) : Bool := allT (fun t => !th t || decide (wh t = 1)) Z
theorem X_law (hZ : Z ≤ 1024) (h12 : W.1 4 0 13 = nI (cntF th Z)) (h6 : ∀ t, t < Z → th t = true → W.1 4 7 (cntF th t) = nI t) (h4 : ∀ t, t < Z → W.1 4 5 t = nI (wh t)) (hwl : ∀ t, wh t < 2) : mX3_answer (nI 1) W = some (nI (bN (lawB th wh Z)), W) := by
  obtain ⟨x, e1, e2⟩ := X_place hZ h12 h6 h4 hwl (v := 0) (by decide)
  have i1 := PW_n9 hZ e2
  have e1' : mX3_placeWhere 0 W = some (x, W) := e1
  unfold mX3_answer
  rw [if_neg (show ¬ (nI 1 = 0) by decide), if_pos (show nI 1 = 1 from rfl), e1', cl_mk]
  by_cases h9 : x = -9
  · have hl : lawB th wh Z = true := allT_iff.mpr (fun t ht => by
      cases q : th t
      · rfl
      · have := i1.mp h9 t ht q
        have := hwl t
        rw [Bool.not_true, Bool.false_or, decide_eq_true_eq]
        omega)
    rw [if_neg (fun z => z h9), hl]
    rfl
  · have hl : lawB th wh Z = false := by
      cases q : lawB th wh Z
      · rfl
      · exfalso
        apply h9
        refine i1.mpr (fun t ht z => ?_)
        have := allT_iff.mp q t ht
        rw [z, Bool.not_true, Bool.false_or, decide_eq_true_eq] at this
        omega
    rw [if_pos h9, hl]
    rfl
end AX
