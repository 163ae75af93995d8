/-! the class: which types may see which, which must fall -/
def clN (CL TU t : Nat) : Nat := (t ^^^ TU) &&& CL
def seeX (L CL TU : Nat) (br : Nat → Nat) (a b : Nat) : Bool := decide (sdiff (clN CL TU a) (br b) = 0) && (if L = 3 ∨ L = 4 ∨ L = 8 then decide (sdiff (clN CL TU a) (clN CL TU b) = 0) else if L = 5 ∨ L = 6 then decide (sdiff (clN CL TU b) (br a) = 0) else if L = 7 then decide (sdiff (clN CL TU b) (br a) = 0) && decide (clN CL TU a = clN CL TU b) else true)
def fitX (L CL TU : Nat) (br : Nat → Nat) (a : Nat) : Bool := if L = 2 ∨ L = 4 ∨ L = 6 ∨ L = 7 ∨ L = 8 then seeX L CL TU br a a else true
def TX (W : AW) (L Z CL TU OW : Nat) (br wh : Nat → Nat) : Prop := W.1 4 0 6 = nI L ∧ W.1 4 0 7 = nI Z ∧ W.1 4 0 8 = nI CL ∧ W.1 4 0 9 = nI TU ∧ W.1 4 0 10 = nI OW ∧ (∀ t, t < Z → W.1 4 3 t = nI (br t) ∧ W.1 4 4 t = nI (wh t))
section SX
variable {W : AW} {L Z CL TU OW : Nat} {br wh : Nat → Nat}
theorem clN_lt (hC : CL < 2 ^ 10) (t : Nat) : clN CL TU t < 2 ^ 10 := Nat.lt_of_le_of_lt Nat.and_le_right hC
theorem X_claims (h : TX W L Z CL TU OW br wh) (t : Nat) : mX3_claims (nI t) W = some (nI (clN CL TU t), W) := by
  unfold mX3_claims clN
  rw [h.2.2.2.1, h.2.2.1, nI_xor, nI_and]
theorem X_br (h : TX W L Z CL TU OW br wh) (hZ : Z ≤ 1024) {t : Nat} (ht : t < Z) : mX5_at 4 3 (nI t) W = some (nI (br t), W) := by
  rw [at_in W (show t < 1024 by omega) (by decide), (h.2.2.2.2.2 t ht).1]
theorem X_maySee (h : TX W L Z CL TU OW br wh) (hZ : Z ≤ 1024) (hC : CL < 2 ^ 10) (hL : L < 9) {a b : Nat} (ha : a < Z) (hb : b < Z) : mX3_maySee (nI a) (nI b) W = some (nI (bN (seeX L CL TU br a b)), W) := by
  have ea := X_claims h a
  have eb := X_claims h b
  have ba := X_br h hZ ha
  have bb := X_br h hZ hb
  have la := clN_lt (CL := CL) (TU := TU) hC a
  have lb := clN_lt (CL := CL) (TU := TU) hC b
  have wi : ∀ x y : Nat, x < 2 ^ 10 → mX5_within (nI x) (nI y) W = some (nI (bN (decide (sdiff x y = 0))), W) := fun x y hx => within_B W hx (by decide)
  unfold mX3_maySee seeX
  rw [ea, cl_mk, bb, cl_mk, wi _ _ la, cl_mk, h.1]
  cases q : decide (sdiff (clN CL TU a) (br b) = 0)
  · rw [if_neg (show ¬ (nI (bN false) ≠ 0) from fun z => z rfl), Bool.false_and]
    rfl
  · rw [if_pos (show nI (bN true) ≠ 0 by decide), Bool.true_and]
    match L, hL with
    | 0, _ => rfl
    | 1, _ => rfl
    | 2, _ => rfl
    | 3, _ =>
      rw [if_pos (show nI 3 = 3 from rfl), ea, cl_mk, eb, cl_mk, wi _ _ la, cl_mk, zr_B, if_pos (Or.inl rfl)]
    | 4, _ =>
      rw [if_neg (show ¬ nI 4 = 3 by decide), if_pos (show nI 4 = 4 from rfl), ea, cl_mk, eb, cl_mk, wi _ _ la, cl_mk, zr_B, if_pos (Or.inr (Or.inl rfl))]
    | 5, _ =>
      rw [if_neg (show ¬ nI 5 = 3 by decide), if_neg (show ¬ nI 5 = 4 by decide), if_pos (show nI 5 = 5 from rfl), eb, cl_mk, ba, cl_mk, wi _ _ lb, cl_mk, zr_B, if_neg (by decide), if_pos (Or.inl rfl)]
    | 6, _ =>
      rw [if_neg (show ¬ nI 6 = 3 by decide), if_neg (show ¬ nI 6 = 4 by decide), if_neg (show ¬ nI 6 = 5 by decide), if_pos (show nI 6 = 6 from rfl), eb, cl_mk, ba, cl_mk, wi _ _ lb, cl_mk, zr_B, if_neg (by decide), if_pos (Or.inr rfl)]
    | 7, _ =>
      rw [if_neg (show ¬ nI 7 = 3 by decide), if_neg (show ¬ nI 7 = 4 by decide), if_neg (show ¬ nI 7 = 5 by decide), if_neg (show ¬ nI 7 = 6 by decide), if_pos (show nI 7 = 7 from rfl), eb, cl_mk, ba, cl_mk, wi _ _ lb, cl_mk, if_neg (show ¬ (7 = 3 ∨ 7 = 4 ∨ 7 = 8) by decide), if_neg (show ¬ (7 = 5 ∨ 7 = 6) by decide), if_pos (show 7 = 7 from rfl)]
      cases q2 : decide (sdiff (clN CL TU b) (br a) = 0)
      · rw [if_pos (show nI (bN false) = 0 from rfl), Bool.false_and]
        rfl
      · rw [if_neg (show ¬ (nI (bN true) = 0) by decide), ea, cl_mk, eb, cl_mk, Bool.true_and]
        by_cases q3 : clN CL TU a = clN CL TU b
        · rw [if_neg (show ¬ (nI (clN CL TU a) ≠ nI (clN CL TU b)) from fun z => z (by rw [q3])), decide_eq_true q3]
          rfl
        · rw [if_pos (ne_nI (by omega) (by omega) q3), decide_eq_false q3]
          rfl
    | 8, _ =>
      rw [if_neg (show ¬ nI 8 = 3 by decide), if_neg (show ¬ nI 8 = 4 by decide), if_neg (show ¬ nI 8 = 5 by decide), if_neg (show ¬ nI 8 = 6 by decide), if_neg (show ¬ nI 8 = 7 by decide), if_pos (show nI 8 = 8 from rfl), ea, cl_mk, eb, cl_mk, wi _ _ la, cl_mk, zr_B, if_pos (Or.inr (Or.inr rfl))]
theorem X_isFit (h : TX W L Z CL TU OW br wh) (hZ : Z ≤ 1024) (hC : CL < 2 ^ 10) (hL : L < 9) {a : Nat} (ha : a < Z) : mX3_isFit (nI a) W = some (nI (bN (fitX L CL TU br a)), W) := by
  have es := X_maySee h hZ hC hL ha ha
  unfold mX3_isFit fitX
  rw [h.1]
  match L, hL, es with
  | 0, _, _ => rfl
  | 1, _, _ => rfl
  | 2, _, es => rw [if_pos (show nI 2 = 2 from rfl), es, cl_mk, zr_B, if_pos (by decide)]
  | 3, _, _ => rfl
  | 4, _, es => rw [if_neg (show ¬ nI 4 = 2 by decide), if_neg (show ¬ nI 4 = 3 by decide), if_pos (show nI 4 = 4 from rfl), es, cl_mk, zr_B, if_pos (by decide)]
  | 5, _, _ => rfl
  | 6, _, es => rw [if_neg (show ¬ nI 6 = 2 by decide), if_neg (show ¬ nI 6 = 3 by decide), if_neg (show ¬ nI 6 = 4 by decide), if_neg (show ¬ nI 6 = 5 by decide), if_pos (show nI 6 = 6 from rfl), es, cl_mk, zr_B, if_pos (by decide)]
  | 7, _, es => rw [if_neg (show ¬ nI 7 = 2 by decide), if_neg (show ¬ nI 7 = 3 by decide), if_neg (show ¬ nI 7 = 4 by decide), if_neg (show ¬ nI 7 = 5 by decide), if_neg (show ¬ nI 7 = 6 by decide), if_pos (show nI 7 = 7 from rfl), es, cl_mk, zr_B, if_pos (by decide)]
  | 8, _, es => rw [if_neg (show ¬ nI 8 = 2 by decide), if_neg (show ¬ nI 8 = 3 by decide), if_neg (show ¬ nI 8 = 4 by decide), if_neg (show ¬ nI 8 = 5 by decide), if_neg (show ¬ nI 8 = 6 by decide), if_neg (show ¬ nI 8 = 7 by decide), if_pos (show nI 8 = 8 from rfl), es, cl_mk, zr_B, if_pos (by decide)]
/-- what is owed still, when the first n types have been asked: th says who is there -/
def owN (sees : Nat → Bool) (br : Nat → Nat) (o0 : Nat) : Nat → Nat
  | 0 => o0
  | n + 1 => if sees n = true then owN sees br o0 n &&& br n else owN sees br o0 n
def msN (sees : Nat → Bool) (b0 : Bool) : Nat → Bool
  | 0 => b0
  | n + 1 => msN sees b0 n && !sees n
def mfB (sees : Nat → Bool) (br : Nat → Nat) (o0 : Nat) (b0 : Bool) (Z : Nat) : Bool := !decide (owN sees br o0 Z = 0) || msN sees b0 Z
theorem owN_le {sees : Nat → Bool} {o0 : Nat} : ∀ n, owN sees br o0 n ≤ o0
  | 0 => Nat.le_refl _
  | n + 1 => by
    unfold owN
    split
    · exact Nat.le_trans Nat.and_le_left (owN_le n)
    · exact owN_le n
theorem owN_zero {sees : Nat → Bool} {o0 n k : Nat} (h : owN sees br o0 n = 0) (hk : n ≤ k) : owN sees br o0 k = 0 := by
  obtain ⟨d, rfl⟩ := Nat.exists_eq_add_of_le hk
  clear hk
  induction d with
  | zero => exact h
  | succ d ih =>
    show (if sees (n + d) = true then owN sees br o0 (n + d) &&& br (n + d) else owN sees br o0 (n + d)) = 0
    rw [ih, Nat.zero_and]
    split <;> rfl
theorem msN_false {sees : Nat → Bool} {b0 : Bool} {n k : Nat} (h : msN sees b0 n = false) (hk : n ≤ k) : msN sees b0 k = false := by
  obtain ⟨d, rfl⟩ := Nat.exists_eq_add_of_le hk
  clear hk
  induction d with
  | zero => exact h
  | succ d ih =>
    show (msN sees b0 (n + d) && !sees (n + d)) = false
    rw [ih, Bool.false_and]
theorem X_isThere {u R : Nat} (hu : u < 1024) {x : Int32} (hf : W.1 4 5 u = x) : mX3_isThere (nI u) (nI R) W = some (nI (bN (decide (x = -9 ∨ x = nI R))), W) := by
  unfold mX3_isThere
  rw [at_in W (show u < 1024 from hu) (by decide), hf, cl_mk]
  by_cases h1 : x = -9
  · rw [if_pos h1, decide_eq_true (Or.inl h1)]
    rfl
  · rw [if_neg h1]
    by_cases h2 : x = nI R
    · rw [if_neg (fun z => z h2), decide_eq_true (Or.inr h2)]
      rfl
    · rw [if_pos h2, decide_eq_false (fun z => by rcases z with z | z; exact h1 z; exact h2 z)]
      rfl
theorem X_mustFall (h : TX W L Z CL TU OW br wh) (hZ : Z ≤ 1024) (hC : CL < 2 ^ 10) (hO : OW < 2 ^ 10) (hL : L < 9) {t R : Nat} (ht : t < Z) (th : Nat → Bool) (hth : ∀ u, u < Z → decide (W.1 4 5 u = -9 ∨ W.1 4 5 u = nI R) = th u) :
    mX3_mustFall (nI t) (nI R) W = some (nI (bN (mfB (fun u => th u && seeX L CL TU br t u) br (sdiff OW (clN CL TU t)) (decide (L = 1)) Z)), W) := by
  have o0l : sdiff OW (clN CL TU t) < 2 ^ 10 := sdiff_lt hO
  have ol : ∀ n, owN (fun u => th u && seeX L CL TU br t u) br (sdiff OW (clN CL TU t)) n < 2 ^ 10 := fun n => Nat.lt_of_le_of_lt (owN_le n) o0l
  -- where the loop ends
  have hex : ∃ n, n = Z ∨ (owN (fun u => th u && seeX L CL TU br t u) br (sdiff OW (clN CL TU t)) n = 0 ∧ msN (fun u => th u && seeX L CL TU br t u) (decide (L = 1)) n = false) := ⟨Z, Or.inl rfl⟩
  obtain ⟨E, hE, hmin⟩ := pk_least _ hex
  have hEZ : E ≤ Z := by
    rcases Nat.lt_or_ge Z E with q | q
    · exact absurd (Or.inl rfl) (hmin Z q)
    · exact q
  have run : mX3_mustFall_31 (nI t) (nI R) FU (nI (sdiff OW (clN CL TU t))) (nI (bN (decide (L = 1)))) (nI 0) W = some (nI (bN (mfB (fun u => th u && seeX L CL TU br t u) br (sdiff OW (clN CL TU t)) (decide (L = 1)) Z)), W) := by
    refine loopE (fun n (s : Int32 × Int32 × Int32) => mX3_mustFall_31 (nI t) (nI R) n s.1 s.2.1 s.2.2 W) E (fun k => (nI (owN (fun u => th u && seeX L CL TU br t u) br (sdiff OW (clN CL TU t)) k), nI (bN (msN (fun u => th u && seeX L CL TU br t u) (decide (L = 1)) k)), nI k)) _ ?_ ?_ FU 0 (Nat.zero_le _) (FU_gt (by omega))
    · intro n u hu
      have huZ : u < Z := by omega
      have c1 : ¬ nI Z ≤ nI u := nI_ge huZ (by omega)
      have hno := hmin u hu
      have ev : nI u + 1 = nI (u + 1) := nI_add u 1
      have e86 : ∀ (a b : Int32), mX3_mustFall_86 (mX3_mustFall_31 (nI t) (nI R) n) (nI t) (nI R) a b (nI u) W = mX3_mustFall_31 (nI t) (nI R) n a b (nI (u + 1)) W := fun a b => by
        unfold mX3_mustFall_86
        rw [nm_mk, ev]
      have e51 : mX3_mustFall_51 (mX3_mustFall_31 (nI t) (nI R) n) (nI t) (nI R) (nI (owN (fun u => th u && seeX L CL TU br t u) br (sdiff OW (clN CL TU t)) u)) (nI (bN (msN (fun u => th u && seeX L CL TU br t u) (decide (L = 1)) u))) (nI u) W = mX3_mustFall_31 (nI t) (nI R) n (nI (owN (fun u => th u && seeX L CL TU br t u) br (sdiff OW (clN CL TU t)) (u + 1))) (nI (bN (msN (fun u => th u && seeX L CL TU br t u) (decide (L = 1)) (u + 1)))) (nI (u + 1)) W := by
        have s1 : owN (fun u => th u && seeX L CL TU br t u) br (sdiff OW (clN CL TU t)) (u + 1) = if (th u && seeX L CL TU br t u) = true then owN (fun u => th u && seeX L CL TU br t u) br (sdiff OW (clN CL TU t)) u &&& br u else owN (fun u => th u && seeX L CL TU br t u) br (sdiff OW (clN CL TU t)) u := rfl
        have s2 : msN (fun u => th u && seeX L CL TU br t u) (decide (L = 1)) (u + 1) = (msN (fun u => th u && seeX L CL TU br t u) (decide (L = 1)) u && !(th u && seeX L CL TU br t u)) := rfl
        unfold mX3_mustFall_51
        rw [X_isThere (show u < 1024 by omega) rfl, hth u huZ, cl_mk]
        cases q : th u
        · rw [if_pos (show nI (bN false) = 0 from rfl), e86, s1, s2, q, Bool.false_and, if_neg (by decide), Bool.not_false, Bool.and_true]
        · rw [if_neg (show ¬ (nI (bN true) = 0) by decide), X_maySee h hZ hC hL ht huZ, cl_mk]
          cases q2 : seeX L CL TU br t u
          · rw [if_pos (show nI (bN false) = 0 from rfl), e86, s1, s2, q, q2, Bool.and_false, if_neg (by decide), Bool.not_false, Bool.and_true]
          · rw [if_neg (show ¬ (nI (bN true) = 0) by decide), X_br h hZ huZ, cl_mk, nI_and, nm_mk, e86, s1, s2, q, q2, Bool.and_true, if_pos rfl, Bool.not_true, Bool.and_false]
            rfl
      dsimp only
      rw [mX3_mustFall_31, h.2.1, if_neg c1]
      by_cases z : owN (fun u => th u && seeX L CL TU br t u) br (sdiff OW (clN CL TU t)) u = 0
      · have z2 : msN (fun u => th u && seeX L CL TU br t u) (decide (L = 1)) u = true := by
          cases y : msN (fun u => th u && seeX L CL TU br t u) (decide (L = 1)) u
          · exact absurd (Or.inr ⟨z, y⟩) hno
          · rfl
        rw [if_neg (show ¬ (nI (owN (fun u => th u && seeX L CL TU br t u) br (sdiff OW (clN CL TU t)) u) ≠ 0) from fun y => y (by rw [z]; rfl)), if_pos (show nI (bN (msN (fun u => th u && seeX L CL TU br t u) (decide (L = 1)) u)) ≠ 0 by rw [z2]; decide)]
        exact e51
      · rw [if_pos (show nI (owN (fun u => th u && seeX L CL TU br t u) br (sdiff OW (clN CL TU t)) u) ≠ 0 from ne_nI (b := 0) (by have := ol u; omega) (by decide) z)]
        exact e51
    · intro n
      dsimp only
      rw [mX3_mustFall_31, h.2.1]
      unfold mfB
      by_cases z : owN (fun u => th u && seeX L CL TU br t u) br (sdiff OW (clN CL TU t)) E = 0
      · have n0 : ¬ (nI (owN (fun u => th u && seeX L CL TU br t u) br (sdiff OW (clN CL TU t)) E) ≠ 0) := fun y => y (by rw [z]; rfl)
        rw [owN_zero z hEZ, decide_eq_true rfl, Bool.not_true, Bool.false_or, if_neg n0, if_neg n0]
        cases q : msN (fun u => th u && seeX L CL TU br t u) (decide (L = 1)) E
        · rw [msN_false q hEZ]
          by_cases y : nI Z ≤ nI E
          · rw [if_pos y, if_pos (show nI (bN false) = 0 from rfl)]
            rfl
          · rw [if_neg y, if_neg (show ¬ (nI (bN false) ≠ 0) from fun x => x rfl)]
            rfl
        · have hEq : E = Z := by
            rcases hE with y | ⟨-, y⟩
            · exact y
            · rw [q] at y; cases y
          rw [← hEq, q, if_pos (nI_le (Nat.le_refl E) (by omega)), if_neg (show ¬ (nI (bN true) = 0) by decide)]
          rfl
      · have hEq : E = Z := by
          rcases hE with y | ⟨y, -⟩
          · exact y
          · exact absurd y z
        rw [← hEq, decide_eq_false z, if_pos (nI_le (Nat.le_refl E) (by omega)), if_pos (show nI (owN (fun u => th u && seeX L CL TU br t u) br (sdiff OW (clN CL TU t)) E) ≠ 0 from ne_nI (b := 0) (by have := ol E; omega) (by decide) z)]
        rfl
  unfold mX3_mustFall
  rw [X_claims h t, cl_mk, h.2.2.2.2.1]
  have es : nI OW &&& (nI (clN CL TU t) ^^^ (-1)) = nI (sdiff OW (clN CL TU t)) := nI_sdiff OW _
  rw [es, nm_mk, h.1]
  unfold mX3_mustFall_26
  by_cases h1 : L = 1
  · rw [if_neg (show ¬ (nI L ≠ 1) from fun z => z (by rw [h1]; rfl))]
    rw [decide_eq_true h1] at run ⊢
    exact run
  · rw [if_pos (show nI L ≠ 1 from ne_nI (b := 1) (by omega) (by decide) h1)]
    rw [decide_eq_false h1] at run ⊢
    exact run
end SX
