/-! the class: which types may see which, which must fall -/
def seeX (L CL TU : Nat) (br : Nat → Nat) (a b : Nat) : Bool := decide (sdiff (clN CL TU a) (br b) = 0) && (if L = 3 ∨ L = 4 ∨ L = 8 then decide (sdiff (clN CL TU a) (clN CL TU b) = 0) else if L = 5 ∨ L = 6 then decide (sdiff (clN CL TU b) (br a) = 0) else if L = 7 then decide (sdiff (clN CL TU b) (br a) = 0) && decide (clN CL TU a = clN CL TU b) else true)
def fitX (L CL TU : Nat) (br : Nat → Nat) (a : Nat) : Bool := if L = 2 ∨ L = 4 ∨ L = 6 ∨ L = 7 ∨ L = 8 then seeX L CL TU br a a else true
def TX (W : AW) (L Z CL TU OW : Nat) (br wh : Nat → Nat) : Prop := W.1 4 0 7 = nI L ∧ W.1 4 0 8 = nI Z ∧ W.1 4 0 11 = nI OW ∧ (∀ t, t < Z → W.1 4 3 t = nI (clN CL TU t) ∧ W.1 4 4 t = nI (br t) ∧ W.1 4 5 t = nI (wh t))
section SX
variable {W : AW} {L Z CL TU OW : Nat} {br wh : Nat → Nat}
theorem clN_lt (hC : CL < 2 ^ 10) (t : Nat) : clN CL TU t < 2 ^ 10 := Nat.lt_of_le_of_lt Nat.and_le_right hC
theorem X_claims (h : TX W L Z CL TU OW br wh) (hZ : Z ≤ 1024) {t : Nat} (ht : t < Z) : mX5_at 4 3 (nI t) W = some (nI (clN CL TU t), W) := by
  rw [at_in W (show t < 1024 by omega) (by decide), (h.2.2.2 t ht).1]
theorem X_br (h : TX W L Z CL TU OW br wh) (hZ : Z ≤ 1024) {t : Nat} (ht : t < Z) : mX5_at 4 4 (nI t) W = some (nI (br t), W) := by
  rw [at_in W (show t < 1024 by omega) (by decide), (h.2.2.2 t ht).2.1]
theorem X_maySee (h : TX W L Z CL TU OW br wh) (hZ : Z ≤ 1024) (hC : CL < 2 ^ 10) (hL : L < 9) {a b : Nat} (ha : a < Z) (hb : b < Z) : mX3_maySee (nI a) (nI b) W = some (nI (bN (seeX L CL TU br a b)), W) := by
  have ea := X_claims h hZ ha
  have eb := X_claims h hZ hb
  have ba := X_br h hZ ha
  have bb := X_br h hZ hb
  have la := clN_lt (CL := CL) (TU := TU) hC a
  have lb := clN_lt (CL := CL) (TU := TU) hC b
  have wi : ∀ x y : Nat, x < 2 ^ 10 → mX5_within (nI x) (nI y) W = some (nI (bN (decide (sdiff x y = 0))), W) := fun x y hx => within_B W hx (by decide)
  unfold mX3_maySee seeX
  rw [ea, cl_mk, bb, cl_mk, wi _ _ la, cl_mk, h.1]
  cases q : decide (sdiff (clN CL TU a) (br b) = 0)
  · rw [if_neg (show ¬ (nI (bN false) ≠ 0) from fun z => z rfl), Bool.false_and]
    rfl
  · rw [if_pos (show nI (bN true) ≠ 0 by decide), Bool.true_and]
    match L, hL with
    | 0, _ => rfl
    | 1, _ => rfl
    | 2, _ => rfl
    | 3, _ =>
      rw [if_pos (show nI 3 = 3 from rfl), ea, cl_mk, eb, cl_mk, wi _ _ la, cl_mk, zr_B, if_pos (Or.inl rfl)]
    | 4, _ =>
      rw [if_neg (show ¬ nI 4 = 3 by decide), if_pos (show nI 4 = 4 from rfl), ea, cl_mk, eb, cl_mk, wi _ _ la, cl_mk, zr_B, if_pos (Or.inr (Or.inl rfl))]
    | 5, _ =>
      rw [if_neg (show ¬ nI 5 = 3 by decide), if_neg (show ¬ nI 5 = 4 by decide), if_pos (show nI 5 = 5 from rfl), eb, cl_mk, ba, cl_mk, wi _ _ lb, cl_mk, zr_B, if_neg (by decide), if_pos (Or.inl rfl)]
    | 6, _ =>
      rw [if_neg (show ¬ nI 6 = 3 by decide), if_neg (show ¬ nI 6 = 4 by decide), if_neg (show ¬ nI 6 = 5 by decide), if_pos (show nI 6 = 6 from rfl), eb, cl_mk, ba, cl_mk, wi _ _ lb, cl_mk, zr_B, if_neg (by decide), if_pos (Or.inr rfl)]
    | 7, _ =>
      rw [if_neg (show ¬ nI 7 = 3 by decide), if_neg (show ¬ nI 7 = 4 by decide), if_neg (show ¬ nI 7 = 5 by decide), if_neg (show ¬ nI 7 = 6 by decide), if_pos (show nI 7 = 7 from rfl), eb, cl_mk, ba, cl_mk, wi _ _ lb, cl_mk, if_neg (show ¬ (7 = 3 ∨ 7 = 4 ∨ 7 = 8) by decide), if_neg (show ¬ (7 = 5 ∨ 7 = 6) by decide), if_pos (show 7 = 7 from rfl)]
      cases q2 : decide (sdiff (clN CL TU b) (br a) = 0)
      · rw [if_pos (show nI (bN false) = 0 from rfl), Bool.false_and]
        rfl
      · rw [if_neg (show ¬ (nI (bN true) = 0) by decide), ea, cl_mk, eb, cl_mk, Bool.true_and]
        by_cases q3 : clN CL TU a = clN CL TU b
        · rw [if_neg (show ¬ (nI (clN CL TU a) ≠ nI (clN CL TU b)) from fun z => z (by rw [q3])), decide_eq_true q3]
          rfl
        · rw [if_pos (ne_nI (by omega) (by omega) q3), decide_eq_false q3]
          rfl
    | 8, _ =>
      rw [if_neg (show ¬ nI 8 = 3 by decide), if_neg (show ¬ nI 8 = 4 by decide), if_neg (show ¬ nI 8 = 5 by decide), if_neg (show ¬ nI 8 = 6 by decide), if_neg (show ¬ nI 8 = 7 by decide), if_pos (show nI 8 = 8 from rfl), ea, cl_mk, eb, cl_mk, wi _ _ la, cl_mk, zr_B, if_pos (Or.inr (Or.inr rfl))]
theorem X_isFit (h : TX W L Z CL TU OW br wh) (hZ : Z ≤ 1024) (hC : CL < 2 ^ 10) (hL : L < 9) {a : Nat} (ha : a < Z) : mX3_isFit (nI a) W = some (nI (bN (fitX L CL TU br a)), W) := by
  have es := X_maySee h hZ hC hL ha ha
  unfold mX3_isFit fitX
  rw [h.1]
  match L, hL, es with
  | 0, _, _ => rfl
  | 1, _, _ => rfl
  | 2, _, es => rw [if_pos (show nI 2 = 2 from rfl), es, cl_mk, zr_B, if_pos (by decide)]
  | 3, _, _ => rfl
  | 4, _, es => rw [if_neg (show ¬ nI 4 = 2 by decide), if_neg (show ¬ nI 4 = 3 by decide), if_pos (show nI 4 = 4 from rfl), es, cl_mk, zr_B, if_pos (by decide)]
  | 5, _, _ => rfl
  | 6, _, es => rw [if_neg (show ¬ nI 6 = 2 by decide), if_neg (show ¬ nI 6 = 3 by decide), if_neg (show ¬ nI 6 = 4 by decide), if_neg (show ¬ nI 6 = 5 by decide), if_pos (show nI 6 = 6 from rfl), es, cl_mk, zr_B, if_pos (by decide)]
  | 7, _, es => rw [if_neg (show ¬ nI 7 = 2 by decide), if_neg (show ¬ nI 7 = 3 by decide), if_neg (show ¬ nI 7 = 4 by decide), if_neg (show ¬ nI 7 = 5 by decide), if_neg (show ¬ nI 7 = 6 by decide), if_pos (show nI 7 = 7 from rfl), es, cl_mk, zr_B, if_pos (by decide)]
  | 8, _, es => rw [if_neg (show ¬ nI 8 = 2 by decide), if_neg (show ¬ nI 8 = 3 by decide), if_neg (show ¬ nI 8 = 4 by decide), if_neg (show ¬ nI 8 = 5 by decide), if_neg (show ¬ nI 8 = 6 by decide), if_neg (show ¬ nI 8 = 7 by decide), if_pos (show nI 8 = 8 from rfl), es, cl_mk, zr_B, if_pos (by decide)]
/-- what is owed still, when the first n types have been asked: th says who is there -/
def owN (sees : Nat → Bool) (br : Nat → Nat) (o0 : Nat) : Nat → Nat
  | 0 => o0
  | n + 1 => if sees n = true then owN sees br o0 n &&& br n else owN sees br o0 n
def msN (sees : Nat → Bool) (b0 : Bool) : Nat → Bool
  | 0 => b0
  | n + 1 => msN sees b0 n && !sees n
def mfB (sees : Nat → Bool) (br : Nat → Nat) (o0 : Nat) (b0 : Bool) (Z : Nat) : Bool := !decide (owN sees br o0 Z = 0) || msN sees b0 Z
theorem owN_le {sees : Nat → Bool} {o0 : Nat} : ∀ n, owN sees br o0 n ≤ o0
  | 0 => Nat.le_refl _
  | n + 1 => by
    unfold owN
    split
    · exact Nat.le_trans Nat.and_le_left (owN_le n)
    · exact owN_le n
theorem owN_zero {sees : Nat → Bool} {o0 n k : Nat} (h : owN sees br o0 n = 0) (hk : n ≤ k) : owN sees br o0 k = 0 := by
  obtain ⟨d, rfl⟩ := Nat.exists_eq_add_of_le hk
  clear hk
  induction d with
  | zero => exact h
  | succ d ih =>
    show (if sees (n + d) = true then owN sees br o0 (n + d) &&& br (n + d) else owN sees br o0 (n + d)) = 0
    rw [ih, Nat.zero_and]
    split <;> rfl
theorem msN_false {sees : Nat → Bool} {b0 : Bool} {n k : Nat} (h : msN sees b0 n = false) (hk : n ≤ k) : msN sees b0 k = false := by
  obtain ⟨d, rfl⟩ := Nat.exists_eq_add_of_le hk
  clear hk
  induction d with
  | zero => exact h
  | succ d ih =>
    show (msN sees b0 (n + d) && !sees (n + d)) = false
    rw [ih, Bool.false_and]
/-- the same fold, over a list -/
def owP (sees : Nat → Bool) (br q : Nat → Nat) (o0 : Nat) : Nat → Nat
  | 0 => o0
  | n + 1 => if sees (q n) = true then owP sees br q o0 n &&& br (q n) else owP sees br q o0 n
def msP (sees : Nat → Bool) (q : Nat → Nat) (b0 : Bool) : Nat → Bool
  | 0 => b0
  | n + 1 => msP sees q b0 n && !sees (q n)
theorem owP_le {sees : Nat → Bool} {q : Nat → Nat} {o0 : Nat} : ∀ n, owP sees br q o0 n ≤ o0
  | 0 => Nat.le_refl _
  | n + 1 => by
    unfold owP
    split
    · exact Nat.le_trans Nat.and_le_left (owP_le n)
    · exact owP_le n
theorem owP_zero {sees : Nat → Bool} {q : Nat → Nat} {o0 n k : Nat} (h : owP sees br q o0 n = 0) (hk : n ≤ k) : owP sees br q o0 k = 0 := by
  obtain ⟨d, rfl⟩ := Nat.exists_eq_add_of_le hk
  clear hk
  induction d with
  | zero => exact h
  | succ d ih =>
    show (if sees (q (n + d)) = true then owP sees br q o0 (n + d) &&& br (q (n + d)) else owP sees br q o0 (n + d)) = 0
    rw [ih, Nat.zero_and]
    split <;> rfl
theorem msP_false {sees : Nat → Bool} {q : Nat → Nat} {b0 : Bool} {n k : Nat} (h : msP sees q b0 n = false) (hk : n ≤ k) : msP sees q b0 k = false := by
  obtain ⟨d, rfl⟩ := Nat.exists_eq_add_of_le hk
  clear hk
  induction d with
  | zero => exact h
  | succ d ih =>
    show (msP sees q b0 (n + d) && !sees (q (n + d))) = false
    rw [ih, Bool.false_and]
/-- a list of those there, in order: the fold over it is the fold over all -/
def LsOK (th : Nat → Bool) (q : Nat → Nat) (Z : Nat) : Prop := ∀ t, t < Z → th t = true → q (cntF th t) = t
theorem owP_owN {th sees : Nat → Bool} {q : Nat → Nat} {o0 : Nat} : ∀ t, LsOK th q t → owP sees br q o0 (cntF th t) = owN (fun u => th u && sees u) br o0 t
  | 0, _ => rfl
  | t + 1, h => by
    have ih := owP_owN (sees := sees) (o0 := o0) t (fun u hu => h u (by omega))
    have e : cntF th (t + 1) = cntF th t + bN (th t) := rfl
    show _ = if (th t && sees t) = true then owN (fun u => th u && sees u) br o0 t &&& br t else owN (fun u => th u && sees u) br o0 t
    cases z : th t
    · rw [e, z, bN_f, Nat.add_zero, ih, Bool.false_and, if_neg (by decide)]
    · rw [e, z, bN_t, Bool.true_and]
      show (if sees (q (cntF th t)) = true then owP sees br q o0 (cntF th t) &&& br (q (cntF th t)) else owP sees br q o0 (cntF th t)) = _
      rw [h t (by omega) z, ih]
theorem msP_msN {th sees : Nat → Bool} {q : Nat → Nat} {b0 : Bool} : ∀ t, LsOK th q t → msP sees q b0 (cntF th t) = msN (fun u => th u && sees u) b0 t
  | 0, _ => rfl
  | t + 1, h => by
    have ih := msP_msN (sees := sees) (b0 := b0) t (fun u hu => h u (by omega))
    have e : cntF th (t + 1) = cntF th t + bN (th t) := rfl
    show _ = (msN (fun u => th u && sees u) b0 t && !(th t && sees t))
    cases z : th t
    · rw [e, z, bN_f, Nat.add_zero, ih, Bool.false_and, Bool.not_false, Bool.and_true]
    · rw [e, z, bN_t, Bool.true_and]
      show (msP sees q b0 (cntF th t) && !sees (q (cntF th t))) = _
      rw [h t (by omega) z, ih]
theorem cnt_ex {h : Nat → Bool} {p : Nat} : ∀ n, p < cntF h n → ∃ t, t < n ∧ h t = true ∧ cntF h t = p := by
  intro n
  induction n with
  | zero => intro hp; exact absurd hp (Nat.not_lt_zero p)
  | succ n ih =>
    intro hp
    have e : cntF h (n + 1) = cntF h n + bN (h n) := rfl
    cases q : h n
    · rw [e, q, bN_f, Nat.add_zero] at hp
      obtain ⟨t, t1, t2, t3⟩ := ih hp
      exact ⟨t, by omega, t2, t3⟩
    · rw [e, q, bN_t] at hp
      by_cases z : p < cntF h n
      · obtain ⟨t, t1, t2, t3⟩ := ih z
        exact ⟨t, by omega, t2, t3⟩
      · exact ⟨n, by omega, q, by omega⟩
theorem cntF_up {h : Nat → Bool} {a b : Nat} (hab : a ≤ b) : cntF h a ≤ cntF h b := by
  obtain ⟨d, rfl⟩ := Nat.exists_eq_add_of_le hab
  clear hab
  induction d with
  | zero => exact Nat.le_refl _
  | succ d ih => exact Nat.le_trans ih (Nat.le_add_right _ _)
theorem cntF_lt {h : Nat → Bool} {a b : Nat} (hab : a < b) (ha : h a = true) : cntF h a < cntF h b := by
  have h1 := cntF_up (h := h) (show a + 1 ≤ b from hab)
  have h2 : cntF h (a + 1) = cntF h a + bN (h a) := rfl
  rw [ha, bN_t] at h2
  omega
/-- the list of those there, as it lies in the class -/
def StL (W : AW) (th : Nat → Bool) (Z : Nat) : Prop := W.1 4 0 13 = nI (cntF th Z) ∧ ∀ t, t < Z → th t = true → W.1 4 7 (cntF th t) = nI t
noncomputable def stQ (th : Nat → Bool) (Z p : Nat) : Nat := Classical.epsilon (fun t => t < Z ∧ th t = true ∧ cntF th t = p)
theorem stQ_spec {th : Nat → Bool} {Z p : Nat} (hp : p < cntF th Z) : stQ th Z p < Z ∧ th (stQ th Z p) = true ∧ cntF th (stQ th Z p) = p := Classical.epsilon_spec (p := fun t => t < Z ∧ th t = true ∧ cntF th t = p) (cnt_ex Z hp)
theorem cnt_inj1 {th : Nat → Bool} {t u : Nat} (ht : th t = true) (hu : th u = true) (h : cntF th t = cntF th u) : t = u := by
  rcases Nat.lt_trichotomy t u with z | z | z
  · have := cntF_lt z ht; omega
  · exact z
  · have := cntF_lt z hu; omega
theorem stQ_ls {th : Nat → Bool} {Z : Nat} : LsOK th (stQ th Z) Z := fun t ht hz => by
  have hl := cntF_lt ht hz
  obtain ⟨h1, h2, h3⟩ := stQ_spec hl
  exact cnt_inj1 h2 hz h3
theorem StL.at {th : Nat → Bool} (h : StL W th Z) (hZ : Z ≤ 1024) {p : Nat} (hp : p < cntF th Z) : mX5_at 4 7 (nI p) W = some (nI (stQ th Z p), W) := by
  obtain ⟨h1, h2, h3⟩ := stQ_spec hp
  have := cntF_le th Z
  rw [at_in W (show p < 1024 by omega) (by decide)]
  have e := h.2 _ h1 h2
  rw [h3] at e
  rw [e]
theorem X_mustFall (h : TX W L Z CL TU OW br wh) (hZ : Z ≤ 1024) (hC : CL < 2 ^ 10) (hO : OW < 2 ^ 10) (hL : L < 9) {t : Nat} (ht : t < Z) (th : Nat → Bool) (hS : StL W th Z) :
    mX3_mustFall (nI t) W = some (nI (bN (mfB (fun u => th u && seeX L CL TU br t u) br (sdiff OW (clN CL TU t)) (decide (L = 1)) Z)), W) := by
  have o0l : sdiff OW (clN CL TU t) < 2 ^ 10 := sdiff_lt hO
  have hcZ := cntF_le th Z
  have ol : ∀ n, owP (seeX L CL TU br t) br (stQ th Z) (sdiff OW (clN CL TU t)) n < 2 ^ 10 := fun n => Nat.lt_of_le_of_lt (owP_le n) o0l
  have hex : ∃ n, n = cntF th Z ∨ (owP (seeX L CL TU br t) br (stQ th Z) (sdiff OW (clN CL TU t)) n = 0 ∧ msP (seeX L CL TU br t) (stQ th Z) (decide (L = 1)) n = false) := ⟨cntF th Z, Or.inl rfl⟩
  obtain ⟨E, hE, hmin⟩ := pk_least _ hex
  have hEZ : E ≤ cntF th Z := by
    rcases Nat.lt_or_ge (cntF th Z) E with q | q
    · exact absurd (Or.inl rfl) (hmin _ q)
    · exact q
  have fo := owP_owN (br := br) (sees := seeX L CL TU br t) (o0 := sdiff OW (clN CL TU t)) Z (stQ_ls (th := th) (Z := Z))
  have fm := msP_msN (sees := seeX L CL TU br t) (b0 := decide (L = 1)) Z (stQ_ls (th := th) (Z := Z))
  have run : mX3_mustFall_33 (nI t) FU (nI (sdiff OW (clN CL TU t))) (nI (bN (decide (L = 1)))) (nI 0) W = some (nI (bN (mfB (fun u => th u && seeX L CL TU br t u) br (sdiff OW (clN CL TU t)) (decide (L = 1)) Z)), W) := by
    refine loopE (fun n (s : Int32 × Int32 × Int32) => mX3_mustFall_33 (nI t) n s.1 s.2.1 s.2.2 W) E (fun k => (nI (owP (seeX L CL TU br t) br (stQ th Z) (sdiff OW (clN CL TU t)) k), nI (bN (msP (seeX L CL TU br t) (stQ th Z) (decide (L = 1)) k)), nI k)) _ ?_ ?_ FU 0 (Nat.zero_le _) (FU_gt (by omega))
    · intro n p hp
      have hpc : p < cntF th Z := by omega
      obtain ⟨huZ, -, -⟩ := stQ_spec hpc
      have c1 : ¬ nI (cntF th Z) ≤ nI p := nI_ge hpc (by omega)
      have hno := hmin p hp
      have ev : nI p + 1 = nI (p + 1) := nI_add p 1
      have e90 : ∀ (a b : Int32), mX3_mustFall_90 (mX3_mustFall_33 (nI t) n) (nI t) a b (nI p) W = mX3_mustFall_33 (nI t) n a b (nI (p + 1)) W := fun a b => by
        unfold mX3_mustFall_90
        rw [nm_mk, ev]
      have s1 : owP (seeX L CL TU br t) br (stQ th Z) (sdiff OW (clN CL TU t)) (p + 1) = if seeX L CL TU br t (stQ th Z p) = true then owP (seeX L CL TU br t) br (stQ th Z) (sdiff OW (clN CL TU t)) p &&& br (stQ th Z p) else owP (seeX L CL TU br t) br (stQ th Z) (sdiff OW (clN CL TU t)) p := rfl
      have s2 : msP (seeX L CL TU br t) (stQ th Z) (decide (L = 1)) (p + 1) = (msP (seeX L CL TU br t) (stQ th Z) (decide (L = 1)) p && !seeX L CL TU br t (stQ th Z p)) := rfl
      have e52 : mX3_mustFall_52 (mX3_mustFall_33 (nI t) n) (nI t) (nI (owP (seeX L CL TU br t) br (stQ th Z) (sdiff OW (clN CL TU t)) p)) (nI (bN (msP (seeX L CL TU br t) (stQ th Z) (decide (L = 1)) p))) (nI p) W = mX3_mustFall_33 (nI t) n (nI (owP (seeX L CL TU br t) br (stQ th Z) (sdiff OW (clN CL TU t)) (p + 1))) (nI (bN (msP (seeX L CL TU br t) (stQ th Z) (decide (L = 1)) (p + 1)))) (nI (p + 1)) W := by
        unfold mX3_mustFall_52
        rw [hS.at hZ hpc, cl_mk, X_maySee h hZ hC hL ht huZ, cl_mk]
        cases q2 : seeX L CL TU br t (stQ th Z p)
        · rw [if_neg (show ¬ (nI (bN false) ≠ 0) from fun z => z rfl), e90, s1, s2, q2, if_neg (by decide), Bool.not_false, Bool.and_true]
        · rw [if_pos (show nI (bN true) ≠ 0 by decide), X_br h hZ huZ, cl_mk, nI_and, nm_mk, e90, s1, s2, q2, if_pos rfl, Bool.not_true, Bool.and_false]
          rfl
      dsimp only
      rw [mX3_mustFall_33, hS.1, if_neg c1]
      by_cases z : owP (seeX L CL TU br t) br (stQ th Z) (sdiff OW (clN CL TU t)) p = 0
      · have z2 : msP (seeX L CL TU br t) (stQ th Z) (decide (L = 1)) p = true := by
          cases y : msP (seeX L CL TU br t) (stQ th Z) (decide (L = 1)) p
          · exact absurd (Or.inr ⟨z, y⟩) hno
          · rfl
        rw [if_neg (show ¬ (nI (owP (seeX L CL TU br t) br (stQ th Z) (sdiff OW (clN CL TU t)) p) ≠ 0) from fun y => y (by rw [z]; rfl)), if_pos (show nI (bN (msP (seeX L CL TU br t) (stQ th Z) (decide (L = 1)) p)) ≠ 0 by rw [z2]; decide)]
        exact e52
      · rw [if_pos (show nI (owP (seeX L CL TU br t) br (stQ th Z) (sdiff OW (clN CL TU t)) p) ≠ 0 from ne_nI (b := 0) (by have := ol p; omega) (by decide) z)]
        exact e52
    · intro n
      dsimp only
      rw [mX3_mustFall_33, hS.1]
      unfold mfB mX3_mustFall_104
      rw [← fo, ← fm]
      by_cases z : owP (seeX L CL TU br t) br (stQ th Z) (sdiff OW (clN CL TU t)) E = 0
      · have n0 : ¬ (nI (owP (seeX L CL TU br t) br (stQ th Z) (sdiff OW (clN CL TU t)) E) ≠ 0) := fun y => y (by rw [z]; rfl)
        rw [owP_zero z hEZ, decide_eq_true rfl, Bool.not_true, Bool.false_or, if_neg n0, if_neg n0]
        cases q : msP (seeX L CL TU br t) (stQ th Z) (decide (L = 1)) E
        · rw [msP_false q hEZ]
          by_cases y : nI (cntF th Z) ≤ nI E
          · rw [if_pos y, if_pos (show nI (bN false) = 0 from rfl)]
            rfl
          · rw [if_neg y, if_neg (show ¬ (nI (bN false) ≠ 0) from fun x => x rfl)]
            rfl
        · have hEq : E = cntF th Z := by
            rcases hE with y | ⟨-, y⟩
            · exact y
            · rw [q] at y; cases y
          rw [← hEq, q, if_pos (nI_le (Nat.le_refl E) (by omega)), if_neg (show ¬ (nI (bN true) = 0) by decide)]
          rfl
      · have hEq : E = cntF th Z := by
          rcases hE with y | ⟨y, -⟩
          · exact y
          · exact absurd y z
        rw [← hEq, decide_eq_false z, if_pos (nI_le (Nat.le_refl E) (by omega)), if_pos (show nI (owP (seeX L CL TU br t) br (stQ th Z) (sdiff OW (clN CL TU t)) E) ≠ 0 from ne_nI (b := 0) (by have := ol E; omega) (by decide) z)]
        rfl
  unfold mX3_mustFall
  rw [X_claims h hZ ht, cl_mk, h.2.2.1]
  have es : nI OW &&& (nI (clN CL TU t) ^^^ (-1)) = nI (sdiff OW (clN CL TU t)) := nI_sdiff OW _
  rw [es, nm_mk, h.1]
  unfold mX3_mustFall_29
  by_cases h1 : L = 1
  · rw [if_neg (show ¬ (nI L ≠ 1) from fun z => z (by rw [h1]; rfl))]
    rw [decide_eq_true h1] at run ⊢
    exact run
  · rw [if_pos (show nI L ≠ 1 from ne_nI (b := 1) (by omega) (by decide) h1)]
    rw [decide_eq_false h1] at run ⊢
    exact run
end SX
