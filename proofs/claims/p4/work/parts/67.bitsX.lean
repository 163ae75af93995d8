/-! the class's bits -/
def atmB (c : Nat) : Bool := decide (112 ≤ c ∧ c ≤ 115)
def hbB (gr : Bool) (c : Nat) : Bool := atmB c || (if gr = true then decide (c = 62 ∨ c = 33) else modB c)
def cntF (h : Nat → Bool) : Nat → Nat
  | 0 => 0
  | n + 1 => cntF h n + bN (h n)
theorem cntF_le (h : Nat → Bool) : ∀ n, cntF h n ≤ n
  | 0 => Nat.le_refl 0
  | n + 1 => by
    have := cntF_le h n
    have := bN_lt (h n)
    show cntF h n + bN (h n) ≤ n + 1
    omega
theorem cntF_mono {h g : Nat → Bool} {n : Nat} (hg : ∀ q, q < n → h q = true → g q = true) : cntF h n ≤ cntF g n := by
  induction n with
  | zero => exact Nat.le_refl 0
  | succ n ih =>
    have i1 := ih (fun q hq => hg q (by omega))
    show cntF h n + bN (h n) ≤ cntF g n + bN (g n)
    cases z : h n
    · rw [bN_f]; omega
    · rw [hg n (by omega) z]; omega
theorem cntF_strict {h g : Nat → Bool} {n p : Nat} (hp : p < n) (hg : ∀ q, q < n → h q = true → g q = true) (h0 : h p = false) (g1 : g p = true) : cntF h n + 1 ≤ cntF g n := by
  induction n with
  | zero => omega
  | succ n ih =>
    show cntF h n + bN (h n) + 1 ≤ cntF g n + bN (g n)
    by_cases e : p = n
    · subst e
      have := cntF_mono (n := p) (fun q hq => hg q (by omega))
      rw [h0, g1, bN_t, bN_f]
      omega
    · have i1 := ih (by omega) (fun q hq => hg q (by omega))
      cases z : h n
      · rw [bN_f]; omega
      · rw [hg n (by omega) z]; omega
/-- of the unlike parts: which stand before p -/
def befB (h : Nat → Bool) (pl : Nat → Nat) (p q : Nat) : Bool := h q && decide (pl q < pl p ∨ (pl q = pl p ∧ q < p))
def rkF (h : Nat → Bool) (pl : Nat → Nat) (P p : Nat) : Nat := cntF (befB h pl p) P
theorem rkF_lt {h : Nat → Bool} {pl : Nat → Nat} {P p : Nat} (hp : p < P) (h1 : h p = true) : rkF h pl P p < cntF h P := by
  refine cntF_strict hp (fun q hq z => ?_) ?_ h1
  · unfold befB at z
    rw [Bool.and_eq_true] at z
    exact z.1
  · unfold befB
    rw [h1, decide_eq_false (by omega)]
    rfl
section BX
variable {w : AW} {o m P L : Nat} {c l r ph pl dp : Nat → Nat}
theorem X_hasBit {cc : Nat} (w : AW) (hc : cc < 128) (hL : L < 9) : mX3_hasBit (nI cc) (nI L) w = some (nI (bN (hbB (decide (L = 8)) cc)), w) := by
  unfold mX3_hasBit hbB
  rw [X_isAtom w (by omega), cl_mk]
  have ea : decide (112 ≤ cc ∧ cc ≤ 115) = atmB cc := rfl
  rw [ea]
  cases ha : atmB cc
  · rw [if_pos (show nI (bN false) = 0 from rfl), Bool.false_or]
    by_cases h8 : L = 8
    · subst h8
      rw [if_neg (show ¬ (nI 8 ≠ 8) from fun z => z rfl), if_pos (show decide (8 = 8) = true from rfl)]
      by_cases h1 : cc = 62
      · subst h1
        rw [if_pos (show nI 62 = 62 from rfl), decide_eq_true (Or.inl rfl)]
        rfl
      · rw [if_neg (show ¬ nI cc = 62 from ne_nI (b := 62) (by omega) (by decide) h1)]
        by_cases h2 : cc = 33
        · subst h2
          rw [if_neg (show ¬ (nI 33 ≠ 33) from fun z => z rfl), decide_eq_true (Or.inr rfl)]
          rfl
        · rw [if_pos (show nI cc ≠ 33 from ne_nI (b := 33) (by omega) (by decide) h2), decide_eq_false (by omega)]
          rfl
    · rw [if_pos (show nI L ≠ 8 from ne_nI (b := 8) (by omega) (by decide) h8), decide_eq_false h8, X_isModal w hc, cl_mk, zr_B]
      rfl
  · rw [if_neg (show ¬ (nI (bN true) = 0) by decide), Bool.true_or]
    rfl
noncomputable def hq (L m : Nat) (c ph : Nat → Nat) (q : Nat) : Bool := hbB (decide (L = 8)) (c (rpF m ph q))
/-- the sign and the place of the part p -/
theorem SenP.sp (h : SenP w o m P c l r ph pl dp) (hL : LenOK o P) (hc : ClassOK m P c l r ph) (hs : ShapeOK m c l r) {p : Nat} (hp : p < P) : mX2_sign o (nI p) w = some (nI (c (rpF m ph p)), w) ∧ mX2_place o (nI p) w = some (nI (pl p), w) := by
  obtain ⟨k1, k2⟩ := rpF_spec hc hp
  obtain ⟨s1, s2, s3⟩ := h.at3 hL hc hs k1
  rw [k2] at s1
  refine ⟨s1, ?_⟩
  unfold mX2_place
  rw [at_in w (by have := (hL 4 (by decide) (by decide)).1; omega) (hL 4 (by decide) (by decide)).2, (h.2.2 p hp).1, cl_mk]
theorem X_countBits (h : SenP w o m P c l r ph pl dp) (hL : LenOK o P) (hc : ClassOK m P c l r ph) (hs : ShapeOK m c l r) (hP : P ≤ 81) (hL9 : L < 9) : mX3_countBits o (nI L) w = some (nI (cntF (hq L m c ph) P), w) := by
  unfold mX3_countBits
  have hpt : mX2_parts o w = some (nI P, w) := by unfold mX2_parts; rw [h.1]
  refine loopE (fun n (s : Int32 × Int32) => mX3_countBits_4 o (nI L) n s.1 s.2 w) P (fun k => (nI (cntF (hq L m c ph) k), nI k)) _ ?_ ?_ FU 0 (Nat.zero_le _) (FU_gt (by omega))
  · intro n p hp
    have c1 : ¬ nI P ≤ nI p := nI_ge hp (by omega)
    obtain ⟨k1, k2⟩ := rpF_spec hc hp
    have e1 := X_hasBit (L := L) w (kinds_lt (kinds_of hs k1)) hL9
    have e2 : hbB (decide (L = 8)) (c (rpF m ph p)) = hq L m c ph p := rfl
    rw [e2] at e1
    dsimp only
    rw [mX3_countBits_4, hpt, cl_mk, if_neg c1, (h.sp hL hc hs hp).1, cl_mk, e1, cl_mk]
    have e3 : cntF (hq L m c ph) (p + 1) = cntF (hq L m c ph) p + bN (hq L m c ph p) := rfl
    cases z : hq L m c ph p
    · rw [z, bN_f] at e3
      rw [if_pos (show nI (bN false) = 0 from rfl), e3]
      unfold mX3_countBits_27
      rw [nm_mk, show nI p + 1 = nI (p + 1) from nI_add p 1]
      rfl
    · rw [z, bN_t] at e3
      rw [if_neg (show ¬ (nI (bN true) = 0) by decide), nm_mk, e3]
      unfold mX3_countBits_27
      rw [nm_mk, show nI p + 1 = nI (p + 1) from nI_add p 1, show nI (cntF (hq L m c ph) p) + 1 = nI (cntF (hq L m c ph) p + 1) from nI_add _ 1]
  · intro n
    have c1 : nI P ≤ nI P := nI_le (Nat.le_refl P) (by omega)
    dsimp only
    rw [mX3_countBits_4, hpt, cl_mk, if_pos c1]
theorem X_bitsBefore (h : SenP w o m P c l r ph pl dp) (hL : LenOK o P) (hc : ClassOK m P c l r ph) (hs : ShapeOK m c l r) (hP : P ≤ 81) (hL9 : L < 9) (hl6 : w.1 4 0 7 = nI L) (hpl : ∀ p, p < P → pl p < 1000) {p : Nat} (hp : p < P) : mX3_bitsBefore o (nI p) w = some (nI (rkF (hq L m c ph) pl P p), w) := by
  unfold mX3_bitsBefore
  have hpt : mX2_parts o w = some (nI P, w) := by unfold mX2_parts; rw [h.1]
  refine loopE (fun n (s : Int32 × Int32) => mX3_bitsBefore_5 o (nI p) n s.1 s.2 w) P (fun k => (nI (cntF (befB (hq L m c ph) pl p) k), nI k)) _ ?_ ?_ FU 0 (Nat.zero_le _) (FU_gt (by omega))
  · intro n q hq2
    have c1 : ¬ nI P ≤ nI q := nI_ge hq2 (by omega)
    obtain ⟨k1, k2⟩ := rpF_spec hc hq2
    have e1 := X_hasBit (L := L) w (kinds_lt (kinds_of hs k1)) hL9
    have e2 : hbB (decide (L = 8)) (c (rpF m ph q)) = hq L m c ph q := rfl
    rw [e2] at e1
    have e3 : cntF (befB (hq L m c ph) pl p) (q + 1) = cntF (befB (hq L m c ph) pl p) q + bN (befB (hq L m c ph) pl p q) := rfl
    have ev : nI q + 1 = nI (q + 1) := nI_add q 1
    have no : befB (hq L m c ph) pl p q = false → mX3_bitsBefore_70 (mX3_bitsBefore_5 o (nI p) n) o (nI p) (nI (cntF (befB (hq L m c ph) pl p) q)) (nI q) w = mX3_bitsBefore_5 o (nI p) n (nI (cntF (befB (hq L m c ph) pl p) (q + 1))) (nI (q + 1)) w := fun z => by
      rw [e3, z, bN_f]
      unfold mX3_bitsBefore_70
      rw [nm_mk, ev]
      rfl
    have yes : befB (hq L m c ph) pl p q = true → mX3_bitsBefore_67 (mX3_bitsBefore_5 o (nI p) n) o (nI p) (nI (cntF (befB (hq L m c ph) pl p) q)) (nI q) w = mX3_bitsBefore_5 o (nI p) n (nI (cntF (befB (hq L m c ph) pl p) (q + 1))) (nI (q + 1)) w := fun z => by
      rw [e3, z, bN_t]
      unfold mX3_bitsBefore_67 mX3_bitsBefore_70
      rw [nm_mk, nm_mk, ev, show nI (cntF (befB (hq L m c ph) pl p) q) + 1 = nI (cntF (befB (hq L m c ph) pl p) q + 1) from nI_add _ 1]
    have p1 := hpl p hp
    have p2 := hpl q hq2
    dsimp only
    rw [mX3_bitsBefore_5, hpt, cl_mk, if_neg c1, (h.sp hL hc hs hq2).1, cl_mk, hl6, e1, cl_mk]
    cases z : hq L m c ph q
    · rw [if_neg (show ¬ (nI (bN false) ≠ 0) from fun z => z rfl)]
      exact no (by unfold befB; rw [z]; rfl)
    · rw [if_pos (show nI (bN true) ≠ 0 by decide), (h.sp hL hc hs hq2).2, cl_mk, (h.sp hL hc hs hp).2, cl_mk]
      by_cases h1 : pl q < pl p
      · rw [if_pos (nI_lt h1 (by omega))]
        exact yes (by unfold befB; rw [z, decide_eq_true (Or.inl h1)]; rfl)
      · rw [if_neg (nI_nlt (by omega) (by omega)), (h.sp hL hc hs hq2).2, cl_mk, (h.sp hL hc hs hp).2, cl_mk]
        by_cases h2 : pl q = pl p
        · rw [if_neg (show ¬ (nI (pl q) ≠ nI (pl p)) from fun y => y (by rw [h2]))]
          by_cases h3 : p ≤ q
          · rw [if_pos (nI_le h3 (by omega))]
            exact no (by unfold befB; rw [z, decide_eq_false (by omega)]; rfl)
          · rw [if_neg (nI_ge (by omega) (by omega))]
            exact yes (by unfold befB; rw [z, decide_eq_true (Or.inr ⟨h2, by omega⟩)]; rfl)
        · rw [if_pos (ne_nI (by omega) (by omega) h2)]
          exact no (by unfold befB; rw [z, decide_eq_false (by omega)]; rfl)
  · intro n
    have c1 : nI P ≤ nI P := nI_le (Nat.le_refl P) (by omega)
    dsimp only
    rw [mX3_bitsBefore_5, hpt, cl_mk, if_pos c1]
    rfl
end BX
