/-! plain, atoms, grows -/
section DP
variable {m P : Nat} {c l r b ph pl dp : Nat → Nat}
theorem dp_le (hs : ShapeOK m c l r) (hp : PartOK m P c l r b ph pl dp) : ∀ n k, k < n → k < m → dp (ph k) ≤ k := by
  intro n
  induction n with
  | zero => intro k h; omega
  | succ n ih =>
    intro k hkn hk
    obtain ⟨d1, d2, d3⟩ := hp.2.2.2.2.2.2 k hk
    rcases hs k hk with g | ⟨g, g1⟩ | ⟨g, g1, g2⟩
    · rw [d1 g]; omega
    · have := ih (l k) (by omega) (by omega)
      rw [d2 g]
      split <;> omega
    · have h1 := ih (l k) (by omega) (by omega)
      have h2 := ih (r k) (by omega) (by omega)
      rw [d3 g]
      omega
def modB (c : Nat) : Bool := decide (c = 91 ∨ c = 123)
theorem plain_iff (hs : ShapeOK m c l r) (hp : PartOK m P c l r b ph pl dp) (hm : 1 ≤ m) (hroot : ∀ k, k < m → dp (ph k) ≤ dp (ph (m - 1))) : allT (fun k => !modB (c k)) m = decide (dp (ph (m - 1)) = 0) := by
  rw [Bool.eq_iff_iff, allT_iff, decide_eq_true_eq]
  constructor
  · intro h
    have key : ∀ n k, k < n → k < m → dp (ph k) = 0 := by
      intro n
      induction n with
      | zero => intro k h; omega
      | succ n ih =>
        intro k hkn hk
        obtain ⟨d1, d2, d3⟩ := hp.2.2.2.2.2.2 k hk
        rcases hs k hk with g | ⟨g, g1⟩ | ⟨g, g1, g2⟩
        · exact d1 g
        · have h2 := h k hk
          unfold modB at h2
          unfold isPre at g
          rw [d2 g, ih (l k) (by omega) (by omega)]
          have h3 : ¬ (c k = 91 ∨ c k = 123) := by simpa using h2
          rw [if_pos (by omega)]
        · rw [d3 g, ih (l k) (by omega) (by omega), ih (r k) (by omega) (by omega)]
          rfl
    exact key m _ (by omega) (by omega)
  · intro h k hk
    have h1 := hroot k hk
    obtain ⟨d1, d2, d3⟩ := hp.2.2.2.2.2.2 k hk
    cases q : modB (c k)
    · rfl
    · unfold modB at q
      rw [decide_eq_true_eq] at q
      have g : isPre (c k) := by unfold isPre; omega
      have := d2 g
      rw [if_neg (by omega)] at this
      omega
end DP
theorem kinds_lt {c : Nat} (h : isLeaf c ∨ isPre c ∨ isJn c) : c < 128 := by
  unfold isLeaf isPre isJn at h
  omega
def atB (c : Nat) : Nat := if 112 ≤ c ∧ c ≤ 115 then 2 ^ (c - 112) else 0
theorem atB_lt (c : Nat) : atB c < 2 ^ 4 := by
  unfold atB
  split
  · exact pow_lt_of (by omega)
  · decide
def atomsN (m : Nat) (c : Nat → Nat) : Nat := orF (fun k => atB (c k)) m
theorem atomsN_lt (m : Nat) (c : Nat → Nat) : atomsN m c < 2 ^ 4 := orF_lt (fun k _ => atB_lt _)
section PL
variable {w : AW}
theorem X_isAtom {c : Nat} (w : AW) (hc : c < 2 ^ 31) : mX5_isAtom (nI c) w = some (nI (bN (decide (112 ≤ c ∧ c ≤ 115))), w) := by
  by_cases h1 : nI c < nI 112
  · have h2 : ¬ (112 ≤ c ∧ c ≤ 115) := fun h => nI_nlt h.1 (by omega) h1
    simp only [mX5_isAtom, h1, h2, decide_false, bN_f, cl_mk, nm_mk, pu_mk, lit, if_true, if_false, ne_eq, not_false_eq_true, not_true_eq_false, nI_add, nI_or, nI_and, Bool.false_eq_true, ne01, ne10, nI_m1', Nat.or_zero]
  · have g1 : 112 ≤ c := by
      rcases Nat.lt_or_ge c 112 with q | q
      · exact absurd (nI_lt q (by decide)) h1
      · exact q
    by_cases h2 : nI 115 < nI c
    · have h3 : ¬ (112 ≤ c ∧ c ≤ 115) := fun h => nI_nlt h.2 (by omega) h2
      simp only [mX5_isAtom, h1, h2, h3, decide_false, bN_f, cl_mk, nm_mk, pu_mk, lit, if_true, if_false, ne_eq, not_false_eq_true, not_true_eq_false, nI_add, nI_or, nI_and, Bool.false_eq_true, ne01, ne10, nI_m1', Nat.or_zero]
    · have g2 : c ≤ 115 := by
        rcases Nat.lt_or_ge 115 c with q | q
        · exact absurd (nI_lt q (by omega)) h2
        · exact q
      simp only [mX5_isAtom, h1, h2, g1, g2, and_self, decide_true, bN_t, cl_mk, nm_mk, pu_mk, lit, if_true, if_false, ne_eq, not_false_eq_true, not_true_eq_false, nI_add, nI_or, nI_and, Bool.false_eq_true, ne01, ne10, nI_m1', Nat.or_zero]
theorem M_isAtom {c : Nat} (w : AW) (hc : c < 2 ^ 31) : mX6_isAtom (nI c) w = some (nI (bN (decide (112 ≤ c ∧ c ≤ 115))), w) := by
  have e : mX6_in (nI c) (nI 112) (nI 115) w = some (nI (bN (decide (112 ≤ c ∧ c ≤ 115))), w) := by
    by_cases h1 : nI c < nI 112
    · have h2 : ¬ (112 ≤ c ∧ c ≤ 115) := fun h => nI_nlt h.1 (by omega) h1
      simp only [mX6_in, h1, h2, decide_false, bN_f, cl_mk, nm_mk, pu_mk, lit, if_true, if_false, ne_eq, not_false_eq_true, not_true_eq_false, nI_add, nI_or, nI_and, Bool.false_eq_true, ne01, ne10, nI_m1', Nat.or_zero]
    · have g1 : 112 ≤ c := by
        rcases Nat.lt_or_ge c 112 with q | q
        · exact absurd (nI_lt q (by decide)) h1
        · exact q
      by_cases h2 : nI 115 < nI c
      · have h3 : ¬ (112 ≤ c ∧ c ≤ 115) := fun h => nI_nlt h.2 (by omega) h2
        simp only [mX6_in, h1, h2, h3, decide_false, bN_f, cl_mk, nm_mk, pu_mk, lit, if_true, if_false, ne_eq, not_false_eq_true, not_true_eq_false, nI_add, nI_or, nI_and, Bool.false_eq_true, ne01, ne10, nI_m1', Nat.or_zero]
      · have g2 : c ≤ 115 := by
          rcases Nat.lt_or_ge 115 c with q | q
          · exact absurd (nI_lt q (by omega)) h2
          · exact q
        simp only [mX6_in, h1, h2, g1, g2, and_self, decide_true, bN_t, cl_mk, nm_mk, pu_mk, lit, if_true, if_false, ne_eq, not_false_eq_true, not_true_eq_false, nI_add, nI_or, nI_and, Bool.false_eq_true, ne01, ne10, nI_m1', Nat.or_zero]
  simp only [mX6_isAtom, e, zr_B, cl_mk, nm_mk, pu_mk, lit, if_true, if_false, ne_eq, not_false_eq_true, not_true_eq_false, nI_add, nI_or, nI_and, Bool.false_eq_true, ne01, ne10, nI_m1', Nat.or_zero]
theorem M_isModal {c k : Nat} (hk : k < 90) (hc : c < 128) (h : w.1 0 30 k = nI c) : mX6_isModal (nI k) w = some (nI (bN (modB c)), w) := by
  have r30 : ∀ f : Int32 → Option (Int32 × AW), rd 90 (w.1 0 30) (nI k) f = f (nI c) := fun f => by
    rw [rd_in hk (by decide), h]
  unfold modB
  by_cases q : c = 91
  · subst q
    simp only [mX6_isModal, mX6_isModal_22, r30, true_or, decide_true, bN_t, cl_mk, nm_mk, pu_mk, lit, if_true, if_false, ne_eq, not_false_eq_true, not_true_eq_false, nI_add, nI_or, nI_and, Bool.false_eq_true, ne01, ne10, nI_m1', Nat.or_zero]
  · have q1 : (nI c = nI 91) = False := eq_false (fun z => q ((nI_eq (by omega) (by decide)).mp z))
    by_cases q2 : c = 123
    · subst q2
      simp only [mX6_isModal, mX6_isModal_22, r30, q1, or_true, decide_true, bN_t, cl_mk, nm_mk, pu_mk, lit, if_true, if_false, ne_eq, not_false_eq_true, not_true_eq_false, nI_add, nI_or, nI_and, Bool.false_eq_true, ne01, ne10, nI_m1', Nat.or_zero]
    · have q3 : (nI c = nI 123) = False := eq_false (fun z => q2 ((nI_eq (by omega) (by decide)).mp z))
      have q4 : ¬ (c = 91 ∨ c = 123) := by omega
      simp only [mX6_isModal, mX6_isModal_22, r30, q1, q3, q4, decide_false, bN_f, cl_mk, nm_mk, pu_mk, lit, if_true, if_false, ne_eq, not_false_eq_true, not_true_eq_false, nI_add, nI_or, nI_and, Bool.false_eq_true, ne01, ne10, nI_m1', Nat.or_zero]
variable {M Z : Nat} {c l r b e y : Nat → Nat}
theorem M_isPlain (hW : WorkM w M Z c l r b e y) (hs : ShapeOK M c l r) (hM : M ≤ 90) : mX6_isPlain w = some (nI (bN (allT (fun k => !modB (c k)) M)), w) := by
  unfold mX6_isPlain
  refine loopE (fun n (s : Int32 × Int32) => mX6_isPlain_4 n s.1 s.2 w) M (fun k => (nI (bN (allT (fun k => !modB (c k)) k)), nI k)) _ ?_ ?_ FU 0 (Nat.zero_le _) (FU_gt (by omega))
  · intro n k hk
    have c1 : ¬ nI M ≤ nI k := nI_ge hk (by omega)
    have e1 := M_isModal (w := w) (show k < 90 by omega) (kinds_lt (kinds_of hs hk)) (hW.2.2.1 k hk).1
    cases q : modB (c k)
    · rw [q] at e1
      simp only [mX6_isPlain_4, mX6_isPlain_26, hW.1, c1, e1, bN_f, allT, q, Bool.not_false, Bool.and_true, cl_mk, nm_mk, pu_mk, lit, if_true, if_false, ne_eq, not_false_eq_true, not_true_eq_false, nI_add, nI_or, nI_and, Bool.false_eq_true, ne01, ne10, nI_m1', Nat.or_zero]
      cases allT (fun k => !modB (c k)) k <;> rfl
    · rw [q] at e1
      simp only [mX6_isPlain_4, mX6_isPlain_26, hW.1, c1, e1, bN_t, bN_f, allT, q, Bool.not_true, Bool.and_false, Nat.and_zero, cl_mk, nm_mk, pu_mk, lit, if_true, if_false, ne_eq, not_false_eq_true, not_true_eq_false, nI_add, nI_or, nI_and, Bool.false_eq_true, ne01, ne10, nI_m1', Nat.or_zero]
  · intro n
    have c1 : nI M ≤ nI M := nI_le (Nat.le_refl M) (by omega)
    simp only [mX6_isPlain_4, hW.1, c1, zr_B, cl_mk, nm_mk, pu_mk, lit, if_true, if_false, ne_eq, not_false_eq_true, not_true_eq_false, nI_add, nI_or, nI_and, Bool.false_eq_true, ne01, ne10, nI_m1', Nat.or_zero]
theorem M_atomsOf (hW : WorkM w M Z c l r b e y) (hs : ShapeOK M c l r) (hM : M ≤ 90) : mX6_atomsOf w = some (nI (atomsN M c), w) := by
  unfold mX6_atomsOf
  refine loopE (fun n (s : Int32 × Int32) => mX6_atomsOf_4 n s.1 s.2 w) M (fun k => (nI (orF (fun k => atB (c k)) k), nI k)) _ ?_ ?_ FU 0 (Nat.zero_le _) (FU_gt (by omega))
  · intro n k hk
    have c1 : ¬ nI M ≤ nI k := nI_ge hk (by omega)
    have hc := kinds_lt (kinds_of hs hk)
    have r30 : ∀ f : Int32 → Option (Int32 × AW), rd 90 (w.1 0 30) (nI k) f = f (nI (c k)) := fun f => by
      rw [rd_in (by omega) (by decide), (hW.2.2.1 k hk).1]
    have e1 := M_isAtom (c := c k) w (by omega)
    by_cases q : 112 ≤ c k ∧ c k ≤ 115
    · have e2 : atB (c k) = 2 ^ (c k - 112) := if_pos q
      simp only [mX6_atomsOf_4, mX6_atomsOf_40, hW.1, c1, r30, e1, q, and_self, decide_true, bN_t, pk_sub q.1, one_shl (show c k - 112 < 31 by omega), orF, e2, cl_mk, nm_mk, pu_mk, lit, if_true, if_false, ne_eq, not_false_eq_true, not_true_eq_false, nI_add, nI_or, nI_and, Bool.false_eq_true, ne01, ne10, nI_m1', Nat.or_zero]
    · have e2 : atB (c k) = 0 := if_neg q
      simp only [mX6_atomsOf_4, mX6_atomsOf_40, hW.1, c1, r30, e1, q, decide_false, bN_f, orF, e2, cl_mk, nm_mk, pu_mk, lit, if_true, if_false, ne_eq, not_false_eq_true, not_true_eq_false, nI_add, nI_or, nI_and, Bool.false_eq_true, ne01, ne10, nI_m1', Nat.or_zero]
  · intro n
    have c1 : nI M ≤ nI M := nI_le (Nat.le_refl M) (by omega)
    simp only [mX6_atomsOf_4, hW.1, c1, cl_mk, nm_mk, pu_mk, lit, if_true, if_false, ne_eq, not_false_eq_true, not_true_eq_false, nI_add, nI_or, nI_and, Bool.false_eq_true, ne01, ne10, nI_m1', Nat.or_zero]
    rfl
end PL
section XA
variable {w : AW} {o m P : Nat} {c l r b ph pl dp : Nat → Nat}
theorem atoms_same (hc : ClassOK m P c l r ph) : orF (fun p => atB (c (rpF m ph p))) P = atomsN m c := by
  apply sub_antisymm
  · intro j hj
    obtain ⟨p, h1, h2⟩ := tb_orF.mp hj
    exact tb_orF.mpr ⟨rpF m ph p, (rpF_spec hc h1).1, h2⟩
  · intro j hj
    obtain ⟨k, h1, h2⟩ := tb_orF.mp hj
    obtain ⟨g1, g2⟩ := rpF_spec hc (hc.1 k h1)
    refine tb_orF.mpr ⟨ph k, hc.1 k h1, ?_⟩
    have e : c (rpF m ph (ph k)) = c k := ((hc.2.2.2.2 _ _ g1 h1).mp g2).1
    rw [e]
    exact h2
theorem X_atoms (hX : SenX w o m P c l r ph pl dp) (hL : LenOK o P) (hs : ShapeOK m c l r) (hc : ClassOK m P c l r ph) (hP : P ≤ 81) : mX2_atoms o w = some (nI (atomsN m c), w) := by
  rw [← atoms_same hc]
  unfold mX2_atoms
  refine loopE (fun n (s : Int32 × Int32) => mX2_atoms_4 o n s.1 s.2 w) P (fun k => (nI (orF (fun p => atB (c (rpF m ph p))) k), nI k)) _ ?_ ?_ FU 0 (Nat.zero_le _) (FU_gt (by omega))
  · intro n p hp
    have c1 : ¬ nI P ≤ nI p := nI_ge hp (by omega)
    obtain ⟨k1, k2⟩ := rpF_spec hc hp
    have hcl := kinds_lt (kinds_of hs k1)
    have a1 : mX5_at o 1 (nI p) w = some (nI (c (rpF m ph p)), w) := by
      rw [at_in w (by have := (hL 1 (by decide) (by decide)).1; omega) (hL 1 (by decide) (by decide)).2]
      have := (hX.2.2.1 _ k1).1
      rw [k2] at this
      rw [this]
    have e1 := X_isAtom (c := c (rpF m ph p)) w (by omega)
    by_cases q : 112 ≤ c (rpF m ph p) ∧ c (rpF m ph p) ≤ 115
    · have e2 : atB (c (rpF m ph p)) = 2 ^ (c (rpF m ph p) - 112) := if_pos q
      simp only [mX2_atoms_4, mX2_atoms_42, hX.1, c1, a1, e1, q, and_self, decide_true, bN_t, pk_sub q.1, one_shl (show c (rpF m ph p) - 112 < 31 by omega), orF, e2, cl_mk, nm_mk, pu_mk, lit, if_true, if_false, ne_eq, not_false_eq_true, not_true_eq_false, nI_add, nI_or, nI_and, Bool.false_eq_true, ne01, ne10, nI_m1', Nat.or_zero]
    · have e2 : atB (c (rpF m ph p)) = 0 := if_neg q
      simp only [mX2_atoms_4, mX2_atoms_42, hX.1, c1, a1, e1, q, decide_false, bN_f, orF, e2, cl_mk, nm_mk, pu_mk, lit, if_true, if_false, ne_eq, not_false_eq_true, not_true_eq_false, nI_add, nI_or, nI_and, Bool.false_eq_true, ne01, ne10, nI_m1', Nat.or_zero]
  · intro n
    have c1 : nI P ≤ nI P := nI_le (Nat.le_refl P) (by omega)
    simp only [mX2_atoms_4, hX.1, c1, cl_mk, nm_mk, pu_mk, lit, if_true, if_false, ne_eq, not_false_eq_true, not_true_eq_false, nI_add, nI_or, nI_and, Bool.false_eq_true, ne01, ne10, nI_m1', Nat.or_zero]
theorem X_depth (hX : SenX w o m P c l r ph pl dp) (hL : LenOK o P) (hP1 : 1 ≤ P) (hP : P ≤ 81) (hlast : ph (m - 1) = P - 1) : mX2_depth o w = some (nI (dp (ph (m - 1))), w) := by
  have a1 : mX5_at o 5 (nI (P - 1)) w = some (nI (dp (P - 1)), w) := by
    rw [at_in w (by have := (hL 5 (by decide) (by decide)).1; omega) (hL 5 (by decide) (by decide)).2, (hX.2.2.2 (P - 1) (by omega)).2]
  simp only [mX2_depth, hX.1, cl_mk, nm_mk, pu_mk, lit, if_true, if_false, ne_eq, not_false_eq_true, not_true_eq_false, nI_add, nI_or, nI_and, Bool.false_eq_true, ne01, ne10, nI_m1', Nat.or_zero]
  rw [pk_sub hP1, a1, hlast, cl_mk]
theorem X_isPlain (hX : SenX w o m P c l r ph pl dp) (hL : LenOK o P) (hP1 : 1 ≤ P) (hP : P ≤ 81) (hlast : ph (m - 1) = P - 1) (hd : dp (ph (m - 1)) < 2 ^ 31) : mX2_isPlain o w = some (nI (bN (decide (dp (ph (m - 1)) = 0))), w) := by
  have e := X_depth hX hL hP1 hP hlast
  by_cases q : dp (ph (m - 1)) = 0
  · rw [q] at e
    simp only [mX2_isPlain, e, q, decide_true, bN_t, cl_mk, nm_mk, pu_mk, lit, if_true, if_false, ne_eq, not_false_eq_true, not_true_eq_false, nI_add, nI_or, nI_and, Bool.false_eq_true, ne01, ne10, nI_m1', Nat.or_zero]
  · have q2 : (nI (dp (ph (m - 1))) = nI 0) = False := eq_false (fun z => q ((nI_eq hd (by decide)).mp z))
    simp only [mX2_isPlain, e, q, q2, decide_false, bN_f, cl_mk, nm_mk, pu_mk, lit, if_true, if_false, ne_eq, not_false_eq_true, not_true_eq_false, nI_add, nI_or, nI_and, Bool.false_eq_true, ne01, ne10, nI_m1', Nat.or_zero]
end XA
section GR
variable {w : AW} {N : Nat} {S A Fr : Nat → Nat}
theorem M_gstep {W : AW} {n p M cc x y lp rp : Nat} {v : Int32} (hcc : isLeaf cc ∨ isPre cc ∨ isJn cc) (hnm : modB cc = false) (hM : NetM W N S A) (hN : NetOK N S A) (hV : ViewM W N Fr) (hF : ∀ k, k < N → Fr k < 2 ^ N) (h26 : W.1 0 0 26 = nI M) (hp : p < M) (hMM : M ≤ 90) (hc : W.1 0 30 p = nI cc)
    (hx0 : kd cc = 0 → x = 0) (hx : kd cc ≠ 0 → lp < 90 ∧ W.1 0 31 p = nI lp ∧ W.1 0 38 lp = nI x) (hy0 : kd cc ≠ 2 → y = 0) (hy : kd cc = 2 → rp < 90 ∧ W.1 0 32 p = nI rp ∧ W.1 0 38 rp = nI y) :
    mX6_grows_45 (n + 1) v (nI p) W = mX6_grows_45 n (nI (opJ true N A Fr cc x y)) (nI (p + 1)) (am_set W 0 38 p (nI (opJ true N A Fr cc x y))) := by
  have h8 := hN.2.1
  have c1 : ¬ nI M ≤ nI p := nI_ge hp (by omega)
  have r30 : ∀ f : Int32 → Option (Int32 × AW), rd 90 (W.1 0 30) (nI p) f = f (nI cc) := fun f => by
    rw [rd_in (by omega) (by decide), hc]
  have r31 : kd cc ≠ 0 → (∀ f : Int32 → Option (Int32 × AW), rd 90 (W.1 0 31) (nI p) f = f (nI lp)) ∧ (∀ f : Int32 → Option (Int32 × AW), rd 90 (W.1 0 38) (nI lp) f = f (nI x)) := fun z => by
    obtain ⟨z1, z2, z3⟩ := hx z
    exact ⟨fun f => by rw [rd_in (by omega) (by decide), z2], fun f => by rw [rd_in z1 (by decide), z3]⟩
  have r32 : kd cc = 2 → (∀ f : Int32 → Option (Int32 × AW), rd 90 (W.1 0 32) (nI p) f = f (nI rp)) ∧ (∀ f : Int32 → Option (Int32 × AW), rd 90 (W.1 0 38) (nI rp) f = f (nI y)) := fun z => by
    obtain ⟨z1, z2, z3⟩ := hy z
    exact ⟨fun f => by rw [rd_in (by omega) (by decide), z2], fun f => by rw [rd_in z1 (by decide), z3]⟩
  have hall := X_all' hM hN
  have hmu := M_allIn hM.1 hV h8 hF
  have hw := fun z => wr_in (α := Int32 × AW) (show p < 90 by omega) (show 90 < 2 ^ 31 by decide) W 0 38 z
  have hat := fun (i : Nat) (hi : i < 4) => M_atom hM hi (α := Int32 × AW)
  clear hx hy hM hN hV hF hc
  rcases hcc with (rfl | rfl | rfl | rfl | rfl | rfl) | (rfl | rfl | rfl) | (rfl | rfl | rfl)
  · simp only [mX6_grows_45, mX6_grows_77, mX6_grows_92, mX6_grows_117, mX6_grows_234, h26, c1, r30, mX6_isPrefix, mX6_isPrefix_18, mX6_isJoin, mX6_isJoin_18, mX6_isAtom, mX6_in, zr_0, zr_1, hat 0 (by decide), hw, opJ, opH, pk_sub (show 112 ≤ 112 by decide), cl_mk, nm_mk, pu_mk, lit, if_true, if_false, ne_eq, not_false_eq_true, not_true_eq_false, nI_add, nI_or, nI_and, Bool.false_eq_true, ne01, ne10, nI_m1', Nat.or_zero, nI_eqD, nI_leD, nI_ltD, Nat.reduceLT, Nat.reduceLeDiff, Nat.reduceEqDiff, Nat.reduceSub, or_true, true_or, or_false, false_or, and_true, true_and, and_false, false_and]
  · simp only [mX6_grows_45, mX6_grows_77, mX6_grows_92, mX6_grows_117, mX6_grows_234, h26, c1, r30, mX6_isPrefix, mX6_isPrefix_18, mX6_isJoin, mX6_isJoin_18, mX6_isAtom, mX6_in, zr_0, zr_1, hat 1 (by decide), hw, opJ, opH, pk_sub (show 112 ≤ 113 by decide), cl_mk, nm_mk, pu_mk, lit, if_true, if_false, ne_eq, not_false_eq_true, not_true_eq_false, nI_add, nI_or, nI_and, Bool.false_eq_true, ne01, ne10, nI_m1', Nat.or_zero, nI_eqD, nI_leD, nI_ltD, Nat.reduceLT, Nat.reduceLeDiff, Nat.reduceEqDiff, Nat.reduceSub, or_true, true_or, or_false, false_or, and_true, true_and, and_false, false_and]
  · simp only [mX6_grows_45, mX6_grows_77, mX6_grows_92, mX6_grows_117, mX6_grows_234, h26, c1, r30, mX6_isPrefix, mX6_isPrefix_18, mX6_isJoin, mX6_isJoin_18, mX6_isAtom, mX6_in, zr_0, zr_1, hat 2 (by decide), hw, opJ, opH, pk_sub (show 112 ≤ 114 by decide), cl_mk, nm_mk, pu_mk, lit, if_true, if_false, ne_eq, not_false_eq_true, not_true_eq_false, nI_add, nI_or, nI_and, Bool.false_eq_true, ne01, ne10, nI_m1', Nat.or_zero, nI_eqD, nI_leD, nI_ltD, Nat.reduceLT, Nat.reduceLeDiff, Nat.reduceEqDiff, Nat.reduceSub, or_true, true_or, or_false, false_or, and_true, true_and, and_false, false_and]
  · simp only [mX6_grows_45, mX6_grows_77, mX6_grows_92, mX6_grows_117, mX6_grows_234, h26, c1, r30, mX6_isPrefix, mX6_isPrefix_18, mX6_isJoin, mX6_isJoin_18, mX6_isAtom, mX6_in, zr_0, zr_1, hat 3 (by decide), hw, opJ, opH, pk_sub (show 112 ≤ 115 by decide), cl_mk, nm_mk, pu_mk, lit, if_true, if_false, ne_eq, not_false_eq_true, not_true_eq_false, nI_add, nI_or, nI_and, Bool.false_eq_true, ne01, ne10, nI_m1', Nat.or_zero, nI_eqD, nI_leD, nI_ltD, Nat.reduceLT, Nat.reduceLeDiff, Nat.reduceEqDiff, Nat.reduceSub, or_true, true_or, or_false, false_or, and_true, true_and, and_false, false_and]
  · simp only [mX6_grows_45, mX6_grows_77, mX6_grows_92, mX6_grows_117, mX6_grows_234, h26, c1, r30, mX6_isPrefix, mX6_isPrefix_18, mX6_isJoin, mX6_isJoin_18, mX6_isAtom, mX6_in, zr_0, zr_1, hall, hw, opJ, opH, cl_mk, nm_mk, pu_mk, lit, if_true, if_false, ne_eq, not_false_eq_true, not_true_eq_false, nI_add, nI_or, nI_and, Bool.false_eq_true, ne01, ne10, nI_m1', Nat.or_zero, nI_eqD, nI_leD, nI_ltD, Nat.reduceLT, Nat.reduceLeDiff, Nat.reduceEqDiff, Nat.reduceSub, or_true, true_or, or_false, false_or, and_true, true_and, and_false, false_and]
  · simp only [mX6_grows_45, mX6_grows_77, mX6_grows_92, mX6_grows_117, mX6_grows_234, h26, c1, r30, mX6_isPrefix, mX6_isPrefix_18, mX6_isJoin, mX6_isJoin_18, mX6_isAtom, mX6_in, zr_0, zr_1, hw, opJ, opH, cl_mk, nm_mk, pu_mk, lit, if_true, if_false, ne_eq, not_false_eq_true, not_true_eq_false, nI_add, nI_or, nI_and, Bool.false_eq_true, ne01, ne10, nI_m1', Nat.or_zero, nI_eqD, nI_leD, nI_ltD, Nat.reduceLT, Nat.reduceLeDiff, Nat.reduceEqDiff, Nat.reduceSub, or_true, true_or, or_false, false_or, and_true, true_and, and_false, false_and]
  · obtain ⟨r1, r2⟩ := r31 (by decide)
    simp only [mX6_grows_45, mX6_grows_77, mX6_grows_92, mX6_grows_117, mX6_grows_234, h26, c1, r30, r1, r2, mX6_isPrefix, mX6_isPrefix_18, mX6_isJoin, mX6_isJoin_18, mX6_isAtom, mX6_in, zr_0, zr_1, hall, nI_sdiff, hmu, hw, opJ, opH, cl_mk, nm_mk, pu_mk, lit, if_true, if_false, ne_eq, not_false_eq_true, not_true_eq_false, nI_add, nI_or, nI_and, Bool.false_eq_true, ne01, ne10, nI_m1', Nat.or_zero, nI_eqD, nI_leD, nI_ltD, Nat.reduceLT, Nat.reduceLeDiff, Nat.reduceEqDiff, Nat.reduceSub, or_true, true_or, or_false, false_or, and_true, true_and, and_false, false_and]
  · cases hnm
  · cases hnm
  · obtain ⟨r1, r2⟩ := r31 (by decide)
    obtain ⟨r3, r4⟩ := r32 (by decide)
    simp only [mX6_grows_45, mX6_grows_77, mX6_grows_92, mX6_grows_117, mX6_grows_234, h26, c1, r30, r1, r2, r3, r4, mX6_isPrefix, mX6_isPrefix_18, mX6_isJoin, mX6_isJoin_18, mX6_isAtom, mX6_in, zr_0, zr_1, hw, opJ, opH, cl_mk, nm_mk, pu_mk, lit, if_true, if_false, ne_eq, not_false_eq_true, not_true_eq_false, nI_add, nI_or, nI_and, Bool.false_eq_true, ne01, ne10, nI_m1', Nat.or_zero, nI_eqD, nI_leD, nI_ltD, Nat.reduceLT, Nat.reduceLeDiff, Nat.reduceEqDiff, Nat.reduceSub, or_true, true_or, or_false, false_or, and_true, true_and, and_false, false_and]
  · obtain ⟨r1, r2⟩ := r31 (by decide)
    obtain ⟨r3, r4⟩ := r32 (by decide)
    simp only [mX6_grows_45, mX6_grows_77, mX6_grows_92, mX6_grows_117, mX6_grows_234, h26, c1, r30, r1, r2, r3, r4, mX6_isPrefix, mX6_isPrefix_18, mX6_isJoin, mX6_isJoin_18, mX6_isAtom, mX6_in, zr_0, zr_1, hw, opJ, opH, cl_mk, nm_mk, pu_mk, lit, if_true, if_false, ne_eq, not_false_eq_true, not_true_eq_false, nI_add, nI_or, nI_and, Bool.false_eq_true, ne01, ne10, nI_m1', Nat.or_zero, nI_eqD, nI_leD, nI_ltD, Nat.reduceLT, Nat.reduceLeDiff, Nat.reduceEqDiff, Nat.reduceSub, or_true, true_or, or_false, false_or, and_true, true_and, and_false, false_and]
  · obtain ⟨r1, r2⟩ := r31 (by decide)
    obtain ⟨r3, r4⟩ := r32 (by decide)
    simp only [mX6_grows_45, mX6_grows_77, mX6_grows_92, mX6_grows_117, mX6_grows_234, h26, c1, r30, r1, r2, r3, r4, mX6_isPrefix, mX6_isPrefix_18, mX6_isJoin, mX6_isJoin_18, mX6_isAtom, mX6_in, zr_0, zr_1, hall, nI_sdiff, hmu, hw, opJ, opH, cl_mk, nm_mk, pu_mk, lit, if_true, if_false, ne_eq, not_false_eq_true, not_true_eq_false, nI_add, nI_or, nI_and, Bool.false_eq_true, ne01, ne10, nI_m1', Nat.or_zero, nI_eqD, nI_leD, nI_ltD, Nat.reduceLT, Nat.reduceLeDiff, Nat.reduceEqDiff, Nat.reduceSub, or_true, true_or, or_false, false_or, and_true, true_and, and_false, false_and]
theorem M_grows45 {M Z : Nat} {c l r b e y : Nat → Nat} (hM : NetM w N S A) (hN : NetOK N S A) (hV : ViewM w N Fr) (hF : ∀ k, k < N → Fr k < 2 ^ N) (hW : WorkM w M Z c l r b e y) (hs : ShapeOK M c l r) (hM1 : 1 ≤ M) (hM2 : M ≤ 90) (hpl : ∀ k, k < M → modB (c k) = false) :
    mX6_grows_45 FU (nI 0) (nI 0) w = some (nI (evV (fun k => opJ true N A Fr (c k)) c l r (M - 1)), hdW w (evV (fun k => opJ true N A Fr (c k)) c l r) M) := by
  refine loopE (fun n (s : Int32 × Int32 × AW) => mX6_grows_45 n s.1 s.2.1 s.2.2) M (fun k => (nI (if k = 0 then 0 else evV (fun k => opJ true N A Fr (c k)) c l r (k - 1)), nI k, hdW w (evV (fun k => opJ true N A Fr (c k)) c l r) k)) _ ?_ ?_ FU 0 (Nat.zero_le _) (FU_gt (by omega))
  · intro n k hk
    have hMk := hM.k (hdW_K (v := evV (fun k => opJ true N A Fr (c k)) c l r) k)
    have hWk : WorkM (hdW w (evV (fun k => opJ true N A Fr (c k)) c l r) k) M Z c l r b e y := hW.c (by rw [hdW_row k 0 (by decide)]) (by rw [hdW_row k 0 (by decide)]) (fun a h1 h2 => hdW_row k a (by omega))
    have hVk : ViewM (hdW w (evV (fun k => opJ true N A Fr (c k)) c l r) k) N Fr := fun j hj => by rw [hdW_row k 47 (by decide)]; exact hV j hj
    obtain ⟨a1, a2, a3, a4⟩ := M_args (op := fun k => opJ true N A Fr (c k)) hWk hs hM2 hk (fun j hj => setRow_in k hj)
    have e := M_gstep (n := n) (v := nI (if k = 0 then 0 else evV (fun k => opJ true N A Fr (c k)) c l r (k - 1))) (kinds_of hs hk) (hpl k hk) hMk hN hVk hF hWk.1 hk hM2 (hWk.2.2.1 k hk).1 a1 a2 a3 a4
    refine e.trans ?_
    rw [← evV_eq (op := fun k => opJ true N A Fr (c k)) hs hk]
    rfl
  · intro n
    have c1 : nI M ≤ nI M := nI_le (Nat.le_refl M) (by omega)
    have e26 : (hdW w (evV (fun k => opJ true N A Fr (c k)) c l r) M).1 0 0 26 = nI M := by rw [hdW_row M 0 (by decide)]; exact hW.1
    simp only [mX6_grows_45, e26, c1, cl_mk, nm_mk, pu_mk, lit, if_true, if_false, ne_eq, not_false_eq_true, not_true_eq_false, nI_add, nI_or, nI_and, Bool.false_eq_true, ne01, ne10, nI_m1', Nat.or_zero]
    rw [if_neg (by omega)]
end GR
theorem SDok.dlt {d : SD} (h : SDok d) : sdd d (sdf d (sdM d - 1)) < 2 ^ 31 := by
  have := dp_le h.sh h.2.2.2.2.2.2.1 (sdM d) (sdM d - 1) (by have := h.1; omega) (by have := h.1; omega)
  have := h.2.1
  omega
theorem SDok.plain {d : SD} (h : SDok d) : allT (fun k => !modB (sdc d k)) (sdM d) = decide (sdd d (sdf d (sdM d - 1)) = 0) := plain_iff h.sh h.2.2.2.2.2.2.1 h.1 h.2.2.2.2.2.2.2.2.2.2.2.2
theorem SDok.P40 {d : SD} (h : SDok d) : sdP d ≤ 40 := by have := h.2.1; have := h.2.2.2.1; omega
theorem pub_grows : Pub_grows Rel := by
  rintro wX wM ⟨N, S, A, T, y, D, h⟩ v0
  have hR := h
  obtain ⟨hN, hX, hM, hT, h2, hS, h12⟩ := h
  have hM0 : NetM (am_set wM 0 0 0 (nI 0)) N S A := hM.k (KM0 wM)
  by_cases c0 : ∃ k, k < 6 ∧ v0 = nI k
  rotate_left
  · refine pub_same hR (-nI 1) ?_ ?_ (KX.rf _) (KM0 wM)
    · simp only [mX5_grows, X_sen_f _ c0, nS_none, cl_mk, nm_mk, pu_mk, lit, if_true, if_false, ne_eq, not_false_eq_true, not_true_eq_false, nI_add, nI_or, nI_and, Bool.false_eq_true, ne01, ne10, nI_m1', Nat.or_zero]
    · simp only [mX6_grows, M_sen_f _ c0, cl_mk, nm_mk, pu_mk, lit, if_true, if_false, ne_eq, not_false_eq_true, not_true_eq_false, nI_add, nI_or, nI_and, Bool.false_eq_true, ne01, ne10, nI_m1', Nat.or_zero]
  obtain ⟨i, hi, rfl⟩ := c0
  have hcl := cls_sen i hi
  obtain ⟨hd, hSX, hSM⟩ := hS i hi
  generalize D i = d at hd hSX hSM
  have e1 := M_works (hSM.k (KM0 wM)) hi hd.2.1 hd.2.2.2.2.1
  have k1 := wkW_K (w := am_set wM 0 0 0 (nI 0)) (m := sdM d) (z := sdZ d) (c := sdc d) (l := sdl d) (r := sdr d) (b := sdb d) (e := sde d) (y := sdy d)
  have hW := wkW_W (w := am_set wM 0 0 0 (nI 0)) (m := sdM d) (z := sdZ d) (c := sdc d) (l := sdl d) (r := sdr d) (b := sdb d) (e := sde d) (y := sdy d)
  generalize wkW (am_set wM 0 0 0 (nI 0)) (sdM d) (sdZ d) (sdc d) (sdl d) (sdr d) (sdb d) (sde d) (sdy d) = w1 at e1 k1 hW
  have e2 := M_isPlain hW hd.sh (by have := hd.2.1; omega)
  have f2 := X_isPlain hSX (len_sen hi hd.P40) hd.2.2.1 (by have := hd.P40; omega) hd.2.2.2.2.2.2.2.1 hd.dlt
  rw [hd.plain] at e2
  by_cases q : sdd d (sdf d (sdM d - 1)) = 0
  rotate_left
  · simp only [q, decide_false, bN_f] at e2 f2
    refine pub_same hR (-nI 2) ?_ ?_ (KX.rf _) ((KM0 wM).tr k1)
    · simp only [mX5_grows, X_sen_t _ hi, nS_some hcl, f2, cl_mk, nm_mk, pu_mk, lit, if_true, if_false, ne_eq, not_false_eq_true, not_true_eq_false, nI_add, nI_or, nI_and, Bool.false_eq_true, ne01, ne10, nI_m1', Nat.or_zero]
    · simp only [mX6_grows, M_sen_t _ hi, e1, e2, cl_mk, nm_mk, pu_mk, lit, if_true, if_false, ne_eq, not_false_eq_true, not_true_eq_false, nI_add, nI_or, nI_and, Bool.false_eq_true, ne01, ne10, nI_m1', Nat.or_zero]
  have hpl : ∀ k, k < sdM d → modB (sdc d k) = false := fun k hk => by
    have := hd.plain
    rw [q, show decide (0 = 0) = true from rfl, allT_iff] at this
    have := this k hk
    simpa using this
  simp only [q, decide_true, bN_t] at e2 f2
  have e3 := M_growing (hM0.k k1) hN
  rw [grow_same hN] at e3
  have f3 := X_growing hX hN
  cases z : growB N S A
  · rw [z, bN_f] at e3 f3
    refine pub_same hR (-nI 2) ?_ ?_ (KX.rf _) ((KM0 wM).tr k1)
    · simp only [mX5_grows, X_sen_t _ hi, nS_some hcl, f2, f3, cl_mk, nm_mk, pu_mk, lit, if_true, if_false, ne_eq, not_false_eq_true, not_true_eq_false, nI_add, nI_or, nI_and, Bool.false_eq_true, ne01, ne10, nI_m1', Nat.or_zero]
    · simp only [mX6_grows, M_sen_t _ hi, e1, e2, e3, cl_mk, nm_mk, pu_mk, lit, if_true, if_false, ne_eq, not_false_eq_true, not_true_eq_false, nI_add, nI_or, nI_and, Bool.false_eq_true, ne01, ne10, nI_m1', Nat.or_zero]
  rw [z, bN_t] at e3 f3
  have hF : ∀ k, k < N → seenS N S 2 k < 2 ^ N := fun k hk => seenS_lt hN hk
  have k2 := lookX_K wX N S 2 N
  have hX1 := hX.k k2
  have hat : mX0_atoms (lookX wX N S 2 N) = some ((), lookX wX N S 2 N) := rfl
  obtain ⟨w2, g1, g2, g3⟩ := X_judge true (w := lookX wX N S 2 N) (o := 6 + i) (ro := 1) (ra := 2) (lookX_V wX N S 2) hN.2.1 hF (fun i hi _ _ _ => hX1.2.2 i hi) hN.2.2.2.2 (by decide) (by decide) (hSX.k hi k2) (len_sen hi hd.P40) hd.sh hd.cl hd.P40 hd.1 hd.2.2.2.2.2.2.2.1 (by omega)
  have g1' : mX4_judge (6 + i) 1 2 (nI 1) (lookX wX N S 2 N) = some (nI (evV (fun k => opJ true N A (seenS N S 2) (sdc d k)) (sdc d) (sdl d) (sdr d) (sdM d - 1)), w2) := g1
  have e4 := M_looks (hM0.k k1) hN (sort := 2) (by decide)
  have k3 := lookM_K w1 N S 2 N
  have hW2 : WorkM (lookM w1 N S 2 N) (sdM d) (sdZ d) (sdc d) (sdl d) (sdr d) (sdb d) (sde d) (sdy d) := hW.c (by unfold lookM; rw [setRow_row (by decide)]) (by unfold lookM; rw [setRow_row (by decide)]) (fun a h1 h2 => by unfold lookM; rw [setRow_row (by omega)])
  have e5 := M_grows45 (Fr := seenS N S 2) (hM0.k (k1.tr k3)) hN (lookM_V w1 N S 2) hF hW2 hd.sh hd.1 (by have := hd.2.1; omega) hpl
  refine pub_same hR (nI (evV (fun k => opJ true N A (seenS N S 2) (sdc d k)) (sdc d) (sdl d) (sdr d) (sdM d - 1))) ?_ ?_ (k2.tr g2) ((KM0 wM).tr ((k1.tr k3).tr (hdW_K (v := evV (fun k => opJ true N A (seenS N S 2) (sdc d k)) (sdc d) (sdl d) (sdr d)) (sdM d))))
  · simp only [mX5_grows, X_sen_t _ hi, nS_some hcl, f2, f3, X_look hX hN (show 2 < 4 by decide), hat, g1', cl_mk, nm_mk, pu_mk, lit, if_true, if_false, ne_eq, not_false_eq_true, not_true_eq_false, nI_add, nI_or, nI_and, Bool.false_eq_true, ne01, ne10, nI_m1', Nat.or_zero]
  · simp only [mX6_grows, M_sen_t _ hi, e1, e2, e3, e4, cl_mk, nm_mk, pu_mk, lit, if_true, if_false, ne_eq, not_false_eq_true, not_true_eq_false, nI_add, nI_or, nI_and, Bool.false_eq_true, ne01, ne10, nI_m1', Nat.or_zero]
    exact e5
