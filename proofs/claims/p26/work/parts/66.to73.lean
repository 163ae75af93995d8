section
/-! the new objects belong together -/
def dT : SD := ((1, 1, 1), (fun _ => 84), (fun _ => 0), (fun _ => 0), (fun _ => 0), (fun _ => 1), (fun _ => 84), (fun _ => 0), (fun _ => 0), (fun _ => 0))
theorem dT_ok : SDok dT := by
  have l : isLeaf 84 := Or.inr (Or.inr (Or.inr (Or.inr (Or.inl rfl))))
  have np : ¬ isPre 84 := by unfold isPre; omega
  have nj : ¬ isJn 84 := by unfold isJn; omega
  refine ⟨Nat.le_refl 1, by decide, Nat.le_refl 1, Nat.le_refl 1, by decide, fun k hk => ?_, ⟨fun k hk => Nat.zero_lt_one, fun p hp => ⟨0, Nat.zero_lt_one, ?_, rfl⟩, fun k hk => Nat.le_refl 0, fun k hk g => absurd g np, fun k hk g => absurd g nj, fun k j hk hj => ⟨fun _ => ⟨rfl, fun _ => rfl, fun _ => ⟨rfl, rfl⟩⟩, fun _ => rfl⟩, fun k hk => ⟨fun _ => rfl, fun g => absurd g np, fun g => absurd g nj⟩⟩, rfl, rfl, rfl, fun j => (show (84 : Nat) < 256 by decide), fun k hk => Nat.le_refl 1, fun k hk => Nat.le_refl 0⟩
  · exact Or.inl ⟨l, rfl, rfl, rfl, rfl⟩
  · have : p < 1 := hp
    show 0 = p
    omega
set_option maxRecDepth 100000 in
theorem rel_0 : Rel wX0 wM1 := by
  refine ⟨3, fun _ => 0, fun _ => 0, 0, fun _ => 0, fun _ => dT, ⟨by decide, by decide, fun k => (show (0 : Nat) < 2 ^ 3 by decide), fun k _ => rfl, fun i => (show (0 : Nat) < 2 ^ 3 by decide)⟩, ⟨rfl, fun k hk => rfl, fun i hi => rfl⟩, ⟨rfl, fun k hk => ?_, fun i hi => ?_⟩, ⟨by decide, rfl, rfl, fun j hj => absurd hj (Nat.not_lt_zero j), fun j => (show (0 : Nat) < 256 by decide)⟩, rfl, fun i hi => ⟨dT_ok, ?_, ?_⟩, rfl⟩
  · unfold wM1
    simp only [am_get_row (show (0 : Nat) ≠ 0 ∨ 4 ≠ 8 from Or.inr (by decide)), am_get_row (show (0 : Nat) ≠ 0 ∨ 4 ≠ 9 from Or.inr (by decide)), am_get_row (show (0 : Nat) ≠ 0 ∨ 4 ≠ 10 from Or.inr (by decide)), am_get_row (show (0 : Nat) ≠ 0 ∨ 4 ≠ 11 from Or.inr (by decide)), am_get_row (show (0 : Nat) ≠ 0 ∨ 4 ≠ 15 from Or.inr (by decide))]
    rfl
  · unfold wM1
    simp only [am_get_row (show (0 : Nat) ≠ 0 ∨ 5 ≠ 8 from Or.inr (by decide)), am_get_row (show (0 : Nat) ≠ 0 ∨ 5 ≠ 9 from Or.inr (by decide)), am_get_row (show (0 : Nat) ≠ 0 ∨ 5 ≠ 10 from Or.inr (by decide)), am_get_row (show (0 : Nat) ≠ 0 ∨ 5 ≠ 11 from Or.inr (by decide)), am_get_row (show (0 : Nat) ≠ 0 ∨ 5 ≠ 15 from Or.inr (by decide))]
    rfl
  · have key : ∀ i, i < 6 → wX0.1 (6 + i) 0 5 = nI 1 ∧ wX0.1 (6 + i) 0 6 = nI 1 ∧ wX0.1 (6 + i) 1 0 = nI 84 ∧ wX0.1 (6 + i) 2 0 = -1 ∧ wX0.1 (6 + i) 3 0 = -1 ∧ wX0.1 (6 + i) 4 0 = nI 0 ∧ wX0.1 (6 + i) 5 0 = nI 0 := by decide +kernel
    obtain ⟨k1, k2, k3, k4, k5, k6, k7⟩ := key i hi
    have np : ¬ isPre 84 := by unfold isPre; omega
    have nj : ¬ isJn 84 := by unfold isJn; omega
    exact ⟨k1, k2, fun k hk => ⟨k3, fun _ => ⟨k4, k5⟩, fun g => absurd g np, fun g => absurd g nj⟩, fun p hp => by
      have : p < 1 := hp
      have : p = 0 := by omega
      subst this
      exact ⟨k6, k7⟩⟩
  · have key : ∀ i, i < 6 → wM1.1 0 9 i = nI 1 ∧ wM1.1 0 10 i = nI 1 ∧ wM1.1 0 11 (40 * i) = nI 84 ∧ wM1.1 0 12 (40 * i) = nI 0 ∧ wM1.1 0 13 (40 * i) = nI 0 ∧ wM1.1 0 14 (40 * i) = nI 0 ∧ wM1.1 0 15 (40 * i) = nI 1 ∧ wM1.1 0 8 (200 * i) = nI 84 := by decide +kernel
    obtain ⟨k1, k2, k3, k4, k5, k6, k7, k8⟩ := key i hi
    refine ⟨k1, k2, fun k hk => ?_, fun j hj => ?_⟩
    · have : k < 1 := hk
      have : k = 0 := by omega
      subst this
      exact ⟨k3, k4, k5, k6, k7⟩
    · have : j < 1 := hj
      have : j = 0 := by omega
      subst this
      exact k8
end
section
/-! a sentence object's parts, its number of signs aside -/
def SenP (w : AW) (o m P : Nat) (c l r ph pl dp : Nat → Nat) : Prop :=
  w.1 o 0 5 = nI P ∧ (∀ k, k < m → w.1 o 1 (ph k) = nI (c k) ∧
    (isLeaf (c k) → w.1 o 2 (ph k) = -1 ∧ w.1 o 3 (ph k) = -1) ∧ (isPre (c k) → w.1 o 2 (ph k) = nI (ph (l k)) ∧ w.1 o 3 (ph k) = -1) ∧ (isJn (c k) → w.1 o 2 (ph k) = nI (ph (l k)) ∧ w.1 o 3 (ph k) = nI (ph (r k)))) ∧
  (∀ p, p < P → w.1 o 4 p = nI (pl p) ∧ w.1 o 5 p = nI (dp p))
section SP
variable {w : AW} {o m P : Nat} {c l r ph pl dp : Nat → Nat}
theorem SenX.p (h : SenX w o m P c l r ph pl dp) : SenP w o m P c l r ph pl dp := ⟨h.1, h.2.2.1, h.2.2.2⟩
theorem SenP.at3 (h : SenP w o m P c l r ph pl dp) (hL : LenOK o P) (hc : ClassOK m P c l r ph) (hs : ShapeOK m c l r) {k : Nat} (hk : k < m) : mX2_sign o (nI (ph k)) w = some (nI (c k), w) ∧ mX2_first o (nI (ph k)) w = some (fsX c l ph k, w) ∧ mX2_second o (nI (ph k)) w = some (ssX c r ph k, w) := by
  have hp := hc.1 k hk
  obtain ⟨g1, g2, g3, g4⟩ := h.2.1 k hk
  have a1 := at_in (o := o) (a := 1) (i := ph k) w (by have := (hL 1 (by decide) (by decide)).1; omega) (hL 1 (by decide) (by decide)).2
  have a2 := at_in (o := o) (a := 2) (i := ph k) w (by have := (hL 2 (by decide) (by decide)).1; omega) (hL 2 (by decide) (by decide)).2
  have a3 := at_in (o := o) (a := 3) (i := ph k) w (by have := (hL 3 (by decide) (by decide)).1; omega) (hL 3 (by decide) (by decide)).2
  unfold mX2_sign mX2_first mX2_second
  rw [a1, a2, a3, g1]
  refine ⟨rfl, ?_, ?_⟩
  · rw [cl_mk]
    unfold fsX
    rcases hs k hk with q | ⟨q, -⟩ | ⟨q, -, -⟩
    · rw [(g2 q).1, kd_leaf q]; rfl
    · rw [(g3 q).1, kd_pre q]; rfl
    · rw [(g4 q).1, kd_jn q]; rfl
  · rw [cl_mk]
    unfold ssX
    rcases hs k hk with q | ⟨q, -⟩ | ⟨q, -, -⟩
    · rw [(g2 q).2, kd_leaf q]; rfl
    · rw [(g3 q).2, kd_pre q]; rfl
    · rw [(g4 q).2, kd_jn q]; rfl
theorem SenP.cg {w2 : AW} (h : SenP w o m P c l r ph pl dp) (e : w2.1 o = w.1 o) : SenP w2 o m P c l r ph pl dp := by
  unfold SenP
  rw [e]
  exact h
end SP
end
section
/-! the class's bits -/
def atmB (c : Nat) : Bool := decide (112 ≤ c ∧ c ≤ 115)
def hbB (gr : Bool) (c : Nat) : Bool := atmB c || (if gr = true then decide (c = 62 ∨ c = 33) else modB c)
def cntF (h : Nat → Bool) : Nat → Nat
  | 0 => 0
  | n + 1 => cntF h n + bN (h n)
theorem cntF_le (h : Nat → Bool) : ∀ n, cntF h n ≤ n
  | 0 => Nat.le_refl 0
  | n + 1 => by
    have := cntF_le h n
    have := bN_lt (h n)
    show cntF h n + bN (h n) ≤ n + 1
    omega
theorem cntF_mono {h g : Nat → Bool} {n : Nat} (hg : ∀ q, q < n → h q = true → g q = true) : cntF h n ≤ cntF g n := by
  induction n with
  | zero => exact Nat.le_refl 0
  | succ n ih =>
    have i1 := ih (fun q hq => hg q (by omega))
    show cntF h n + bN (h n) ≤ cntF g n + bN (g n)
    cases z : h n
    · rw [bN_f]; omega
    · rw [hg n (by omega) z]; omega
theorem cntF_strict {h g : Nat → Bool} {n p : Nat} (hp : p < n) (hg : ∀ q, q < n → h q = true → g q = true) (h0 : h p = false) (g1 : g p = true) : cntF h n + 1 ≤ cntF g n := by
  induction n with
  | zero => omega
  | succ n ih =>
    show cntF h n + bN (h n) + 1 ≤ cntF g n + bN (g n)
    by_cases e : p = n
    · subst e
      have := cntF_mono (n := p) (fun q hq => hg q (by omega))
      rw [h0, g1, bN_t, bN_f]
      omega
    · have i1 := ih (by omega) (fun q hq => hg q (by omega))
      cases z : h n
      · rw [bN_f]; omega
      · rw [hg n (by omega) z]; omega
/-- of the unlike parts: which stand before p -/
def befB (h : Nat → Bool) (pl : Nat → Nat) (p q : Nat) : Bool := h q && decide (pl q < pl p ∨ (pl q = pl p ∧ q < p))
def rkF (h : Nat → Bool) (pl : Nat → Nat) (P p : Nat) : Nat := cntF (befB h pl p) P
theorem rkF_lt {h : Nat → Bool} {pl : Nat → Nat} {P p : Nat} (hp : p < P) (h1 : h p = true) : rkF h pl P p < cntF h P := by
  refine cntF_strict hp (fun q hq z => ?_) ?_ h1
  · unfold befB at z
    rw [Bool.and_eq_true] at z
    exact z.1
  · unfold befB
    rw [h1, decide_eq_false (by omega)]
    rfl
section BX
variable {w : AW} {o m P L : Nat} {c l r ph pl dp : Nat → Nat}
theorem X_hasBit {cc : Nat} (w : AW) (hc : cc < 128) (hL : L < 9) : mX3_hasBit (nI cc) (nI L) w = some (nI (bN (hbB (decide (L = 8)) cc)), w) := by
  unfold mX3_hasBit hbB
  rw [X_isAtom w (by omega), cl_mk]
  have ea : decide (112 ≤ cc ∧ cc ≤ 115) = atmB cc := rfl
  rw [ea]
  cases ha : atmB cc
  · rw [if_pos (show nI (bN false) = 0 from rfl), Bool.false_or]
    by_cases h8 : L = 8
    · subst h8
      rw [if_neg (show ¬ (nI 8 ≠ 8) from fun z => z rfl), if_pos (show decide (8 = 8) = true from rfl)]
      by_cases h1 : cc = 62
      · subst h1
        rw [if_pos (show nI 62 = 62 from rfl), decide_eq_true (Or.inl rfl)]
        rfl
      · rw [if_neg (show ¬ nI cc = 62 from ne_nI (b := 62) (by omega) (by decide) h1)]
        by_cases h2 : cc = 33
        · subst h2
          rw [if_neg (show ¬ (nI 33 ≠ 33) from fun z => z rfl), decide_eq_true (Or.inr rfl)]
          rfl
        · rw [if_pos (show nI cc ≠ 33 from ne_nI (b := 33) (by omega) (by decide) h2), decide_eq_false (by omega)]
          rfl
    · rw [if_pos (show nI L ≠ 8 from ne_nI (b := 8) (by omega) (by decide) h8), decide_eq_false h8, X_isModal w hc, cl_mk, zr_B]
      rfl
  · rw [if_neg (show ¬ (nI (bN true) = 0) by decide), Bool.true_or]
    rfl
noncomputable def hq (L m : Nat) (c ph : Nat → Nat) (q : Nat) : Bool := hbB (decide (L = 8)) (c (rpF m ph q))
/-- the sign and the place of the part p -/
theorem SenP.sp (h : SenP w o m P c l r ph pl dp) (hL : LenOK o P) (hc : ClassOK m P c l r ph) (hs : ShapeOK m c l r) {p : Nat} (hp : p < P) : mX2_sign o (nI p) w = some (nI (c (rpF m ph p)), w) ∧ mX2_place o (nI p) w = some (nI (pl p), w) := by
  obtain ⟨k1, k2⟩ := rpF_spec hc hp
  obtain ⟨s1, s2, s3⟩ := h.at3 hL hc hs k1
  rw [k2] at s1
  refine ⟨s1, ?_⟩
  unfold mX2_place
  rw [at_in w (by have := (hL 4 (by decide) (by decide)).1; omega) (hL 4 (by decide) (by decide)).2, (h.2.2 p hp).1, cl_mk]
theorem X_countBits (h : SenP w o m P c l r ph pl dp) (hL : LenOK o P) (hc : ClassOK m P c l r ph) (hs : ShapeOK m c l r) (hP : P ≤ 81) (hL9 : L < 9) : mX3_countBits o (nI L) w = some (nI (cntF (hq L m c ph) P), w) := by
  unfold mX3_countBits
  have hpt : mX2_parts o w = some (nI P, w) := by unfold mX2_parts; rw [h.1]
  refine loopE (fun n (s : Int32 × Int32) => mX3_countBits_4 o (nI L) n s.1 s.2 w) P (fun k => (nI (cntF (hq L m c ph) k), nI k)) _ ?_ ?_ FU 0 (Nat.zero_le _) (FU_gt (by omega))
  · intro n p hp
    have c1 : ¬ nI P ≤ nI p := nI_ge hp (by omega)
    obtain ⟨k1, k2⟩ := rpF_spec hc hp
    have e1 := X_hasBit (L := L) w (kinds_lt (kinds_of hs k1)) hL9
    have e2 : hbB (decide (L = 8)) (c (rpF m ph p)) = hq L m c ph p := rfl
    rw [e2] at e1
    dsimp only
    rw [mX3_countBits_4, hpt, cl_mk, if_neg c1, (h.sp hL hc hs hp).1, cl_mk, e1, cl_mk]
    have e3 : cntF (hq L m c ph) (p + 1) = cntF (hq L m c ph) p + bN (hq L m c ph p) := rfl
    cases z : hq L m c ph p
    · rw [z, bN_f] at e3
      rw [if_pos (show nI (bN false) = 0 from rfl), e3]
      unfold mX3_countBits_27
      rw [nm_mk, show nI p + 1 = nI (p + 1) from nI_add p 1]
      rfl
    · rw [z, bN_t] at e3
      rw [if_neg (show ¬ (nI (bN true) = 0) by decide), nm_mk, e3]
      unfold mX3_countBits_27
      rw [nm_mk, show nI p + 1 = nI (p + 1) from nI_add p 1, show nI (cntF (hq L m c ph) p) + 1 = nI (cntF (hq L m c ph) p + 1) from nI_add _ 1]
  · intro n
    have c1 : nI P ≤ nI P := nI_le (Nat.le_refl P) (by omega)
    dsimp only
    rw [mX3_countBits_4, hpt, cl_mk, if_pos c1]
theorem X_bitsBefore (h : SenP w o m P c l r ph pl dp) (hL : LenOK o P) (hc : ClassOK m P c l r ph) (hs : ShapeOK m c l r) (hP : P ≤ 81) (hL9 : L < 9) (hl6 : w.1 4 0 7 = nI L) (hpl : ∀ p, p < P → pl p < 1000) {p : Nat} (hp : p < P) : mX3_bitsBefore o (nI p) w = some (nI (rkF (hq L m c ph) pl P p), w) := by
  unfold mX3_bitsBefore
  have hpt : mX2_parts o w = some (nI P, w) := by unfold mX2_parts; rw [h.1]
  refine loopE (fun n (s : Int32 × Int32) => mX3_bitsBefore_5 o (nI p) n s.1 s.2 w) P (fun k => (nI (cntF (befB (hq L m c ph) pl p) k), nI k)) _ ?_ ?_ FU 0 (Nat.zero_le _) (FU_gt (by omega))
  · intro n q hq2
    have c1 : ¬ nI P ≤ nI q := nI_ge hq2 (by omega)
    obtain ⟨k1, k2⟩ := rpF_spec hc hq2
    have e1 := X_hasBit (L := L) w (kinds_lt (kinds_of hs k1)) hL9
    have e2 : hbB (decide (L = 8)) (c (rpF m ph q)) = hq L m c ph q := rfl
    rw [e2] at e1
    have e3 : cntF (befB (hq L m c ph) pl p) (q + 1) = cntF (befB (hq L m c ph) pl p) q + bN (befB (hq L m c ph) pl p q) := rfl
    have ev : nI q + 1 = nI (q + 1) := nI_add q 1
    have no : befB (hq L m c ph) pl p q = false → mX3_bitsBefore_70 (mX3_bitsBefore_5 o (nI p) n) o (nI p) (nI (cntF (befB (hq L m c ph) pl p) q)) (nI q) w = mX3_bitsBefore_5 o (nI p) n (nI (cntF (befB (hq L m c ph) pl p) (q + 1))) (nI (q + 1)) w := fun z => by
      rw [e3, z, bN_f]
      unfold mX3_bitsBefore_70
      rw [nm_mk, ev]
      rfl
    have yes : befB (hq L m c ph) pl p q = true → mX3_bitsBefore_67 (mX3_bitsBefore_5 o (nI p) n) o (nI p) (nI (cntF (befB (hq L m c ph) pl p) q)) (nI q) w = mX3_bitsBefore_5 o (nI p) n (nI (cntF (befB (hq L m c ph) pl p) (q + 1))) (nI (q + 1)) w := fun z => by
      rw [e3, z, bN_t]
      unfold mX3_bitsBefore_67 mX3_bitsBefore_70
      rw [nm_mk, nm_mk, ev, show nI (cntF (befB (hq L m c ph) pl p) q) + 1 = nI (cntF (befB (hq L m c ph) pl p) q + 1) from nI_add _ 1]
    have p1 := hpl p hp
    have p2 := hpl q hq2
    dsimp only
    rw [mX3_bitsBefore_5, hpt, cl_mk, if_neg c1, (h.sp hL hc hs hq2).1, cl_mk, hl6, e1, cl_mk]
    cases z : hq L m c ph q
    · rw [if_neg (show ¬ (nI (bN false) ≠ 0) from fun z => z rfl)]
      exact no (by unfold befB; rw [z]; rfl)
    · rw [if_pos (show nI (bN true) ≠ 0 by decide), (h.sp hL hc hs hq2).2, cl_mk, (h.sp hL hc hs hp).2, cl_mk]
      by_cases h1 : pl q < pl p
      · rw [if_pos (nI_lt h1 (by omega))]
        exact yes (by unfold befB; rw [z, decide_eq_true (Or.inl h1)]; rfl)
      · rw [if_neg (nI_nlt (by omega) (by omega)), (h.sp hL hc hs hq2).2, cl_mk, (h.sp hL hc hs hp).2, cl_mk]
        by_cases h2 : pl q = pl p
        · rw [if_neg (show ¬ (nI (pl q) ≠ nI (pl p)) from fun y => y (by rw [h2]))]
          by_cases h3 : p ≤ q
          · rw [if_pos (nI_le h3 (by omega))]
            exact no (by unfold befB; rw [z, decide_eq_false (by omega)]; rfl)
          · rw [if_neg (nI_ge (by omega) (by omega))]
            exact yes (by unfold befB; rw [z, decide_eq_true (Or.inr ⟨h2, by omega⟩)]; rfl)
        · rw [if_pos (ne_nI (by omega) (by omega) h2)]
          exact no (by unfold befB; rw [z, decide_eq_false (by omega)]; rfl)
  · intro n
    have c1 : nI P ≤ nI P := nI_le (Nat.le_refl P) (by omega)
    dsimp only
    rw [mX3_bitsBefore_5, hpt, cl_mk, if_pos c1]
    rfl
end BX
end
section
/-! the class gives bits -/
def mskF (f : Nat → Bool) (bt : Nat → Nat) (p : Nat) : Nat := orF (fun q => if f q = true then 2 ^ (bt q) else 0) p
section GV
variable {w : AW} {o m P L : Nat} {c l r ph pl dp : Nat → Nat}
theorem G92 {V : AW} {s bt p x8 x10 : Nat} {k17 : Int32 → AW → Option (Unit × AW)} (hs : s < 128) (hb : bt < 31) (hL9 : L < 9) (h6 : V.1 4 0 7 = nI L) (h8 : V.1 4 0 9 = nI x8) (h10 : V.1 4 0 11 = nI x10) :
    ∃ V', mX3_giveBits_92 k17 o (nI p) (nI s) (nI bt) V = k17 (nI (p + 1)) V' ∧ V'.1 4 0 9 = nI (x8 ||| (if (!atmB s || decide (L = 8)) = true then 2 ^ bt else 0)) ∧ V'.1 4 0 11 = nI (x10 ||| (if (!atmB s) = true then 2 ^ bt else 0)) ∧ (∀ o' a', (o' ≠ 4 ∨ a' ≠ 0) → V'.1 o' a' = V.1 o' a') ∧ (∀ j, j ≠ 9 → j ≠ 11 → V'.1 4 0 j = V.1 4 0 j) ∧ KX V V' := by
  have eA : ∀ W : AW, mX5_isAtom (nI s) W = some (nI (bN (atmB s)), W) := fun W => X_isAtom W (by omega)
  have e1 : (1 : Int32) <<< (nI bt &&& 31) = nI (2 ^ bt) := by
    have : nI bt &&& 31 = nI (bt &&& 31) := nI_and bt 31
    rw [this]
    exact one_shl hb
  have ev : nI p + 1 = nI (p + 1) := nI_add p 1
  have e141 : ∀ W : AW, mX3_giveBits_141 k17 o (nI p) W = k17 (nI (p + 1)) W := fun W => by
    unfold mX3_giveBits_141
    rw [nm_mk, ev]
  have K4 : ∀ (W0 W : AW) (j : Nat) (x : Int32), KX W0 W → KX W0 (am_set W 4 0 j x) := fun W0 W j x h => h.set (Or.inl ⟨by decide, by decide⟩)
  cases ha : atmB s
  · refine ⟨am_set (am_set V 4 0 11 (nI (x10 ||| 2 ^ bt))) 4 0 9 (nI (x8 ||| 2 ^ bt)), ?_, ?_, ?_, fun o' a' h => ?_, fun j z1 z2 => ?_, K4 _ _ _ _ (K4 _ _ _ _ (KX.rf _))⟩
    · unfold mX3_giveBits_92
      rw [eA, cl_mk, ha, if_neg (show ¬ (nI (bN false) ≠ 0) from fun z => z rfl), h10, e1, nI_or, pu_mk]
      unfold mX3_giveBits_112
      rw [eA, cl_mk, ha, if_pos (show nI (bN false) = 0 from rfl)]
      unfold mX3_giveBits_128
      rw [am_get_other (by decide), h8, e1, nI_or, pu_mk, e141]
    · rw [am_get_self]; rfl
    · rw [am_get_other (by decide), am_get_self]; rfl
    · rw [am_get_row h, am_get_row h]
    · rw [am_get_other z1, am_get_other z2]
  · by_cases h8L : L = 8
    · refine ⟨am_set V 4 0 9 (nI (x8 ||| 2 ^ bt)), ?_, ?_, ?_, fun o' a' h => ?_, fun j z1 z2 => ?_, K4 _ _ _ _ (KX.rf _)⟩
      · unfold mX3_giveBits_92
        rw [eA, cl_mk, ha, if_pos (show nI (bN true) ≠ 0 by decide)]
        unfold mX3_giveBits_112
        rw [eA, cl_mk, ha, if_neg (show ¬ (nI (bN true) = 0) by decide), h6, h8L, if_neg (show ¬ (nI 8 ≠ 8) from fun z => z rfl)]
        unfold mX3_giveBits_128
        rw [h8, e1, nI_or, pu_mk, e141]
      · rw [am_get_self, decide_eq_true h8L]; rfl
      · rw [am_get_other (by decide), h10]
        show nI x10 = nI (x10 ||| 0)
        rw [Nat.or_zero]
      · rw [am_get_row h]
      · rw [am_get_other z1]
    · refine ⟨V, ?_, ?_, ?_, fun _ _ _ => rfl, fun _ _ _ => rfl, KX.rf _⟩
      · unfold mX3_giveBits_92
        rw [eA, cl_mk, ha, if_pos (show nI (bN true) ≠ 0 by decide)]
        unfold mX3_giveBits_112
        rw [eA, cl_mk, ha, if_neg (show ¬ (nI (bN true) = 0) by decide), h6, if_pos (show nI L ≠ 8 from ne_nI (b := 8) (by omega) (by decide) h8L), e141]
      · rw [h8, decide_eq_false h8L]
        show nI x8 = nI (x8 ||| 0)
        rw [Nat.or_zero]
      · rw [h10]
        show nI x10 = nI (x10 ||| 0)
        rw [Nat.or_zero]
noncomputable def tuF (L m : Nat) (c ph : Nat → Nat) (q : Nat) : Bool := hq L m c ph q && decide (c (rpF m ph q) = 123)
noncomputable def owF (L m : Nat) (c ph : Nat → Nat) (q : Nat) : Bool := hq L m c ph q && !atmB (c (rpF m ph q))
noncomputable def clF (L m : Nat) (c ph : Nat → Nat) (q : Nat) : Bool := hq L m c ph q && (!atmB (c (rpF m ph q)) || decide (L = 8))
def GB (W : AW) (L m P Z : Nat) (c ph pl : Nat → Nat) (p : Nat) : Prop :=
  (∀ q, q < p → W.1 4 1 q = if hq L m c ph q = true then nI (rkF (hq L m c ph) pl P q) else -9) ∧ W.1 4 0 9 = nI (mskF (clF L m c ph) (rkF (hq L m c ph) pl P) p) ∧ W.1 4 0 10 = nI (mskF (tuF L m c ph) (rkF (hq L m c ph) pl P) p) ∧ W.1 4 0 11 = nI (mskF (owF L m c ph) (rkF (hq L m c ph) pl P) p) ∧ W.1 4 0 7 = nI L ∧ W.1 4 0 8 = nI Z
theorem put41 {p : Nat} {x : Int32} (W : AW) (hp : p < 81) : mX5_put 4 1 (nI p) x W = some ((), am_set W 4 1 p x) := put_in W hp (by decide)
theorem X_give17 (hX : SenP w o m P c l r ph pl dp) (hL : LenOK o P) (hc : ClassOK m P c l r ph) (hs : ShapeOK m c l r) (hP : P ≤ 81) (hL9 : L < 9) (hpl : ∀ p, p < P → pl p < 1000) (hB : cntF (hq L m c ph) P ≤ 10) (ho : o ≠ 4) {Z : Nat} : ∀ (e p n : Nat) (W : AW), P = p + e → e < n → KX w W → W.1 o = w.1 o → GB W L m P Z c ph pl p →
    ∃ W2, mX3_giveBits_17 o n (nI p) W = some ((), W2) ∧ KX w W2 ∧ W2.1 o = w.1 o ∧ GB W2 L m P Z c ph pl P := by
  intro e
  induction e with
  | zero =>
    intro p n W he hn hK hWo hG
    obtain ⟨n, rfl⟩ : ∃ k, n = k + 1 := ⟨n - 1, by omega⟩
    have e2 : p = P := by omega
    subst e2
    have c1 : nI p ≤ nI p := nI_le (Nat.le_refl p) (by omega)
    have hpt : mX2_parts o W = some (nI p, W) := by unfold mX2_parts; rw [hWo, hX.1]
    exact ⟨W, by rw [mX3_giveBits_17, hpt, cl_mk, if_pos c1], hK, hWo, hG⟩
  | succ e ih =>
    intro p n W he hn hK hWo hG
    obtain ⟨n, rfl⟩ : ∃ k, n = k + 1 := ⟨n - 1, by omega⟩
    have hp : p < P := by omega
    have c1 : ¬ nI P ≤ nI p := nI_ge hp (by omega)
    have hpt : mX2_parts o W = some (nI P, W) := by unfold mX2_parts; rw [hWo, hX.1]
    obtain ⟨k1, k2⟩ := rpF_spec hc hp
    have hs128 := kinds_lt (kinds_of hs k1)
    obtain ⟨g1, g2, g3, g4, g5, g6⟩ := hG
    have hXW : SenP W o m P c l r ph pl dp := hX.cg hWo
    have K41 : ∀ (x : Int32) (V : AW), KX w V → KX w (am_set V 4 1 p x) := fun x V h => h.set (Or.inl ⟨by decide, by decide⟩)
    have ro : ∀ (V : AW) (a i : Nat) (x : Int32), V.1 o = w.1 o → (am_set V 4 a i x).1 o = w.1 o := fun V a i x h => by rw [am_row_ne ho]; exact h
    have r40 : ∀ (V : AW) (x : Int32) (j : Nat), (am_set V 4 1 p x).1 4 0 j = V.1 4 0 j := fun V x j => by rw [am_get_row (Or.inr (by decide))]
    -- the world with -9 in its place
    have hW1o := ro W 1 p (-9) hWo
    have hXW1 : SenP (am_set W 4 1 p (-9)) o m P c l r ph pl dp := hX.cg hW1o
    have e6 : (am_set W 4 1 p (-9)).1 4 0 7 = nI L := by rw [r40]; exact g5
    have eh := X_hasBit (L := L) (am_set W 4 1 p (-9)) hs128 hL9
    have e2 : hbB (decide (L = 8)) (c (rpF m ph p)) = hq L m c ph p := rfl
    rw [e2] at eh
    have mk0 : ∀ f : Nat → Bool, f p = false → mskF f (rkF (hq L m c ph) pl P) (p + 1) = mskF f (rkF (hq L m c ph) pl P) p := fun f hf => by
      show mskF f (rkF (hq L m c ph) pl P) p ||| (if f p = true then 2 ^ rkF (hq L m c ph) pl P p else 0) = _
      rw [hf, if_neg (by decide), Nat.or_zero]
    have mk1 : ∀ f : Nat → Bool, mskF f (rkF (hq L m c ph) pl P) (p + 1) = mskF f (rkF (hq L m c ph) pl P) p ||| (if f p = true then 2 ^ rkF (hq L m c ph) pl P p else 0) := fun f => rfl
    cases z : hq L m c ph p
    · -- no bit
      have n1 : clF L m c ph p = false := by unfold clF; rw [z]; rfl
      have n2 : tuF L m c ph p = false := by unfold tuF; rw [z]; rfl
      have n3 : owF L m c ph p = false := by unfold owF; rw [z]; rfl
      rw [z] at eh
      obtain ⟨W2, f1, f2, f3, f4⟩ := ih (p + 1) n (am_set W 4 1 p (-9)) (by omega) (by omega) (K41 _ _ hK) hW1o ⟨fun q hq2 => by
        by_cases y : q = p
        · subst y
          rw [am_get_self, z, if_neg (by decide)]
        · rw [am_get_other y]
          exact g1 q (by omega), by rw [r40, mk0 _ n1]; exact g2, by rw [r40, mk0 _ n2]; exact g3, by rw [r40, mk0 _ n3]; exact g4, e6, by rw [r40]; exact g6⟩
      refine ⟨W2, ?_, f2, f3, f4⟩
      rw [mX3_giveBits_17, hpt, cl_mk, if_neg c1, (hXW.sp hL hc hs hp).1, cl_mk, put41 W (by omega), cl_mk, e6, eh, cl_mk, if_neg (show ¬ (nI (bN false) ≠ 0) from fun y => y rfl)]
      unfold mX3_giveBits_141
      rw [nm_mk, show nI p + 1 = nI (p + 1) from nI_add p 1]
      exact f1
    · -- a bit
      rw [z] at eh
      have hbt : rkF (hq L m c ph) pl P p < 31 := by
        have := rkF_lt (pl := pl) hp z
        omega
      have eb := X_bitsBefore (L := L) hXW1 hL hc hs hP hL9 e6 hpl hp
      -- where it is put, and what turns it
      have key : ∀ V : AW, KX w V → V.1 o = w.1 o → (∀ q, q < p + 1 → V.1 4 1 q = if hq L m c ph q = true then nI (rkF (hq L m c ph) pl P q) else -9) → V.1 4 0 9 = nI (mskF (clF L m c ph) (rkF (hq L m c ph) pl P) p) → V.1 4 0 10 = nI (mskF (tuF L m c ph) (rkF (hq L m c ph) pl P) (p + 1)) → V.1 4 0 11 = nI (mskF (owF L m c ph) (rkF (hq L m c ph) pl P) p) → V.1 4 0 7 = nI L → V.1 4 0 8 = nI Z →
          ∃ W2, mX3_giveBits_92 (mX3_giveBits_17 o n) o (nI p) (nI (c (rpF m ph p))) (nI (rkF (hq L m c ph) pl P p)) V = some ((), W2) ∧ KX w W2 ∧ W2.1 o = w.1 o ∧ GB W2 L m P Z c ph pl P := by
        intro V v1 v2 v3 v4 v5 v6 v7 v8
        obtain ⟨V', a1, a2, a3, a4, a5, a6⟩ := G92 (o := o) (p := p) (k17 := mX3_giveBits_17 o n) hs128 hbt hL9 v7 v4 v6
        obtain ⟨W2, f1, f2, f3, f4⟩ := ih (p + 1) n V' (by omega) (by omega) (v1.tr a6) (by funext a; rw [a4 o a (Or.inl ho)]; exact congrFun v2 a) ⟨fun q hq2 => by rw [a4 4 1 (Or.inr (by decide))]; exact v3 q hq2, by
            rw [a2, mk1]
            have : clF L m c ph p = (!atmB (c (rpF m ph p)) || decide (L = 8)) := by unfold clF; rw [z, Bool.true_and]
            rw [this], by rw [a5 10 (by decide) (by decide)]; exact v5, by
            rw [a3, mk1]
            have : owF L m c ph p = !atmB (c (rpF m ph p)) := by unfold owF; rw [z, Bool.true_and]
            rw [this], by rw [a5 7 (by decide) (by decide)]; exact v7, by rw [a5 8 (by decide) (by decide)]; exact v8⟩
        exact ⟨W2, a1.trans f1, f2, f3, f4⟩
      have rows : ∀ q, q < p + 1 → (am_set (am_set W 4 1 p (-9)) 4 1 p (nI (rkF (hq L m c ph) pl P p))).1 4 1 q = if hq L m c ph q = true then nI (rkF (hq L m c ph) pl P q) else -9 := fun q hq2 => by
        by_cases y : q = p
        · subst y
          rw [am_get_self, z, if_pos rfl]
        · rw [am_get_other y, am_get_other y]
          exact g1 q (by omega)
      have hW2o := ro _ 1 p (nI (rkF (hq L m c ph) pl P p)) hW1o
      have hK2 := K41 (nI (rkF (hq L m c ph) pl P p)) _ (K41 (-9) _ hK)
      have head : mX3_giveBits_17 o (n + 1) (nI p) W = if nI (c (rpF m ph p)) ≠ 123 then mX3_giveBits_92 (mX3_giveBits_17 o n) o (nI p) (nI (c (rpF m ph p))) (nI (rkF (hq L m c ph) pl P p)) (am_set (am_set W 4 1 p (-9)) 4 1 p (nI (rkF (hq L m c ph) pl P p))) else pu (am_set (am_set W 4 1 p (-9)) 4 1 p (nI (rkF (hq L m c ph) pl P p))) 4 10 (((am_set (am_set W 4 1 p (-9)) 4 1 p (nI (rkF (hq L m c ph) pl P p))).1 4 0 10) ||| (1 <<< (nI (rkF (hq L m c ph) pl P p) &&& 31))) fun w_13 => mX3_giveBits_92 (mX3_giveBits_17 o n) o (nI p) (nI (c (rpF m ph p))) (nI (rkF (hq L m c ph) pl P p)) w_13 := by
        rw [mX3_giveBits_17, hpt, cl_mk, if_neg c1, (hXW.sp hL hc hs hp).1, cl_mk, put41 W (by omega), cl_mk, e6, eh, cl_mk, if_pos (show nI (bN true) ≠ 0 by decide), eb, cl_mk, put41 _ (by omega), cl_mk]
      rw [head]
      by_cases h123 : c (rpF m ph p) = 123
      · have e1 : (1 : Int32) <<< (nI (rkF (hq L m c ph) pl P p) &&& 31) = nI (2 ^ rkF (hq L m c ph) pl P p) := by
          have : nI (rkF (hq L m c ph) pl P p) &&& 31 = nI (rkF (hq L m c ph) pl P p &&& 31) := nI_and _ 31
          rw [this]
          exact one_shl hbt
        have e9 : (am_set (am_set W 4 1 p (-9)) 4 1 p (nI (rkF (hq L m c ph) pl P p))).1 4 0 10 = nI (mskF (tuF L m c ph) (rkF (hq L m c ph) pl P) p) := by rw [r40, r40]; exact g3
        rw [if_neg (show ¬ (nI (c (rpF m ph p)) ≠ 123) from fun y => y (by rw [h123]; rfl)), e9, e1, nI_or, pu_mk]
        refine key _ (hK2.set (Or.inl ⟨by decide, by decide⟩)) (ro _ 0 10 _ hW2o) (fun q hq2 => ?_) ?_ ?_ ?_ ?_ ?_
        · rw [am_get_row (Or.inr (by decide))]; exact rows q hq2
        · rw [am_get_other (by decide), r40, r40]; exact g2
        · rw [am_get_self, mk1]
          have : tuF L m c ph p = true := by unfold tuF; rw [z, decide_eq_true h123]; rfl
          rw [this, if_pos rfl]
        · rw [am_get_other (by decide), r40, r40]; exact g4
        · rw [am_get_other (by decide), r40, r40]; exact g5
        · rw [am_get_other (by decide), r40, r40]; exact g6
      · rw [if_pos (show nI (c (rpF m ph p)) ≠ 123 from ne_nI (b := 123) (by omega) (by decide) h123)]
        refine key _ hK2 hW2o rows ?_ ?_ ?_ ?_ ?_
        · rw [r40, r40]; exact g2
        · have : tuF L m c ph p = false := by unfold tuF; rw [z, decide_eq_false h123]; rfl
          rw [r40, r40, mk0 _ this]; exact g3
        · rw [r40, r40]; exact g4
        · rw [r40, r40]; exact g5
        · rw [r40, r40]; exact g6
theorem X_give (hX : SenP w o m P c l r ph pl dp) (hL : LenOK o P) (hc : ClassOK m P c l r ph) (hs : ShapeOK m c l r) (hP : P ≤ 81) (hL9 : L < 9) (hpl : ∀ p, p < P → pl p < 1000) (hB : cntF (hq L m c ph) P ≤ 10) (ho : o ≠ 4) {Z : Nat} (h6 : w.1 4 0 7 = nI L) (h7 : w.1 4 0 8 = nI Z) : ∃ W2, mX3_giveBits o w = some ((), W2) ∧ KX w W2 ∧ W2.1 o = w.1 o ∧ GB W2 L m P Z c ph pl P := by
  have hK : KX w (am_set (am_set (am_set w 4 0 9 0) 4 0 10 0) 4 0 11 0) := (((KX.rf w).set (Or.inl ⟨by decide, by decide⟩)).set (Or.inl ⟨by decide, by decide⟩)).set (Or.inl ⟨by decide, by decide⟩)
  have hWo : (am_set (am_set (am_set w 4 0 9 0) 4 0 10 0) 4 0 11 0).1 o = w.1 o := by rw [am_row_ne ho, am_row_ne ho, am_row_ne ho]
  obtain ⟨W2, f1, f2, f3, f4⟩ := X_give17 (Z := Z) hX hL hc hs hP hL9 hpl hB ho P 0 FU _ (by omega) (FU_gt (by omega)) hK hWo ⟨fun q hq2 => absurd hq2 (Nat.not_lt_zero q), by rw [am_get_other (by decide), am_get_other (by decide), am_get_self]; rfl, by rw [am_get_other (by decide), am_get_self]; rfl, by rw [am_get_self]; rfl, by rw [am_get_other (by decide), am_get_other (by decide), am_get_other (by decide)]; exact h6, by rw [am_get_other (by decide), am_get_other (by decide), am_get_other (by decide)]; exact h7⟩
  refine ⟨W2, ?_, f2, f3, f4⟩
  unfold mX3_giveBits
  rw [pu_mk, pu_mk, pu_mk]
  exact f1
end GV
end
section
/-! the class weighs a type -/
def joinF (c a b : Nat) : Nat := if c = 33 then sdiff 1 a else if c = 38 then a &&& b else if c = 62 then sdiff 1 a ||| b else if c = 84 then 1 else if c = 124 then a ||| b else 0
theorem joinF_lt {c a b : Nat} (ha : a < 2) (hb : b < 2) : joinF c a b < 2 := by
  have h1 : (1 : Nat) < 2 ^ 1 := by decide
  unfold joinF
  split
  · exact sdiff_lt (n := 1) h1
  split
  · exact Nat.lt_of_le_of_lt Nat.and_le_left ha
  split
  · exact or_lt (n := 1) (sdiff_lt (n := 1) h1) hb
  split
  · decide
  split
  · exact or_lt (n := 1) ha hb
  · decide
theorem X_joined {cc x y : Nat} (w : AW) (hc : cc < 128) (hy : y < 2) : mX5_joined (nI cc) (nI x) (nI y) 1 w = some (nI (joinF cc x y), w) := by
  have e1 : ∀ a : Nat, (1 : Int32) &&& (nI a ^^^ (-1)) = nI (sdiff 1 a) := fun a => nI_sdiff 1 a
  have e2 : (1 : Int32) &&& ((nI x ^^^ (-1)) ||| nI y) = nI (sdiff 1 x ||| y) := by
    have h1 : (nI x ^^^ (-1)) ||| nI y = nI ((x ^^^ 4294967295) ||| y) := by
      show (nI x ^^^ nI 4294967295) ||| nI y = _
      rw [nI_xor, nI_or]
    rw [h1]
    show nI 1 &&& _ = _
    rw [nI_and]
    exact congrArg nI (imp_full (N := 1) (a := x) (b := y) (by decide) hy)
  unfold mX5_joined joinF
  by_cases h1 : cc = 33
  · rw [if_pos (show nI cc = 33 by rw [h1]; rfl), if_pos h1, e1]
  rw [if_neg (show ¬ nI cc = 33 from ne_nI (b := 33) (by omega) (by decide) h1), if_neg h1]
  by_cases h2 : cc = 38
  · rw [if_pos (show nI cc = 38 by rw [h2]; rfl), if_pos h2, nI_and]
  rw [if_neg (show ¬ nI cc = 38 from ne_nI (b := 38) (by omega) (by decide) h2), if_neg h2]
  by_cases h3 : cc = 62
  · rw [if_pos (show nI cc = 62 by rw [h3]; rfl), if_pos h3, e2]
  rw [if_neg (show ¬ nI cc = 62 from ne_nI (b := 62) (by omega) (by decide) h3), if_neg h3]
  by_cases h4 : cc = 84
  · rw [if_pos (show nI cc = 84 by rw [h4]; rfl), if_pos h4]
    rfl
  rw [if_neg (show ¬ nI cc = 84 from ne_nI (b := 84) (by omega) (by decide) h4), if_neg h4]
  by_cases h5 : cc = 124
  · rw [if_pos (show nI cc = 124 by rw [h5]; rfl), if_pos h5, nI_or]
  rw [if_neg (show ¬ nI cc = 124 from ne_nI (b := 124) (by omega) (by decide) h5), if_neg h5]
  rfl
/-- the value of a node by a type, when bt gives the bits of the unlike parts -/
def opT (gr : Bool) (c ph bt : Nat → Nat) (t k a b : Nat) : Nat := if hbB gr (c k) = true then bN (t.testBit (bt (ph k))) else joinF (c k) a b
theorem opT_lt {gr : Bool} {c ph bt : Nat → Nat} {t k a b : Nat} (ha : a < 2) (hb : b < 2) : opT gr c ph bt t k a b < 2 := by
  unfold opT
  split
  · exact bN_lt _
  · exact joinF_lt ha hb
def brg (s x pn g : Nat) : Nat := if s = 91 then x else if s = 123 then 1 - x else if atmB s = true then g else pn
theorem X_bearing {s x pn g : Nat} (w : AW) (hs : s < 128) (hx : x < 2) : mX3_bearing (nI s) (nI x) (nI pn) (nI g) w = some (nI (brg s x pn g), w) := by
  unfold mX3_bearing brg
  by_cases h1 : s = 91
  · rw [if_neg (show ¬ (nI s ≠ 91) from fun z => z (by rw [h1]; rfl)), if_pos h1]
  rw [if_pos (show nI s ≠ 91 from ne_nI (b := 91) (by omega) (by decide) h1), if_neg h1]
  by_cases h2 : s = 123
  · rw [if_neg (show ¬ (nI s ≠ 123) from fun z => z (by rw [h2]; rfl)), if_pos h2, show (1 : Int32) - nI x = nI (1 - x) from pk_sub (a := 1) (b := x) (by omega)]
  rw [if_pos (show nI s ≠ 123 from ne_nI (b := 123) (by omega) (by decide) h2), if_neg h2, X_isAtom w (by omega), cl_mk]
  have ea : decide (112 ≤ s ∧ s ≤ 115) = atmB s := rfl
  rw [ea]
  cases ha : atmB s
  · rw [if_pos (show nI (bN false) = 0 from rfl)]
    rfl
  · rw [if_neg (show ¬ (nI (bN true) = 0) by decide)]
    rfl
def clN (CL TU t : Nat) : Nat := (t ^^^ TU) &&& CL
section WG
variable {w : AW} {o m P L : Nat} {c l r ph pl dp bt : Nat → Nat}
noncomputable def brP (L m : Nat) (c l r ph bt : Nat → Nat) (t q : Nat) : Nat := brg (c (rpF m ph q)) (argA c l (evV (opT (decide (L = 8)) c ph bt t) c l r) (rpF m ph q)) (joinF (c (rpF m ph q)) (argA c l (evV (opT (decide (L = 8)) c ph bt t) c l r) (rpF m ph q)) (argB c r (evV (opT (decide (L = 8)) c ph bt t) c l r) (rpF m ph q))) (bN (t.testBit (bt q)))
noncomputable def brF (L m : Nat) (c l r ph bt : Nat → Nat) (t p : Nat) : Nat := orF (fun q => if hq L m c ph q = true then brP L m c l r ph bt t q * 2 ^ (bt q) else 0) p
theorem brg_lt {s x pn g : Nat} (hx : x < 2) (hp : pn < 2) (hg : g < 2) : brg s x pn g < 2 := by
  unfold brg
  split
  · exact hx
  split
  · omega
  split
  · exact hg
  · exact hp
theorem args_lt (hs : ShapeOK m c l r) {gr : Bool} {t k : Nat} (hk : k < m) : argA c l (evV (opT gr c ph bt t) c l r) k < 2 ∧ argB c r (evV (opT gr c ph bt t) c l r) k < 2 := by
  have hb : ∀ k, k < m → evV (opT gr c ph bt t) c l r k < 2 := fun k hk => evV_lt hs (by decide) (fun k _ a b ha hb => opT_lt ha hb) (k + 1) k (Nat.lt_succ_self k) hk
  unfold argA argB
  rcases hs k hk with g | ⟨g, g1⟩ | ⟨g, g1, g2⟩
  · rw [kd_leaf g]; exact ⟨(show (0 : Nat) < 2 by decide), (show (0 : Nat) < 2 by decide)⟩
  · rw [kd_pre g]; exact ⟨hb _ (by omega), (show (0 : Nat) < 2 by decide)⟩
  · rw [kd_jn g]; exact ⟨hb _ (by omega), hb _ (by omega)⟩
theorem brP_lt (hs : ShapeOK m c l r) (hc : ClassOK m P c l r ph) {t q : Nat} (hq2 : q < P) : brP L m c l r ph bt t q < 2 := by
  obtain ⟨k1, k2⟩ := rpF_spec hc hq2
  obtain ⟨a1, a2⟩ := args_lt (ph := ph) (bt := bt) (gr := decide (L = 8)) (t := t) hs k1
  exact brg_lt a1 (joinF_lt a1 a2) (bN_lt _)
noncomputable def wgW (W : AW) (L m : Nat) (c l r ph bt : Nat → Nat) (t p : Nat) : AW := setRow W 4 2 (fun q => nI (pvF (opT (decide (L = 8)) c ph bt t) c l r ph m q)) p
theorem X_weigh (hX : SenP w o m P c l r ph pl dp) (hL : LenOK o P) (hc : ClassOK m P c l r ph) (hs : ShapeOK m c l r) (hP : P ≤ 81) (hm : 1 ≤ m) (hlast : ph (m - 1) = P - 1) (ho : o ≠ 4) (hbit : ∀ q, q < P → w.1 4 1 q = if hq L m c ph q = true then nI (bt q) else -9) (hbt : ∀ q, q < P → hq L m c ph q = true → bt q < 10) {CL TU : Nat} (h9 : w.1 4 0 9 = nI CL) (h10 : w.1 4 0 10 = nI TU) {t : Nat} (ht : t < 1024) :
    mX3_weigh o (nI t) w = some ((), am_set (am_set (am_set (wgW w L m c l r ph bt t P) 4 3 t (nI (clN CL TU t))) 4 4 t (nI (brF L m c l r ph bt t P))) 4 5 t (nI (evV (opT (decide (L = 8)) c ph bt t) c l r (m - 1)))) := by
  have hP0 : 1 ≤ P := by have := hc.1 0 (by omega); omega
  have hop : ∀ k j, k < m → j < m → ph k = ph j → opT (decide (L = 8)) c ph bt t k = opT (decide (L = 8)) c ph bt t j := fun k j hk hj he => by
    funext a b
    unfold opT
    rw [((hc.2.2.2.2 k j hk hj).mp he).1, he]
  unfold mX3_weigh
  refine loopE (fun n (s : Int32 × Int32 × AW) => mX3_weigh_5 o (nI t) n s.1 s.2.1 s.2.2) P (fun k => (nI (brF L m c l r ph bt t k), nI k, wgW w L m c l r ph bt t k)) _ ?_ ?_ FU 0 (Nat.zero_le _) (FU_gt (by omega))
  · intro n p hp
    obtain ⟨k1, k2⟩ := rpF_spec hc hp
    have hs128 := kinds_lt (kinds_of hs k1)
    have c1 : ¬ nI P ≤ nI p := nI_ge hp (by omega)
    have hWo : (wgW w L m c l r ph bt t p).1 o = w.1 o := by funext a; exact setRow_row (Or.inl ho) p
    have hXW : SenP (wgW w L m c l r ph bt t p) o m P c l r ph pl dp := hX.cg hWo
    have hpt : mX2_parts o (wgW w L m c l r ph bt t p) = some (nI P, wgW w L m c l r ph bt t p) := by unfold mX2_parts; rw [hWo, hX.1]
    obtain ⟨s1, s2, s3⟩ := hXW.at3 hL hc hs k1
    rw [k2] at s1 s2 s3
    obtain ⟨f1, f2⟩ := row_first (W := wgW w L m c l r ph bt t p) (o := 4) (a := 2) (op := opT (decide (L = 8)) c ph bt t) hs hc hop (show P ≤ 81 from hP) (by decide) k1 (fun q hq2 => by
      rw [k2] at hq2
      exact setRow_in p hq2)
    obtain ⟨xl, yl⟩ := args_lt (ph := ph) (bt := bt) (gr := decide (L = 8)) (t := t) hs k1
    have ej := X_joined (x := argA c l (evV (opT (decide (L = 8)) c ph bt t) c l r) (rpF m ph p)) (wgW w L m c l r ph bt t p) hs128 yl
    have e41 : mX5_at 4 1 (nI p) (wgW w L m c l r ph bt t p) = some (w.1 4 1 p, wgW w L m c l r ph bt t p) := by
      rw [at_in _ (show p < 81 by omega) (by decide)]
      unfold wgW
      rw [setRow_row (Or.inr (by decide))]
    have hput : ∀ x, mX5_put 4 2 (nI p) x (wgW w L m c l r ph bt t p) = some ((), am_set (wgW w L m c l r ph bt t p) 4 2 p x) := fun x => put_in _ (show p < 81 by omega) (by decide)
    have epv : pvF (opT (decide (L = 8)) c ph bt t) c l r ph m p = opT (decide (L = 8)) c ph bt t (rpF m ph p) (argA c l (evV (opT (decide (L = 8)) c ph bt t) c l r) (rpF m ph p)) (argB c r (evV (opT (decide (L = 8)) c ph bt t) c l r) (rpF m ph p)) := evV_eq hs k1
    have ehq : hbB (decide (L = 8)) (c (rpF m ph p)) = hq L m c ph p := rfl
    have ev : nI p + 1 = nI (p + 1) := nI_add p 1
    have ebr : brF L m c l r ph bt t (p + 1) = brF L m c l r ph bt t p ||| (if hq L m c ph p = true then brP L m c l r ph bt t p * 2 ^ (bt p) else 0) := rfl
    have ewg : ∀ x, nI (pvF (opT (decide (L = 8)) c ph bt t) c l r ph m p) = x → am_set (wgW w L m c l r ph bt t p) 4 2 p x = wgW w L m c l r ph bt t (p + 1) := fun x hx => by rw [← hx]; rfl
    dsimp only
    rw [mX3_weigh_5, hpt, cl_mk, if_neg c1, s1, cl_mk, e41, cl_mk, s2, cl_mk, f1, cl_mk, s3, cl_mk, f2, cl_mk, ej, cl_mk, hbit p hp]
    cases z : hq L m c ph p
    · rw [if_neg (show ¬ (false = true) by decide), if_neg (show ¬ ((-9 : Int32) ≠ -9) from fun y => y rfl)]
      unfold mX3_weigh_95
      rw [hput, cl_mk, if_pos rfl]
      unfold mX3_weigh_126
      rw [nm_mk, ev, ewg _ (by
        rw [epv]
        unfold opT
        rw [ehq, z, if_neg (by decide)]), ebr, z, if_neg (by decide), Nat.or_zero]
    · have hb10 := hbt p hp z
      have n9 : nI (bt p) ≠ -9 := fun y => by
        have := nI_pos (show bt p < 2 ^ 31 by omega)
        rw [y] at this
        exact this (by decide)
      have ebit : ∀ W : AW, mX5_bit (nI t) (nI (bt p)) W = some (nI (bN (t.testBit (bt p))), W) := fun W => bit_B W (by omega) (by omega)
      have ebp : brg (c (rpF m ph p)) (argA c l (evV (opT (decide (L = 8)) c ph bt t) c l r) (rpF m ph p)) (joinF (c (rpF m ph p)) (argA c l (evV (opT (decide (L = 8)) c ph bt t) c l r) (rpF m ph p)) (argB c r (evV (opT (decide (L = 8)) c ph bt t) c l r) (rpF m ph p))) (bN (t.testBit (bt p))) = brP L m c l r ph bt t p := rfl
      have hbl := brP_lt (L := L) (bt := bt) (t := t) hs hc hp
      have hpw : 2 ^ bt p ≤ 2 ^ 9 := Nat.pow_le_pow_right (by decide) (by omega)
      have esh : nI (brP L m c l r ph bt t p) <<< (nI (bt p) &&& 31) = nI (brP L m c l r ph bt t p * 2 ^ bt p) := by
        have : nI (bt p) &&& 31 = nI (bt p &&& 31) := nI_and _ 31
        rw [this]
        refine shlN (by omega) ?_
        rcases (show brP L m c l r ph bt t p = 0 ∨ brP L m c l r ph bt t p = 1 by omega) with y | y
        · rw [y]; omega
        · rw [y]; omega
      rw [if_pos rfl, if_pos n9, ebit, cl_mk]
      unfold mX3_weigh_95
      rw [hput, cl_mk, if_neg n9, ebit, cl_mk, X_bearing _ hs128 xl, ebp, cl_mk, esh, nI_or, nm_mk]
      unfold mX3_weigh_126
      rw [nm_mk, ev, ewg _ (by
        rw [epv]
        unfold opT
        rw [ehq, z, if_pos rfl, k2]), ebr, z, if_pos rfl]
  · intro n
    have c1 : nI P ≤ nI P := nI_le (Nat.le_refl P) (by omega)
    have hWo : (wgW w L m c l r ph bt t P).1 o = w.1 o := by funext a; exact setRow_row (Or.inl ho) P
    have hpt : mX2_parts o (wgW w L m c l r ph bt t P) = some (nI P, wgW w L m c l r ph bt t P) := by unfold mX2_parts; rw [hWo, hX.1]
    have g40 : ∀ j, (wgW w L m c l r ph bt t P).1 4 0 j = w.1 4 0 j := fun j => congrFun (setRow_row (Or.inr (by decide)) P) j
    have p3 : ∀ x, mX5_put 4 3 (nI t) x (wgW w L m c l r ph bt t P) = some ((), am_set (wgW w L m c l r ph bt t P) 4 3 t x) := fun x => put_in _ (show t < 1024 from ht) (by decide)
    have p4 : ∀ (x y : Int32), mX5_put 4 4 (nI t) y (am_set (wgW w L m c l r ph bt t P) 4 3 t x) = some ((), am_set (am_set (wgW w L m c l r ph bt t P) 4 3 t x) 4 4 t y) := fun x y => put_in _ (show t < 1024 from ht) (by decide)
    have hpt2 : ∀ x y, mX2_parts o (am_set (am_set (wgW w L m c l r ph bt t P) 4 3 t x) 4 4 t y) = some (nI P, am_set (am_set (wgW w L m c l r ph bt t P) 4 3 t x) 4 4 t y) := fun x y => by unfold mX2_parts; rw [am_row_ne ho, am_row_ne ho, hWo, hX.1]
    have e42 : ∀ x y, mX5_at 4 2 (nI (P - 1)) (am_set (am_set (wgW w L m c l r ph bt t P) 4 3 t x) 4 4 t y) = some (nI (evV (opT (decide (L = 8)) c ph bt t) c l r (m - 1)), am_set (am_set (wgW w L m c l r ph bt t P) 4 3 t x) 4 4 t y) := fun x y => by
      rw [at_in _ (show P - 1 < 81 by omega) (by decide), am_get_row (Or.inr (by decide)), am_get_row (Or.inr (by decide))]
      unfold wgW
      rw [setRow_in P (by omega), ← hlast, pvF_eq hs hc hop (by omega)]
    have p5 : ∀ (x y z : Int32), mX5_put 4 5 (nI t) z (am_set (am_set (wgW w L m c l r ph bt t P) 4 3 t x) 4 4 t y) = some ((), am_set (am_set (am_set (wgW w L m c l r ph bt t P) 4 3 t x) 4 4 t y) 4 5 t z) := fun x y z => put_in _ (show t < 1024 from ht) (by decide)
    have ecl : (nI t ^^^ nI TU) &&& nI CL = nI (clN CL TU t) := by
      rw [nI_xor, nI_and]
      rfl
    dsimp only
    rw [mX3_weigh_5, hpt, cl_mk, if_pos c1, g40, g40, h9, h10, ecl, p3, cl_mk, p4, cl_mk, hpt2, cl_mk, show nI P - 1 = nI (P - 1) from pk_sub (a := P) (b := 1) hP0, e42, cl_mk, p5, cl_mk]
end WG
end
section
/-! the class: which types may see which, which must fall -/
def seeX (L CL TU : Nat) (br : Nat → Nat) (a b : Nat) : Bool := decide (sdiff (clN CL TU a) (br b) = 0) && (if L = 3 ∨ L = 4 ∨ L = 8 then decide (sdiff (clN CL TU a) (clN CL TU b) = 0) else if L = 5 ∨ L = 6 then decide (sdiff (clN CL TU b) (br a) = 0) else if L = 7 then decide (sdiff (clN CL TU b) (br a) = 0) && decide (clN CL TU a = clN CL TU b) else true)
def fitX (L CL TU : Nat) (br : Nat → Nat) (a : Nat) : Bool := if L = 2 ∨ L = 4 ∨ L = 6 ∨ L = 7 ∨ L = 8 then seeX L CL TU br a a else true
def TX (W : AW) (L Z CL TU OW : Nat) (br wh : Nat → Nat) : Prop := W.1 4 0 7 = nI L ∧ W.1 4 0 8 = nI Z ∧ W.1 4 0 11 = nI OW ∧ (∀ t, t < Z → W.1 4 3 t = nI (clN CL TU t) ∧ W.1 4 4 t = nI (br t) ∧ W.1 4 5 t = nI (wh t))
section SX
variable {W : AW} {L Z CL TU OW : Nat} {br wh : Nat → Nat}
theorem clN_lt (hC : CL < 2 ^ 10) (t : Nat) : clN CL TU t < 2 ^ 10 := Nat.lt_of_le_of_lt Nat.and_le_right hC
theorem X_claims (h : TX W L Z CL TU OW br wh) (hZ : Z ≤ 1024) {t : Nat} (ht : t < Z) : mX5_at 4 3 (nI t) W = some (nI (clN CL TU t), W) := by
  rw [at_in W (show t < 1024 by omega) (by decide), (h.2.2.2 t ht).1]
theorem X_br (h : TX W L Z CL TU OW br wh) (hZ : Z ≤ 1024) {t : Nat} (ht : t < Z) : mX5_at 4 4 (nI t) W = some (nI (br t), W) := by
  rw [at_in W (show t < 1024 by omega) (by decide), (h.2.2.2 t ht).2.1]
theorem X_maySee (h : TX W L Z CL TU OW br wh) (hZ : Z ≤ 1024) (hC : CL < 2 ^ 10) (hL : L < 9) {a b : Nat} (ha : a < Z) (hb : b < Z) : mX3_maySee (nI a) (nI b) W = some (nI (bN (seeX L CL TU br a b)), W) := by
  have ea := X_claims h hZ ha
  have eb := X_claims h hZ hb
  have ba := X_br h hZ ha
  have bb := X_br h hZ hb
  have la := clN_lt (CL := CL) (TU := TU) hC a
  have lb := clN_lt (CL := CL) (TU := TU) hC b
  have wi : ∀ x y : Nat, x < 2 ^ 10 → mX5_within (nI x) (nI y) W = some (nI (bN (decide (sdiff x y = 0))), W) := fun x y hx => within_B W hx (by decide)
  unfold mX3_maySee seeX
  rw [ea, cl_mk, bb, cl_mk, wi _ _ la, cl_mk, h.1]
  cases q : decide (sdiff (clN CL TU a) (br b) = 0)
  · rw [if_neg (show ¬ (nI (bN false) ≠ 0) from fun z => z rfl), Bool.false_and]
    rfl
  · rw [if_pos (show nI (bN true) ≠ 0 by decide), Bool.true_and]
    match L, hL with
    | 0, _ => rfl
    | 1, _ => rfl
    | 2, _ => rfl
    | 3, _ =>
      rw [if_pos (show nI 3 = 3 from rfl), ea, cl_mk, eb, cl_mk, wi _ _ la, cl_mk, zr_B, if_pos (Or.inl rfl)]
    | 4, _ =>
      rw [if_neg (show ¬ nI 4 = 3 by decide), if_pos (show nI 4 = 4 from rfl), ea, cl_mk, eb, cl_mk, wi _ _ la, cl_mk, zr_B, if_pos (Or.inr (Or.inl rfl))]
    | 5, _ =>
      rw [if_neg (show ¬ nI 5 = 3 by decide), if_neg (show ¬ nI 5 = 4 by decide), if_pos (show nI 5 = 5 from rfl), eb, cl_mk, ba, cl_mk, wi _ _ lb, cl_mk, zr_B, if_neg (by decide), if_pos (Or.inl rfl)]
    | 6, _ =>
      rw [if_neg (show ¬ nI 6 = 3 by decide), if_neg (show ¬ nI 6 = 4 by decide), if_neg (show ¬ nI 6 = 5 by decide), if_pos (show nI 6 = 6 from rfl), eb, cl_mk, ba, cl_mk, wi _ _ lb, cl_mk, zr_B, if_neg (by decide), if_pos (Or.inr rfl)]
    | 7, _ =>
      rw [if_neg (show ¬ nI 7 = 3 by decide), if_neg (show ¬ nI 7 = 4 by decide), if_neg (show ¬ nI 7 = 5 by decide), if_neg (show ¬ nI 7 = 6 by decide), if_pos (show nI 7 = 7 from rfl), eb, cl_mk, ba, cl_mk, wi _ _ lb, cl_mk, if_neg (show ¬ (7 = 3 ∨ 7 = 4 ∨ 7 = 8) by decide), if_neg (show ¬ (7 = 5 ∨ 7 = 6) by decide), if_pos (show 7 = 7 from rfl)]
      cases q2 : decide (sdiff (clN CL TU b) (br a) = 0)
      · rw [if_pos (show nI (bN false) = 0 from rfl), Bool.false_and]
        rfl
      · rw [if_neg (show ¬ (nI (bN true) = 0) by decide), ea, cl_mk, eb, cl_mk, Bool.true_and]
        by_cases q3 : clN CL TU a = clN CL TU b
        · rw [if_neg (show ¬ (nI (clN CL TU a) ≠ nI (clN CL TU b)) from fun z => z (by rw [q3])), decide_eq_true q3]
          rfl
        · rw [if_pos (ne_nI (by omega) (by omega) q3), decide_eq_false q3]
          rfl
    | 8, _ =>
      rw [if_neg (show ¬ nI 8 = 3 by decide), if_neg (show ¬ nI 8 = 4 by decide), if_neg (show ¬ nI 8 = 5 by decide), if_neg (show ¬ nI 8 = 6 by decide), if_neg (show ¬ nI 8 = 7 by decide), if_pos (show nI 8 = 8 from rfl), ea, cl_mk, eb, cl_mk, wi _ _ la, cl_mk, zr_B, if_pos (Or.inr (Or.inr rfl))]
theorem X_isFit (h : TX W L Z CL TU OW br wh) (hZ : Z ≤ 1024) (hC : CL < 2 ^ 10) (hL : L < 9) {a : Nat} (ha : a < Z) : mX3_isFit (nI a) W = some (nI (bN (fitX L CL TU br a)), W) := by
  have es := X_maySee h hZ hC hL ha ha
  unfold mX3_isFit fitX
  rw [h.1]
  match L, hL, es with
  | 0, _, _ => rfl
  | 1, _, _ => rfl
  | 2, _, es => rw [if_pos (show nI 2 = 2 from rfl), es, cl_mk, zr_B, if_pos (by decide)]
  | 3, _, _ => rfl
  | 4, _, es => rw [if_neg (show ¬ nI 4 = 2 by decide), if_neg (show ¬ nI 4 = 3 by decide), if_pos (show nI 4 = 4 from rfl), es, cl_mk, zr_B, if_pos (by decide)]
  | 5, _, _ => rfl
  | 6, _, es => rw [if_neg (show ¬ nI 6 = 2 by decide), if_neg (show ¬ nI 6 = 3 by decide), if_neg (show ¬ nI 6 = 4 by decide), if_neg (show ¬ nI 6 = 5 by decide), if_pos (show nI 6 = 6 from rfl), es, cl_mk, zr_B, if_pos (by decide)]
  | 7, _, es => rw [if_neg (show ¬ nI 7 = 2 by decide), if_neg (show ¬ nI 7 = 3 by decide), if_neg (show ¬ nI 7 = 4 by decide), if_neg (show ¬ nI 7 = 5 by decide), if_neg (show ¬ nI 7 = 6 by decide), if_pos (show nI 7 = 7 from rfl), es, cl_mk, zr_B, if_pos (by decide)]
  | 8, _, es => rw [if_neg (show ¬ nI 8 = 2 by decide), if_neg (show ¬ nI 8 = 3 by decide), if_neg (show ¬ nI 8 = 4 by decide), if_neg (show ¬ nI 8 = 5 by decide), if_neg (show ¬ nI 8 = 6 by decide), if_neg (show ¬ nI 8 = 7 by decide), if_pos (show nI 8 = 8 from rfl), es, cl_mk, zr_B, if_pos (by decide)]
/-- what is owed still, when the first n types have been asked: th says who is there -/
def owN (sees : Nat → Bool) (br : Nat → Nat) (o0 : Nat) : Nat → Nat
  | 0 => o0
  | n + 1 => if sees n = true then owN sees br o0 n &&& br n else owN sees br o0 n
def msN (sees : Nat → Bool) (b0 : Bool) : Nat → Bool
  | 0 => b0
  | n + 1 => msN sees b0 n && !sees n
def mfB (sees : Nat → Bool) (br : Nat → Nat) (o0 : Nat) (b0 : Bool) (Z : Nat) : Bool := !decide (owN sees br o0 Z = 0) || msN sees b0 Z
theorem owN_le {sees : Nat → Bool} {o0 : Nat} : ∀ n, owN sees br o0 n ≤ o0
  | 0 => Nat.le_refl _
  | n + 1 => by
    unfold owN
    split
    · exact Nat.le_trans Nat.and_le_left (owN_le n)
    · exact owN_le n
theorem owN_zero {sees : Nat → Bool} {o0 n k : Nat} (h : owN sees br o0 n = 0) (hk : n ≤ k) : owN sees br o0 k = 0 := by
  obtain ⟨d, rfl⟩ := Nat.exists_eq_add_of_le hk
  clear hk
  induction d with
  | zero => exact h
  | succ d ih =>
    show (if sees (n + d) = true then owN sees br o0 (n + d) &&& br (n + d) else owN sees br o0 (n + d)) = 0
    rw [ih, Nat.zero_and]
    split <;> rfl
theorem msN_false {sees : Nat → Bool} {b0 : Bool} {n k : Nat} (h : msN sees b0 n = false) (hk : n ≤ k) : msN sees b0 k = false := by
  obtain ⟨d, rfl⟩ := Nat.exists_eq_add_of_le hk
  clear hk
  induction d with
  | zero => exact h
  | succ d ih =>
    show (msN sees b0 (n + d) && !sees (n + d)) = false
    rw [ih, Bool.false_and]
/-- the same fold, over a list -/
def owP (sees : Nat → Bool) (br q : Nat → Nat) (o0 : Nat) : Nat → Nat
  | 0 => o0
  | n + 1 => if sees (q n) = true then owP sees br q o0 n &&& br (q n) else owP sees br q o0 n
def msP (sees : Nat → Bool) (q : Nat → Nat) (b0 : Bool) : Nat → Bool
  | 0 => b0
  | n + 1 => msP sees q b0 n && !sees (q n)
theorem owP_le {sees : Nat → Bool} {q : Nat → Nat} {o0 : Nat} : ∀ n, owP sees br q o0 n ≤ o0
  | 0 => Nat.le_refl _
  | n + 1 => by
    unfold owP
    split
    · exact Nat.le_trans Nat.and_le_left (owP_le n)
    · exact owP_le n
theorem owP_zero {sees : Nat → Bool} {q : Nat → Nat} {o0 n k : Nat} (h : owP sees br q o0 n = 0) (hk : n ≤ k) : owP sees br q o0 k = 0 := by
  obtain ⟨d, rfl⟩ := Nat.exists_eq_add_of_le hk
  clear hk
  induction d with
  | zero => exact h
  | succ d ih =>
    show (if sees (q (n + d)) = true then owP sees br q o0 (n + d) &&& br (q (n + d)) else owP sees br q o0 (n + d)) = 0
    rw [ih, Nat.zero_and]
    split <;> rfl
theorem msP_false {sees : Nat → Bool} {q : Nat → Nat} {b0 : Bool} {n k : Nat} (h : msP sees q b0 n = false) (hk : n ≤ k) : msP sees q b0 k = false := by
  obtain ⟨d, rfl⟩ := Nat.exists_eq_add_of_le hk
  clear hk
  induction d with
  | zero => exact h
  | succ d ih =>
    show (msP sees q b0 (n + d) && !sees (q (n + d))) = false
    rw [ih, Bool.false_and]
/-- a list of those there, in order: the fold over it is the fold over all -/
def LsOK (th : Nat → Bool) (q : Nat → Nat) (Z : Nat) : Prop := ∀ t, t < Z → th t = true → q (cntF th t) = t
theorem owP_owN {th sees : Nat → Bool} {q : Nat → Nat} {o0 : Nat} : ∀ t, LsOK th q t → owP sees br q o0 (cntF th t) = owN (fun u => th u && sees u) br o0 t
  | 0, _ => rfl
  | t + 1, h => by
    have ih := owP_owN (sees := sees) (o0 := o0) t (fun u hu => h u (by omega))
    have e : cntF th (t + 1) = cntF th t + bN (th t) := rfl
    show _ = if (th t && sees t) = true then owN (fun u => th u && sees u) br o0 t &&& br t else owN (fun u => th u && sees u) br o0 t
    cases z : th t
    · rw [e, z, bN_f, Nat.add_zero, ih, Bool.false_and, if_neg (by decide)]
    · rw [e, z, bN_t, Bool.true_and]
      show (if sees (q (cntF th t)) = true then owP sees br q o0 (cntF th t) &&& br (q (cntF th t)) else owP sees br q o0 (cntF th t)) = _
      rw [h t (by omega) z, ih]
theorem msP_msN {th sees : Nat → Bool} {q : Nat → Nat} {b0 : Bool} : ∀ t, LsOK th q t → msP sees q b0 (cntF th t) = msN (fun u => th u && sees u) b0 t
  | 0, _ => rfl
  | t + 1, h => by
    have ih := msP_msN (sees := sees) (b0 := b0) t (fun u hu => h u (by omega))
    have e : cntF th (t + 1) = cntF th t + bN (th t) := rfl
    show _ = (msN (fun u => th u && sees u) b0 t && !(th t && sees t))
    cases z : th t
    · rw [e, z, bN_f, Nat.add_zero, ih, Bool.false_and, Bool.not_false, Bool.and_true]
    · rw [e, z, bN_t, Bool.true_and]
      show (msP sees q b0 (cntF th t) && !sees (q (cntF th t))) = _
      rw [h t (by omega) z, ih]
theorem cnt_ex {h : Nat → Bool} {p : Nat} : ∀ n, p < cntF h n → ∃ t, t < n ∧ h t = true ∧ cntF h t = p := by
  intro n
  induction n with
  | zero => intro hp; exact absurd hp (Nat.not_lt_zero p)
  | succ n ih =>
    intro hp
    have e : cntF h (n + 1) = cntF h n + bN (h n) := rfl
    cases q : h n
    · rw [e, q, bN_f, Nat.add_zero] at hp
      obtain ⟨t, t1, t2, t3⟩ := ih hp
      exact ⟨t, by omega, t2, t3⟩
    · rw [e, q, bN_t] at hp
      by_cases z : p < cntF h n
      · obtain ⟨t, t1, t2, t3⟩ := ih z
        exact ⟨t, by omega, t2, t3⟩
      · exact ⟨n, by omega, q, by omega⟩
theorem cntF_up {h : Nat → Bool} {a b : Nat} (hab : a ≤ b) : cntF h a ≤ cntF h b := by
  obtain ⟨d, rfl⟩ := Nat.exists_eq_add_of_le hab
  clear hab
  induction d with
  | zero => exact Nat.le_refl _
  | succ d ih => exact Nat.le_trans ih (Nat.le_add_right _ _)
theorem cntF_lt {h : Nat → Bool} {a b : Nat} (hab : a < b) (ha : h a = true) : cntF h a < cntF h b := by
  have h1 := cntF_up (h := h) (show a + 1 ≤ b from hab)
  have h2 : cntF h (a + 1) = cntF h a + bN (h a) := rfl
  rw [ha, bN_t] at h2
  omega
/-- the list of those there, as it lies in the class -/
def StL (W : AW) (th : Nat → Bool) (Z : Nat) : Prop := W.1 4 0 13 = nI (cntF th Z) ∧ ∀ t, t < Z → th t = true → W.1 4 7 (cntF th t) = nI t
noncomputable def stQ (th : Nat → Bool) (Z p : Nat) : Nat := Classical.epsilon (fun t => t < Z ∧ th t = true ∧ cntF th t = p)
theorem stQ_spec {th : Nat → Bool} {Z p : Nat} (hp : p < cntF th Z) : stQ th Z p < Z ∧ th (stQ th Z p) = true ∧ cntF th (stQ th Z p) = p := Classical.epsilon_spec (p := fun t => t < Z ∧ th t = true ∧ cntF th t = p) (cnt_ex Z hp)
theorem cnt_inj1 {th : Nat → Bool} {t u : Nat} (ht : th t = true) (hu : th u = true) (h : cntF th t = cntF th u) : t = u := by
  rcases Nat.lt_trichotomy t u with z | z | z
  · have := cntF_lt z ht; omega
  · exact z
  · have := cntF_lt z hu; omega
theorem stQ_ls {th : Nat → Bool} {Z : Nat} : LsOK th (stQ th Z) Z := fun t ht hz => by
  have hl := cntF_lt ht hz
  obtain ⟨h1, h2, h3⟩ := stQ_spec hl
  exact cnt_inj1 h2 hz h3
theorem StL.at {th : Nat → Bool} (h : StL W th Z) (hZ : Z ≤ 1024) {p : Nat} (hp : p < cntF th Z) : mX5_at 4 7 (nI p) W = some (nI (stQ th Z p), W) := by
  obtain ⟨h1, h2, h3⟩ := stQ_spec hp
  have := cntF_le th Z
  rw [at_in W (show p < 1024 by omega) (by decide)]
  have e := h.2 _ h1 h2
  rw [h3] at e
  rw [e]
theorem X_mustFall (h : TX W L Z CL TU OW br wh) (hZ : Z ≤ 1024) (hC : CL < 2 ^ 10) (hO : OW < 2 ^ 10) (hL : L < 9) {t : Nat} (ht : t < Z) (th : Nat → Bool) (hS : StL W th Z) :
    mX3_mustFall (nI t) W = some (nI (bN (mfB (fun u => th u && seeX L CL TU br t u) br (sdiff OW (clN CL TU t)) (decide (L = 1)) Z)), W) := by
  have o0l : sdiff OW (clN CL TU t) < 2 ^ 10 := sdiff_lt hO
  have hcZ := cntF_le th Z
  have ol : ∀ n, owP (seeX L CL TU br t) br (stQ th Z) (sdiff OW (clN CL TU t)) n < 2 ^ 10 := fun n => Nat.lt_of_le_of_lt (owP_le n) o0l
  have hex : ∃ n, n = cntF th Z ∨ (owP (seeX L CL TU br t) br (stQ th Z) (sdiff OW (clN CL TU t)) n = 0 ∧ msP (seeX L CL TU br t) (stQ th Z) (decide (L = 1)) n = false) := ⟨cntF th Z, Or.inl rfl⟩
  obtain ⟨E, hE, hmin⟩ := pk_least _ hex
  have hEZ : E ≤ cntF th Z := by
    rcases Nat.lt_or_ge (cntF th Z) E with q | q
    · exact absurd (Or.inl rfl) (hmin _ q)
    · exact q
  have fo := owP_owN (br := br) (sees := seeX L CL TU br t) (o0 := sdiff OW (clN CL TU t)) Z (stQ_ls (th := th) (Z := Z))
  have fm := msP_msN (sees := seeX L CL TU br t) (b0 := decide (L = 1)) Z (stQ_ls (th := th) (Z := Z))
  have run : mX3_mustFall_33 (nI t) FU (nI (sdiff OW (clN CL TU t))) (nI (bN (decide (L = 1)))) (nI 0) W = some (nI (bN (mfB (fun u => th u && seeX L CL TU br t u) br (sdiff OW (clN CL TU t)) (decide (L = 1)) Z)), W) := by
    refine loopE (fun n (s : Int32 × Int32 × Int32) => mX3_mustFall_33 (nI t) n s.1 s.2.1 s.2.2 W) E (fun k => (nI (owP (seeX L CL TU br t) br (stQ th Z) (sdiff OW (clN CL TU t)) k), nI (bN (msP (seeX L CL TU br t) (stQ th Z) (decide (L = 1)) k)), nI k)) _ ?_ ?_ FU 0 (Nat.zero_le _) (FU_gt (by omega))
    · intro n p hp
      have hpc : p < cntF th Z := by omega
      obtain ⟨huZ, -, -⟩ := stQ_spec hpc
      have c1 : ¬ nI (cntF th Z) ≤ nI p := nI_ge hpc (by omega)
      have hno := hmin p hp
      have ev : nI p + 1 = nI (p + 1) := nI_add p 1
      have e90 : ∀ (a b : Int32), mX3_mustFall_90 (mX3_mustFall_33 (nI t) n) (nI t) a b (nI p) W = mX3_mustFall_33 (nI t) n a b (nI (p + 1)) W := fun a b => by
        unfold mX3_mustFall_90
        rw [nm_mk, ev]
      have s1 : owP (seeX L CL TU br t) br (stQ th Z) (sdiff OW (clN CL TU t)) (p + 1) = if seeX L CL TU br t (stQ th Z p) = true then owP (seeX L CL TU br t) br (stQ th Z) (sdiff OW (clN CL TU t)) p &&& br (stQ th Z p) else owP (seeX L CL TU br t) br (stQ th Z) (sdiff OW (clN CL TU t)) p := rfl
      have s2 : msP (seeX L CL TU br t) (stQ th Z) (decide (L = 1)) (p + 1) = (msP (seeX L CL TU br t) (stQ th Z) (decide (L = 1)) p && !seeX L CL TU br t (stQ th Z p)) := rfl
      have e52 : mX3_mustFall_52 (mX3_mustFall_33 (nI t) n) (nI t) (nI (owP (seeX L CL TU br t) br (stQ th Z) (sdiff OW (clN CL TU t)) p)) (nI (bN (msP (seeX L CL TU br t) (stQ th Z) (decide (L = 1)) p))) (nI p) W = mX3_mustFall_33 (nI t) n (nI (owP (seeX L CL TU br t) br (stQ th Z) (sdiff OW (clN CL TU t)) (p + 1))) (nI (bN (msP (seeX L CL TU br t) (stQ th Z) (decide (L = 1)) (p + 1)))) (nI (p + 1)) W := by
        unfold mX3_mustFall_52
        rw [hS.at hZ hpc, cl_mk, X_maySee h hZ hC hL ht huZ, cl_mk]
        cases q2 : seeX L CL TU br t (stQ th Z p)
        · rw [if_neg (show ¬ (nI (bN false) ≠ 0) from fun z => z rfl), e90, s1, s2, q2, if_neg (by decide), Bool.not_false, Bool.and_true]
        · rw [if_pos (show nI (bN true) ≠ 0 by decide), X_br h hZ huZ, cl_mk, nI_and, nm_mk, e90, s1, s2, q2, if_pos rfl, Bool.not_true, Bool.and_false]
          rfl
      dsimp only
      rw [mX3_mustFall_33, hS.1, if_neg c1]
      by_cases z : owP (seeX L CL TU br t) br (stQ th Z) (sdiff OW (clN CL TU t)) p = 0
      · have z2 : msP (seeX L CL TU br t) (stQ th Z) (decide (L = 1)) p = true := by
          cases y : msP (seeX L CL TU br t) (stQ th Z) (decide (L = 1)) p
          · exact absurd (Or.inr ⟨z, y⟩) hno
          · rfl
        rw [if_neg (show ¬ (nI (owP (seeX L CL TU br t) br (stQ th Z) (sdiff OW (clN CL TU t)) p) ≠ 0) from fun y => y (by rw [z]; rfl)), if_pos (show nI (bN (msP (seeX L CL TU br t) (stQ th Z) (decide (L = 1)) p)) ≠ 0 by rw [z2]; decide)]
        exact e52
      · rw [if_pos (show nI (owP (seeX L CL TU br t) br (stQ th Z) (sdiff OW (clN CL TU t)) p) ≠ 0 from ne_nI (b := 0) (by have := ol p; omega) (by decide) z)]
        exact e52
    · intro n
      dsimp only
      rw [mX3_mustFall_33, hS.1]
      unfold mfB mX3_mustFall_104
      rw [← fo, ← fm]
      by_cases z : owP (seeX L CL TU br t) br (stQ th Z) (sdiff OW (clN CL TU t)) E = 0
      · have n0 : ¬ (nI (owP (seeX L CL TU br t) br (stQ th Z) (sdiff OW (clN CL TU t)) E) ≠ 0) := fun y => y (by rw [z]; rfl)
        rw [owP_zero z hEZ, decide_eq_true rfl, Bool.not_true, Bool.false_or, if_neg n0, if_neg n0]
        cases q : msP (seeX L CL TU br t) (stQ th Z) (decide (L = 1)) E
        · rw [msP_false q hEZ]
          by_cases y : nI (cntF th Z) ≤ nI E
          · rw [if_pos y, if_pos (show nI (bN false) = 0 from rfl)]
            rfl
          · rw [if_neg y, if_neg (show ¬ (nI (bN false) ≠ 0) from fun x => x rfl)]
            rfl
        · have hEq : E = cntF th Z := by
            rcases hE with y | ⟨-, y⟩
            · exact y
            · rw [q] at y; cases y
          rw [← hEq, q, if_pos (nI_le (Nat.le_refl E) (by omega)), if_neg (show ¬ (nI (bN true) = 0) by decide)]
          rfl
      · have hEq : E = cntF th Z := by
          rcases hE with y | ⟨y, -⟩
          · exact y
          · exact absurd y z
        rw [← hEq, decide_eq_false z, if_pos (nI_le (Nat.le_refl E) (by omega)), if_pos (show nI (owP (seeX L CL TU br t) br (stQ th Z) (sdiff OW (clN CL TU t)) E) ≠ 0 from ne_nI (b := 0) (by have := ol E; omega) (by decide) z)]
        rfl
  unfold mX3_mustFall
  rw [X_claims h hZ ht, cl_mk, h.2.2.1]
  have es : nI OW &&& (nI (clN CL TU t) ^^^ (-1)) = nI (sdiff OW (clN CL TU t)) := nI_sdiff OW _
  rw [es, nm_mk, h.1]
  unfold mX3_mustFall_29
  by_cases h1 : L = 1
  · rw [if_neg (show ¬ (nI L ≠ 1) from fun z => z (by rw [h1]; rfl))]
    rw [decide_eq_true h1] at run ⊢
    exact run
  · rw [if_pos (show nI L ≠ 1 from ne_nI (b := 1) (by omega) (by decide) h1)]
    rw [decide_eq_false h1] at run ⊢
    exact run
end SX
end
section
/-! rounds in which types fall (both sides), and the class's -/
def thN (fit : Nat → Bool) (mf : (Nat → Bool) → Nat → Bool) : Nat → Nat → Bool
  | 0 => fit
  | r + 1 => fun t => thN fit mf r t && !mf (thN fit mf r) t
def flV (fit : Nat → Bool) (mf : (Nat → Bool) → Nat → Bool) : Nat → Nat → Int32
  | 0 => fun t => if fit t = true then -9 else nI 0
  | r + 1 => fun t => if thN fit mf r t = true ∧ mf (thN fit mf r) t = true then nI (r + 1) else flV fit mf r t
section FL
variable {fit : Nat → Bool} {mf : (Nat → Bool) → Nat → Bool}
theorem nI_n9 {k : Nat} (h : k < 2 ^ 31) : nI k ≠ -9 := fun z => by
  have := nI_pos h
  rw [z] at this
  exact this (by decide)
theorem flV_th (hr : ∀ r, r < 2 ^ 20 → True) : ∀ r, r < 2 ^ 20 → ∀ t, (flV fit mf r t = -9 ↔ thN fit mf r t = true) ∧ (flV fit mf r t = -9 ∨ ∃ s, s ≤ r ∧ flV fit mf r t = nI s) := by
  intro r
  induction r with
  | zero =>
    intro _ t
    show ((if fit t = true then (-9 : Int32) else nI 0) = -9 ↔ fit t = true) ∧ ((if fit t = true then (-9 : Int32) else nI 0) = -9 ∨ ∃ s, s ≤ 0 ∧ (if fit t = true then (-9 : Int32) else nI 0) = nI s)
    by_cases h : fit t = true
    · rw [if_pos h]
      exact ⟨⟨fun _ => h, fun _ => rfl⟩, Or.inl rfl⟩
    · rw [if_neg h]
      exact ⟨⟨fun z => absurd z (nI_n9 (by decide)), fun z => absurd z h⟩, Or.inr ⟨0, Nat.le_refl 0, rfl⟩⟩
  | succ r ih =>
    intro h20 t
    obtain ⟨i1, i2⟩ := ih (by omega) t
    have e1 : flV fit mf (r + 1) t = if thN fit mf r t = true ∧ mf (thN fit mf r) t = true then nI (r + 1) else flV fit mf r t := rfl
    have e2 : thN fit mf (r + 1) t = (thN fit mf r t && !mf (thN fit mf r) t) := rfl
    rw [e1, e2]
    by_cases h : thN fit mf r t = true ∧ mf (thN fit mf r) t = true
    · rw [if_pos h, h.1, h.2]
      exact ⟨⟨fun z => absurd z (nI_n9 (by omega)), fun z => by cases z⟩, Or.inr ⟨r + 1, Nat.le_refl _, rfl⟩⟩
    · rw [if_neg h]
      refine ⟨?_, ?_⟩
      · rw [i1]
        cases q : thN fit mf r t
        · exact ⟨(fun z => by cases z), (fun z => by cases z)⟩
        · cases q2 : mf (thN fit mf r) t
          · exact ⟨fun _ => rfl, fun _ => rfl⟩
          · exact absurd ⟨q, q2⟩ h
      · rcases i2 with i2 | ⟨s, s1, s2⟩
        · exact Or.inl i2
        · exact Or.inr ⟨s, by omega, s2⟩
def anyN (fit : Nat → Bool) (mf : (Nat → Bool) → Nat → Bool) (Z r : Nat) : Bool := exB (fun t => thN fit mf r t && mf (thN fit mf r) t) Z
theorem any_cnt {Z r : Nat} (h : ∀ s, s < r → anyN fit mf Z s = true) : cntF (thN fit mf r) Z + r ≤ Z := by
  induction r with
  | zero => exact cntF_le _ Z
  | succ r ih =>
    have i1 := ih (fun s hs => h s (by omega))
    obtain ⟨t, t1, t2⟩ := exB_iff.mp (h r (Nat.lt_succ_self r))
    rw [Bool.and_eq_true] at t2
    have := cntF_strict (h := thN fit mf (r + 1)) (g := thN fit mf r) t1 (fun q _ z => by
      have : (thN fit mf r q && !mf (thN fit mf r) q) = true := z
      rw [Bool.and_eq_true] at this
      exact this.1) (by
      show (thN fit mf r t && !mf (thN fit mf r) t) = false
      rw [t2.1, t2.2]
      rfl) t2.1
    omega
theorem any_end (Z : Nat) : ∃ r, r ≤ Z ∧ anyN fit mf Z r = false ∧ ∀ s, s < r → anyN fit mf Z s = true := by
  have hex : ∃ r, anyN fit mf Z r = false := by
    apply Classical.byContradiction
    intro hno
    have : ∀ s, anyN fit mf Z s = true := fun s => by
      cases q : anyN fit mf Z s
      · exact absurd ⟨s, q⟩ hno
      · rfl
    have := any_cnt (Z := Z) (r := Z + 1) (fun s _ => this s)
    omega
  obtain ⟨r, h1, h2⟩ := pk_least _ hex
  have h3 : ∀ s, s < r → anyN fit mf Z s = true := fun s hs => by
    cases q : anyN fit mf Z s
    · exact absurd q (h2 s hs)
    · rfl
  have := any_cnt h3
  exact ⟨r, by omega, h1, h3⟩
end FL
theorem am_same {w : AW} {o a i : Nat} {x : Int32} (h : w.1 o a i = x) : am_set w o a i x = w := by
  unfold am_set
  refine Prod.ext ?_ rfl
  funext o' a' i'
  show (if o' = o ∧ a' = a ∧ i' = i then x else w.1 o' a' i') = w.1 o' a' i'
  by_cases q : o' = o ∧ a' = a ∧ i' = i
  · rw [if_pos q, q.1, q.2.1, q.2.2, h]
  · rw [if_neg q]
section RX
variable {W : AW} {L Z CL TU OW : Nat} {br wh : Nat → Nat}
def mfX (L Z CL TU OW : Nat) (br : Nat → Nat) (th : Nat → Bool) (t : Nat) : Bool := mfB (fun u => th u && seeX L CL TU br t u) br (sdiff OW (clN CL TU t)) (decide (L = 1)) Z
theorem TX.row {W W2 : AW} (h : TX W L Z CL TU OW br wh) (e7 : W2.1 4 0 7 = W.1 4 0 7) (e8 : W2.1 4 0 8 = W.1 4 0 8) (e11 : W2.1 4 0 11 = W.1 4 0 11) (e3 : W2.1 4 3 = W.1 4 3) (e4 : W2.1 4 4 = W.1 4 4) (e5 : W2.1 4 5 = W.1 4 5) : TX W2 L Z CL TU OW br wh := by
  unfold TX
  rw [e7, e8, e11, e3, e4, e5]
  exact h
theorem StL.row {W W2 : AW} {th : Nat → Bool} {Z : Nat} (h : StL W th Z) (e13 : W2.1 4 0 13 = W.1 4 0 13) (e7 : W2.1 4 7 = W.1 4 7) : StL W2 th Z := by
  unfold StL
  rw [e13, e7]
  exact h
/-- the first half of a round: those that must fall have fallen, of the first k in the list -/
noncomputable def p1W (W : AW) (th mf : Nat → Bool) (Z r : Nat) : Nat → AW
  | 0 => W
  | k + 1 => if mf (stQ th Z k) = true then am_set (p1W W th mf Z r k) 4 6 (stQ th Z k) (nI (r + 1)) else p1W W th mf Z r k
theorem p1_row {th mf : Nat → Bool} {r o a : Nat} (h : o ≠ 4 ∨ a ≠ 6) : ∀ k, (p1W W th mf Z r k).1 o a = W.1 o a
  | 0 => rfl
  | k + 1 => by
    unfold p1W
    split
    · rw [am_get_row h, p1_row h k]
    · exact p1_row h k
theorem p1_K {th mf : Nat → Bool} {r : Nat} : ∀ k, KX W (p1W W th mf Z r k)
  | 0 => KX.rf W
  | k + 1 => by
    unfold p1W
    split
    · exact (p1_K k).set (Or.inl ⟨by decide, by decide⟩)
    · exact p1_K k
theorem p1_out {th mf : Nat → Bool} {r u : Nat} : ∀ k, k ≤ cntF th Z → (th u = true → k ≤ cntF th u) → (p1W W th mf Z r k).1 4 6 u = W.1 4 6 u
  | 0, _, _ => rfl
  | k + 1, hk, h => by
    have ih := p1_out (th := th) (u := u) (r := r) (mf := mf) k (by omega) (fun z => by have := h z; omega)
    obtain ⟨s1, s2, s3⟩ := stQ_spec (th := th) (Z := Z) (p := k) (by omega)
    unfold p1W
    split
    · rw [am_get_other (fun e => by rw [e] at h; have := h s2; omega)]
      exact ih
    · exact ih
theorem p1_in {th mf : Nat → Bool} {r u : Nat} (hu : th u = true) (huZ : u < Z) : ∀ k, k ≤ cntF th Z → cntF th u < k → (p1W W th mf Z r k).1 4 6 u = if mf u = true then nI (r + 1) else W.1 4 6 u
  | 0, _, h => absurd h (Nat.not_lt_zero _)
  | k + 1, hk, h => by
    obtain ⟨s1, s2, s3⟩ := stQ_spec (th := th) (Z := Z) (p := k) (by omega)
    by_cases e : cntF th u = k
    · have eu : stQ th Z k = u := cnt_inj1 s2 hu (by omega)
      have io := p1_out (r := r) (W := W) (mf := mf) (u := u) (th := th) (Z := Z) k (by omega) (fun _ => by omega)
      unfold p1W
      rw [eu]
      split
      · exact am_get_self _ _ _ _ _
      · exact io
    · have ih := p1_in (th := th) (u := u) (r := r) (mf := mf) hu huZ k (by omega) (by omega)
      unfold p1W
      by_cases q : mf (stQ th Z k) = true
      · rw [if_pos q, am_get_other (fun z => e (by rw [z]; exact s3)), ih]
      · rw [if_neg q, ih]
theorem X_stay {t n : Nat} (ht : t < 1024) (hn : n < 1024) (h13 : W.1 4 0 13 = nI n) : mX3_stay (nI t) W = some ((), am_set (am_set (am_set W 4 6 t (-9)) 4 7 n (nI t)) 4 0 13 (nI (n + 1))) := by
  have p1 : ∀ x, mX5_put 4 6 (nI t) x W = some ((), am_set W 4 6 t x) := fun x => put_in _ (show t < 1024 from ht) (by decide)
  have p2 : ∀ x y, mX5_put 4 7 (nI n) x (am_set W 4 6 t y) = some ((), am_set (am_set W 4 6 t y) 4 7 n x) := fun x y => put_in _ (show n < 1024 from hn) (by decide)
  unfold mX3_stay
  rw [p1, cl_mk, am_get_row (by decide), h13, p2, cl_mk, am_get_row (by decide), am_get_row (by decide), h13, show nI n + 1 = nI (n + 1) from nI_add n 1, pu_mk]
theorem cnt_sub {th th' : Nat → Bool} {Z : Nat} (hs : ∀ t, th' t = true → th t = true) : ∀ t, t ≤ Z → cntF th' t = cntF (fun p => th' (stQ th Z p)) (cntF th t)
  | 0, _ => rfl
  | t + 1, h => by
    have ih := cnt_sub (Z := Z) hs t (by omega)
    have e1 : cntF th (t + 1) = cntF th t + bN (th t) := rfl
    have e2 : cntF th' (t + 1) = cntF th' t + bN (th' t) := rfl
    cases z : th t
    · have z' : th' t = false := by
        cases y : th' t
        · rfl
        · rw [hs t y] at z; cases z
      rw [e1, e2, z, z', bN_f, Nat.add_zero, Nat.add_zero, ih]
    · rw [e1, e2, z, bN_t, ih]
      show _ = cntF (fun p => th' (stQ th Z p)) (cntF th t) + bN (th' (stQ th Z (cntF th t)))
      rw [stQ_ls t (by omega) z]
/-- the second half: the list is closed up -/
theorem X_close {W0 : AW} {th th' : Nat → Bool} (hZ : Z ≤ 1024) (hs : ∀ t, th' t = true → th t = true) (h6 : ∀ t, t < Z → (W0.1 4 6 t = -9 ↔ th' t = true)) (h7 : ∀ p, p < cntF th Z → W0.1 4 7 p = nI (stQ th Z p)) : ∀ (e k n : Nat) (W : AW), cntF th Z = k + e → e < n → KX W0 W → (∀ o a, (o ≠ 4 ∨ (a ≠ 0 ∧ a ≠ 7)) → W.1 o a = W0.1 o a) → (∀ j, j ≠ 13 → W.1 4 0 j = W0.1 4 0 j) → W.1 4 0 13 = nI (cntF (fun p => th' (stQ th Z p)) k) → (∀ p, p < k → th' (stQ th Z p) = true → W.1 4 7 (cntF (fun p => th' (stQ th Z p)) p) = nI (stQ th Z p)) → (∀ p, k ≤ p → p < cntF th Z → W.1 4 7 p = nI (stQ th Z p)) →
    ∃ W2, mX3_anyFall_54 (nI (cntF th Z)) n (nI k) W = some (nI (bN (decide (cntF th' Z < cntF th Z))), W2) ∧ KX W0 W2 ∧ (∀ o a, (o ≠ 4 ∨ (a ≠ 0 ∧ a ≠ 7)) → W2.1 o a = W0.1 o a) ∧ (∀ j, j ≠ 13 → W2.1 4 0 j = W0.1 4 0 j) ∧ StL W2 th' Z := by
  have hcZ := cntF_le th Z
  intro e
  induction e with
  | zero =>
    intro k n W he hn hK h1 h2 h3 h4 h5
    obtain ⟨n, rfl⟩ : ∃ q, n = q + 1 := ⟨n - 1, by omega⟩
    have e2 : k = cntF th Z := by omega
    have e3 : cntF th' Z = cntF (fun p => th' (stQ th Z p)) k := by rw [e2]; exact cnt_sub (Z := Z) hs Z (Nat.le_refl Z)
    have hle := cntF_le (fun p => th' (stQ th Z p)) k
    refine ⟨W, ?_, hK, h1, h2, by rw [e3]; exact h3, fun t ht hz => ?_⟩
    · rw [mX3_anyFall_54, if_pos (nI_le (by omega) (by omega)), h3, ← e3]
      by_cases q : cntF th Z ≤ cntF th' Z
      · rw [if_pos (nI_le q (by omega)), decide_eq_false (by omega)]
        rfl
      · rw [if_neg (nI_ge (by omega) (by omega)), decide_eq_true (by omega)]
        rfl
    · have q1 := hs t hz
      have q2 := stQ_ls (th := th) (Z := Z) t ht q1
      have q3 := h4 (cntF th t) (by rw [e2]; exact cntF_lt ht q1) (by rw [q2]; exact hz)
      rw [q2] at q3
      rw [cnt_sub (Z := Z) hs t (by omega)]
      exact q3
  | succ e ih =>
    intro k n W he hn hK h1 h2 h3 h4 h5
    obtain ⟨n, rfl⟩ : ∃ q, n = q + 1 := ⟨n - 1, by omega⟩
    have hk : k < cntF th Z := by omega
    obtain ⟨s1, s2, s3⟩ := stQ_spec hk
    have ev : nI k + 1 = nI (k + 1) := nI_add k 1
    have e89 : ∀ V : AW, mX3_anyFall_89 (mX3_anyFall_54 (nI (cntF th Z)) n) (nI (cntF th Z)) (nI k) V = mX3_anyFall_54 (nI (cntF th Z)) n (nI (k + 1)) V := fun V => by
      unfold mX3_anyFall_89
      rw [nm_mk, ev]
    have e7 : mX5_at 4 7 (nI k) W = some (nI (stQ th Z k), W) := by rw [at_in W (show k < 1024 by omega) (by decide), h5 k (Nat.le_refl k) hk]
    have e6 : mX5_at 4 6 (nI (stQ th Z k)) W = some (W0.1 4 6 (stQ th Z k), W) := by rw [at_in W (show stQ th Z k < 1024 by omega) (by decide), h1 4 6 (Or.inr ⟨by decide, by decide⟩)]
    have hd := h6 _ s1
    have ecn : cntF (fun p => th' (stQ th Z p)) (k + 1) = cntF (fun p => th' (stQ th Z p)) k + bN (th' (stQ th Z k)) := rfl
    have hle := cntF_le (fun p => th' (stQ th Z p)) k
    cases q : th' (stQ th Z k)
    · have n9 : W0.1 4 6 (stQ th Z k) ≠ -9 := fun z => by rw [hd.mp z] at q; cases q
      obtain ⟨W2, f⟩ := ih (k + 1) n W (by omega) (by omega) hK h1 h2 (by rw [ecn, q]; exact h3) (fun p hp z => by
        by_cases y : p = k
        · rw [y, q] at z; cases z
        · exact h4 p (by omega) z) (fun p hp hp2 => h5 p (by omega) hp2)
      refine ⟨W2, ?_, f.2⟩
      rw [mX3_anyFall_54, if_neg (nI_ge hk (by omega)), e7, cl_mk, e6, cl_mk, if_pos n9, e89]
      exact f.1
    · have y9 := hd.mpr q
      have est := X_stay (W := W) (t := stQ th Z k) (by omega) (show cntF (fun p => th' (stQ th Z p)) k < 1024 by omega) h3
      have same : am_set W 4 6 (stQ th Z k) (-9) = W := am_same (by rw [h1 4 6 (Or.inr ⟨by decide, by decide⟩)]; exact y9)
      rw [same] at est
      obtain ⟨W2, f⟩ := ih (k + 1) n (am_set (am_set W 4 7 (cntF (fun p => th' (stQ th Z p)) k) (nI (stQ th Z k))) 4 0 13 (nI (cntF (fun p => th' (stQ th Z p)) k + 1))) (by omega) (by omega) ((hK.set (Or.inl ⟨by decide, by decide⟩)).set (Or.inl ⟨by decide, by decide⟩)) (fun o a z => by rw [am_get_row (by omega), am_get_row (by omega)]; exact h1 o a z) (fun j z => by rw [am_get_other z, am_get_row (by decide)]; exact h2 j z) (by rw [am_get_self, ecn, q]; rfl) (fun p hp z => by
        rw [am_get_row (by decide)]
        by_cases y : p = k
        · rw [y, am_get_self]
        · have hlt := cntF_lt (h := fun p => th' (stQ th Z p)) (show p < k by omega) z
          rw [am_get_other (by omega)]
          exact h4 p (by omega) z) (fun p hp hp2 => by
        rw [am_get_row (by decide), am_get_other (by omega)]
        exact h5 p (by omega) hp2)
      refine ⟨W2, ?_, f.2⟩
      rw [mX3_anyFall_54, if_neg (nI_ge hk (by omega)), e7, cl_mk, e6, cl_mk, y9, if_neg (fun z => z rfl), est, cl_mk, e89]
      exact f.1
theorem X_anyFall (h : TX W L Z CL TU OW br wh) (hZ : Z ≤ 1024) (hC : CL < 2 ^ 10) (hO : OW < 2 ^ 10) (hL : L < 9) {fit : Nat → Bool} {r : Nat} (hr : r < 2000) (hF : ∀ u, u < Z → W.1 4 6 u = flV fit (mfX L Z CL TU OW br) r u) (hS : StL W (thN fit (mfX L Z CL TU OW br) r) Z) :
    ∃ W2, mX3_anyFall (nI (r + 1)) W = some (nI (bN (anyN fit (mfX L Z CL TU OW br) Z r)), W2) ∧ KX W W2 ∧ TX W2 L Z CL TU OW br wh ∧ (∀ u, u < Z → W2.1 4 6 u = flV fit (mfX L Z CL TU OW br) (r + 1) u) ∧ StL W2 (thN fit (mfX L Z CL TU OW br) (r + 1)) Z ∧ W2.1 4 0 12 = W.1 4 0 12 := by
  have hth := flV_th (fit := fit) (mf := mfX L Z CL TU OW br) (fun _ _ => trivial) (r + 1) (by omega)
  have hth0 := flV_th (fit := fit) (mf := mfX L Z CL TU OW br) (fun _ _ => trivial) r (by omega)
  have efl : ∀ t, flV fit (mfX L Z CL TU OW br) (r + 1) t = if thN fit (mfX L Z CL TU OW br) r t = true ∧ mfX L Z CL TU OW br (thN fit (mfX L Z CL TU OW br) r) t = true then nI (r + 1) else flV fit (mfX L Z CL TU OW br) r t := fun _ => rfl
  have ety : ∀ t, thN fit (mfX L Z CL TU OW br) (r + 1) t = (thN fit (mfX L Z CL TU OW br) r t && !mfX L Z CL TU OW br (thN fit (mfX L Z CL TU OW br) r) t) := fun _ => rfl
  have ean : anyN fit (mfX L Z CL TU OW br) Z r = exB (fun t => thN fit (mfX L Z CL TU OW br) r t && mfX L Z CL TU OW br (thN fit (mfX L Z CL TU OW br) r) t) Z := rfl
  generalize hth' : thN fit (mfX L Z CL TU OW br) (r + 1) = th' at *
  generalize hfl' : flV fit (mfX L Z CL TU OW br) (r + 1) = fl' at *
  generalize hfl : flV fit (mfX L Z CL TU OW br) r = fl at *
  generalize hthe : thN fit (mfX L Z CL TU OW br) r = th at *
  have hcZ := cntF_le th Z
  -- the first half
  have first : mX3_anyFall_7 (nI (r + 1)) (nI (cntF th Z)) FU (nI 0) W = mX3_anyFall_54 (nI (cntF th Z)) FU (nI 0) (am_set (p1W W th (mfX L Z CL TU OW br th) Z r (cntF th Z)) 4 0 13 (nI 0)) := by
    refine loopE (fun n (s : Int32 × AW) => mX3_anyFall_7 (nI (r + 1)) (nI (cntF th Z)) n s.1 s.2) (cntF th Z) (fun k => (nI k, p1W W th (mfX L Z CL TU OW br th) Z r k)) _ ?_ ?_ FU 0 (Nat.zero_le _) (FU_gt (by omega))
    · intro n p hp
      obtain ⟨s1, s2, s3⟩ := stQ_spec hp
      have ev : nI p + 1 = nI (p + 1) := nI_add p 1
      have hT : TX (p1W W th (mfX L Z CL TU OW br th) Z r p) L Z CL TU OW br wh := h.row (by rw [p1_row (Or.inr (by decide))]) (by rw [p1_row (Or.inr (by decide))]) (by rw [p1_row (Or.inr (by decide))]) (p1_row (Or.inr (by decide)) p) (p1_row (Or.inr (by decide)) p) (p1_row (Or.inr (by decide)) p)
      have hS2 : StL (p1W W th (mfX L Z CL TU OW br th) Z r p) th Z := hS.row (by rw [p1_row (Or.inr (by decide))]) (p1_row (Or.inr (by decide)) p)
      have emf : mX3_mustFall (nI (stQ th Z p)) (p1W W th (mfX L Z CL TU OW br th) Z r p) = some (nI (bN (mfX L Z CL TU OW br th (stQ th Z p))), p1W W th (mfX L Z CL TU OW br th) Z r p) := X_mustFall hT hZ hC hO hL s1 th hS2
      have es : p1W W th (mfX L Z CL TU OW br th) Z r (p + 1) = if mfX L Z CL TU OW br th (stQ th Z p) = true then am_set (p1W W th (mfX L Z CL TU OW br th) Z r p) 4 6 (stQ th Z p) (nI (r + 1)) else p1W W th (mfX L Z CL TU OW br th) Z r p := rfl
      have e41 : ∀ V : AW, mX3_anyFall_41 (mX3_anyFall_7 (nI (r + 1)) (nI (cntF th Z)) n) (nI (r + 1)) (nI (cntF th Z)) (nI p) V = mX3_anyFall_7 (nI (r + 1)) (nI (cntF th Z)) n (nI (p + 1)) V := fun V => by
        unfold mX3_anyFall_41
        rw [nm_mk, ev]
      dsimp only
      rw [mX3_anyFall_7, if_neg (nI_ge hp (by omega)), hS2.at hZ hp, cl_mk, emf, cl_mk, es]
      cases q : mfX L Z CL TU OW br th (stQ th Z p)
      · rw [if_pos (show nI (bN false) = 0 from rfl), e41, if_neg (by decide)]
      · have hput : ∀ x, mX5_put 4 6 (nI (stQ th Z p)) x (p1W W th (mfX L Z CL TU OW br th) Z r p) = some ((), am_set (p1W W th (mfX L Z CL TU OW br th) Z r p) 4 6 (stQ th Z p) x) := fun x => put_in _ (show stQ th Z p < 1024 by omega) (by decide)
        rw [if_neg (show ¬ (nI (bN true) = 0) by decide), hput, cl_mk, e41, if_pos rfl]
    · intro n
      dsimp only
      rw [mX3_anyFall_7, if_pos (nI_le (Nat.le_refl _) (by omega)), pu_mk]
      rfl
  have sub : ∀ t, th' t = true → th t = true := fun t z => by
    rw [ety, Bool.and_eq_true] at z
    exact z.1
  have row6 : ∀ t, t < Z → (p1W W th (mfX L Z CL TU OW br th) Z r (cntF th Z)).1 4 6 t = fl' t := fun t ht => by
    rw [efl]
    cases q : th t
    · rw [p1_out _ (Nat.le_refl _) (fun z => by rw [q] at z; cases z), if_neg (fun z => by cases z.1)]
      exact hF t ht
    · rw [p1_in q ht _ (Nat.le_refl _) (cntF_lt ht q)]
      cases q2 : mfX L Z CL TU OW br th t
      · rw [if_neg (by decide), if_neg (fun z => by cases z.2)]
        exact hF t ht
      · rw [if_pos rfl, if_pos ⟨rfl, rfl⟩]
  obtain ⟨W2, f1, f2, f3, f4, f5⟩ := X_close (W0 := am_set (p1W W th (mfX L Z CL TU OW br th) Z r (cntF th Z)) 4 0 13 (nI 0)) (th := th) (th' := th') hZ sub (fun t ht => by
      rw [am_get_row (by decide), row6 t ht]
      exact (hth t).1) (fun p hp => by
      rw [am_get_row (by decide), p1_row (Or.inr (by decide))]
      obtain ⟨s1, s2, s3⟩ := stQ_spec hp
      have e := hS.2 _ s1 s2
      rw [s3] at e
      exact e) (cntF th Z) 0 FU _ (by omega) (FU_gt (by omega)) (KX.rf _) (fun _ _ _ => rfl) (fun _ _ => rfl) (am_get_self _ _ _ _ _) (fun p hp => absurd hp (Nat.not_lt_zero p)) (fun p _ hp => by
      rw [am_get_row (by decide), p1_row (Or.inr (by decide))]
      obtain ⟨s1, s2, s3⟩ := stQ_spec hp
      have e := hS.2 _ s1 s2
      rw [s3] at e
      exact e)
  have g0 : ∀ j, j ≠ 13 → W2.1 4 0 j = W.1 4 0 j := fun j hj => by rw [f4 j hj, am_get_other hj, p1_row (Or.inr (by decide))]
  have ga : ∀ a, a ≠ 0 → a ≠ 6 → a ≠ 7 → W2.1 4 a = W.1 4 a := fun a h0 h6 h7 => by rw [f3 4 a (Or.inr ⟨h0, h7⟩), am_get_row (Or.inr h0), p1_row (Or.inr h6)]
  refine ⟨W2, ?_, ((p1_K _).set (Or.inl ⟨by decide, by decide⟩)).tr f2, h.row (g0 7 (by decide)) (g0 8 (by decide)) (g0 11 (by decide)) (ga 3 (by decide) (by decide) (by decide)) (ga 4 (by decide) (by decide) (by decide)) (ga 5 (by decide) (by decide) (by decide)), fun u hu => ?_, f5, g0 12 (by decide)⟩
  · unfold mX3_anyFall
    rw [hS.1, nm_mk]
    have first' : mX3_anyFall_7 (nI (r + 1)) (nI (cntF th Z)) FU 0 W = _ := first
    have key : decide (cntF th' Z < cntF th Z) = exB (fun t => th t && mfX L Z CL TU OW br th t) Z := by
      cases q : exB (fun t => th t && mfX L Z CL TU OW br th t) Z
      · refine decide_eq_false (fun z => ?_)
        have : cntF th Z ≤ cntF th' Z := cntF_mono (fun t ht y => by
          rw [ety, y]
          cases x : mfX L Z CL TU OW br th t
          · rfl
          · exfalso
            have : exB (fun t => th t && mfX L Z CL TU OW br th t) Z = true := exB_iff.mpr ⟨t, ht, by rw [y, x]; rfl⟩
            rw [q] at this
            cases this)
        omega
      · obtain ⟨t, t1, t2⟩ := exB_iff.mp q
        rw [Bool.and_eq_true] at t2
        have := cntF_strict (h := th') (g := th) t1 (fun u _ z => sub u z) (by rw [ety, t2.1, t2.2]; rfl) t2.1
        exact decide_eq_true (by omega)
    rw [first', f1, ean, key]
  · rw [f3 4 6 (Or.inr ⟨by decide, by decide⟩), am_get_row (by decide)]
    exact row6 u hu
end RX
end
section
/-! the class sorts the types out -/
/-- what the class knows when it has sorted out -/
def SO (W : AW) (L Z CL TU OW : Nat) (br wh : Nat → Nat) (rho : Nat) : Prop := TX W L Z CL TU OW br wh ∧ (∀ u, u < Z → W.1 4 6 u = flV (fitX L CL TU br) (mfX L Z CL TU OW br) rho u) ∧ W.1 4 0 12 = nI rho ∧ StL W (thN (fitX L CL TU br) (mfX L Z CL TU OW br) rho) Z
section RS
variable {W0 : AW} {L Z CL TU OW rho : Nat} {br wh : Nat → Nat}
theorem X_rest (hZ : Z ≤ 1024) (hC : CL < 2 ^ 10) (hO : OW < 2 ^ 10) (hL : L < 9) (hrho : rho ≤ Z) (hend : anyN (fitX L CL TU br) (mfX L Z CL TU OW br) Z rho = false) (hgo : ∀ s, s < rho → anyN (fitX L CL TU br) (mfX L Z CL TU OW br) Z s = true) : ∀ (e r n : Nat) (W : AW), rho = r + e → e < n → KX W0 W → TX W L Z CL TU OW br wh → (∀ u, u < Z → W.1 4 6 u = flV (fitX L CL TU br) (mfX L Z CL TU OW br) r u) → StL W (thN (fitX L CL TU br) (mfX L Z CL TU OW br) r) Z → W.1 4 0 12 = nI r →
    ∃ W2, mX3_sortOut_65 n W = some (nI 1, W2) ∧ KX W0 W2 ∧ SO W2 L Z CL TU OW br wh rho := by
  intro e
  induction e with
  | zero =>
    intro r n W he hn hK hT hF hS h12
    obtain ⟨n, rfl⟩ : ∃ q, n = q + 1 := ⟨n - 1, by omega⟩
    have e2 : r = rho := by omega
    subst e2
    rw [mX3_sortOut_65, hT.2.1, h12]
    by_cases hr : Z ≤ r
    · rw [if_pos (nI_le hr (by omega))]
      exact ⟨W, rfl, hK, hT, hF, h12, hS⟩
    · obtain ⟨W2, a1, a2, a3, a4, a5, a6⟩ := X_anyFall hT hZ hC hO hL (r := r) (by omega) hF hS
      have hno : ∀ u, u < Z → ¬ (thN (fitX L CL TU br) (mfX L Z CL TU OW br) r u = true ∧ mfX L Z CL TU OW br (thN (fitX L CL TU br) (mfX L Z CL TU OW br) r) u = true) := fun u hu z => by
        have : anyN (fitX L CL TU br) (mfX L Z CL TU OW br) Z r = true := exB_iff.mpr ⟨u, hu, by rw [z.1, z.2]; rfl⟩
        rw [hend] at this
        cases this
      have hsame : ∀ u, u < Z → flV (fitX L CL TU br) (mfX L Z CL TU OW br) (r + 1) u = flV (fitX L CL TU br) (mfX L Z CL TU OW br) r u := fun u hu => by
        show (if thN (fitX L CL TU br) (mfX L Z CL TU OW br) r u = true ∧ mfX L Z CL TU OW br (thN (fitX L CL TU br) (mfX L Z CL TU OW br) r) u = true then nI (r + 1) else flV (fitX L CL TU br) (mfX L Z CL TU OW br) r u) = _
        exact if_neg (hno u hu)
      have hth : ∀ u, u < Z → thN (fitX L CL TU br) (mfX L Z CL TU OW br) (r + 1) u = thN (fitX L CL TU br) (mfX L Z CL TU OW br) r u := fun u hu => by
        show (thN (fitX L CL TU br) (mfX L Z CL TU OW br) r u && !mfX L Z CL TU OW br (thN (fitX L CL TU br) (mfX L Z CL TU OW br) r) u) = _
        have := hno u hu
        cases q : thN (fitX L CL TU br) (mfX L Z CL TU OW br) r u
        · rfl
        · cases q2 : mfX L Z CL TU OW br (thN (fitX L CL TU br) (mfX L Z CL TU OW br) r) u
          · rfl
          · exact absurd ⟨q, q2⟩ this
      have hcn : ∀ t, t ≤ Z → cntF (thN (fitX L CL TU br) (mfX L Z CL TU OW br) (r + 1)) t = cntF (thN (fitX L CL TU br) (mfX L Z CL TU OW br) r) t := by
        intro t
        induction t with
        | zero => intro _; rfl
        | succ t ih =>
          intro h
          show cntF _ t + bN _ = cntF _ t + bN _
          rw [ih (by omega), hth t (by omega)]
      rw [hend] at a1
      refine ⟨W2, ?_, hK.tr a2, a3, fun u hu => (a4 u hu).trans (hsame u hu), a6.trans h12, ?_⟩
      · rw [if_neg (nI_ge (by omega) (by omega)), show nI r + 1 = nI (r + 1) from nI_add r 1, a1, cl_mk, if_pos (show nI (bN false) = 0 from rfl)]
        rfl
      · refine ⟨by rw [← hcn Z (Nat.le_refl Z)]; exact a5.1, fun t ht z => ?_⟩
        rw [← hcn t (by omega)]
        exact a5.2 t ht (by rw [hth t ht]; exact z)
  | succ e ih =>
    intro r n W he hn hK hT hF hS h12
    obtain ⟨n, rfl⟩ : ∃ q, n = q + 1 := ⟨n - 1, by omega⟩
    obtain ⟨W2, a1, a2, a3, a4, a5, a6⟩ := X_anyFall hT hZ hC hO hL (r := r) (by omega) hF hS
    rw [hgo r (by omega)] at a1
    have g0 : ∀ (j : Nat) (x : Int32), j ≠ 12 → (am_set W2 4 0 12 x).1 4 0 j = W2.1 4 0 j := fun j x hj => am_get_other hj
    have ga : ∀ (a : Nat) (x : Int32), a ≠ 0 → (am_set W2 4 0 12 x).1 4 a = W2.1 4 a := fun a x ha => am_get_row (Or.inr ha)
    obtain ⟨W3, f1, f2⟩ := ih (r + 1) n (am_set W2 4 0 12 (nI (r + 1))) (by omega) (by omega) ((hK.tr a2).set (Or.inl ⟨by decide, by decide⟩)) (a3.row (g0 7 _ (by decide)) (g0 8 _ (by decide)) (g0 11 _ (by decide)) (ga 3 _ (by decide)) (ga 4 _ (by decide)) (ga 5 _ (by decide))) (fun u hu => by
      rw [ga 6 _ (by decide)]
      exact a4 u hu) (a5.row (g0 13 _ (by decide)) (ga 7 _ (by decide))) (am_get_self _ _ _ _ _)
    refine ⟨W3, ?_, f2⟩
    have ev : nI r + 1 = nI (r + 1) := nI_add r 1
    rw [mX3_sortOut_65, hT.2.1, h12, if_neg (nI_ge (show r < Z by omega) (by omega)), ev, a1, cl_mk, if_neg (show ¬ (nI (bN true) = 0) by decide), a6, h12, ev, pu_mk]
    exact f1
theorem X_fits7 (hZ : Z ≤ 1024) (hC : CL < 2 ^ 10) (hL : L < 9) (hT0 : TX W0 L Z CL TU OW br wh) : ∀ (e t n : Nat) (W : AW), Z = t + e → e < n → KX W0 W → (∀ o a, (o ≠ 4 ∨ (a ≠ 0 ∧ a ≠ 6 ∧ a ≠ 7)) → W.1 o a = W0.1 o a) → (∀ j, j ≠ 13 → W.1 4 0 j = W0.1 4 0 j) → W.1 4 0 13 = nI (cntF (fitX L CL TU br) t) → (∀ u, u < t → W.1 4 6 u = if fitX L CL TU br u = true then -9 else nI 0) → (∀ u, u < t → fitX L CL TU br u = true → W.1 4 7 (cntF (fitX L CL TU br) u) = nI u) →
    ∃ W2, mX3_beginWithFit_7 n (nI t) W = some ((), W2) ∧ KX W0 W2 ∧ TX W2 L Z CL TU OW br wh ∧ (∀ u, u < Z → W2.1 4 6 u = flV (fitX L CL TU br) (mfX L Z CL TU OW br) 0 u) ∧ StL W2 (fitX L CL TU br) Z := by
  intro e
  induction e with
  | zero =>
    intro t n W he hn hK h1 h2 h3 h4 h5
    obtain ⟨n, rfl⟩ : ∃ q, n = q + 1 := ⟨n - 1, by omega⟩
    have e2 : t = Z := by omega
    subst e2
    have ga : ∀ a, a ≠ 0 → a ≠ 6 → a ≠ 7 → W.1 4 a = W0.1 4 a := fun a x y z => h1 4 a (Or.inr ⟨x, y, z⟩)
    have hT := hT0.row (h2 7 (by decide)) (h2 8 (by decide)) (h2 11 (by decide)) (ga 3 (by decide) (by decide) (by decide)) (ga 4 (by decide) (by decide) (by decide)) (ga 5 (by decide) (by decide) (by decide))
    exact ⟨W, by rw [mX3_beginWithFit_7, hT.2.1, if_pos (nI_le (Nat.le_refl t) (by omega))], hK, hT, h4, h3, h5⟩
  | succ e ih =>
    intro t n W he hn hK h1 h2 h3 h4 h5
    obtain ⟨n, rfl⟩ : ∃ q, n = q + 1 := ⟨n - 1, by omega⟩
    have ht : t < Z := by omega
    have ev : nI t + 1 = nI (t + 1) := nI_add t 1
    have hcl := cntF_le (fitX L CL TU br) t
    have ecn : cntF (fitX L CL TU br) (t + 1) = cntF (fitX L CL TU br) t + bN (fitX L CL TU br t) := rfl
    have e37 : ∀ V : AW, mX3_beginWithFit_37 (mX3_beginWithFit_7 n) (nI t) V = mX3_beginWithFit_7 n (nI (t + 1)) V := fun V => by
      unfold mX3_beginWithFit_37
      rw [nm_mk, ev]
    have hput : ∀ x, mX5_put 4 6 (nI t) x W = some ((), am_set W 4 6 t x) := fun x => put_in _ (show t < 1024 by omega) (by decide)
    have ga : ∀ a, a ≠ 0 → a ≠ 6 → a ≠ 7 → (am_set W 4 6 t 0).1 4 a = W0.1 4 a := fun a x y z => by rw [am_get_row (Or.inr y)]; exact h1 4 a (Or.inr ⟨x, y, z⟩)
    have g0 : ∀ j, j ≠ 13 → (am_set W 4 6 t 0).1 4 0 j = W0.1 4 0 j := fun j hj => by rw [am_get_row (by decide)]; exact h2 j hj
    have hT := hT0.row (g0 7 (by decide)) (g0 8 (by decide)) (g0 11 (by decide)) (ga 3 (by decide) (by decide) (by decide)) (ga 4 (by decide) (by decide) (by decide)) (ga 5 (by decide) (by decide) (by decide))
    have ef := X_isFit hT hZ hC hL ht
    have K1 := hK.set (o := 4) (a := 6) (i := t) (x := 0) (Or.inl ⟨by decide, by decide⟩)
    have head : ∀ X, (if nI (bN (fitX L CL TU br t)) = 0 then mX3_beginWithFit_37 (mX3_beginWithFit_7 n) (nI t) (am_set W 4 6 t 0) else cl (mX3_stay (nI t) (am_set W 4 6 t 0)) fun x_6 w_5 => mX3_beginWithFit_37 (mX3_beginWithFit_7 n) (nI t) w_5) = X → mX3_beginWithFit_7 (n + 1) (nI t) W = X := fun X hX => by
      rw [mX3_beginWithFit_7, h2 8 (by decide), hT0.2.1, if_neg (nI_ge ht (by omega)), hput, cl_mk, ef, cl_mk]
      exact hX
    cases q : fitX L CL TU br t
    · obtain ⟨W2, f⟩ := ih (t + 1) n (am_set W 4 6 t 0) (by omega) (by omega) K1 (fun o a z => by rw [am_get_row (by omega)]; exact h1 o a z) g0 (by rw [am_get_row (by decide), ecn, q]; exact h3) (fun u hu => by
        by_cases y : u = t
        · rw [y, am_get_self, q, if_neg (by decide)]; rfl
        · rw [am_get_other y]
          exact h4 u (by omega)) (fun u hu z => by
        rw [am_get_row (by decide)]
        by_cases y : u = t
        · rw [y, q] at z; cases z
        · exact h5 u (by omega) z)
      exact ⟨W2, head _ (by rw [q, if_pos (show nI (bN false) = 0 from rfl), e37]; exact f.1), f.2⟩
    · have est := X_stay (W := am_set W 4 6 t 0) (t := t) (n := cntF (fitX L CL TU br) t) (by omega) (by omega) (by rw [am_get_row (by decide)]; exact h3)
      obtain ⟨W2, f⟩ := ih (t + 1) n (am_set (am_set (am_set (am_set W 4 6 t 0) 4 6 t (-9)) 4 7 (cntF (fitX L CL TU br) t) (nI t)) 4 0 13 (nI (cntF (fitX L CL TU br) t + 1))) (by omega) (by omega) (((K1.set (Or.inl ⟨by decide, by decide⟩)).set (Or.inl ⟨by decide, by decide⟩)).set (Or.inl ⟨by decide, by decide⟩)) (fun o a z => by rw [am_get_row (by omega), am_get_row (by omega), am_get_row (by omega), am_get_row (by omega)]; exact h1 o a z) (fun j hj => by rw [am_get_other hj, am_get_row (by decide), am_get_row (by decide)]; exact g0 j hj) (by rw [am_get_self, ecn, q]; rfl) (fun u hu => by
        rw [am_get_row (by decide), am_get_row (by decide)]
        by_cases y : u = t
        · rw [y, am_get_self, q, if_pos rfl]
        · rw [am_get_other y, am_get_other y]
          exact h4 u (by omega)) (fun u hu z => by
        rw [am_get_row (by decide)]
        by_cases y : u = t
        · rw [y, am_get_self]
        · have hlt := cntF_lt (h := fitX L CL TU br) (show u < t by omega) z
          rw [am_get_other (by omega), am_get_row (by decide), am_get_row (by decide)]
          exact h5 u (by omega) z)
      exact ⟨W2, head _ (by rw [q, if_neg (show ¬ (nI (bN true) = 0) by decide), est, cl_mk, e37]; exact f.1), f.2⟩
end RS
end
section
/-! sortOut as a whole -/
section SO
variable {w : AW} {o m P L : Nat} {c l r ph pl dp : Nat → Nat}
noncomputable def btF (L m P : Nat) (c ph pl : Nat → Nat) (q : Nat) : Nat := rkF (hq L m c ph) pl P q
noncomputable def CLf (L m P : Nat) (c ph pl : Nat → Nat) : Nat := mskF (clF L m c ph) (rkF (hq L m c ph) pl P) P
noncomputable def TUf (L m P : Nat) (c ph pl : Nat → Nat) : Nat := mskF (tuF L m c ph) (rkF (hq L m c ph) pl P) P
noncomputable def OWf (L m P : Nat) (c ph pl : Nat → Nat) : Nat := mskF (owF L m c ph) (rkF (hq L m c ph) pl P) P
noncomputable def brT (L m P : Nat) (c l r ph pl : Nat → Nat) (t : Nat) : Nat := brF L m c l r ph (rkF (hq L m c ph) pl P) t P
noncomputable def whT (L m P : Nat) (c l r ph pl : Nat → Nat) (t : Nat) : Nat := evV (opT (decide (L = 8)) c ph (rkF (hq L m c ph) pl P) t) c l r (m - 1)
theorem msk_lt {f h : Nat → Bool} {P B : Nat} {pl : Nat → Nat} (hf : ∀ q, f q = true → h q = true) (hB : cntF h P ≤ B) : mskF f (rkF h pl P) P < 2 ^ B := orF_lt (fun q hq2 => by
  split
  · rename_i z
    have := rkF_lt (pl := pl) hq2 (hf q z)
    exact pow_lt_of (by omega)
  · exact Nat.two_pow_pos B)
theorem X_weighs (hX : SenP w o m P c l r ph pl dp) (hL : LenOK o P) (hc : ClassOK m P c l r ph) (hs : ShapeOK m c l r) (hP : P ≤ 81) (hm : 1 ≤ m) (hlast : ph (m - 1) = P - 1) (ho : o ≠ 4) {W0 : AW} {Z : Nat} (hZ : Z ≤ 1024) (hB : cntF (hq L m c ph) P ≤ 10) (hG : GB W0 L m P Z c ph pl P) : ∀ (e t n : Nat) (W : AW), Z = t + e → e < n → KX w W → W.1 o = w.1 o → W.1 4 0 = W0.1 4 0 → W.1 4 1 = W0.1 4 1 → (∀ u, u < t → W.1 4 3 u = nI (clN (CLf L m P c ph pl) (TUf L m P c ph pl) u) ∧ W.1 4 4 u = nI (brT L m P c l r ph pl u) ∧ W.1 4 5 u = nI (whT L m P c l r ph pl u)) →
    ∃ W2, mX3_sortOut_34 o n (nI t) W = (cl (mX3_beginWithFit W2) fun _ w_1 => pu w_1 4 12 0 fun w_3 => mX3_sortOut_65 FU w_3) ∧ KX w W2 ∧ W2.1 o = w.1 o ∧ W2.1 4 0 = W0.1 4 0 ∧ (∀ u, u < Z → W2.1 4 3 u = nI (clN (CLf L m P c ph pl) (TUf L m P c ph pl) u) ∧ W2.1 4 4 u = nI (brT L m P c l r ph pl u) ∧ W2.1 4 5 u = nI (whT L m P c l r ph pl u)) := by
  obtain ⟨g1, g2, g3, g4, g5, g6⟩ := hG
  intro e
  induction e with
  | zero =>
    intro t n W he hn hK hWo h0 h1 hr
    obtain ⟨n, rfl⟩ : ∃ q, n = q + 1 := ⟨n - 1, by omega⟩
    have e2 : t = Z := by omega
    subst e2
    refine ⟨W, ?_, hK, hWo, h0, hr⟩
    rw [mX3_sortOut_34, h0, g6, if_pos (nI_le (Nat.le_refl t) (by omega))]
  | succ e ih =>
    intro t n W he hn hK hWo h0 h1 hr
    obtain ⟨n, rfl⟩ : ∃ q, n = q + 1 := ⟨n - 1, by omega⟩
    have ht : t < Z := by omega
    have c1 : ¬ nI Z ≤ nI t := nI_ge ht (by omega)
    have ew := X_weigh (L := L) (bt := rkF (hq L m c ph) pl P) (t := t) (hX.cg hWo) hL hc hs hP hm hlast ho (fun q hq2 => by rw [h1]; exact g1 q hq2) (fun q hq2 z => by
      have := rkF_lt (pl := pl) hq2 z
      omega) (CL := CLf L m P c ph pl) (TU := TUf L m P c ph pl) (by rw [h0]; exact g2) (by rw [h0]; exact g3) (by omega)
    have kw : ∀ k, KX W (wgW W L m c l r ph (rkF (hq L m c ph) pl P) t k) := by
      intro k
      induction k with
      | zero => exact KX.rf W
      | succ k ih => exact ih.set (Or.inl ⟨by decide, by decide⟩)
    have rw4 : ∀ a, a ≠ 2 → (wgW W L m c l r ph (rkF (hq L m c ph) pl P) t P).1 4 a = W.1 4 a := fun a ha => setRow_row (Or.inr ha) P
    obtain ⟨W2, f⟩ := ih (t + 1) n (am_set (am_set (am_set (wgW W L m c l r ph (rkF (hq L m c ph) pl P) t P) 4 3 t (nI (clN (CLf L m P c ph pl) (TUf L m P c ph pl) t))) 4 4 t (nI (brF L m c l r ph (rkF (hq L m c ph) pl P) t P))) 4 5 t (nI (evV (opT (decide (L = 8)) c ph (rkF (hq L m c ph) pl P) t) c l r (m - 1)))) (by omega) (by omega) ((((hK.tr (kw P)).set (Or.inl ⟨by decide, by decide⟩)).set (Or.inl ⟨by decide, by decide⟩)).set (Or.inl ⟨by decide, by decide⟩)) (by
      rw [am_row_ne ho, am_row_ne ho, am_row_ne ho, ← hWo]
      funext a
      exact setRow_row (Or.inl ho) P) (by rw [am_get_row (by decide), am_get_row (by decide), am_get_row (by decide), rw4 0 (by decide)]; exact h0) (by rw [am_get_row (by decide), am_get_row (by decide), am_get_row (by decide), rw4 1 (by decide)]; exact h1) (fun u hu => by
      rw [am_get_row (show (4 : Nat) ≠ 4 ∨ 3 ≠ 5 from Or.inr (by decide)), am_get_row (show (4 : Nat) ≠ 4 ∨ 4 ≠ 5 from Or.inr (by decide)), am_get_row (show (4 : Nat) ≠ 4 ∨ 3 ≠ 4 from Or.inr (by decide))]
      by_cases q : u = t
      · subst q
        rw [am_get_self, am_get_self, am_get_self]
        exact ⟨rfl, rfl, rfl⟩
      · rw [am_get_other q, am_get_other q, am_get_other q, am_get_row (show (4 : Nat) ≠ 4 ∨ 4 ≠ 3 from Or.inr (by decide)), am_get_row (show (4 : Nat) ≠ 4 ∨ 5 ≠ 4 from Or.inr (by decide)), am_get_row (show (4 : Nat) ≠ 4 ∨ 5 ≠ 3 from Or.inr (by decide)), rw4 3 (by decide), rw4 4 (by decide), rw4 5 (by decide)]
        exact hr u (by omega))
    refine ⟨W2, ?_, f.2⟩
    rw [mX3_sortOut_34, h0, g6, if_neg c1, ew, cl_mk, nm_mk, show nI t + 1 = nI (t + 1) from nI_add t 1]
    exact f.1
theorem X_sortOut (hX : SenP w o m P c l r ph pl dp) (hL : LenOK o P) (hc : ClassOK m P c l r ph) (hs : ShapeOK m c l r) (hP : P ≤ 81) (hm : 1 ≤ m) (hlast : ph (m - 1) = P - 1) (ho : o ≠ 4) (hL9 : L < 9) (hpl : ∀ p, p < P → pl p < 1000) :
    (10 < cntF (hq L m c ph) P → mX3_sortOut o (nI L) w = some (nI 0, w)) ∧
    (cntF (hq L m c ph) P ≤ 10 → ∀ rho, rho ≤ 2 ^ cntF (hq L m c ph) P → anyN (fitX L (CLf L m P c ph pl) (TUf L m P c ph pl) (brT L m P c l r ph pl)) (mfX L (2 ^ cntF (hq L m c ph) P) (CLf L m P c ph pl) (TUf L m P c ph pl) (OWf L m P c ph pl) (brT L m P c l r ph pl)) (2 ^ cntF (hq L m c ph) P) rho = false → (∀ s, s < rho → anyN (fitX L (CLf L m P c ph pl) (TUf L m P c ph pl) (brT L m P c l r ph pl)) (mfX L (2 ^ cntF (hq L m c ph) P) (CLf L m P c ph pl) (TUf L m P c ph pl) (OWf L m P c ph pl) (brT L m P c l r ph pl)) (2 ^ cntF (hq L m c ph) P) s = true) →
      ∃ W2, mX3_sortOut o (nI L) w = some (nI 1, W2) ∧ KX w W2 ∧ SO W2 L (2 ^ cntF (hq L m c ph) P) (CLf L m P c ph pl) (TUf L m P c ph pl) (OWf L m P c ph pl) (brT L m P c l r ph pl) (whT L m P c l r ph pl) rho) := by
  have e0 := X_countBits hX hL hc hs hP hL9
  have hcle := cntF_le (hq L m c ph) P
  refine ⟨fun hB => ?_, fun hB rho hrho hend hgo => ?_⟩
  · unfold mX3_sortOut
    rw [e0, cl_mk, if_neg (show ¬ (nI (cntF (hq L m c ph) P) ≤ 10) from nI_ge (a := 10) hB (by omega))]
    rfl
  · have hZ : 2 ^ cntF (hq L m c ph) P ≤ 1024 := Nat.le_trans (Nat.pow_le_pow_right (by decide) hB) (by decide)
    have K1 : KX w (am_set (am_set w 4 0 7 (nI L)) 4 0 8 (nI (2 ^ cntF (hq L m c ph) P))) := ((KX.rf w).set (Or.inl ⟨by decide, by decide⟩)).set (Or.inl ⟨by decide, by decide⟩)
    have o1 : (am_set (am_set w 4 0 7 (nI L)) 4 0 8 (nI (2 ^ cntF (hq L m c ph) P))).1 o = w.1 o := by rw [am_row_ne ho, am_row_ne ho]
    obtain ⟨W1, f1, f2, f3, f4⟩ := X_give (Z := 2 ^ cntF (hq L m c ph) P) (hX.cg o1) hL hc hs hP hL9 hpl hB ho (by rw [am_get_other (by decide), am_get_self]) (am_get_self _ _ _ _ _)
    have f3' : W1.1 o = w.1 o := f3.trans o1
    obtain ⟨W2, g1, g2, g3, g4, g5⟩ := X_weighs hX hL hc hs hP hm hlast ho hZ hB f4 (2 ^ cntF (hq L m c ph) P) 0 FU W1 (by omega) (FU_gt (by omega)) (K1.tr f2) f3' rfl rfl (fun u hu => absurd hu (Nat.not_lt_zero u))
    obtain ⟨b1, b2, b3, b4, b5, b6⟩ := f4
    have hCL : CLf L m P c ph pl < 2 ^ 10 := msk_lt (fun q z => by
      unfold clF at z
      rw [Bool.and_eq_true] at z
      exact z.1) hB
    have hOW : OWf L m P c ph pl < 2 ^ 10 := msk_lt (fun q z => by
      unfold owF at z
      rw [Bool.and_eq_true] at z
      exact z.1) hB
    have hT : TX W2 L (2 ^ cntF (hq L m c ph) P) (CLf L m P c ph pl) (TUf L m P c ph pl) (OWf L m P c ph pl) (brT L m P c l r ph pl) (whT L m P c l r ph pl) := ⟨by rw [g4]; exact b5, by rw [g4]; exact b6, by rw [g4]; exact b4, g5⟩
    obtain ⟨W5, u1, u2, u3, u4, u5⟩ := X_fits7 (W0 := am_set W2 4 0 13 (nI 0)) (OW := OWf L m P c ph pl) (wh := whT L m P c l r ph pl) hZ hCL hL9 (hT.row (am_get_other (by decide)) (am_get_other (by decide)) (am_get_other (by decide)) (am_get_row (Or.inr (by decide))) (am_get_row (Or.inr (by decide))) (am_get_row (Or.inr (by decide)))) (2 ^ cntF (hq L m c ph) P) 0 FU _ (by omega) (FU_gt (by omega)) (KX.rf _) (fun _ _ _ => rfl) (fun _ _ => rfl) (am_get_self _ _ _ _ _) (fun u hu => absurd hu (Nat.not_lt_zero u)) (fun u hu => absurd hu (Nat.not_lt_zero u))
    have k2 : KX w W5 := (g2.set (Or.inl ⟨by decide, by decide⟩)).tr u2
    have n0 : ∀ (j : Nat) (x : Int32), j ≠ 12 → (am_set W5 4 0 12 x).1 4 0 j = W5.1 4 0 j := fun j x hj => am_get_other hj
    have na : ∀ (a : Nat) (x : Int32), a ≠ 0 → (am_set W5 4 0 12 x).1 4 a = W5.1 4 a := fun a x ha => am_get_row (Or.inr ha)
    obtain ⟨W3, q1, q2, q3⟩ := X_rest (W0 := w) hZ hCL hOW hL9 hrho hend hgo rho 0 FU (am_set W5 4 0 12 (nI 0)) (by omega) (FU_gt (by omega)) (k2.set (Or.inl ⟨by decide, by decide⟩)) (u3.row (n0 7 _ (by decide)) (n0 8 _ (by decide)) (n0 11 _ (by decide)) (na 3 _ (by decide)) (na 4 _ (by decide)) (na 5 _ (by decide))) (fun u hu => by
      rw [na 6 _ (by decide)]
      exact u4 u hu) (u5.row (n0 13 _ (by decide)) (na 7 _ (by decide))) (am_get_self _ _ _ _ _)
    refine ⟨W3, ?_, q2, q3⟩
    unfold mX3_sortOut
    have e1 : (1 : Int32) <<< (nI (cntF (hq L m c ph) P) &&& 31) = nI (2 ^ cntF (hq L m c ph) P) := by
      have : nI (cntF (hq L m c ph) P) &&& 31 = nI (cntF (hq L m c ph) P &&& 31) := nI_and _ 31
      rw [this]
      exact one_shl (by omega)
    rw [e0, cl_mk, if_pos (show nI (cntF (hq L m c ph) P) ≤ 10 from nI_le (b := 10) hB (by decide)), pu_mk, e1, pu_mk, f1, cl_mk]
    have g1' : mX3_sortOut_34 o FU 0 W1 = (cl (mX3_beginWithFit W2) fun _ w_1 => pu w_1 4 12 0 fun w_3 => mX3_sortOut_65 FU w_3) := g1
    have u1' : mX3_beginWithFit W2 = some ((), W5) := by
      unfold mX3_beginWithFit
      rw [pu_mk]
      exact u1
    rw [g1', u1', cl_mk, pu_mk]
    exact q1
end SO
end
