/-! the class gives bits -/
def mskF (f : Nat → Bool) (bt : Nat → Nat) (p : Nat) : Nat := orF (fun q => if f q = true then 2 ^ (bt q) else 0) p
section GV
variable {w : AW} {o m P L : Nat} {c l r ph pl dp : Nat → Nat}
theorem G92 {V : AW} {s bt p x8 x10 : Nat} {k17 : Int32 → AW → Option (Unit × AW)} (hs : s < 128) (hb : bt < 31) (hL9 : L < 9) (h6 : V.1 4 0 7 = nI L) (h8 : V.1 4 0 9 = nI x8) (h10 : V.1 4 0 11 = nI x10) :
    ∃ V', mX3_giveBits_92 k17 o (nI p) (nI s) (nI bt) V = k17 (nI (p + 1)) V' ∧ V'.1 4 0 9 = nI (x8 ||| (if (!atmB s || decide (L = 8)) = true then 2 ^ bt else 0)) ∧ V'.1 4 0 11 = nI (x10 ||| (if (!atmB s) = true then 2 ^ bt else 0)) ∧ (∀ o' a', (o' ≠ 4 ∨ a' ≠ 0) → V'.1 o' a' = V.1 o' a') ∧ (∀ j, j ≠ 9 → j ≠ 11 → V'.1 4 0 j = V.1 4 0 j) ∧ KX V V' := by
  have eA : ∀ W : AW, mX5_isAtom (nI s) W = some (nI (bN (atmB s)), W) := fun W => X_isAtom W (by omega)
  have e1 : (1 : Int32) <<< (nI bt &&& 31) = nI (2 ^ bt) := by
    have : nI bt &&& 31 = nI (bt &&& 31) := nI_and bt 31
    rw [this]
    exact one_shl hb
  have ev : nI p + 1 = nI (p + 1) := nI_add p 1
  have e141 : ∀ W : AW, mX3_giveBits_141 k17 o (nI p) W = k17 (nI (p + 1)) W := fun W => by
    unfold mX3_giveBits_141
    rw [nm_mk, ev]
  have K4 : ∀ (W0 W : AW) (j : Nat) (x : Int32), KX W0 W → KX W0 (am_set W 4 0 j x) := fun W0 W j x h => h.set (Or.inl ⟨by decide, by decide⟩)
  cases ha : atmB s
  · refine ⟨am_set (am_set V 4 0 11 (nI (x10 ||| 2 ^ bt))) 4 0 9 (nI (x8 ||| 2 ^ bt)), ?_, ?_, ?_, fun o' a' h => ?_, fun j z1 z2 => ?_, K4 _ _ _ _ (K4 _ _ _ _ (KX.rf _))⟩
    · unfold mX3_giveBits_92
      rw [eA, cl_mk, ha, if_neg (show ¬ (nI (bN false) ≠ 0) from fun z => z rfl), h10, e1, nI_or, pu_mk]
      unfold mX3_giveBits_112
      rw [eA, cl_mk, ha, if_pos (show nI (bN false) = 0 from rfl)]
      unfold mX3_giveBits_128
      rw [am_get_other (by decide), h8, e1, nI_or, pu_mk, e141]
    · rw [am_get_self]; rfl
    · rw [am_get_other (by decide), am_get_self]; rfl
    · rw [am_get_row h, am_get_row h]
    · rw [am_get_other z1, am_get_other z2]
  · by_cases h8L : L = 8
    · refine ⟨am_set V 4 0 9 (nI (x8 ||| 2 ^ bt)), ?_, ?_, ?_, fun o' a' h => ?_, fun j z1 z2 => ?_, K4 _ _ _ _ (KX.rf _)⟩
      · unfold mX3_giveBits_92
        rw [eA, cl_mk, ha, if_pos (show nI (bN true) ≠ 0 by decide)]
        unfold mX3_giveBits_112
        rw [eA, cl_mk, ha, if_neg (show ¬ (nI (bN true) = 0) by decide), h6, h8L, if_neg (show ¬ (nI 8 ≠ 8) from fun z => z rfl)]
        unfold mX3_giveBits_128
        rw [h8, e1, nI_or, pu_mk, e141]
      · rw [am_get_self, decide_eq_true h8L]; rfl
      · rw [am_get_other (by decide), h10]
        show nI x10 = nI (x10 ||| 0)
        rw [Nat.or_zero]
      · rw [am_get_row h]
      · rw [am_get_other z1]
    · refine ⟨V, ?_, ?_, ?_, fun _ _ _ => rfl, fun _ _ _ => rfl, KX.rf _⟩
      · unfold mX3_giveBits_92
        rw [eA, cl_mk, ha, if_pos (show nI (bN true) ≠ 0 by decide)]
        unfold mX3_giveBits_112
        rw [eA, cl_mk, ha, if_neg (show ¬ (nI (bN true) = 0) by decide), h6, if_pos (show nI L ≠ 8 from ne_nI (b := 8) (by omega) (by decide) h8L), e141]
      · rw [h8, decide_eq_false h8L]
        show nI x8 = nI (x8 ||| 0)
        rw [Nat.or_zero]
      · rw [h10]
        show nI x10 = nI (x10 ||| 0)
        rw [Nat.or_zero]
noncomputable def tuF (L m : Nat) (c ph : Nat → Nat) (q : Nat) : Bool := hq L m c ph q && decide (c (rpF m ph q) = 123)
noncomputable def owF (L m : Nat) (c ph : Nat → Nat) (q : Nat) : Bool := hq L m c ph q && !atmB (c (rpF m ph q))
noncomputable def clF (L m : Nat) (c ph : Nat → Nat) (q : Nat) : Bool := hq L m c ph q && (!atmB (c (rpF m ph q)) || decide (L = 8))
def GB (W : AW) (L m P Z : Nat) (c ph pl : Nat → Nat) (p : Nat) : Prop :=
  (∀ q, q < p → W.1 4 1 q = if hq L m c ph q = true then nI (rkF (hq L m c ph) pl P q) else -9) ∧ W.1 4 0 9 = nI (mskF (clF L m c ph) (rkF (hq L m c ph) pl P) p) ∧ W.1 4 0 10 = nI (mskF (tuF L m c ph) (rkF (hq L m c ph) pl P) p) ∧ W.1 4 0 11 = nI (mskF (owF L m c ph) (rkF (hq L m c ph) pl P) p) ∧ W.1 4 0 7 = nI L ∧ W.1 4 0 8 = nI Z
theorem put41 {p : Nat} {x : Int32} (W : AW) (hp : p < 81) : mX5_put 4 1 (nI p) x W = some ((), am_set W 4 1 p x) := put_in W hp (by decide)
theorem X_give17 (hX : SenP w o m P c l r ph pl dp) (hL : LenOK o P) (hc : ClassOK m P c l r ph) (hs : ShapeOK m c l r) (hP : P ≤ 81) (hL9 : L < 9) (hpl : ∀ p, p < P → pl p < 1000) (hB : cntF (hq L m c ph) P ≤ 10) (ho : o ≠ 4) {Z : Nat} : ∀ (e p n : Nat) (W : AW), P = p + e → e < n → KX w W → W.1 o = w.1 o → GB W L m P Z c ph pl p →
    ∃ W2, mX3_giveBits_17 o n (nI p) W = some ((), W2) ∧ KX w W2 ∧ W2.1 o = w.1 o ∧ GB W2 L m P Z c ph pl P := by
  intro e
  induction e with
  | zero =>
    intro p n W he hn hK hWo hG
    obtain ⟨n, rfl⟩ : ∃ k, n = k + 1 := ⟨n - 1, by omega⟩
    have e2 : p = P := by omega
    subst e2
    have c1 : nI p ≤ nI p := nI_le (Nat.le_refl p) (by omega)
    have hpt : mX2_parts o W = some (nI p, W) := by unfold mX2_parts; rw [hWo, hX.1]
    exact ⟨W, by rw [mX3_giveBits_17, hpt, cl_mk, if_pos c1], hK, hWo, hG⟩
  | succ e ih =>
    intro p n W he hn hK hWo hG
    obtain ⟨n, rfl⟩ : ∃ k, n = k + 1 := ⟨n - 1, by omega⟩
    have hp : p < P := by omega
    have c1 : ¬ nI P ≤ nI p := nI_ge hp (by omega)
    have hpt : mX2_parts o W = some (nI P, W) := by unfold mX2_parts; rw [hWo, hX.1]
    obtain ⟨k1, k2⟩ := rpF_spec hc hp
    have hs128 := kinds_lt (kinds_of hs k1)
    obtain ⟨g1, g2, g3, g4, g5, g6⟩ := hG
    have hXW : SenP W o m P c l r ph pl dp := hX.cg hWo
    have K41 : ∀ (x : Int32) (V : AW), KX w V → KX w (am_set V 4 1 p x) := fun x V h => h.set (Or.inl ⟨by decide, by decide⟩)
    have ro : ∀ (V : AW) (a i : Nat) (x : Int32), V.1 o = w.1 o → (am_set V 4 a i x).1 o = w.1 o := fun V a i x h => by rw [am_row_ne ho]; exact h
    have r40 : ∀ (V : AW) (x : Int32) (j : Nat), (am_set V 4 1 p x).1 4 0 j = V.1 4 0 j := fun V x j => by rw [am_get_row (Or.inr (by decide))]
    -- the world with -9 in its place
    have hW1o := ro W 1 p (-9) hWo
    have hXW1 : SenP (am_set W 4 1 p (-9)) o m P c l r ph pl dp := hX.cg hW1o
    have e6 : (am_set W 4 1 p (-9)).1 4 0 7 = nI L := by rw [r40]; exact g5
    have eh := X_hasBit (L := L) (am_set W 4 1 p (-9)) hs128 hL9
    have e2 : hbB (decide (L = 8)) (c (rpF m ph p)) = hq L m c ph p := rfl
    rw [e2] at eh
    have mk0 : ∀ f : Nat → Bool, f p = false → mskF f (rkF (hq L m c ph) pl P) (p + 1) = mskF f (rkF (hq L m c ph) pl P) p := fun f hf => by
      show mskF f (rkF (hq L m c ph) pl P) p ||| (if f p = true then 2 ^ rkF (hq L m c ph) pl P p else 0) = _
      rw [hf, if_neg (by decide), Nat.or_zero]
    have mk1 : ∀ f : Nat → Bool, mskF f (rkF (hq L m c ph) pl P) (p + 1) = mskF f (rkF (hq L m c ph) pl P) p ||| (if f p = true then 2 ^ rkF (hq L m c ph) pl P p else 0) := fun f => rfl
    cases z : hq L m c ph p
    · -- no bit
      have n1 : clF L m c ph p = false := by unfold clF; rw [z]; rfl
      have n2 : tuF L m c ph p = false := by unfold tuF; rw [z]; rfl
      have n3 : owF L m c ph p = false := by unfold owF; rw [z]; rfl
      rw [z] at eh
      obtain ⟨W2, f1, f2, f3, f4⟩ := ih (p + 1) n (am_set W 4 1 p (-9)) (by omega) (by omega) (K41 _ _ hK) hW1o ⟨fun q hq2 => by
        by_cases y : q = p
        · subst y
          rw [am_get_self, z, if_neg (by decide)]
        · rw [am_get_other y]
          exact g1 q (by omega), by rw [r40, mk0 _ n1]; exact g2, by rw [r40, mk0 _ n2]; exact g3, by rw [r40, mk0 _ n3]; exact g4, e6, by rw [r40]; exact g6⟩
      refine ⟨W2, ?_, f2, f3, f4⟩
      rw [mX3_giveBits_17, hpt, cl_mk, if_neg c1, (hXW.sp hL hc hs hp).1, cl_mk, put41 W (by omega), cl_mk, e6, eh, cl_mk, if_neg (show ¬ (nI (bN false) ≠ 0) from fun y => y rfl)]
      unfold mX3_giveBits_141
      rw [nm_mk, show nI p + 1 = nI (p + 1) from nI_add p 1]
      exact f1
    · -- a bit
      rw [z] at eh
      have hbt : rkF (hq L m c ph) pl P p < 31 := by
        have := rkF_lt (pl := pl) hp z
        omega
      have eb := X_bitsBefore (L := L) hXW1 hL hc hs hP hL9 e6 hpl hp
      -- where it is put, and what turns it
      have key : ∀ V : AW, KX w V → V.1 o = w.1 o → (∀ q, q < p + 1 → V.1 4 1 q = if hq L m c ph q = true then nI (rkF (hq L m c ph) pl P q) else -9) → V.1 4 0 9 = nI (mskF (clF L m c ph) (rkF (hq L m c ph) pl P) p) → V.1 4 0 10 = nI (mskF (tuF L m c ph) (rkF (hq L m c ph) pl P) (p + 1)) → V.1 4 0 11 = nI (mskF (owF L m c ph) (rkF (hq L m c ph) pl P) p) → V.1 4 0 7 = nI L → V.1 4 0 8 = nI Z →
          ∃ W2, mX3_giveBits_92 (mX3_giveBits_17 o n) o (nI p) (nI (c (rpF m ph p))) (nI (rkF (hq L m c ph) pl P p)) V = some ((), W2) ∧ KX w W2 ∧ W2.1 o = w.1 o ∧ GB W2 L m P Z c ph pl P := by
        intro V v1 v2 v3 v4 v5 v6 v7 v8
        obtain ⟨V', a1, a2, a3, a4, a5, a6⟩ := G92 (o := o) (p := p) (k17 := mX3_giveBits_17 o n) hs128 hbt hL9 v7 v4 v6
        obtain ⟨W2, f1, f2, f3, f4⟩ := ih (p + 1) n V' (by omega) (by omega) (v1.tr a6) (by funext a; rw [a4 o a (Or.inl ho)]; exact congrFun v2 a) ⟨fun q hq2 => by rw [a4 4 1 (Or.inr (by decide))]; exact v3 q hq2, by
            rw [a2, mk1]
            have : clF L m c ph p = (!atmB (c (rpF m ph p)) || decide (L = 8)) := by unfold clF; rw [z, Bool.true_and]
            rw [this], by rw [a5 10 (by decide) (by decide)]; exact v5, by
            rw [a3, mk1]
            have : owF L m c ph p = !atmB (c (rpF m ph p)) := by unfold owF; rw [z, Bool.true_and]
            rw [this], by rw [a5 7 (by decide) (by decide)]; exact v7, by rw [a5 8 (by decide) (by decide)]; exact v8⟩
        exact ⟨W2, a1.trans f1, f2, f3, f4⟩
      have rows : ∀ q, q < p + 1 → (am_set (am_set W 4 1 p (-9)) 4 1 p (nI (rkF (hq L m c ph) pl P p))).1 4 1 q = if hq L m c ph q = true then nI (rkF (hq L m c ph) pl P q) else -9 := fun q hq2 => by
        by_cases y : q = p
        · subst y
          rw [am_get_self, z, if_pos rfl]
        · rw [am_get_other y, am_get_other y]
          exact g1 q (by omega)
      have hW2o := ro _ 1 p (nI (rkF (hq L m c ph) pl P p)) hW1o
      have hK2 := K41 (nI (rkF (hq L m c ph) pl P p)) _ (K41 (-9) _ hK)
      have head : mX3_giveBits_17 o (n + 1) (nI p) W = if nI (c (rpF m ph p)) ≠ 123 then mX3_giveBits_92 (mX3_giveBits_17 o n) o (nI p) (nI (c (rpF m ph p))) (nI (rkF (hq L m c ph) pl P p)) (am_set (am_set W 4 1 p (-9)) 4 1 p (nI (rkF (hq L m c ph) pl P p))) else pu (am_set (am_set W 4 1 p (-9)) 4 1 p (nI (rkF (hq L m c ph) pl P p))) 4 10 (((am_set (am_set W 4 1 p (-9)) 4 1 p (nI (rkF (hq L m c ph) pl P p))).1 4 0 10) ||| (1 <<< (nI (rkF (hq L m c ph) pl P p) &&& 31))) fun w_13 => mX3_giveBits_92 (mX3_giveBits_17 o n) o (nI p) (nI (c (rpF m ph p))) (nI (rkF (hq L m c ph) pl P p)) w_13 := by
        rw [mX3_giveBits_17, hpt, cl_mk, if_neg c1, (hXW.sp hL hc hs hp).1, cl_mk, put41 W (by omega), cl_mk, e6, eh, cl_mk, if_pos (show nI (bN true) ≠ 0 by decide), eb, cl_mk, put41 _ (by omega), cl_mk]
      rw [head]
      by_cases h123 : c (rpF m ph p) = 123
      · have e1 : (1 : Int32) <<< (nI (rkF (hq L m c ph) pl P p) &&& 31) = nI (2 ^ rkF (hq L m c ph) pl P p) := by
          have : nI (rkF (hq L m c ph) pl P p) &&& 31 = nI (rkF (hq L m c ph) pl P p &&& 31) := nI_and _ 31
          rw [this]
          exact one_shl hbt
        have e9 : (am_set (am_set W 4 1 p (-9)) 4 1 p (nI (rkF (hq L m c ph) pl P p))).1 4 0 10 = nI (mskF (tuF L m c ph) (rkF (hq L m c ph) pl P) p) := by rw [r40, r40]; exact g3
        rw [if_neg (show ¬ (nI (c (rpF m ph p)) ≠ 123) from fun y => y (by rw [h123]; rfl)), e9, e1, nI_or, pu_mk]
        refine key _ (hK2.set (Or.inl ⟨by decide, by decide⟩)) (ro _ 0 10 _ hW2o) (fun q hq2 => ?_) ?_ ?_ ?_ ?_ ?_
        · rw [am_get_row (Or.inr (by decide))]; exact rows q hq2
        · rw [am_get_other (by decide), r40, r40]; exact g2
        · rw [am_get_self, mk1]
          have : tuF L m c ph p = true := by unfold tuF; rw [z, decide_eq_true h123]; rfl
          rw [this, if_pos rfl]
        · rw [am_get_other (by decide), r40, r40]; exact g4
        · rw [am_get_other (by decide), r40, r40]; exact g5
        · rw [am_get_other (by decide), r40, r40]; exact g6
      · rw [if_pos (show nI (c (rpF m ph p)) ≠ 123 from ne_nI (b := 123) (by omega) (by decide) h123)]
        refine key _ hK2 hW2o rows ?_ ?_ ?_ ?_ ?_
        · rw [r40, r40]; exact g2
        · have : tuF L m c ph p = false := by unfold tuF; rw [z, decide_eq_false h123]; rfl
          rw [r40, r40, mk0 _ this]; exact g3
        · rw [r40, r40]; exact g4
        · rw [r40, r40]; exact g5
        · rw [r40, r40]; exact g6
theorem X_give (hX : SenP w o m P c l r ph pl dp) (hL : LenOK o P) (hc : ClassOK m P c l r ph) (hs : ShapeOK m c l r) (hP : P ≤ 81) (hL9 : L < 9) (hpl : ∀ p, p < P → pl p < 1000) (hB : cntF (hq L m c ph) P ≤ 10) (ho : o ≠ 4) {Z : Nat} (h6 : w.1 4 0 7 = nI L) (h7 : w.1 4 0 8 = nI Z) : ∃ W2, mX3_giveBits o w = some ((), W2) ∧ KX w W2 ∧ W2.1 o = w.1 o ∧ GB W2 L m P Z c ph pl P := by
  have hK : KX w (am_set (am_set (am_set w 4 0 9 0) 4 0 10 0) 4 0 11 0) := (((KX.rf w).set (Or.inl ⟨by decide, by decide⟩)).set (Or.inl ⟨by decide, by decide⟩)).set (Or.inl ⟨by decide, by decide⟩)
  have hWo : (am_set (am_set (am_set w 4 0 9 0) 4 0 10 0) 4 0 11 0).1 o = w.1 o := by rw [am_row_ne ho, am_row_ne ho, am_row_ne ho]
  obtain ⟨W2, f1, f2, f3, f4⟩ := X_give17 (Z := Z) hX hL hc hs hP hL9 hpl hB ho P 0 FU _ (by omega) (FU_gt (by omega)) hK hWo ⟨fun q hq2 => absurd hq2 (Nat.not_lt_zero q), by rw [am_get_other (by decide), am_get_other (by decide), am_get_self]; rfl, by rw [am_get_other (by decide), am_get_self]; rfl, by rw [am_get_self]; rfl, by rw [am_get_other (by decide), am_get_other (by decide), am_get_other (by decide)]; exact h6, by rw [am_get_other (by decide), am_get_other (by decide), am_get_other (by decide)]; exact h7⟩
  refine ⟨W2, ?_, f2, f3, f4⟩
  unfold mX3_giveBits
  rw [pu_mk, pu_mk, pu_mk]
  exact f1
end GV
