/-! the model gives bits -/
section TE
variable {w0 : AW} {M Z P : Nat} {c l r b e y ph : Nat → Nat} {gr : Bool}
def PrB (gr : Bool) (c b : Nat → Nat) (a kk k : Nat) : Prop := hbB gr (c k) = true ∧ (b k < a ∨ (b k = a ∧ k < kk))
def TI (w0 W : AW) (gr : Bool) (M : Nat) (c b ph : Nat → Nat) (nb : Nat) (bp : Nat → Nat) (a kk : Nat) : Prop :=
  KM w0 W ∧ (∀ a', a' ≠ 35 → a' ≠ 37 → a' ≠ 0 → W.1 0 a' = w0.1 0 a') ∧ (∀ j, j ≠ 35 → W.1 0 0 j = w0.1 0 0 j) ∧ W.1 0 0 35 = nI nb ∧ nb ≤ 10 ∧
  (∀ j, j < nb → bp j < M ∧ W.1 0 37 j = nI (bp j) ∧ PrB gr c b a kk (bp j)) ∧ (∀ i j, i < j → j < nb → ph (bp i) ≠ ph (bp j) ∧ b (bp i) ≤ b (bp j)) ∧ (∀ j, j < nb → ∀ k, k < M → ph k = ph (bp j) → b (bp j) ≤ b k) ∧
  (∀ k, k < M → (PrB gr c b a kk k → ∃ j, j < nb ∧ ph (bp j) = ph k ∧ W.1 0 35 k = nI j) ∧ (¬ PrB gr c b a kk k → W.1 0 35 k = -9))
theorem TI.work {W : AW} {nb a kk : Nat} {bp : Nat → Nat} (h : TI w0 W gr M c b ph nb bp a kk) (hW : WorkM w0 M Z c l r b e y) : WorkM W M Z c l r b e y := hW.c (h.2.2.1 26 (by decide)) (h.2.2.1 27 (by decide)) (fun a h1 h2 => h.2.1 a (by omega) (by omega) (by omega))
/-- a node passed over -/
theorem TI.skip {W : AW} {nb a k : Nat} {bp : Nat → Nat} (h : TI w0 W gr M c b ph nb bp a k) (hs : ¬ (hbB gr (c k) = true ∧ b k = a)) : TI w0 W gr M c b ph nb bp a (k + 1) := by
  have hp : ∀ q, PrB gr c b a (k + 1) q ↔ PrB gr c b a k q := fun q => by
    unfold PrB
    constructor
    · rintro ⟨h1, h2⟩
      refine ⟨h1, ?_⟩
      rcases h2 with h2 | ⟨h2, h3⟩
      · exact Or.inl h2
      · by_cases e : q = k
        · subst e; exact absurd ⟨h1, h2⟩ hs
        · exact Or.inr ⟨h2, by omega⟩
    · rintro ⟨h1, h2⟩
      refine ⟨h1, ?_⟩
      rcases h2 with h2 | ⟨h2, h3⟩
      · exact Or.inl h2
      · exact Or.inr ⟨h2, by omega⟩
  obtain ⟨t1, t2, t3, t4, t5, t6, t7, t8, t9⟩ := h
  refine ⟨t1, t2, t3, t4, t5, fun j hj => ?_, t7, t8, fun q hq2 => ?_⟩
  · obtain ⟨z1, z2, z3⟩ := t6 j hj
    exact ⟨z1, z2, (hp _).mpr z3⟩
  · rw [hp]
    exact t9 q hq2
/-- the byte's nodes all passed: the next byte -/
theorem TI.next {W : AW} {nb a : Nat} {bp : Nat → Nat} (h : TI w0 W gr M c b ph nb bp a M) : TI w0 W gr M c b ph nb bp (a + 1) 0 := by
  have hp : ∀ q, q < M → (PrB gr c b (a + 1) 0 q ↔ PrB gr c b a M q) := fun q hq2 => by
    unfold PrB
    constructor
    · rintro ⟨h1, h2⟩
      exact ⟨h1, by omega⟩
    · rintro ⟨h1, h2⟩
      exact ⟨h1, by omega⟩
  obtain ⟨t1, t2, t3, t4, t5, t6, t7, t8, t9⟩ := h
  refine ⟨t1, t2, t3, t4, t5, fun j hj => ?_, t7, t8, fun q hq2 => ?_⟩
  · obtain ⟨z1, z2, z3⟩ := t6 j hj
    exact ⟨z1, z2, (hp _ z1).mpr z3⟩
  · rw [hp q hq2]
    exact t9 q hq2
theorem hb_same (hc : ClassOK M P c l r ph) {k j : Nat} (hk : k < M) (hj : j < M) (he : ph k = ph j) : hbB gr (c k) = hbB gr (c j) := by rw [((hc.2.2.2.2 k j hk hj).mp he).1]
/-- one node: its bit, or too many -/
theorem M_tnode {l1 r1 : Nat → Nat} {k31 k41 : Int32 → AW → Option (Int32 × AW)} {W : AW} {nb a k : Nat} {bp : Nat → Nat} {v1 : Int32} (hW : WorkM w0 M Z c l1 r1 b e y) (hT : TreeOK M c l r b e y) (hc : ClassOK M P c l r ph) (hM : M ≤ 90) (hZ : Z ≤ 420) (he : ∀ k, k < M → e k ≤ Z) (hy : ∀ j, y j < 256) (hI : TI w0 W gr M c b ph nb bp a k) (hk : k < M) (hh : hbB gr (c k) = true) (hb : b k = a) :
    (∃ W2 nb2 bp2, mX6_tells_119 k31 k41 v1 (nI a) (nI k) FU (nI 0) W = k41 (nI (k + 1)) W2 ∧ TI w0 W2 gr M c b ph nb2 bp2 a (k + 1)) ∨ (∃ W2, mX6_tells_119 k31 k41 v1 (nI a) (nI k) FU (nI 0) W = some (nI 0, W2) ∧ KM w0 W2 ∧ 11 ≤ cntF (fun q => hbB gr (c (rpF M ph q))) P) := by
  have hWW := hI.work hW
  obtain ⟨t1, t2, t3, t4, t5, t6, t7, t8, t9⟩ := hI
  have hnp : ¬ PrB gr c b a k k := fun z => by
    rcases z.2 with z | ⟨-, z⟩
    · omega
    · omega
  have h9 : W.1 0 35 k = -9 := (t9 k hk).2 hnp
  have ev : ∀ j, nI j + 1 = nI (j + 1) := fun j => nI_add j 1
  have r35 : ∀ (V : AW) (x : Int32) (f : Int32 → Option (Int32 × AW)), V.1 0 35 k = x → rd 90 (V.1 0 35) (nI k) f = f x := fun V x f h => by rw [rd_in (by omega) (by decide), h]
  have r37 : ∀ (j : Nat), j < nb → ∀ (f : Int32 → Option (Int32 × AW)), rd 10 (W.1 0 37) (nI j) f = f (nI (bp j)) := fun j hj f => by rw [rd_in (by omega) (by decide), (t6 j hj).2.1]
  have w35 : ∀ (V : AW) (x : Int32) (f : AW → Option (Int32 × AW)), wr 90 V 0 35 (nI k) x f = f (am_set V 0 35 k x) := fun V x f => wr_in (by omega) (by decide) V 0 35 x f
  have hp : ∀ q, PrB gr c b a (k + 1) q ↔ (PrB gr c b a k q ∨ q = k) := fun q => by
    unfold PrB
    constructor
    · rintro ⟨h1, h2⟩
      by_cases e : q = k
      · exact Or.inr e
      · exact Or.inl ⟨h1, by omega⟩
    · rintro (⟨h1, h2⟩ | h2)
      · exact ⟨h1, by omega⟩
      · subst h2; exact ⟨hh, by omega⟩
  have like : ∀ j, j < nb → mX6_isLike (nI (bp j)) (nI k) W = some (nI (bN (decide (ph (bp j) = ph k))), W) := fun j hj => M_isLike hWW hT hc hM hZ he hy (t6 j hj).1 hk
  have miss : ∀ n j, j < nb → ph (bp j) ≠ ph k → mX6_tells_119 k31 k41 v1 (nI a) (nI k) (n + 1) (nI j) W = mX6_tells_119 k31 k41 v1 (nI a) (nI k) n (nI (j + 1)) W := fun n j hj hne => by
    rw [mX6_tells_119, t4, if_neg (nI_ge hj (by omega)), r35 W _ _ h9, if_neg (fun z => z rfl), r37 j hj, like j hj, cl_mk, decide_eq_false hne, if_pos (show nI (bN false) = 0 from rfl)]
    unfold mX6_tells_166
    rw [w35, nm_mk, ev, am_same h9]
  by_cases hex : ∃ j, j < nb ∧ ph (bp j) = ph k
  · obtain ⟨j0, hj0, hje⟩ := hex
    refine Or.inl ⟨am_set W 0 35 k (nI j0), nb, bp, ?_, ?_⟩
    · refine loopE (fun n (s : Int32 × AW) => mX6_tells_119 k31 k41 v1 (nI a) (nI k) n s.1 s.2) (j0 + 1) (fun j => (nI j, if j ≤ j0 then W else am_set W 0 35 k (nI j0))) _ ?_ ?_ FU 0 (Nat.zero_le _) (FU_gt (by omega))
      · intro n j hj
        dsimp only
        rw [if_pos (show j ≤ j0 by omega)]
        by_cases q : j = j0
        · subst q
          rw [if_neg (show ¬ (j + 1 ≤ j) by omega), mX6_tells_119, t4, if_neg (nI_ge hj0 (by omega)), r35 W _ _ h9, if_neg (fun z => z rfl), r37 j hj0, like j hj0, cl_mk, decide_eq_true hje, if_neg (show ¬ (nI (bN true) = 0) by decide)]
          unfold mX6_tells_166
          rw [w35, nm_mk, ev]
        · rw [if_pos (show j + 1 ≤ j0 by omega)]
          refine miss n j (by omega) (fun z => (t7 j j0 (by omega) hj0).1 (z.trans hje.symm))
      · intro n
        dsimp only
        have e1 : (am_set W 0 35 k (nI j0)).1 0 35 k = nI j0 := am_get_self _ _ _ _ _
        have n9 := nI_n9 (show j0 < 2 ^ 31 by omega)
        have e173 : mX6_tells_173 k31 k41 v1 (nI a) (nI k) (am_set W 0 35 k (nI j0)) = k41 (nI (k + 1)) (am_set W 0 35 k (nI j0)) := by
          unfold mX6_tells_173
          rw [r35 _ _ _ e1, if_pos n9]
          unfold mX6_tells_225
          rw [nm_mk, ev]
        rw [if_neg (show ¬ (j0 + 1 ≤ j0) by omega), mX6_tells_119]
        by_cases q : ((am_set W 0 35 k (nI j0)).1 0 0 35) ≤ nI (j0 + 1)
        · rw [if_pos q, e173]
        · rw [if_neg q, r35 _ _ _ e1, if_pos n9, e173]
    · refine ⟨t1.set (Or.inl (by decide)), fun a' h1 h2 h3 => by rw [am_get_row (Or.inr h1)]; exact t2 a' h1 h2 h3, fun j hj => by rw [am_get_row (by decide)]; exact t3 j hj, by rw [am_get_row (by decide)]; exact t4, t5, fun j hj => ?_, t7, t8, fun q hq2 => ?_⟩
      · obtain ⟨z1, z2, z3⟩ := t6 j hj
        exact ⟨z1, by rw [am_get_row (by decide)]; exact z2, (hp _).mpr (Or.inl z3)⟩
      · rw [hp]
        by_cases eq : q = k
        · subst eq
          exact ⟨fun _ => ⟨j0, hj0, hje, am_get_self _ _ _ _ _⟩, fun z => absurd (Or.inr rfl) z⟩
        · rw [am_get_other eq]
          obtain ⟨z1, z2⟩ := t9 q hq2
          exact ⟨fun z => z1 (by rcases z with z | z; exact z; exact absurd z eq), fun z => z2 (fun y => z (Or.inl y))⟩
  · have hno : ∀ j, j < nb → ph (bp j) ≠ ph k := fun j hj z => hex ⟨j, hj, z⟩
    have to173 : mX6_tells_119 k31 k41 v1 (nI a) (nI k) FU (nI 0) W = mX6_tells_173 k31 k41 v1 (nI a) (nI k) W := by
      refine loopE (fun n j => mX6_tells_119 k31 k41 v1 (nI a) (nI k) n j W) nb nI _ (fun n j hj => miss n j hj (hno j hj)) (fun n => ?_) FU 0 (Nat.zero_le _) (FU_gt (by omega))
      rw [mX6_tells_119, t4, if_pos (nI_le (Nat.le_refl nb) (by omega))]
    rw [to173]
    by_cases h10 : nb = 10
    · refine Or.inr ⟨W, ?_, t1, ?_⟩
      · unfold mX6_tells_173
        rw [r35 W _ _ h9, if_neg (fun z => z rfl), t4, h10, if_neg (show ¬ (nI 10 ≠ 10) from fun z => z rfl)]
        rfl
      · refine cnt_inj (q := fun j => if j < 10 then ph (bp j) else ph k) (fun j hj => ?_) (fun i j hi hj hz => ?_)
        · have hbk : ∀ q, q < M → hbB gr (c q) = true → ph q < P ∧ hbB gr (c (rpF M ph (ph q))) = true := fun q hq2 hq3 => by
            obtain ⟨z1, z2⟩ := rpF_spec hc (hc.1 q hq2)
            exact ⟨hc.1 q hq2, by rw [hb_same hc z1 hq2 z2]; exact hq3⟩
          by_cases q : j < 10
          · rw [if_pos q]
            have := t6 j (by omega)
            exact hbk _ this.1 this.2.2.1
          · rw [if_neg q]
            exact hbk k hk hh
        · by_cases q1 : i < 10
          · rw [if_pos q1] at hz
            by_cases q2 : j < 10
            · rw [if_pos q2] at hz
              rcases Nat.lt_trichotomy i j with y | y | y
              · exact absurd hz (t7 i j y (by omega)).1
              · exact y
              · exact absurd hz.symm (t7 j i y (by omega)).1
            · rw [if_neg q2] at hz
              exact absurd hz (hno i (by omega))
          · rw [if_neg q1] at hz
            by_cases q2 : j < 10
            · rw [if_pos q2] at hz
              exact absurd hz.symm (hno j (by omega))
            · omega
    · refine Or.inl ⟨am_set (am_set (am_set W 0 35 k (nI nb)) 0 37 nb (nI k)) 0 0 35 (nI (nb + 1)), nb + 1, ex1 bp nb k, ?_, ?_⟩
      · unfold mX6_tells_173
        rw [r35 W _ _ h9, if_neg (fun z => z rfl), t4, if_pos (show nI nb ≠ 10 from ne_nI (b := 10) (by omega) (by decide) h10), w35, rn 35 0 rfl, t4, wr_in (show nb < 10 by omega) (by decide), rn 37 0 rfl, rn 35 0 rfl, t4, ev, pu_mk]
        unfold mX6_tells_225
        rw [nm_mk, ev]
      · have exb : ∀ j, j < nb → ex1 bp nb k j = bp j := fun j hj => ex1_lt hj
        refine ⟨((t1.set (Or.inl (by decide))).set (Or.inl (by decide))).set (Or.inr ⟨rfl, by decide, by decide⟩), fun a' h1 h2 h3 => by rw [am_get_row (Or.inr h3), am_get_row (Or.inr h2), am_get_row (Or.inr h1)]; exact t2 a' h1 h2 h3, fun j hj => by rw [am_get_other hj, am_get_row (by decide), am_get_row (by decide)]; exact t3 j hj, am_get_self _ _ _ _ _, by omega, fun j hj => ?_, fun i j hij hj => ?_, fun j hj q hq2 hz => ?_, fun q hq2 => ?_⟩
        · rw [am_get_row (by decide)]
          by_cases q : j = nb
          · subst q
            rw [ex1_s, am_get_self]
            exact ⟨hk, rfl, (hp _).mpr (Or.inr rfl)⟩
          · obtain ⟨z1, z2, z3⟩ := t6 j (by omega)
            rw [exb j (by omega), am_get_other q, am_get_row (by decide)]
            exact ⟨z1, z2, (hp _).mpr (Or.inl z3)⟩
        · rw [exb i (by omega)]
          by_cases q : j = nb
          · subst q
            rw [ex1_s]
            refine ⟨hno i hij, ?_⟩
            rcases (t6 i hij).2.2.2 with z | ⟨z, -⟩ <;> omega
          · rw [exb j (by omega)]
            exact t7 i j hij (by omega)
        · by_cases q3 : j = nb
          · subst q3
            rw [ex1_s] at hz ⊢
            -- an elder one of the class would be in the list
            rcases Nat.lt_or_ge (b q) (b k) with y | y
            · exfalso
              have hbq : hbB gr (c q) = true := by rw [hb_same hc hq2 hk hz]; exact hh
              obtain ⟨i, i1, i2, -⟩ := (t9 q hq2).1 ⟨hbq, Or.inl (by omega)⟩
              exact hno i i1 (i2.trans hz)
            · exact y
          · rw [exb j (by omega)] at hz ⊢
            exact t8 j (by omega) q hq2 hz
        · rw [hp, am_get_row (by decide), am_get_row (by decide)]
          by_cases eq : q = k
          · subst eq
            exact ⟨fun _ => ⟨nb, by omega, by rw [ex1_s], am_get_self _ _ _ _ _⟩, fun z => absurd (Or.inr rfl) z⟩
          · rw [am_get_other eq]
            obtain ⟨z1, z2⟩ := t9 q hq2
            refine ⟨fun z => ?_, fun z => z2 (fun y => z (Or.inl y))⟩
            obtain ⟨j, j1, j2, j3⟩ := z1 (by rcases z with z | z; exact z; exact absurd z eq)
            exact ⟨j, by omega, by rw [exb j j1]; exact j2, j3⟩
end TE
