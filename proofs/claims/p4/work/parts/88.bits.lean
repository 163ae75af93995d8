/-! the class's bits against the model's list -/
def LQ (h : Nat → Bool) (P nb : Nat) (q : Nat → Nat) : Prop := (∀ j, j < nb → q j < P ∧ h (q j) = true) ∧ (∀ i j, i < nb → j < nb → q i = q j → i = j) ∧ (∀ p, p < P → h p = true → ∃ j, j < nb ∧ q j = p)
theorem rk_inj {h : Nat → Bool} {pl : Nat → Nat} {P p p2 : Nat} (hp : p < P) (hp2 : p2 < P) (h1 : h p = true) (h2 : h p2 = true) (e : rkF h pl P p = rkF h pl P p2) : p = p2 := by
  have key : ∀ a b, a < P → h a = true → (pl a < pl b ∨ (pl a = pl b ∧ a < b)) → rkF h pl P a < rkF h pl P b := fun a b ha ha2 z => by
    unfold rkF
    refine cntF_strict ha (fun q _ y => ?_) ?_ ?_
    · unfold befB at y ⊢
      rw [Bool.and_eq_true, decide_eq_true_eq] at y ⊢
      exact ⟨y.1, by omega⟩
    · unfold befB
      rw [decide_eq_false (by omega), Bool.and_false]
    · unfold befB
      rw [ha2, decide_eq_true z]
      rfl
  rcases Nat.lt_trichotomy (pl p) (pl p2) with z | z | z
  · have := key p p2 hp h1 (Or.inl z); omega
  · rcases Nat.lt_trichotomy p p2 with y | y | y
    · have := key p p2 hp h1 (Or.inr ⟨z, y⟩); omega
    · exact y
    · have := key p2 p hp2 h2 (Or.inr ⟨z.symm, y⟩); omega
  · have := key p2 p hp2 h2 (Or.inl z); omega
/-- a map into n places that never meets itself meets all -/
theorem pig {pi : Nat → Nat} {n : Nat} (h1 : ∀ j, j < n → pi j < n) (h2 : ∀ i j, i < n → j < n → pi i = pi j → i = j) {i : Nat} (hi : i < n) : ∃ j, j < n ∧ pi j = i := by
  apply Classical.byContradiction
  intro hno
  have hm : memB pi n i = false := by
    cases e : memB pi n i
    · rfl
    · exact absurd (memB_iff.mp e) hno
  have e1 := (memB_cnt (q := pi) (P := n) n).2 h1 h2
  have := cntF_strict (h := memB pi n) (g := fun _ => true) hi (fun _ _ _ => rfl) hm rfl
  have := cntF_le (fun _ => true) n
  omega
section LQS
variable {h : Nat → Bool} {P nb : Nat} {q pl : Nat → Nat}
theorem LQ.cnt (hk : LQ h P nb q) : cntF h P = nb := Nat.le_antisymm (cnt_surj hk.2.2) (cnt_inj hk.1 hk.2.1)
theorem LQ.pi_lt (hk : LQ h P nb q) {j : Nat} (hj : j < nb) : rkF h pl P (q j) < nb := by
  have := rkF_lt (pl := pl) (hk.1 j hj).1 (hk.1 j hj).2
  rw [hk.cnt] at this
  exact this
theorem LQ.pi_inj (hk : LQ h P nb q) : ∀ i j, i < nb → j < nb → rkF h pl P (q i) = rkF h pl P (q j) → i = j := fun i j hi hj e =>
  hk.2.1 i j hi hj (rk_inj (hk.1 i hi).1 (hk.1 j hj).1 (hk.1 i hi).2 (hk.1 j hj).2 e)
theorem LQ.pi_surj (hk : LQ h P nb q) {i : Nat} (hi : i < nb) : ∃ j, j < nb ∧ rkF h pl P (q j) = i := pig (pi := fun j => rkF h pl P (q j)) (fun _ hj => hk.pi_lt hj) hk.pi_inj hi
/-- a type of the model's as one of the class's -/
def fT (h : Nat → Bool) (P nb : Nat) (q pl : Nat → Nat) (t : Nat) : Nat := orF (fun j => if t.testBit j = true then 2 ^ (rkF h pl P (q j)) else 0) nb
theorem fT_bit (hk : LQ h P nb q) {t j : Nat} (hj : j < nb) : (fT h P nb q pl t).testBit (rkF h pl P (q j)) = t.testBit j := by
  apply bool_eq
  unfold fT
  rw [tb_orF]
  constructor
  · rintro ⟨k, k1, k2⟩
    split at k2
    · rename_i z
      rw [tb_pow, decide_eq_true_eq] at k2
      rw [← hk.pi_inj (pl := pl) k j k1 hj k2]
      exact z
    · rw [Nat.zero_testBit] at k2; cases k2
  · intro z
    exact ⟨j, hj, by rw [if_pos z, tb_pow, decide_eq_true rfl]⟩
theorem fT_ok (hk : LQ h P nb q) : BitOK nb (fun j => rkF h pl P (q j)) (fT h P nb q pl) := by
  have hlt : ∀ t, fT h P nb q pl t < 2 ^ nb := fun t => orF_lt (fun j hj => by
    split
    · exact pow_lt_of (hk.pi_lt hj)
    · exact Nat.two_pow_pos nb)
  refine ⟨fun j hj => hk.pi_lt hj, fun i hi => hk.pi_surj hi, fun t _ => hlt t, fun t j _ hj => fT_bit hk hj, fun u hu => ?_⟩
  refine ⟨orF (fun j => if u.testBit (rkF h pl P (q j)) = true then 2 ^ j else 0) nb, orF_lt (fun j hj => by
    split
    · exact pow_lt_of hj
    · exact Nat.two_pow_pos nb), ?_⟩
  refine Nat.eq_of_testBit_eq (fun k => ?_)
  rcases Nat.lt_or_ge k nb with hk2 | hk2
  · obtain ⟨j, hj, rfl⟩ := hk.pi_surj (pl := pl) hk2
    rw [fT_bit hk hj]
    apply bool_eq
    rw [tb_orF]
    constructor
    · rintro ⟨i, i1, i2⟩
      split at i2
      · rename_i z
        rw [tb_pow, decide_eq_true_eq] at i2
        rw [← i2]
        exact z
      · rw [Nat.zero_testBit] at i2; cases i2
    · intro z
      exact ⟨j, hj, by rw [if_pos z, tb_pow, decide_eq_true rfl]⟩
  · rw [bits_of_lt (hlt _) hk2, bits_of_lt hu hk2]
theorem id_ok (hk : LQ h P nb q) (hid : ∀ j, j < nb → rkF h pl P (q j) = j) : BitOK nb (fun j => rkF h pl P (q j)) id := ⟨fun j hj => hk.pi_lt hj, fun i hi => hk.pi_surj hi, fun _ ht => ht, fun t j _ hj => by
    dsimp only [id]
    rw [hid j hj], fun u hu => ⟨u, hu, rfl⟩⟩
theorem msk_bit (hk : LQ h P nb q) {g : Nat → Bool} (hg : ∀ p, g p = true → h p = true) {j : Nat} (hj : j < nb) : (mskF g (rkF h pl P) P).testBit (rkF h pl P (q j)) = g (q j) := by
  apply bool_eq
  unfold mskF
  rw [tb_orF]
  constructor
  · rintro ⟨p, p1, p2⟩
    split at p2
    · rename_i z
      rw [tb_pow, decide_eq_true_eq] at p2
      rw [← rk_inj p1 (hk.1 j hj).1 (hg p z) (hk.1 j hj).2 p2]
      exact z
    · rw [Nat.zero_testBit] at p2; cases p2
  · intro z
    exact ⟨q j, (hk.1 j hj).1, by rw [if_pos z, tb_pow, decide_eq_true rfl]⟩
theorem msk_ltn (hk : LQ h P nb q) {g : Nat → Bool} (hg : ∀ p, g p = true → h p = true) : mskF g (rkF h pl P) P < 2 ^ nb := msk_lt hg (Nat.le_of_eq hk.cnt)
/-- the model's bit of a part -/
noncomputable def jqE (nb : Nat) (q : Nat → Nat) (p : Nat) : Nat := Classical.epsilon (fun j => j < nb ∧ q j = p)
noncomputable def jqF (nb : Nat) (q : Nat → Nat) (p : Nat) : Nat := if jqE nb q p < nb then jqE nb q p else 0
theorem jq_spec {p : Nat} (h : ∃ j, j < nb ∧ q j = p) : jqF nb q p < nb ∧ q (jqF nb q p) = p := by
  have h2 : jqE nb q p < nb ∧ q (jqE nb q p) = p := Classical.epsilon_spec (p := fun j => j < nb ∧ q j = p) h
  unfold jqF
  rw [if_pos h2.1]
  exact h2
theorem jq_lt {p : Nat} (hn : nb ≤ 10) : jqF nb q p < 10 := by
  unfold jqF
  split <;> omega
theorem jq_at (hk : LQ h P nb q) {j : Nat} (hj : j < nb) : jqF nb q (q j) = j := by
  obtain ⟨h1, h2⟩ := jq_spec (nb := nb) (q := q) ⟨j, hj, rfl⟩
  exact hk.2.1 _ _ h1 hj h2
end LQS
section BB
variable {m P nb L : Nat} {c l r b e y ph pl dp bp f : Nat → Nat}
theorem two_bit {x k j : Nat} (hx : x < 2) : (x * 2 ^ k).testBit j = (decide (x = 1) && decide (k = j)) := by
  rcases (show x = 0 ∨ x = 1 by omega) with z | z
  · rw [z, Nat.zero_mul, Nat.zero_testBit]; rfl
  · rw [z, Nat.one_mul, tb_pow]; rfl
/-- the values of the nodes, by the class's bits and by the model's -/
theorem ev_same (hk : LQ (hq L m c ph) P nb (fun j => ph (bp j))) (hs : ShapeOK m c l r) (hc : ClassOK m P c l r ph) (hf : BitOK nb (fun j => rkF (hq L m c ph) pl P (ph (bp j))) f) {t : Nat} (ht : t < 2 ^ nb) : ∀ k, k < m → evV (opT (decide (L = 8)) c ph (rkF (hq L m c ph) pl P) (f t)) c l r k = evV (opT (decide (L = 8)) c ph (jqF nb (fun j => ph (bp j))) t) c l r k := by
  have hop : ∀ k, k < m → opT (decide (L = 8)) c ph (rkF (hq L m c ph) pl P) (f t) k = opT (decide (L = 8)) c ph (jqF nb (fun j => ph (bp j))) t k := fun k hkm => by
    funext a b
    unfold opT
    by_cases z : hbB (decide (L = 8)) (c k) = true
    · rw [if_pos z, if_pos z]
      have hh : hq L m c ph (ph k) = true := by
        unfold hq
        obtain ⟨z1, z2⟩ := rpF_spec hc (hc.1 k hkm)
        rw [hb_same hc z1 hkm z2]
        exact z
      obtain ⟨j, j1, j2⟩ := hk.2.2 (ph k) (hc.1 k hkm) hh
      have j2' : ph (bp j) = ph k := j2
      have e1 : jqF nb (fun j => ph (bp j)) (ph k) = j := by rw [← j2']; exact jq_at hk j1
      have e2 := hf.2.2.2.1 t j ht j1
      dsimp only at e2
      rw [j2'] at e2
      rw [e1, e2]
    · rw [if_neg z, if_neg z]
  have main : ∀ n k, k < n → k < m → evV (opT (decide (L = 8)) c ph (rkF (hq L m c ph) pl P) (f t)) c l r k = evV (opT (decide (L = 8)) c ph (jqF nb (fun j => ph (bp j))) t) c l r k := by
    intro n
    induction n with
    | zero => intro k hk; omega
    | succ n ih =>
      intro k hkn hkm
      rw [evV_eq hs hkm, evV_eq hs hkm, hop k hkm]
      unfold argA argB
      rcases hs k hkm with g | ⟨g, g1⟩ | ⟨g, g1, g2⟩
      · rw [kd_leaf g, if_pos rfl, if_pos rfl, if_neg (by decide), if_neg (by decide)]
      · rw [kd_pre g, ih (l k) (by omega) (by omega), if_neg (show ¬ (1 = 2) by decide), if_neg (show ¬ (1 = 2) by decide)]
      · rw [kd_jn g, ih (l k) (by omega) (by omega), ih (r k) (by omega) (by omega)]
  exact fun k hk2 => main (k + 1) k (Nat.lt_succ_self k) hk2
/-- the sign of a part in the list -/
theorem list_c (hc : ClassOK m P c l r ph) {j : Nat} (hb : bp j < m) : c (rpF m ph (ph (bp j))) = c (bp j) ∧ rpF m ph (ph (bp j)) < m ∧ ph (rpF m ph (ph (bp j))) = ph (bp j) := by
  obtain ⟨z1, z2⟩ := rpF_spec hc (hc.1 (bp j) hb)
  exact ⟨((hc.2.2.2.2 _ _ z1 hb).mp z2).1, z1, z2⟩
theorem hb_modal {cc : Nat} (h : hbB false cc = true) (ha : atmB cc = false) : cc = 91 ∨ cc = 123 := by
  unfold hbB at h
  rw [ha, Bool.false_or, if_neg (by decide)] at h
  unfold modB at h
  rw [decide_eq_true_eq] at h
  exact h
theorem msk_same (hk : LQ (hq L m c ph) P nb (fun j => ph (bp j))) (hc : ClassOK m P c l r ph) (hbp : ∀ j, j < nb → bp j < m) (hL : L < 8) : MskOK nb (fun j => rkF (hq L m c ph) pl P (ph (bp j))) (CLf L m P c ph pl) (TUf L m P c ph pl) (OWf L m P c ph pl) (muN c bp nb) (myN c bp nb) := by
  have g1 : ∀ p, clF L m c ph p = true → hq L m c ph p = true := fun p z => by unfold clF at z; rw [Bool.and_eq_true] at z; exact z.1
  have g2 : ∀ p, tuF L m c ph p = true → hq L m c ph p = true := fun p z => by unfold tuF at z; rw [Bool.and_eq_true] at z; exact z.1
  have g3 : ∀ p, owF L m c ph p = true → hq L m c ph p = true := fun p z => by unfold owF at z; rw [Bool.and_eq_true] at z; exact z.1
  have mk : ∀ f : Nat → Prop, [∀ j, Decidable (f j)] → orF (fun j => if f j then 2 ^ j else 0) nb < 2 ^ nb := fun f _ => orF_lt (fun j hj => by
    split
    · exact pow_lt_of hj
    · exact Nat.two_pow_pos nb)
  refine ⟨msk_ltn hk g1, msk_ltn hk g2, msk_ltn hk g3, mk _, mk _, fun j hj => ?_⟩
  have e1 := msk_bit (pl := pl) hk g1 hj
  have e2 := msk_bit (pl := pl) hk g2 hj
  have e3 := msk_bit (pl := pl) hk g3 hj
  obtain ⟨k1, k2, k3⟩ := list_c hc (hbp j hj)
  have hh : hq L m c ph (ph (bp j)) = true := (hk.1 j hj).2
  have d8 : decide (L = 8) = false := decide_eq_false (by omega)
  have hh2 : hbB false (c (bp j)) = true := by
    have : hq L m c ph (ph (bp j)) = hbB (decide (L = 8)) (c (rpF m ph (ph (bp j)))) := rfl
    rw [this, k1, d8] at hh
    exact hh
  have m1 : (muN c bp nb).testBit j = decide (c (bp j) = 91) := bool_eq (by rw [tb_muN, decide_eq_true_eq]; exact ⟨fun z => z.2, fun z => ⟨hj, z⟩⟩)
  have m2 : (myN c bp nb).testBit j = decide (c (bp j) = 123) := bool_eq (by rw [tb_myN, decide_eq_true_eq]; exact ⟨fun z => z.2, fun z => ⟨hj, z⟩⟩)
  have c1 : clF L m c ph (ph (bp j)) = !atmB (c (bp j)) := by unfold clF; rw [hh, k1, d8, Bool.or_false, Bool.true_and]
  have c2 : tuF L m c ph (ph (bp j)) = decide (c (bp j) = 123) := by unfold tuF; rw [hh, k1, Bool.true_and]
  have c3 : owF L m c ph (ph (bp j)) = !atmB (c (bp j)) := by unfold owF; rw [hh, k1, Bool.true_and]
  have hmod : (!atmB (c (bp j))) = (decide (c (bp j) = 91) || decide (c (bp j) = 123)) := by
    cases a : atmB (c (bp j))
    · rcases hb_modal hh2 a with z | z
      · rw [decide_eq_true z]; rfl
      · rw [decide_eq_true z, Bool.or_true]; rfl
    · unfold atmB at a
      rw [decide_eq_true_eq] at a
      rw [decide_eq_false (by omega), decide_eq_false (by omega)]
      rfl
  dsimp only at e1 e2 e3 ⊢
  unfold CLf TUf OWf
  rw [e1, e2, e3, m1, m2, c1, c2, c3, hmod]
  refine ⟨rfl, rfl, rfl, ?_⟩
  by_cases z : c (bp j) = 91
  · rw [decide_eq_false (show ¬ c (bp j) = 123 by omega), Bool.and_false]
  · rw [decide_eq_false z, Bool.false_and]
theorem br_same (hk : LQ (hq L m c ph) P nb (fun j => ph (bp j))) (hs : ShapeOK m c l r) (hc : ClassOK m P c l r ph) (hf : BitOK nb (fun j => rkF (hq L m c ph) pl P (ph (bp j))) f) (hbp : ∀ j, j < nb → bp j < m) (hL : L < 8) : BrOK nb (fun j => rkF (hq L m c ph) pl P (ph (bp j))) f (muN c bp nb) (myN c bp nb) (brT L m P c l r ph pl) (fun u => inN c l bp (evV (opT false c ph (jqF nb (fun j => ph (bp j))) u) c l r) nb) := by
  intro t ht j hj
  have d8 : decide (L = 8) = false := decide_eq_false (by omega)
  obtain ⟨k1, k2, k3⟩ := list_c hc (hbp j hj)
  have hev := ev_same hk hs hc hf ht
  have hh : hq L m c ph (ph (bp j)) = true := (hk.1 j hj).2
  have ebit : (brT L m P c l r ph pl (f t)).testBit (rkF (hq L m c ph) pl P (ph (bp j))) = decide (brP L m c l r ph (rkF (hq L m c ph) pl P) (f t) (ph (bp j)) = 1) := by
    apply bool_eq
    unfold brT brF
    rw [tb_orF, decide_eq_true_eq]
    constructor
    · rintro ⟨p, p1, p2⟩
      split at p2
      · rename_i z
        rw [two_bit (brP_lt hs hc p1), Bool.and_eq_true, decide_eq_true_eq, decide_eq_true_eq] at p2
        have e2 : p = ph (bp j) := rk_inj p1 (hk.1 j hj).1 z hh p2.2
        rw [← e2]
        exact p2.1
      · rw [Nat.zero_testBit] at p2; cases p2
    · intro z
      exact ⟨ph (bp j), (hk.1 j hj).1, by rw [if_pos hh, z, two_bit (by decide), decide_eq_true rfl, decide_eq_true rfl]; rfl⟩
  have hpre : c (bp j) = 91 ∨ c (bp j) = 123 → argA c l (evV (opT (decide (L = 8)) c ph (rkF (hq L m c ph) pl P) (f t)) c l r) (rpF m ph (ph (bp j))) = evV (opT false c ph (jqF nb (fun j => ph (bp j))) t) c l r (l (bp j)) := fun z => by
    have pre1 : isPre (c (rpF m ph (ph (bp j)))) := by rw [k1]; unfold isPre; omega
    have pre2 : isPre (c (bp j)) := by unfold isPre; omega
    have hl1 : l (rpF m ph (ph (bp j))) < rpF m ph (ph (bp j)) := by
      rcases hs _ k2 with g | ⟨g, g1⟩ | ⟨g, g1, g2⟩
      · unfold isLeaf at g; unfold isPre at pre1; omega
      · exact g1
      · exact g1
    have hl2 : l (bp j) < bp j := by
      rcases hs _ (hbp j hj) with g | ⟨g, g1⟩ | ⟨g, g1, g2⟩
      · unfold isLeaf at g; unfold isPre at pre2; omega
      · exact g1
      · exact g1
    have hb := hbp j hj
    have el := ((hc.2.2.2.2 _ _ k2 (hbp j hj)).mp k3).2.1 pre1
    unfold argA
    rw [kd_pre pre1, if_neg (by decide), hev _ (by omega), d8]
    exact evV_ph hs hc (fun k i hk1 hi he => by
      funext x z
      unfold opT
      rw [((hc.2.2.2.2 k i hk1 hi).mp he).1, he]) _ _ _ (Nat.lt_succ_self _) (by omega) (by omega) el
  have hin : (inN c l bp (evV (opT false c ph (jqF nb (fun j => ph (bp j))) t) c l r) nb).testBit j = decide ((c (bp j) = 91 ∨ c (bp j) = 123) ∧ evV (opT false c ph (jqF nb (fun j => ph (bp j))) t) c l r (l (bp j)) = 1) := by
    apply bool_eq
    unfold inN
    rw [tb_orF, decide_eq_true_eq]
    constructor
    · rintro ⟨i, i1, i2⟩
      split at i2
      · rename_i z
        rw [tb_pow, decide_eq_true_eq] at i2
        rw [← i2]
        exact z
      · rw [Nat.zero_testBit] at i2; cases i2
    · intro z
      exact ⟨j, hj, by rw [if_pos z, tb_pow, decide_eq_true rfl]⟩
  refine ⟨fun z => ?_, fun z => ?_⟩
  · obtain ⟨-, z⟩ := tb_muN.mp z
    dsimp only
    rw [ebit, hin]
    unfold brP brg
    rw [k1, if_pos z, hpre (Or.inl z)]
    congr 1
    exact propext ⟨fun y => ⟨Or.inl z, y⟩, fun y => y.2⟩
  · obtain ⟨-, z⟩ := tb_myN.mp z
    have hlt : evV (opT false c ph (jqF nb (fun j => ph (bp j))) t) c l r (l (bp j)) < 2 := by
      have hb := hbp j hj
      have pre2 : isPre (c (bp j)) := by unfold isPre; omega
      have hl2 : l (bp j) < bp j := by
        rcases hs _ (hbp j hj) with g | ⟨g, g1⟩ | ⟨g, g1, g2⟩
        · unfold isLeaf at g; unfold isPre at pre2; omega
        · exact g1
        · exact g1
      exact evV_lt hs (by decide) (fun k _ a b ha hb => opT_lt ha hb) _ _ (Nat.lt_succ_self _) (by omega)
    dsimp only
    rw [ebit, hin]
    unfold brP brg
    rw [k1, if_neg (show ¬ c (bp j) = 91 by omega), if_pos z, hpre (Or.inr z)]
    rcases (show evV (opT false c ph (jqF nb (fun j => ph (bp j))) t) c l r (l (bp j)) = 0 ∨ evV (opT false c ph (jqF nb (fun j => ph (bp j))) t) c l r (l (bp j)) = 1 by omega) with y | y
    · rw [y, decide_eq_true rfl, decide_eq_false (fun x => by cases x.2)]
      rfl
    · rw [y, decide_eq_false (by decide), decide_eq_true ⟨Or.inr z, rfl⟩]
      rfl
end BB
