section
/-! the class's answers about types (but how many are reached) -/
/-- the least type there at which v -/
def PWis (th : Nat → Bool) (wh : Nat → Nat) (Z v : Nat) (x : Int32) : Prop := (x = -9 ∧ ∀ t, t < Z → th t = true → wh t ≠ v) ∨ ∃ t, t < Z ∧ th t = true ∧ wh t = v ∧ (∀ u, u < t → th u = true → wh u ≠ v) ∧ x = nI (cntF th t)
section AX
variable {W : AW} {Z : Nat} {th : Nat → Bool} {wh : Nat → Nat}
theorem X_place (hZ : Z ≤ 1024) (h12 : W.1 4 0 13 = nI (cntF th Z)) (h6 : ∀ t, t < Z → th t = true → W.1 4 7 (cntF th t) = nI t) (h4 : ∀ t, t < Z → W.1 4 5 t = nI (wh t)) (hwl : ∀ t, wh t < 2) {v : Nat} (hv : v < 2) : ∃ x, mX3_placeWhere (nI v) W = some (x, W) ∧ PWis th wh Z v x := by
  have hcZ := cntF_le th Z
  have step : ∀ n p, p < cntF th Z → (∀ t, t < Z → th t = true → cntF th t = p → wh t ≠ v) → mX3_placeWhere_2 (nI v) (n + 1) (nI p) W = mX3_placeWhere_2 (nI v) n (nI (p + 1)) W := fun n p hp hno => by
    obtain ⟨t, t1, t2, t3⟩ := cnt_ex Z hp
    have c1 : ¬ nI (cntF th Z) ≤ nI p := nI_ge hp (by omega)
    have e6 : mX5_at 4 7 (nI p) W = some (nI t, W) := by rw [at_in W (show p < 1024 by omega) (by decide), ← t3, h6 t t1 t2]
    have e4 : mX5_at 4 5 (nI t) W = some (nI (wh t), W) := by rw [at_in W (show t < 1024 by omega) (by decide), h4 t t1]
    rw [mX3_placeWhere_2, h12, if_neg c1, e6, cl_mk, e4, cl_mk, if_pos (ne_nI (by have := hwl t; omega) (by omega) (hno t t1 t2 t3)), nm_mk, show nI p + 1 = nI (p + 1) from nI_add p 1]
  by_cases hex : ∃ t, t < Z ∧ th t = true ∧ wh t = v
  · obtain ⟨t0, ⟨a1, a2, a3⟩, hmin⟩ := pk_least _ hex
    have hmin2 : ∀ u, u < t0 → th u = true → wh u ≠ v := fun u hu q z => hmin u hu ⟨by omega, q, z⟩
    refine ⟨nI (cntF th t0), ?_, Or.inr ⟨t0, a1, a2, a3, hmin2, rfl⟩⟩
    have hlt := cntF_lt a1 a2
    refine loopE (fun n p => mX3_placeWhere_2 (nI v) n p W) (cntF th t0) nI _ (fun n p hp => step n p (by omega) (fun t t1 t2 t3 => ?_)) ?_ FU 0 (Nat.zero_le _) (FU_gt (by omega))
    · rcases Nat.lt_or_ge t t0 with q | q
      · exact hmin2 t q t2
      · have := cntF_up (h := th) q
        omega
    · intro n
      have c1 : ¬ nI (cntF th Z) ≤ nI (cntF th t0) := nI_ge hlt (by omega)
      have e6 : mX5_at 4 7 (nI (cntF th t0)) W = some (nI t0, W) := by rw [at_in W (show cntF th t0 < 1024 by omega) (by decide), h6 t0 a1 a2]
      have e4 : mX5_at 4 5 (nI t0) W = some (nI (wh t0), W) := by rw [at_in W (show t0 < 1024 by omega) (by decide), h4 t0 a1]
      rw [mX3_placeWhere_2, h12, if_neg c1, e6, cl_mk, e4, cl_mk, a3, if_neg (fun z => z rfl)]
  · have hno : ∀ t, t < Z → th t = true → wh t ≠ v := fun t t1 t2 z => hex ⟨t, t1, t2, z⟩
    refine ⟨-9, ?_, Or.inl ⟨rfl, hno⟩⟩
    refine loopE (fun n p => mX3_placeWhere_2 (nI v) n p W) (cntF th Z) nI _ (fun n p hp => step n p hp (fun t t1 t2 _ => hno t t1 t2)) ?_ FU 0 (Nat.zero_le _) (FU_gt (by omega))
    intro n
    rw [mX3_placeWhere_2, h12, if_pos (nI_le (Nat.le_refl _) (by omega))]
theorem PW_n9 {v : Nat} {x : Int32} (hZ : Z ≤ 1024) (h : PWis th wh Z v x) : (x = -9 ↔ ∀ t, t < Z → th t = true → wh t ≠ v) := by
  rcases h with ⟨h1, h2⟩ | ⟨t, t1, t2, t3, t4, rfl⟩
  · exact ⟨fun _ => h2, fun _ => h1⟩
  · have := cntF_le th t
    exact ⟨fun z => absurd z (nI_n9 (by omega)), fun z => absurd t3 (z t t1 t2)⟩
/-- whether the sentence holds at all that stay -/
def lawB (th : Nat → Bool) (wh : Nat → Nat) (Z : Nat) : Bool := allT (fun t => !th t || decide (wh t = 1)) Z
theorem X_law (hZ : Z ≤ 1024) (h12 : W.1 4 0 13 = nI (cntF th Z)) (h6 : ∀ t, t < Z → th t = true → W.1 4 7 (cntF th t) = nI t) (h4 : ∀ t, t < Z → W.1 4 5 t = nI (wh t)) (hwl : ∀ t, wh t < 2) : mX3_answer (nI 1) W = some (nI (bN (lawB th wh Z)), W) := by
  obtain ⟨x, e1, e2⟩ := X_place hZ h12 h6 h4 hwl (v := 0) (by decide)
  have i1 := PW_n9 hZ e2
  have e1' : mX3_placeWhere 0 W = some (x, W) := e1
  unfold mX3_answer
  rw [if_neg (show ¬ (nI 1 = 0) by decide), if_pos (show nI 1 = 1 from rfl), e1', cl_mk]
  by_cases h9 : x = -9
  · have hl : lawB th wh Z = true := allT_iff.mpr (fun t ht => by
      cases q : th t
      · rfl
      · have := i1.mp h9 t ht q
        have := hwl t
        rw [Bool.not_true, Bool.false_or, decide_eq_true_eq]
        omega)
    rw [if_neg (fun z => z h9), hl]
    rfl
  · have hl : lawB th wh Z = false := by
      cases q : lawB th wh Z
      · rfl
      · exfalso
        apply h9
        refine i1.mpr (fun t ht z => ?_)
        have := allT_iff.mp q t ht
        rw [z, Bool.not_true, Bool.false_or, decide_eq_true_eq] at this
        omega
    rw [if_pos h9, hl]
    rfl
end AX
end
section
/-! counting by a list -/
theorem cntF_add {g g' : Nat → Bool} {x : Nat} (h0 : g x = false) (h1 : g' x = true) (he : ∀ p, p ≠ x → g' p = g p) : ∀ P, cntF g' P = cntF g P + (if x < P then 1 else 0)
  | 0 => by rw [if_neg (by omega)]; rfl
  | P + 1 => by
    have ih := cntF_add h0 h1 he P
    show cntF g' P + bN (g' P) = cntF g P + bN (g P) + _
    rw [ih]
    by_cases e : P = x
    · subst e
      rw [h0, h1, bN_t, bN_f, if_neg (by omega), if_pos (by omega)]
    · rw [he P e]
      by_cases q : x < P
      · rw [if_pos q, if_pos (by omega)]; omega
      · rw [if_neg q, if_neg (by omega)]
        omega
def memB (q : Nat → Nat) (n p : Nat) : Bool := exB (fun j => decide (q j = p)) n
theorem memB_iff {q : Nat → Nat} {n p : Nat} : memB q n p = true ↔ ∃ j, j < n ∧ q j = p := by
  unfold memB
  rw [exB_iff]
  constructor
  · rintro ⟨j, h1, h2⟩
    exact ⟨j, h1, of_decide_eq_true h2⟩
  · rintro ⟨j, h1, h2⟩
    exact ⟨j, h1, decide_eq_true h2⟩
theorem memB_cnt {q : Nat → Nat} {P : Nat} : ∀ n, cntF (memB q n) P ≤ n ∧ ((∀ j, j < n → q j < P) → (∀ i j, i < n → j < n → q i = q j → i = j) → cntF (memB q n) P = n)
  | 0 => by
    have : ∀ P, cntF (memB q 0) P = 0 := by
      intro P
      induction P with
      | zero => rfl
      | succ P ih =>
        show cntF (memB q 0) P + bN (memB q 0 P) = 0
        rw [ih]
        rfl
    rw [this]
    exact ⟨Nat.le_refl 0, fun _ _ => rfl⟩
  | n + 1 => by
    obtain ⟨i1, i2⟩ := memB_cnt (q := q) (P := P) n
    have es : ∀ p, memB q (n + 1) p = (memB q n p || decide (q n = p)) := fun p => rfl
    cases z : memB q n (q n)
    · have h := cntF_add (g := memB q n) (g' := memB q (n + 1)) z (by rw [es, decide_eq_true rfl, Bool.or_true]) (fun p hp => by rw [es, decide_eq_false (fun y => hp y.symm), Bool.or_false]) P
      refine ⟨?_, fun h1 h2 => ?_⟩
      · rw [h]
        split <;> omega
      · rw [h, if_pos (h1 n (by omega)), i2 (fun j hj => h1 j (by omega)) (fun i j hi hj => h2 i j (by omega) (by omega))]
    · have same : ∀ p, memB q (n + 1) p = memB q n p := fun p => by
        rw [es]
        by_cases y : q n = p
        · rw [← y, z]; rfl
        · rw [decide_eq_false y, Bool.or_false]
      have h : ∀ P, cntF (memB q (n + 1)) P = cntF (memB q n) P := by
        intro P
        induction P with
        | zero => rfl
        | succ P ih =>
          show cntF (memB q (n + 1)) P + bN (memB q (n + 1) P) = cntF (memB q n) P + bN (memB q n P)
          rw [ih, same]
      refine ⟨by rw [h]; omega, fun h1 h2 => ?_⟩
      obtain ⟨j, j1, j2⟩ := memB_iff.mp z
      have := h2 j n (by omega) (by omega) j2
      omega
theorem cnt_inj {h : Nat → Bool} {P n : Nat} {q : Nat → Nat} (h1 : ∀ j, j < n → q j < P ∧ h (q j) = true) (h2 : ∀ i j, i < n → j < n → q i = q j → i = j) : n ≤ cntF h P := by
  rw [← (memB_cnt (q := q) (P := P) n).2 (fun j hj => (h1 j hj).1) h2]
  refine cntF_mono (fun p _ z => ?_)
  obtain ⟨j, j1, j2⟩ := memB_iff.mp z
  rw [← j2]
  exact (h1 j j1).2
theorem cnt_surj {h : Nat → Bool} {P n : Nat} {q : Nat → Nat} (h1 : ∀ p, p < P → h p = true → ∃ j, j < n ∧ q j = p) : cntF h P ≤ n :=
  Nat.le_trans (cntF_mono (fun p hp z => memB_iff.mpr (h1 p hp z))) (memB_cnt (q := q) (P := P) n).1
/-- the model's list of parts with a bit: their classes, in the order of their places -/
def ListOK (h : Nat → Bool) (P nb : Nat) (q pl : Nat → Nat) : Prop := (∀ j, j < nb → q j < P ∧ h (q j) = true) ∧ (∀ i j, i < j → j < nb → pl (q i) < pl (q j)) ∧ (∀ p, p < P → h p = true → ∃ j, j < nb ∧ q j = p)
theorem list_inj {h : Nat → Bool} {P nb : Nat} {q pl : Nat → Nat} (hl : ∀ i j, i < j → j < nb → pl (q i) < pl (q j)) : ∀ i j, i < nb → j < nb → q i = q j → i = j := by
  intro i j hi hj he
  rcases Nat.lt_trichotomy i j with z | z | z
  · have := hl i j z hj; rw [he] at this; omega
  · exact z
  · have := hl j i z hi; rw [he] at this; omega
/-- the class's bit of a part is its number in the list -/
theorem list_rank {h : Nat → Bool} {P nb : Nat} {q pl : Nat → Nat} (hk : ListOK h P nb q pl) {j : Nat} (hj : j < nb) : rkF h pl P (q j) = j := by
  obtain ⟨h1, h2, h3⟩ := hk
  have inj := list_inj (h := h) (P := P) h2
  unfold rkF
  apply Nat.le_antisymm
  · refine cnt_surj (q := q) (fun p hp z => ?_)
    unfold befB at z
    rw [Bool.and_eq_true, decide_eq_true_eq] at z
    obtain ⟨i, i1, i2⟩ := h3 p hp z.1
    refine ⟨i, ?_, i2⟩
    rcases Nat.lt_trichotomy i j with y | y | y
    · exact y
    · exfalso
      rw [← i2, y] at z
      omega
    · exfalso
      have := h2 j i y i1
      rw [← i2] at z
      omega
  · refine cnt_inj (q := q) (fun i hi => ⟨(h1 i (by omega)).1, ?_⟩) (fun a b ha hb => inj a b (by omega) (by omega))
    unfold befB
    rw [(h1 i (by omega)).2, decide_eq_true (Or.inl (h2 i j hi hj))]
    rfl
theorem list_cnt {h : Nat → Bool} {P nb : Nat} {q pl : Nat → Nat} (hk : ListOK h P nb q pl) : cntF h P = nb := by
  obtain ⟨h1, h2, h3⟩ := hk
  exact Nat.le_antisymm (cnt_surj h3) (cnt_inj h1 (list_inj (h := h) (P := P) h2))
end
section
/-! the model gives bits -/
section TE
variable {w0 : AW} {M Z P : Nat} {c l r b e y ph : Nat → Nat} {gr : Bool}
def PrB (gr : Bool) (c b : Nat → Nat) (a kk k : Nat) : Prop := hbB gr (c k) = true ∧ (b k < a ∨ (b k = a ∧ k < kk))
def TI (w0 W : AW) (gr : Bool) (M : Nat) (c b ph : Nat → Nat) (nb : Nat) (bp : Nat → Nat) (a kk : Nat) : Prop :=
  KM w0 W ∧ (∀ a', a' ≠ 35 → a' ≠ 37 → a' ≠ 0 → W.1 0 a' = w0.1 0 a') ∧ (∀ j, j ≠ 35 → W.1 0 0 j = w0.1 0 0 j) ∧ W.1 0 0 35 = nI nb ∧ nb ≤ 10 ∧
  (∀ j, j < nb → bp j < M ∧ W.1 0 37 j = nI (bp j) ∧ PrB gr c b a kk (bp j)) ∧ (∀ i j, i < j → j < nb → ph (bp i) ≠ ph (bp j) ∧ b (bp i) ≤ b (bp j)) ∧ (∀ j, j < nb → ∀ k, k < M → ph k = ph (bp j) → b (bp j) ≤ b k) ∧
  (∀ k, k < M → (PrB gr c b a kk k → ∃ j, j < nb ∧ ph (bp j) = ph k ∧ W.1 0 35 k = nI j) ∧ (¬ PrB gr c b a kk k → W.1 0 35 k = -9))
theorem TI.work {W : AW} {nb a kk : Nat} {bp : Nat → Nat} (h : TI w0 W gr M c b ph nb bp a kk) (hW : WorkM w0 M Z c l r b e y) : WorkM W M Z c l r b e y := hW.c (h.2.2.1 26 (by decide)) (h.2.2.1 27 (by decide)) (fun a h1 h2 => h.2.1 a (by omega) (by omega) (by omega))
/-- a node passed over -/
theorem TI.skip {W : AW} {nb a k : Nat} {bp : Nat → Nat} (h : TI w0 W gr M c b ph nb bp a k) (hs : ¬ (hbB gr (c k) = true ∧ b k = a)) : TI w0 W gr M c b ph nb bp a (k + 1) := by
  have hp : ∀ q, PrB gr c b a (k + 1) q ↔ PrB gr c b a k q := fun q => by
    unfold PrB
    constructor
    · rintro ⟨h1, h2⟩
      refine ⟨h1, ?_⟩
      rcases h2 with h2 | ⟨h2, h3⟩
      · exact Or.inl h2
      · by_cases e : q = k
        · subst e; exact absurd ⟨h1, h2⟩ hs
        · exact Or.inr ⟨h2, by omega⟩
    · rintro ⟨h1, h2⟩
      refine ⟨h1, ?_⟩
      rcases h2 with h2 | ⟨h2, h3⟩
      · exact Or.inl h2
      · exact Or.inr ⟨h2, by omega⟩
  obtain ⟨t1, t2, t3, t4, t5, t6, t7, t8, t9⟩ := h
  refine ⟨t1, t2, t3, t4, t5, fun j hj => ?_, t7, t8, fun q hq2 => ?_⟩
  · obtain ⟨z1, z2, z3⟩ := t6 j hj
    exact ⟨z1, z2, (hp _).mpr z3⟩
  · rw [hp]
    exact t9 q hq2
/-- the byte's nodes all passed: the next byte -/
theorem TI.next {W : AW} {nb a : Nat} {bp : Nat → Nat} (h : TI w0 W gr M c b ph nb bp a M) : TI w0 W gr M c b ph nb bp (a + 1) 0 := by
  have hp : ∀ q, q < M → (PrB gr c b (a + 1) 0 q ↔ PrB gr c b a M q) := fun q hq2 => by
    unfold PrB
    constructor
    · rintro ⟨h1, h2⟩
      exact ⟨h1, by omega⟩
    · rintro ⟨h1, h2⟩
      exact ⟨h1, by omega⟩
  obtain ⟨t1, t2, t3, t4, t5, t6, t7, t8, t9⟩ := h
  refine ⟨t1, t2, t3, t4, t5, fun j hj => ?_, t7, t8, fun q hq2 => ?_⟩
  · obtain ⟨z1, z2, z3⟩ := t6 j hj
    exact ⟨z1, z2, (hp _ z1).mpr z3⟩
  · rw [hp q hq2]
    exact t9 q hq2
theorem hb_same (hc : ClassOK M P c l r ph) {k j : Nat} (hk : k < M) (hj : j < M) (he : ph k = ph j) : hbB gr (c k) = hbB gr (c j) := by rw [((hc.2.2.2.2 k j hk hj).mp he).1]
/-- one node: its bit, or too many -/
theorem M_tnode {l1 r1 : Nat → Nat} {k31 k41 : Int32 → AW → Option (Int32 × AW)} {W : AW} {nb a k : Nat} {bp : Nat → Nat} {v1 : Int32} (hW : WorkM w0 M Z c l1 r1 b e y) (hT : TreeOK M c l r b e y) (hc : ClassOK M P c l r ph) (hM : M ≤ 90) (hZ : Z ≤ 420) (he : ∀ k, k < M → e k ≤ Z) (hy : ∀ j, y j < 256) (hI : TI w0 W gr M c b ph nb bp a k) (hk : k < M) (hh : hbB gr (c k) = true) (hb : b k = a) :
    (∃ W2 nb2 bp2, mX6_tells_119 k31 k41 v1 (nI a) (nI k) FU (nI 0) W = k41 (nI (k + 1)) W2 ∧ TI w0 W2 gr M c b ph nb2 bp2 a (k + 1)) ∨ (∃ W2, mX6_tells_119 k31 k41 v1 (nI a) (nI k) FU (nI 0) W = some (nI 0, W2) ∧ KM w0 W2 ∧ 11 ≤ cntF (fun q => hbB gr (c (rpF M ph q))) P) := by
  have hWW := hI.work hW
  obtain ⟨t1, t2, t3, t4, t5, t6, t7, t8, t9⟩ := hI
  have hnp : ¬ PrB gr c b a k k := fun z => by
    rcases z.2 with z | ⟨-, z⟩
    · omega
    · omega
  have h9 : W.1 0 35 k = -9 := (t9 k hk).2 hnp
  have ev : ∀ j, nI j + 1 = nI (j + 1) := fun j => nI_add j 1
  have r35 : ∀ (V : AW) (x : Int32) (f : Int32 → Option (Int32 × AW)), V.1 0 35 k = x → rd 90 (V.1 0 35) (nI k) f = f x := fun V x f h => by rw [rd_in (by omega) (by decide), h]
  have r37 : ∀ (j : Nat), j < nb → ∀ (f : Int32 → Option (Int32 × AW)), rd 10 (W.1 0 37) (nI j) f = f (nI (bp j)) := fun j hj f => by rw [rd_in (by omega) (by decide), (t6 j hj).2.1]
  have w35 : ∀ (V : AW) (x : Int32) (f : AW → Option (Int32 × AW)), wr 90 V 0 35 (nI k) x f = f (am_set V 0 35 k x) := fun V x f => wr_in (by omega) (by decide) V 0 35 x f
  have hp : ∀ q, PrB gr c b a (k + 1) q ↔ (PrB gr c b a k q ∨ q = k) := fun q => by
    unfold PrB
    constructor
    · rintro ⟨h1, h2⟩
      by_cases e : q = k
      · exact Or.inr e
      · exact Or.inl ⟨h1, by omega⟩
    · rintro (⟨h1, h2⟩ | h2)
      · exact ⟨h1, by omega⟩
      · subst h2; exact ⟨hh, by omega⟩
  have like : ∀ j, j < nb → mX6_isLike (nI (bp j)) (nI k) W = some (nI (bN (decide (ph (bp j) = ph k))), W) := fun j hj => M_isLike hWW hT hc hM hZ he hy (t6 j hj).1 hk
  have miss : ∀ n j, j < nb → ph (bp j) ≠ ph k → mX6_tells_119 k31 k41 v1 (nI a) (nI k) (n + 1) (nI j) W = mX6_tells_119 k31 k41 v1 (nI a) (nI k) n (nI (j + 1)) W := fun n j hj hne => by
    rw [mX6_tells_119, t4, if_neg (nI_ge hj (by omega)), r35 W _ _ h9, if_neg (fun z => z rfl), r37 j hj, like j hj, cl_mk, decide_eq_false hne, if_pos (show nI (bN false) = 0 from rfl)]
    unfold mX6_tells_166
    rw [w35, nm_mk, ev, am_same h9]
  by_cases hex : ∃ j, j < nb ∧ ph (bp j) = ph k
  · obtain ⟨j0, hj0, hje⟩ := hex
    refine Or.inl ⟨am_set W 0 35 k (nI j0), nb, bp, ?_, ?_⟩
    · refine loopE (fun n (s : Int32 × AW) => mX6_tells_119 k31 k41 v1 (nI a) (nI k) n s.1 s.2) (j0 + 1) (fun j => (nI j, if j ≤ j0 then W else am_set W 0 35 k (nI j0))) _ ?_ ?_ FU 0 (Nat.zero_le _) (FU_gt (by omega))
      · intro n j hj
        dsimp only
        rw [if_pos (show j ≤ j0 by omega)]
        by_cases q : j = j0
        · subst q
          rw [if_neg (show ¬ (j + 1 ≤ j) by omega), mX6_tells_119, t4, if_neg (nI_ge hj0 (by omega)), r35 W _ _ h9, if_neg (fun z => z rfl), r37 j hj0, like j hj0, cl_mk, decide_eq_true hje, if_neg (show ¬ (nI (bN true) = 0) by decide)]
          unfold mX6_tells_166
          rw [w35, nm_mk, ev]
        · rw [if_pos (show j + 1 ≤ j0 by omega)]
          refine miss n j (by omega) (fun z => (t7 j j0 (by omega) hj0).1 (z.trans hje.symm))
      · intro n
        dsimp only
        have e1 : (am_set W 0 35 k (nI j0)).1 0 35 k = nI j0 := am_get_self _ _ _ _ _
        have n9 := nI_n9 (show j0 < 2 ^ 31 by omega)
        have e173 : mX6_tells_173 k31 k41 v1 (nI a) (nI k) (am_set W 0 35 k (nI j0)) = k41 (nI (k + 1)) (am_set W 0 35 k (nI j0)) := by
          unfold mX6_tells_173
          rw [r35 _ _ _ e1, if_pos n9]
          unfold mX6_tells_225
          rw [nm_mk, ev]
        rw [if_neg (show ¬ (j0 + 1 ≤ j0) by omega), mX6_tells_119]
        by_cases q : ((am_set W 0 35 k (nI j0)).1 0 0 35) ≤ nI (j0 + 1)
        · rw [if_pos q, e173]
        · rw [if_neg q, r35 _ _ _ e1, if_pos n9, e173]
    · refine ⟨t1.set (Or.inl (by decide)), fun a' h1 h2 h3 => by rw [am_get_row (Or.inr h1)]; exact t2 a' h1 h2 h3, fun j hj => by rw [am_get_row (by decide)]; exact t3 j hj, by rw [am_get_row (by decide)]; exact t4, t5, fun j hj => ?_, t7, t8, fun q hq2 => ?_⟩
      · obtain ⟨z1, z2, z3⟩ := t6 j hj
        exact ⟨z1, by rw [am_get_row (by decide)]; exact z2, (hp _).mpr (Or.inl z3)⟩
      · rw [hp]
        by_cases eq : q = k
        · subst eq
          exact ⟨fun _ => ⟨j0, hj0, hje, am_get_self _ _ _ _ _⟩, fun z => absurd (Or.inr rfl) z⟩
        · rw [am_get_other eq]
          obtain ⟨z1, z2⟩ := t9 q hq2
          exact ⟨fun z => z1 (by rcases z with z | z; exact z; exact absurd z eq), fun z => z2 (fun y => z (Or.inl y))⟩
  · have hno : ∀ j, j < nb → ph (bp j) ≠ ph k := fun j hj z => hex ⟨j, hj, z⟩
    have to173 : mX6_tells_119 k31 k41 v1 (nI a) (nI k) FU (nI 0) W = mX6_tells_173 k31 k41 v1 (nI a) (nI k) W := by
      refine loopE (fun n j => mX6_tells_119 k31 k41 v1 (nI a) (nI k) n j W) nb nI _ (fun n j hj => miss n j hj (hno j hj)) (fun n => ?_) FU 0 (Nat.zero_le _) (FU_gt (by omega))
      rw [mX6_tells_119, t4, if_pos (nI_le (Nat.le_refl nb) (by omega))]
    rw [to173]
    by_cases h10 : nb = 10
    · refine Or.inr ⟨W, ?_, t1, ?_⟩
      · unfold mX6_tells_173
        rw [r35 W _ _ h9, if_neg (fun z => z rfl), t4, h10, if_neg (show ¬ (nI 10 ≠ 10) from fun z => z rfl)]
        rfl
      · refine cnt_inj (q := fun j => if j < 10 then ph (bp j) else ph k) (fun j hj => ?_) (fun i j hi hj hz => ?_)
        · have hbk : ∀ q, q < M → hbB gr (c q) = true → ph q < P ∧ hbB gr (c (rpF M ph (ph q))) = true := fun q hq2 hq3 => by
            obtain ⟨z1, z2⟩ := rpF_spec hc (hc.1 q hq2)
            exact ⟨hc.1 q hq2, by rw [hb_same hc z1 hq2 z2]; exact hq3⟩
          by_cases q : j < 10
          · rw [if_pos q]
            have := t6 j (by omega)
            exact hbk _ this.1 this.2.2.1
          · rw [if_neg q]
            exact hbk k hk hh
        · by_cases q1 : i < 10
          · rw [if_pos q1] at hz
            by_cases q2 : j < 10
            · rw [if_pos q2] at hz
              rcases Nat.lt_trichotomy i j with y | y | y
              · exact absurd hz (t7 i j y (by omega)).1
              · exact y
              · exact absurd hz.symm (t7 j i y (by omega)).1
            · rw [if_neg q2] at hz
              exact absurd hz (hno i (by omega))
          · rw [if_neg q1] at hz
            by_cases q2 : j < 10
            · rw [if_pos q2] at hz
              exact absurd hz.symm (hno j (by omega))
            · omega
    · refine Or.inl ⟨am_set (am_set (am_set W 0 35 k (nI nb)) 0 37 nb (nI k)) 0 0 35 (nI (nb + 1)), nb + 1, ex1 bp nb k, ?_, ?_⟩
      · unfold mX6_tells_173
        rw [r35 W _ _ h9, if_neg (fun z => z rfl), t4, if_pos (show nI nb ≠ 10 from ne_nI (b := 10) (by omega) (by decide) h10), w35, rn 35 0 rfl, t4, wr_in (show nb < 10 by omega) (by decide), rn 37 0 rfl, rn 35 0 rfl, t4, ev, pu_mk]
        unfold mX6_tells_225
        rw [nm_mk, ev]
      · have exb : ∀ j, j < nb → ex1 bp nb k j = bp j := fun j hj => ex1_lt hj
        refine ⟨((t1.set (Or.inl (by decide))).set (Or.inl (by decide))).set (Or.inr ⟨rfl, by decide, by decide⟩), fun a' h1 h2 h3 => by rw [am_get_row (Or.inr h3), am_get_row (Or.inr h2), am_get_row (Or.inr h1)]; exact t2 a' h1 h2 h3, fun j hj => by rw [am_get_other hj, am_get_row (by decide), am_get_row (by decide)]; exact t3 j hj, am_get_self _ _ _ _ _, by omega, fun j hj => ?_, fun i j hij hj => ?_, fun j hj q hq2 hz => ?_, fun q hq2 => ?_⟩
        · rw [am_get_row (by decide)]
          by_cases q : j = nb
          · subst q
            rw [ex1_s, am_get_self]
            exact ⟨hk, rfl, (hp _).mpr (Or.inr rfl)⟩
          · obtain ⟨z1, z2, z3⟩ := t6 j (by omega)
            rw [exb j (by omega), am_get_other q, am_get_row (by decide)]
            exact ⟨z1, z2, (hp _).mpr (Or.inl z3)⟩
        · rw [exb i (by omega)]
          by_cases q : j = nb
          · subst q
            rw [ex1_s]
            refine ⟨hno i hij, ?_⟩
            rcases (t6 i hij).2.2.2 with z | ⟨z, -⟩ <;> omega
          · rw [exb j (by omega)]
            exact t7 i j hij (by omega)
        · by_cases q3 : j = nb
          · subst q3
            rw [ex1_s] at hz ⊢
            -- an elder one of the class would be in the list
            rcases Nat.lt_or_ge (b q) (b k) with y | y
            · exfalso
              have hbq : hbB gr (c q) = true := by rw [hb_same hc hq2 hk hz]; exact hh
              obtain ⟨i, i1, i2, -⟩ := (t9 q hq2).1 ⟨hbq, Or.inl (by omega)⟩
              exact hno i i1 (i2.trans hz)
            · exact y
          · rw [exb j (by omega)] at hz ⊢
            exact t8 j (by omega) q hq2 hz
        · rw [hp, am_get_row (by decide), am_get_row (by decide)]
          by_cases eq : q = k
          · subst eq
            exact ⟨fun _ => ⟨nb, by omega, by rw [ex1_s], am_get_self _ _ _ _ _⟩, fun z => absurd (Or.inr rfl) z⟩
          · rw [am_get_other eq]
            obtain ⟨z1, z2⟩ := t9 q hq2
            refine ⟨fun z => ?_, fun z => z2 (fun y => z (Or.inl y))⟩
            obtain ⟨j, j1, j2, j3⟩ := z1 (by rcases z with z | z; exact z; exact absurd z eq)
            exact ⟨j, by omega, by rw [exb j j1]; exact j2, j3⟩
end TE
end
section
/-! the model gives bits: all nodes, all bytes -/
section T2
variable {w0 : AW} {M Z P : Nat} {c l r b e y ph : Nat → Nat} {gr : Bool}
theorem M_thead {k31 : Int32 → AW → Option (Int32 × AW)} {W : AW} {k n : Nat} {v2 : Int32} (hk : k < M) (hM : M ≤ 90) (h26 : W.1 0 0 26 = nI M) (h30 : W.1 0 30 k = nI (c k)) (hc : c k < 128) : mX6_tells_41 k31 (nI (bN gr)) v2 (n + 1) (nI k) W = mX6_tells_99 k31 (mX6_tells_41 k31 (nI (bN gr)) v2 n) (nI (bN gr)) v2 (nI k) (nI (bN (hbB gr (c k)))) W := by
  have r30 : ∀ f : Int32 → Option (Int32 × AW), rd 90 (W.1 0 30) (nI k) f = f (nI (c k)) := fun f => by rw [rd_in (by omega) (by decide), h30]
  have ea : decide (112 ≤ c k ∧ c k ≤ 115) = atmB (c k) := rfl
  rw [mX6_tells_41, h26, if_neg (nI_ge hk (by omega)), r30, M_isAtom W (by omega), cl_mk, ea]
  unfold hbB
  cases ha : atmB (c k)
  · rw [if_neg (show ¬ (nI (bN false) ≠ 0) from fun z => z rfl), Bool.false_or]
    cases gr
    · rw [if_pos (show nI (bN false) = 0 from rfl), M_isModal (by omega) hc h30, cl_mk, if_neg (show ¬ (false = true) by decide)]
      cases modB (c k)
      · rw [if_pos (show nI (bN false) = 0 from rfl)]
        rfl
      · rw [if_neg (show ¬ (nI (bN true) = 0) by decide)]
        rfl
    · rw [if_neg (show ¬ (nI (bN true) = 0) by decide), if_pos rfl]
      by_cases h1 : c k = 62
      · rw [if_pos (show nI (c k) = 62 by rw [h1]; rfl), decide_eq_true (Or.inl h1)]
        rfl
      · rw [if_neg (show ¬ nI (c k) = 62 from ne_nI (b := 62) (by omega) (by decide) h1)]
        by_cases h2 : c k = 33
        · rw [if_neg (show ¬ (nI (c k) ≠ 33) from fun z => z (by rw [h2]; rfl)), decide_eq_true (Or.inr h2)]
          rfl
        · rw [if_pos (show nI (c k) ≠ 33 from ne_nI (b := 33) (by omega) (by decide) h2), decide_eq_false (by omega)]
          rfl
  · rw [if_pos (show nI (bN true) ≠ 0 by decide), Bool.true_or]
    rfl
theorem M_tbyte {l1 r1 : Nat → Nat} (hW : WorkM w0 M Z c l1 r1 b e y) (hT : TreeOK M c l r b e y) (hc : ClassOK M P c l r ph) (hM : M ≤ 90) (hZ : Z ≤ 420) (he : ∀ k, k < M → e k ≤ Z) (hy : ∀ j, y j < 256) {k31 : Int32 → AW → Option (Int32 × AW)} {a : Nat} (ha : a < 1000) : ∀ (q k n : Nat) (W : AW) (nb : Nat) (bp : Nat → Nat), M = k + q → q < n → TI w0 W gr M c b ph nb bp a k →
    (∃ W2 nb2 bp2, mX6_tells_41 k31 (nI (bN gr)) (nI a) n (nI k) W = k31 (nI (a + 1)) W2 ∧ TI w0 W2 gr M c b ph nb2 bp2 (a + 1) 0) ∨ (∃ W2, mX6_tells_41 k31 (nI (bN gr)) (nI a) n (nI k) W = some (nI 0, W2) ∧ KM w0 W2 ∧ 11 ≤ cntF (fun q => hbB gr (c (rpF M ph q))) P) := by
  have hsh := hT.shape
  intro q
  induction q with
  | zero =>
    intro k n W nb bp hq2 hn hI
    obtain ⟨n, rfl⟩ : ∃ i, n = i + 1 := ⟨n - 1, by omega⟩
    have e2 : k = M := by omega
    subst e2
    refine Or.inl ⟨W, nb, bp, ?_, hI.next⟩
    rw [mX6_tells_41, (hI.work hW).1, if_pos (nI_le (Nat.le_refl k) (by omega)), nm_mk, show nI a + 1 = nI (a + 1) from nI_add a 1]
  | succ q ih =>
    intro k n W nb bp hq2 hn hI
    obtain ⟨n, rfl⟩ : ∃ i, n = i + 1 := ⟨n - 1, by omega⟩
    have hk : k < M := by omega
    have hWW := hI.work hW
    obtain ⟨w30, w31, w32, w33, w34⟩ := hWW.2.2.1 k hk
    have hck := kinds_lt (kinds_of hsh hk)
    have hbk : b k < 1000 := by
      have := len_pos hT M k hk hk
      have := he k hk
      omega
    have hd := M_thead (k31 := k31) (gr := gr) (n := n) (v2 := nI a) hk hM hWW.1 w30 hck
    have ev : nI k + 1 = nI (k + 1) := nI_add k 1
    have e225 : ∀ V : AW, mX6_tells_225 k31 (mX6_tells_41 k31 (nI (bN gr)) (nI a) n) (nI (bN gr)) (nI a) (nI k) V = mX6_tells_41 k31 (nI (bN gr)) (nI a) n (nI (k + 1)) V := fun V => by
      unfold mX6_tells_225
      rw [nm_mk, ev]
    rw [hd]
    unfold mX6_tells_99
    cases hh : hbB gr (c k)
    · rw [if_pos (show nI (bN false) = 0 from rfl), e225]
      exact ih (k + 1) n W nb bp (by omega) (by omega) (hI.skip (fun z => by rw [hh] at z; cases z.1))
    · rw [if_neg (show ¬ (nI (bN true) = 0) by decide), rd_in (by omega) (by decide), w33]
      by_cases hb : b k = a
      · rw [if_neg (show ¬ (nI (b k) ≠ nI a) from fun z => z (by rw [hb]))]
        rcases M_tnode (k31 := k31) (k41 := mX6_tells_41 k31 (nI (bN gr)) (nI a) n) (v1 := nI (bN gr)) hW hT hc hM hZ he hy hI hk hh hb with ⟨W2, nb2, bp2, g1, g2⟩ | ⟨W2, g1, g2, g3⟩
        · have g1' : mX6_tells_119 k31 (mX6_tells_41 k31 (nI (bN gr)) (nI a) n) (nI (bN gr)) (nI a) (nI k) FU 0 W = mX6_tells_41 k31 (nI (bN gr)) (nI a) n (nI (k + 1)) W2 := g1
          rw [g1']
          exact ih (k + 1) n W2 nb2 bp2 (by omega) (by omega) g2
        · exact Or.inr ⟨W2, g1, g2, g3⟩
      · rw [if_pos (ne_nI (by omega) (by omega) hb), e225]
        exact ih (k + 1) n W nb bp (by omega) (by omega) (hI.skip (fun z => hb z.2))
theorem M_tells31 {l1 r1 : Nat → Nat} (hW : WorkM w0 M Z c l1 r1 b e y) (hT : TreeOK M c l r b e y) (hc : ClassOK M P c l r ph) (hM : M ≤ 90) (hZ : Z ≤ 420) (he : ∀ k, k < M → e k ≤ Z) (hy : ∀ j, y j < 256) : ∀ (q a n : Nat) (W : AW) (nb : Nat) (bp : Nat → Nat), Z = a + q → q < n → TI w0 W gr M c b ph nb bp a 0 →
    (∃ W2 nb2 bp2, mX6_tells_31 (nI (bN gr)) n (nI a) W = some (nI 1, W2) ∧ TI w0 W2 gr M c b ph nb2 bp2 Z 0) ∨ (∃ W2, mX6_tells_31 (nI (bN gr)) n (nI a) W = some (nI 0, W2) ∧ KM w0 W2 ∧ 11 ≤ cntF (fun q => hbB gr (c (rpF M ph q))) P) := by
  intro q
  induction q with
  | zero =>
    intro a n W nb bp hq2 hn hI
    obtain ⟨n, rfl⟩ : ∃ i, n = i + 1 := ⟨n - 1, by omega⟩
    have e2 : a = Z := by omega
    subst e2
    refine Or.inl ⟨W, nb, bp, ?_, hI⟩
    rw [mX6_tells_31, (hI.work hW).2.1, if_pos (nI_le (Nat.le_refl a) (by omega))]
    rfl
  | succ q ih =>
    intro a n W nb bp hq2 hn hI
    obtain ⟨n, rfl⟩ : ∃ i, n = i + 1 := ⟨n - 1, by omega⟩
    rw [mX6_tells_31, (hI.work hW).2.1, if_neg (nI_ge (show a < Z by omega) (by omega))]
    rcases M_tbyte (gr := gr) (k31 := mX6_tells_31 (nI (bN gr)) n) (a := a) hW hT hc hM hZ he hy (by omega) M 0 FU W nb bp (by omega) (FU_gt (by omega)) hI with ⟨W2, nb2, bp2, g1, g2⟩ | ⟨W2, g1, g2, g3⟩
    · have g1' : mX6_tells_41 (mX6_tells_31 (nI (bN gr)) n) (nI (bN gr)) (nI a) FU 0 W = mX6_tells_31 (nI (bN gr)) n (nI (a + 1)) W2 := g1
      rw [g1']
      exact ih (a + 1) n W2 nb2 bp2 (by omega) (by omega) g2
    · exact Or.inr ⟨W2, g1, g2, g3⟩
/-- tells: the list of the parts with a bit, or too many -/
theorem M_tells {l1 r1 : Nat → Nat} {w : AW} (hW : WorkM w M Z c l1 r1 b e y) (hT : TreeOK M c l r b e y) (hc : ClassOK M P c l r ph) (hM : M ≤ 90) (hZ : Z ≤ 420) (he : ∀ k, k < M → e k ≤ Z) (hy : ∀ j, y j < 256) :
    (∃ W2 nb bp, mX6_tells (nI (bN gr)) w = some (nI 1, W2) ∧ TI w W2 gr M c b ph nb bp Z 0) ∨ (∃ W2, mX6_tells (nI (bN gr)) w = some (nI 0, W2) ∧ KM w W2 ∧ 11 ≤ cntF (fun q => hbB gr (c (rpF M ph q))) P) := by
  have k7 : ∀ W : AW, W.1 0 0 26 = nI M → mX6_tells_7 (nI (bN gr)) FU (nI 0) W = mX6_tells_31 (nI (bN gr)) FU (nI 0) (setRow W 0 35 (fun _ => -9) M) := by
    intro W h26
    refine loopE (fun n (s : Int32 × AW) => mX6_tells_7 (nI (bN gr)) n s.1 s.2) M (fun k => (nI k, setRow W 0 35 (fun _ => -9) k)) _ ?_ ?_ FU 0 (Nat.zero_le _) (FU_gt (by omega))
    · intro n k hk
      dsimp only
      rw [mX6_tells_7, setRow_row (Or.inr (by decide)), h26, if_neg (nI_ge hk (by omega)), wr_in (by omega) (by decide), nm_mk, show nI k + 1 = nI (k + 1) from nI_add k 1]
      rfl
    · intro n
      dsimp only
      rw [mX6_tells_7, setRow_row (Or.inr (by decide)), h26, if_pos (nI_le (Nat.le_refl M) (by omega))]
      rfl
  have hK : ∀ k, KM w (setRow (am_set w 0 0 35 0) 0 35 (fun _ => -9) k) := by
    intro k
    induction k with
    | zero => exact (KM.rf w).set (Or.inr ⟨rfl, by decide, by decide⟩)
    | succ k ih => exact ih.set (Or.inl (by decide))
  have hI : TI w (setRow (am_set w 0 0 35 0) 0 35 (fun _ => -9) M) gr M c b ph 0 (fun _ => 0) 0 0 := by
    refine ⟨hK M, fun a' h1 h2 h3 => by rw [setRow_row (Or.inr h1), am_get_row (Or.inr h3)], fun j hj => by rw [setRow_row (Or.inr (by decide)), am_get_other hj], by rw [setRow_row (Or.inr (by decide)), am_get_self]; rfl, by decide, fun j hj => absurd hj (Nat.not_lt_zero j), fun i j _ hj => absurd hj (Nat.not_lt_zero j), fun j hj => absurd hj (Nat.not_lt_zero j), fun k hk => ⟨fun z => ?_, fun _ => setRow_in M hk⟩⟩
    rcases z.2 with z | ⟨-, z⟩
    · exact absurd z (Nat.not_lt_zero _)
    · exact absurd z (Nat.not_lt_zero _)
  have := M_tells31 (gr := gr) hW hT hc hM hZ he hy Z 0 FU (setRow (am_set w 0 0 35 0) 0 35 (fun _ => -9) M) 0 (fun _ => 0) (by omega) (FU_gt (by omega)) hI
  have e0 : mX6_tells (nI (bN gr)) w = mX6_tells_31 (nI (bN gr)) FU (nI 0) (setRow (am_set w 0 0 35 0) 0 35 (fun _ => -9) M) := by
    unfold mX6_tells
    rw [pu_mk]
    exact k7 (am_set w 0 0 35 0) (by rw [am_get_other (by decide)]; exact hW.1)
  rw [e0]
  exact this
end T2
end
section
/-! the model judges a type -/
theorem pre_kd {c : Nat} (h : isLeaf c ∨ isPre c ∨ isJn c) : preB c = decide (kd c = 1) ∧ jnB c = decide (kd c = 2) := by
  rcases h with g | g | g
  · rw [kd_leaf g]
    unfold isLeaf at g
    exact ⟨decide_eq_false (by omega), decide_eq_false (by omega)⟩
  · rw [kd_pre g]
    unfold isPre at g
    exact ⟨decide_eq_true g, decide_eq_false (by omega)⟩
  · rw [kd_jn g]
    unfold isJn at g
    exact ⟨decide_eq_false (by omega), decide_eq_true g⟩
section JM2
variable {gr : Bool}
theorem M_j76 {W : AW} {k4 : Int32 → Int32 → AW → Option (Unit × AW)} {t p cc x y bt : Nat} (hp : p < 90) (hcc : isLeaf cc ∨ isPre cc ∨ isJn cc) (hx : x < 2) (hy : y < 2) (ht : t < 1024) (hbt : bt < 10) (hnm : hbB gr cc = false → modB cc = false) (h35 : W.1 0 35 p = if hbB gr cc = true then nI bt else -9) :
    mX6_judges_76 k4 (nI t) (nI p) (nI cc) (nI x) (nI y) W = k4 (nI (if hbB gr cc = true then bN (t.testBit bt) else joinF cc x y)) (nI (p + 1)) (am_set W 0 38 p (nI (if hbB gr cc = true then bN (t.testBit bt) else joinF cc x y))) := by
  have hc := kinds_lt hcc
  have r35 : ∀ f : Int32 → Option (Unit × AW), rd 90 (W.1 0 35) (nI p) f = f (if hbB gr cc = true then nI bt else -9) := fun f => by rw [rd_in hp (by decide), h35]
  have e175 : ∀ v : Int32, mX6_judges_175 k4 (nI t) (nI p) v W = k4 v (nI (p + 1)) (am_set W 0 38 p v) := fun v => by
    unfold mX6_judges_175
    rw [wr_in hp (by decide), nm_mk, show nI p + 1 = nI (p + 1) from nI_add p 1]
  have em : (1 : Int32) - nI x = nI (1 - x) := pk_sub (a := 1) (b := x) (by omega)
  have es : sdiff 1 x = 1 - x := by
    rcases (show x = 0 ∨ x = 1 by omega) with q | q
    · rw [q]; decide
    · rw [q]; decide
  unfold mX6_judges_76
  cases hh : hbB gr cc
  · rw [r35, hh, if_neg (show ¬ (false = true) by decide), if_neg (show ¬ (false = true) by decide), if_pos rfl]
    have hm := hnm hh
    unfold modB at hm
    have hm2 := of_decide_eq_false hm
    unfold joinF
    by_cases h1 : cc = 84
    · rw [if_neg (show ¬ (nI cc ≠ 84) from fun z => z (by rw [h1]; rfl)), e175, if_neg (by omega), if_neg (by omega), if_neg (by omega), if_pos h1]
      rfl
    rw [if_pos (show nI cc ≠ 84 from ne_nI (b := 84) (by omega) (by decide) h1)]
    by_cases h2 : cc = 70
    · rw [if_neg (show ¬ (nI cc ≠ 70) from fun z => z (by rw [h2]; rfl)), e175, if_neg (by omega), if_neg (by omega), if_neg (by omega), if_neg h1, if_neg (by omega)]
      rfl
    rw [if_pos (show nI cc ≠ 70 from ne_nI (b := 70) (by omega) (by decide) h2)]
    by_cases h3 : cc = 33
    · rw [if_neg (show ¬ (nI cc ≠ 33) from fun z => z (by rw [h3]; rfl)), em, e175, if_pos h3, es]
    rw [if_pos (show nI cc ≠ 33 from ne_nI (b := 33) (by omega) (by decide) h3)]
    by_cases h4 : cc = 38
    · rw [if_neg (show ¬ (nI cc ≠ 38) from fun z => z (by rw [h4]; rfl)), nI_and, e175, if_neg h3, if_pos h4]
    rw [if_pos (show nI cc ≠ 38 from ne_nI (b := 38) (by omega) (by decide) h4)]
    by_cases h5 : cc = 124
    · rw [if_neg (show ¬ (nI cc ≠ 124) from fun z => z (by rw [h5]; rfl)), nI_or, e175, if_neg h3, if_neg h4, if_neg (by omega), if_neg h1, if_pos h5]
    rw [if_pos (show nI cc ≠ 124 from ne_nI (b := 124) (by omega) (by decide) h5), em, nI_or, e175]
    have h6 : cc = 62 := by
      have ha : atmB cc = false := by
        cases q : atmB cc
        · rfl
        · unfold hbB at hh
          rw [q] at hh
          cases hh
      have ha2 : ¬ (112 ≤ cc ∧ cc ≤ 115) := of_decide_eq_false ha
      unfold isLeaf isPre isJn at hcc
      omega
    rw [if_neg h3, if_neg h4, if_pos h6, es]
  · have n9 := nI_n9 (show bt < 2 ^ 31 by omega)
    rw [r35, hh, if_pos rfl, if_pos rfl, if_neg n9, r35, hh, if_pos rfl, e175]
    have e31 : nI bt &&& 31 = nI (bt &&& 31) := nI_and bt 31
    have eb : (nI t >>> (nI bt &&& 31)) &&& 1 = nI (bN (t.testBit bt)) := by
      rw [e31]
      exact shr_B (by omega) (by omega)
    rw [eb]
theorem M_jdstep {W : AW} {n t p M cc x y lp rp bt : Nat} {v : Int32} (hcc : isLeaf cc ∨ isPre cc ∨ isJn cc) (h26 : W.1 0 0 26 = nI M) (hp : p < M) (hMM : M ≤ 90) (hc : W.1 0 30 p = nI cc) (hxl : x < 2) (hyl : y < 2) (ht : t < 1024) (hbt : bt < 10) (hnm : hbB gr cc = false → modB cc = false) (h35 : W.1 0 35 p = if hbB gr cc = true then nI bt else -9)
    (hx0 : kd cc = 0 → x = 0) (hx : kd cc ≠ 0 → lp < 90 ∧ W.1 0 31 p = nI lp ∧ W.1 0 38 lp = nI x) (hy0 : kd cc ≠ 2 → y = 0) (hy : kd cc = 2 → rp < 90 ∧ W.1 0 32 p = nI rp ∧ W.1 0 38 rp = nI y) :
    mX6_judges_4 (nI t) (n + 1) v (nI p) W = mX6_judges_4 (nI t) n (nI (if hbB gr cc = true then bN (t.testBit bt) else joinF cc x y)) (nI (p + 1)) (am_set W 0 38 p (nI (if hbB gr cc = true then bN (t.testBit bt) else joinF cc x y))) := by
  have hc128 := kinds_lt hcc
  obtain ⟨kp, kj⟩ := pre_kd hcc
  have r30 : ∀ f : Int32 → Option (Unit × AW), rd 90 (W.1 0 30) (nI p) f = f (nI cc) := fun f => by rw [rd_in (by omega) (by decide), hc]
  have e76 := M_j76 (k4 := mX6_judges_4 (nI t) n) (show p < 90 by omega) hcc hxl hyl ht hbt hnm h35
  have e51 : mX6_judges_51 (mX6_judges_4 (nI t) n) (nI t) (nI p) (nI cc) (nI x) W = mX6_judges_76 (mX6_judges_4 (nI t) n) (nI t) (nI p) (nI cc) (nI x) (nI y) W := by
    unfold mX6_judges_51
    rw [M_isJn W (by omega), cl_mk, kj]
    by_cases q : kd cc = 2
    · obtain ⟨z1, z2, z3⟩ := hy q
      rw [decide_eq_true q, if_neg (show ¬ (nI (bN true) = 0) by decide), rd_in (by omega) (by decide), z2, rd_in z1 (by decide), z3]
    · rw [decide_eq_false q, if_pos (show nI (bN false) = 0 from rfl), hy0 q]
      rfl
  have e36 : kd cc ≠ 0 → mX6_judges_36 (mX6_judges_4 (nI t) n) (nI t) (nI p) (nI cc) W = mX6_judges_51 (mX6_judges_4 (nI t) n) (nI t) (nI p) (nI cc) (nI x) W := fun q => by
    obtain ⟨z1, z2, z3⟩ := hx q
    unfold mX6_judges_36
    rw [rd_in (by omega) (by decide), z2, rd_in z1 (by decide), z3]
  rw [mX6_judges_4, h26, if_neg (nI_ge hp (by omega)), r30, M_isPre W (by omega), cl_mk, kp]
  by_cases q1 : kd cc = 1
  · rw [decide_eq_true q1, if_pos (show nI (bN true) ≠ 0 by decide), e36 (by omega), e51, e76]
  · rw [decide_eq_false q1, if_neg (show ¬ (nI (bN false) ≠ 0) from fun z => z rfl), M_isJn W (by omega), cl_mk, kj]
    by_cases q2 : kd cc = 2
    · rw [decide_eq_true q2, if_neg (show ¬ (nI (bN true) = 0) by decide), e36 (by omega), e51, e76]
    · have q0 : kd cc = 0 := by
        rcases hcc with g | g | g
        · exact kd_leaf g
        · exact absurd (kd_pre g) q1
        · exact absurd (kd_jn g) q2
      rw [decide_eq_false q2, if_pos (show nI (bN false) = 0 from rfl)]
      have e51' : mX6_judges_51 (mX6_judges_4 (nI t) n) (nI t) (nI p) (nI cc) 0 W = mX6_judges_76 (mX6_judges_4 (nI t) n) (nI t) (nI p) (nI cc) (nI x) (nI y) W := by
        rw [← e51, hx0 q0]
        rfl
      rw [e51', e76]
variable {w : AW} {M Z P : Nat} {c l r b e y ph btq : Nat → Nat}
theorem bool_nar (x : Bool) : vp_nar .boolean (nI (bN x)) = nI (bN x) := by
  cases x
  · exact nar_0
  · exact nar_1
theorem M_judges (hW : WorkM w M Z c l r b e y) (hs : ShapeOK M c l r) (hM1 : 1 ≤ M) (hM2 : M ≤ 90) {t : Nat} (ht : t < 1024) (hbt : ∀ k, k < M → btq (ph k) < 10) (hnm : ∀ k, k < M → hbB gr (c k) = false → modB (c k) = false) (h35 : ∀ k, k < M → w.1 0 35 k = if hbB gr (c k) = true then nI (btq (ph k)) else -9) :
    mX6_judges (nI t) w = some ((), am_set (hdW w (evV (opT gr c ph btq t) c l r) M) 0 41 t (nI (bN (decide (evV (opT gr c ph btq t) c l r (M - 1) = 1))))) := by
  have hb : ∀ k, k < M → evV (opT gr c ph btq t) c l r k < 2 := fun k hk => evV_lt hs (by decide) (fun k _ a b ha hb => opT_lt ha hb) (k + 1) k (Nat.lt_succ_self k) hk
  unfold mX6_judges
  refine loopE (fun n (s : Int32 × Int32 × AW) => mX6_judges_4 (nI t) n s.1 s.2.1 s.2.2) M (fun k => (nI (if k = 0 then 0 else evV (opT gr c ph btq t) c l r (k - 1)), nI k, hdW w (evV (opT gr c ph btq t) c l r) k)) _ ?_ ?_ FU 0 (Nat.zero_le _) (FU_gt (by omega))
  · intro n k hk
    have hWk : WorkM (hdW w (evV (opT gr c ph btq t) c l r) k) M Z c l r b e y := hW.c (by rw [hdW_row k 0 (by decide)]) (by rw [hdW_row k 0 (by decide)]) (fun a h1 h2 => hdW_row k a (by omega))
    obtain ⟨a1, a2, a3, a4⟩ := M_args (op := opT gr c ph btq t) hWk hs hM2 hk (fun j hj => setRow_in k hj)
    obtain ⟨xl, yl⟩ := args_lt (ph := ph) (bt := btq) (gr := gr) (t := t) hs hk
    have e1 := M_jdstep (gr := gr) (n := n) (t := t) (v := nI (if k = 0 then 0 else evV (opT gr c ph btq t) c l r (k - 1))) (kinds_of hs hk) hWk.1 hk hM2 (hWk.2.2.1 k hk).1 xl yl ht (hbt k hk) (hnm k hk) (by rw [hdW_row k 35 (by decide)]; exact h35 k hk) a1 a2 a3 a4
    refine e1.trans ?_
    have e2 := evV_eq (op := opT gr c ph btq t) hs hk
    have e3 : opT gr c ph btq t k (argA c l (evV (opT gr c ph btq t) c l r) k) (argB c r (evV (opT gr c ph btq t) c l r) k) = (if hbB gr (c k) = true then bN (t.testBit (btq (ph k))) else joinF (c k) (argA c l (evV (opT gr c ph btq t) c l r) k) (argB c r (evV (opT gr c ph btq t) c l r) k)) := rfl
    rw [← e3, ← e2]
    rfl
  · intro n
    have e26 : (hdW w (evV (opT gr c ph btq t) c l r) M).1 0 0 26 = nI M := by rw [hdW_row M 0 (by decide)]; exact hW.1
    have hl := hb (M - 1) (by omega)
    dsimp only
    rw [mX6_judges_4, e26, if_pos (nI_le (Nat.le_refl M) (by omega)), if_neg (show ¬ M = 0 by omega)]
    by_cases q : evV (opT gr c ph btq t) c l r (M - 1) = 1
    · rw [if_neg (show ¬ (nI (evV (opT gr c ph btq t) c l r (M - 1)) ≠ 1) from fun z => z (by rw [q]; rfl)), decide_eq_true q]
      unfold mX6_judges_204
      have e1 : vp_nar .boolean 1 = nI (bN true) := bool_nar true
      rw [e1, wr_in (show t < 1024 from ht) (by decide)]
    · rw [if_pos (show nI (evV (opT gr c ph btq t) c l r (M - 1)) ≠ 1 from ne_nI (b := 1) (by omega) (by decide) q), decide_eq_false q]
      unfold mX6_judges_204
      have e1 : vp_nar .boolean 0 = nI (bN false) := bool_nar false
      rw [e1, wr_in (show t < 1024 from ht) (by decide)]
end JM2
end
section
/-! the model's types: own, inner, holds -/
def muN (c bp : Nat → Nat) (nb : Nat) : Nat := orF (fun j => if c (bp j) = 91 then 2 ^ j else 0) nb
def myN (c bp : Nat → Nat) (nb : Nat) : Nat := orF (fun j => if c (bp j) = 123 then 2 ^ j else 0) nb
def inN (c l bp V : Nat → Nat) (nb : Nat) : Nat := orF (fun j => if (c (bp j) = 91 ∨ c (bp j) = 123) ∧ V (l (bp j)) = 1 then 2 ^ j else 0) nb
theorem tb_muN {c bp : Nat → Nat} {nb j : Nat} : (muN c bp nb).testBit j = true ↔ j < nb ∧ c (bp j) = 91 := by
  unfold muN
  rw [tb_orF]
  constructor
  · rintro ⟨k, h1, h2⟩
    split at h2
    · rename_i h
      rw [tb_pow, decide_eq_true_eq] at h2
      subst h2
      exact ⟨h1, h⟩
    · rw [Nat.zero_testBit] at h2; cases h2
  · rintro ⟨h1, h2⟩
    exact ⟨j, h1, by rw [if_pos h2, tb_pow, decide_eq_true_eq]⟩
theorem tb_myN {c bp : Nat → Nat} {nb j : Nat} : (myN c bp nb).testBit j = true ↔ j < nb ∧ c (bp j) = 123 := by
  unfold myN
  rw [tb_orF]
  constructor
  · rintro ⟨k, h1, h2⟩
    split at h2
    · rename_i h
      rw [tb_pow, decide_eq_true_eq] at h2
      subst h2
      exact ⟨h1, h⟩
    · rw [Nat.zero_testBit] at h2; cases h2
  · rintro ⟨h1, h2⟩
    exact ⟨j, h1, by rw [if_pos h2, tb_pow, decide_eq_true_eq]⟩
theorem mask_lt {f : Nat → Prop} [∀ j, Decidable (f j)] {nb : Nat} (h : nb ≤ 10) : orF (fun j => if f j then 2 ^ j else 0) nb < 2 ^ 10 := orF_lt (fun j hj => by
  split
  · exact pow_lt_of (by omega)
  · decide)
section TY
variable {w : AW} {M Z nb : Nat} {c l r b e y ph btq bp : Nat → Nat} {gr : Bool}
/-- what types() needs, and what stays as it is through it -/
def TB (w : AW) (gr : Bool) (M Z nb : Nat) (c l r b e y ph btq bp : Nat → Nat) : Prop := WorkM w M Z c l r b e y ∧ w.1 0 0 35 = nI nb ∧ (∀ j, j < nb → bp j < M ∧ w.1 0 37 j = nI (bp j)) ∧ (∀ k, k < M → w.1 0 35 k = if hbB gr (c k) = true then nI (btq (ph k)) else -9)
theorem TB.keep {w2 : AW} (h : TB w gr M Z nb c l r b e y ph btq bp) (e1 : ∀ a, a ≠ 0 → a < 38 → w2.1 0 a = w.1 0 a) (e2 : ∀ j, j < 44 → w2.1 0 0 j = w.1 0 0 j) : TB w2 gr M Z nb c l r b e y ph btq bp := by
  obtain ⟨h1, h2, h3, h4⟩ := h
  exact ⟨h1.c (e2 26 (by decide)) (e2 27 (by decide)) (fun a z1 z2 => e1 a (by omega) (by omega)), by rw [e2 35 (by decide)]; exact h2, by rw [e1 37 (by decide) (by decide)]; exact h3, by rw [e1 35 (by decide) (by decide)]; exact h4⟩
theorem M_inner {k92 : Int32 → AW → Option (Unit × AW)} {W : AW} {t : Nat} {V : Nat → Nat} (hT : TB W gr M Z nb c l r b e y ph btq bp) (hs : ShapeOK M c l r) (hM : M ≤ 90) (hnb : nb ≤ 10) (ht : t < 1024) (h44 : W.1 0 0 44 = nI (muN c bp nb)) (h45 : W.1 0 0 45 = nI (myN c bp nb)) (hV : ∀ k, k < M → W.1 0 38 k = nI (V k)) (hV2 : ∀ k, k < M → V k < 2) :
    mX6_types_133 k92 (nI t) FU (nI 0) (am_set W 0 40 t (nI 0)) = k92 (nI (t + 1)) (am_set W 0 40 t (nI (inN c l bp V nb))) := by
  have lm : muN c bp nb < 2 ^ 10 := mask_lt hnb
  have ly : myN c bp nb < 2 ^ 10 := mask_lt hnb
  have lmy : muN c bp nb ||| myN c bp nb < 2 ^ 10 := or_lt lm ly
  refine loopE (fun n (s : Int32 × AW) => mX6_types_133 k92 (nI t) n s.1 s.2) nb (fun j => (nI j, am_set W 0 40 t (nI (inN c l bp V j)))) _ ?_ ?_ FU 0 (Nat.zero_le _) (FU_gt (by omega))
  · intro n j hj
    obtain ⟨p1, p2⟩ := hT.2.2.1 j hj
    have f35 : ∀ x, (am_set W 0 40 t x).1 0 0 35 = nI nb := fun x => by rw [rn 40 0 rfl]; exact hT.2.1
    have f44 : ∀ x, (am_set W 0 40 t x).1 0 0 44 = nI (muN c bp nb) := fun x => by rw [rn 40 0 rfl]; exact h44
    have f45 : ∀ x, (am_set W 0 40 t x).1 0 0 45 = nI (myN c bp nb) := fun x => by rw [rn 40 0 rfl]; exact h45
    have ev : nI j + 1 = nI (j + 1) := nI_add j 1
    have e31 : nI j &&& 31 = nI (j &&& 31) := nI_and j 31
    have esh : ((nI (muN c bp nb) ||| nI (myN c bp nb)) >>> (nI j &&& 31)) &&& 1 = nI (bN ((muN c bp nb ||| myN c bp nb).testBit j)) := by
      rw [nI_or, e31]
      exact shr_B (by omega) (by omega)
    have r40 : ∀ f : Int32 → Option (Unit × AW), rd 1024 ((am_set W 0 40 t (nI (inN c l bp V j))).1 0 40) (nI t) f = f (nI (inN c l bp V j)) := fun f => by rw [rd_in ht (by decide), am_get_self]
    have ein : inN c l bp V (j + 1) = inN c l bp V j ||| (if (c (bp j) = 91 ∨ c (bp j) = 123) ∧ V (l (bp j)) = 1 then 2 ^ j else 0) := rfl
    have e1 : (1 : Int32) <<< (nI j &&& 31) = nI (2 ^ j) := by
      rw [e31]
      exact one_shl (by omega)
    have no : ¬ ((c (bp j) = 91 ∨ c (bp j) = 123) ∧ V (l (bp j)) = 1) → mX6_types_182 k92 (mX6_types_133 k92 (nI t) n) (nI t) (nI j) (am_set W 0 40 t (nI (inN c l bp V j))) = mX6_types_133 k92 (nI t) n (nI (j + 1)) (am_set W 0 40 t (nI (inN c l bp V (j + 1)))) := fun z => by
      unfold mX6_types_182 mX6_types_183
      rw [r40, if_pos rfl]
      unfold mX6_types_202
      have e0 : nI (inN c l bp V j) ||| 0 = nI (inN c l bp V (j + 1)) := by
        rw [ein, if_neg z]
        exact nI_or _ 0
      rw [e0, wr_in ht (by decide), am_set_set, nm_mk, ev]
    have tb : (muN c bp nb ||| myN c bp nb).testBit j = decide (c (bp j) = 91 ∨ c (bp j) = 123) := by
      rw [Bool.eq_iff_iff, Nat.testBit_or, Bool.or_eq_true, tb_muN, tb_myN, decide_eq_true_eq]
      constructor
      · rintro (⟨-, z⟩ | ⟨-, z⟩)
        · exact Or.inl z
        · exact Or.inr z
      · rintro (z | z)
        · exact Or.inl ⟨hj, z⟩
        · exact Or.inr ⟨hj, z⟩
    dsimp only
    rw [mX6_types_133, f35, if_neg (nI_ge hj (by omega)), f44, f45, esh, tb]
    by_cases q : c (bp j) = 91 ∨ c (bp j) = 123
    · obtain ⟨w30, w31, w32, w33, w34⟩ := hT.1.2.2.1 _ p1
      have hlp : l (bp j) < bp j := by
        rcases hs _ p1 with g | ⟨g, g1⟩ | ⟨g, g1, g2⟩
        · unfold isLeaf at g; omega
        · exact g1
        · exact g1
      rw [decide_eq_true q, if_neg (show ¬ (nI (bN true) ≠ 1) from fun z => z rfl), rd_in (by omega) (by decide), rn 40 37 rfl, p2, rd_in (by omega) (by decide), rn 40 31 rfl, w31, rd_in (by omega) (by decide), rn 40 38 rfl, hV _ (by omega)]
      by_cases q2 : V (l (bp j)) = 1
      · rw [if_neg (show ¬ (nI (V (l (bp j))) ≠ 1) from fun z => z (by rw [q2]; rfl))]
        unfold mX6_types_183
        rw [r40, if_neg (show ¬ ((1 : Int32) = 0) by decide), e1]
        unfold mX6_types_202
        rw [nI_or, wr_in ht (by decide), am_set_set, nm_mk, ev, ein, if_pos ⟨q, q2⟩]
      · rw [if_pos (show nI (V (l (bp j))) ≠ 1 from ne_nI (b := 1) (by have := hV2 (l (bp j)) (by omega); omega) (by decide) q2)]
        exact no (fun z => q2 z.2)
    · rw [decide_eq_false q, if_pos (show nI (bN false) ≠ 1 by decide)]
      exact no (fun z => q z.1)
  · intro n
    dsimp only
    rw [mX6_types_133, rn 40 0 rfl, hT.2.1, if_pos (nI_le (Nat.le_refl nb) (by omega)), nm_mk, show nI t + 1 = nI (t + 1) from nI_add t 1]
end TY
end
section
/-! the model's types as a whole -/
section TZ
variable {w0 : AW} {M Z nb : Nat} {c l r b e y ph btq bp : Nat → Nat} {gr : Bool}
/-- what the model knows of the types -/
def TYM (W : AW) (nb mu my : Nat) (inn : Nat → Nat) (hd : Nat → Bool) (T : Nat) : Prop := W.1 0 0 35 = nI nb ∧ W.1 0 0 44 = nI mu ∧ W.1 0 0 45 = nI my ∧ ∀ t, t < T → W.1 0 39 t = nI (t &&& (mu ||| my)) ∧ W.1 0 40 t = nI (inn t) ∧ W.1 0 41 t = nI (bN (hd t))
theorem M_types92 (hs : ShapeOK M c l r) (hM1 : 1 ≤ M) (hM : M ≤ 90) (hnb : nb ≤ 10) (hbt : ∀ k, k < M → btq (ph k) < 10) (hnm : ∀ k, k < M → hbB gr (c k) = false → modB (c k) = false) : ∀ (q t n : Nat) (W : AW), 2 ^ nb = t + q → q < n → KM w0 W → TB W gr M Z nb c l r b e y ph btq bp → TYM W nb (muN c bp nb) (myN c bp nb) (fun u => inN c l bp (evV (opT gr c ph btq u) c l r) nb) (fun u => decide (evV (opT gr c ph btq u) c l r (M - 1) = 1)) t →
    ∃ W2, mX6_types_92 n (nI t) W = some ((), W2) ∧ KM w0 W2 ∧ TYM W2 nb (muN c bp nb) (myN c bp nb) (fun u => inN c l bp (evV (opT gr c ph btq u) c l r) nb) (fun u => decide (evV (opT gr c ph btq u) c l r (M - 1) = 1)) (2 ^ nb) := by
  have hpw : 2 ^ nb ≤ 1024 := Nat.le_trans (Nat.pow_le_pow_right (by decide) hnb) (by decide)
  have e1s : (1 : Int32) <<< (nI nb &&& 31) = nI (2 ^ nb) := by
    have : nI nb &&& 31 = nI (nb &&& 31) := nI_and nb 31
    rw [this]
    exact one_shl (by omega)
  intro q
  induction q with
  | zero =>
    intro t n W hq2 hn hK hB hT
    obtain ⟨n, rfl⟩ : ∃ i, n = i + 1 := ⟨n - 1, by omega⟩
    have e2 : t = 2 ^ nb := by omega
    refine ⟨W, ?_, hK, by rw [← e2]; exact hT⟩
    rw [mX6_types_92, hB.2.1, e1s, if_pos (nI_le (by omega) (by omega))]
  | succ q ih =>
    intro t n W hq2 hn hK hB hT
    obtain ⟨n, rfl⟩ : ∃ i, n = i + 1 := ⟨n - 1, by omega⟩
    have ht : t < 1024 := by omega
    obtain ⟨g1, g2, g3, g4⟩ := hT
    have ej := M_judges (gr := gr) (btq := btq) hB.1 hs hM1 hM ht hbt hnm hB.2.2.2
    -- the world behind judges
    have rW1 : ∀ a, a ≠ 38 → a ≠ 41 → (am_set (hdW W (evV (opT gr c ph btq t) c l r) M) 0 41 t (nI (bN (decide (evV (opT gr c ph btq t) c l r (M - 1) = 1))))).1 0 a = W.1 0 a := fun a z1 z2 => by rw [am_get_row (Or.inr z2), hdW_row M a z1]
    have K1 : KM W (am_set (hdW W (evV (opT gr c ph btq t) c l r) M) 0 41 t (nI (bN (decide (evV (opT gr c ph btq t) c l r (M - 1) = 1))))) := (hdW_K M).set (Or.inl (by decide))
    have r41 : (am_set (hdW W (evV (opT gr c ph btq t) c l r) M) 0 41 t (nI (bN (decide (evV (opT gr c ph btq t) c l r (M - 1) = 1))))).1 0 41 t = nI (bN (decide (evV (opT gr c ph btq t) c l r (M - 1) = 1))) := am_get_self _ _ _ _ _
    have o41 : ∀ u, u ≠ t → (am_set (hdW W (evV (opT gr c ph btq t) c l r) M) 0 41 t (nI (bN (decide (evV (opT gr c ph btq t) c l r (M - 1) = 1))))).1 0 41 u = W.1 0 41 u := fun u z => by rw [am_get_other z, hdW_row M 41 (by decide)]
    have r38 : ∀ k, k < M → (am_set (hdW W (evV (opT gr c ph btq t) c l r) M) 0 41 t (nI (bN (decide (evV (opT gr c ph btq t) c l r (M - 1) = 1))))).1 0 38 k = nI (evV (opT gr c ph btq t) c l r k) := fun k hk => by
      rw [am_get_row (by decide)]
      exact setRow_in M hk
    generalize hW1 : am_set (hdW W (evV (opT gr c ph btq t) c l r) M) 0 41 t (nI (bN (decide (evV (opT gr c ph btq t) c l r (M - 1) = 1)))) = W1 at ej rW1 K1 r41 o41 r38
    have f44 : W1.1 0 0 44 = nI (muN c bp nb) := by rw [rW1 0 (by decide) (by decide)]; exact g2
    have f45 : W1.1 0 0 45 = nI (myN c bp nb) := by rw [rW1 0 (by decide) (by decide)]; exact g3
    have hB1 : TB W1 gr M Z nb c l r b e y ph btq bp := hB.keep (fun a z1 z2 => rW1 a (by omega) (by omega)) (fun j _ => by rw [rW1 0 (by decide) (by decide)])
    have hB2 : TB (am_set W1 0 39 t (nI (t &&& (muN c bp nb ||| myN c bp nb)))) gr M Z nb c l r b e y ph btq bp := hB1.keep (fun a z1 z2 => rn 39 a (by simpa using (show a ≠ 39 by omega))) (fun j _ => by rw [rn 39 0 rfl])
    have ei := M_inner (k92 := mX6_types_92 n) (V := evV (opT gr c ph btq t) c l r) hB2 hs hM hnb ht (by rw [rn 39 0 rfl]; exact f44) (by rw [rn 39 0 rfl]; exact f45) (fun k hk => by rw [rn 39 38 rfl]; exact r38 k hk) (fun k hk => evV_lt hs (by decide) (fun k _ a b ha hb => opT_lt ha hb) (k + 1) k (Nat.lt_succ_self k) hk)
    obtain ⟨W2, f⟩ := ih (t + 1) n (am_set (am_set W1 0 39 t (nI (t &&& (muN c bp nb ||| myN c bp nb)))) 0 40 t (nI (inN c l bp (evV (opT gr c ph btq t) c l r) nb))) (by omega) (by omega) (((hK.tr K1).set (Or.inl (by decide))).set (Or.inl (by decide))) (hB2.keep (fun a z1 z2 => rn 40 a (by simpa using (show a ≠ 40 by omega))) (fun j _ => by rw [rn 40 0 rfl])) ⟨by rw [rn 40 0 rfl, rn 39 0 rfl, rW1 0 (by decide) (by decide)]; exact g1, by rw [rn 40 0 rfl, rn 39 0 rfl]; exact f44, by rw [rn 40 0 rfl, rn 39 0 rfl]; exact f45, fun u hu => by
        rw [rn 40 39 rfl, rn 40 41 rfl, rn 39 41 rfl]
        by_cases z : u = t
        · subst z
          rw [am_get_self, am_get_self, r41]
          exact ⟨rfl, rfl, rfl⟩
        · rw [am_get_other z, am_get_other z, rn 39 40 rfl, o41 u z, rW1 39 (by decide) (by decide), rW1 40 (by decide) (by decide)]
          exact g4 u (by omega)⟩
    refine ⟨W2, ?_, f.2⟩
    rw [mX6_types_92, hB.2.1, e1s, if_neg (nI_ge (show t < 2 ^ nb by omega) (by omega)), ej, cl_mk, f44, f45, nI_or, nI_and, wr_in (show t < 1024 from ht) (by decide), wr_in (show t < 1024 from ht) (by decide)]
    have ei' : mX6_types_133 (mX6_types_92 n) (nI t) FU 0 (am_set (am_set W1 0 39 t (nI (t &&& (muN c bp nb ||| myN c bp nb)))) 0 40 t 0) = mX6_types_92 n (nI (t + 1)) (am_set (am_set W1 0 39 t (nI (t &&& (muN c bp nb ||| myN c bp nb)))) 0 40 t (nI (inN c l bp (evV (opT gr c ph btq t) c l r) nb))) := ei
    rw [ei']
    exact f.1
theorem M_types12 (hs : ShapeOK M c l r) (hM : M ≤ 90) (hnb : nb ≤ 10) : ∀ (q j n : Nat) (W : AW), nb = j + q → q < n → KM w0 W → TB W gr M Z nb c l r b e y ph btq bp → W.1 0 0 44 = nI (muN c bp j) → W.1 0 0 45 = nI (myN c bp j) →
    ∃ W2, mX6_types_12 n (nI j) W = mX6_types_92 FU (nI 0) W2 ∧ KM w0 W2 ∧ TB W2 gr M Z nb c l r b e y ph btq bp ∧ W2.1 0 0 44 = nI (muN c bp nb) ∧ W2.1 0 0 45 = nI (myN c bp nb) := by
  intro q
  induction q with
  | zero =>
    intro j n W hq2 hn hK hB h44 h45
    obtain ⟨n, rfl⟩ : ∃ i, n = i + 1 := ⟨n - 1, by omega⟩
    have e2 : j = nb := by omega
    subst e2
    refine ⟨W, ?_, hK, hB, h44, h45⟩
    rw [mX6_types_12, hB.2.1, if_pos (nI_le (Nat.le_refl j) (by omega))]
    rfl
  | succ q ih =>
    intro j n W hq2 hn hK hB h44 h45
    obtain ⟨n, rfl⟩ : ∃ i, n = i + 1 := ⟨n - 1, by omega⟩
    have hj : j < nb := by omega
    obtain ⟨p1, p2⟩ := hB.2.2.1 j hj
    have w30 := (hB.1.2.2.1 _ p1).1
    have ev : nI j + 1 = nI (j + 1) := nI_add j 1
    have e1 : (1 : Int32) <<< (nI j &&& 31) = nI (2 ^ j) := by
      have : nI j &&& 31 = nI (j &&& 31) := nI_and j 31
      rw [this]
      exact one_shl (by omega)
    have hc128 := kinds_lt (kinds_of hs p1)
    have smu : muN c bp (j + 1) = muN c bp j ||| (if c (bp j) = 91 then 2 ^ j else 0) := rfl
    have smy : myN c bp (j + 1) = myN c bp j ||| (if c (bp j) = 123 then 2 ^ j else 0) := rfl
    have hB3 : TB (am_set (am_set W 0 0 44 (nI (muN c bp (j + 1)))) 0 0 45 (nI (myN c bp (j + 1)))) gr M Z nb c l r b e y ph btq bp := hB.keep (fun a z1 z2 => by rw [am_get_row (Or.inr z1), am_get_row (Or.inr z1)]) (fun i z => by rw [am_get_other (by omega), am_get_other (by omega)])
    obtain ⟨W2, f⟩ := ih (j + 1) n (am_set (am_set W 0 0 44 (nI (muN c bp (j + 1)))) 0 0 45 (nI (myN c bp (j + 1)))) (by omega) (by omega) ((hK.set (Or.inr ⟨rfl, by decide, by decide⟩)).set (Or.inr ⟨rfl, by decide, by decide⟩)) hB3 (by rw [am_get_other (by decide), am_get_self]) (am_get_self _ _ _ _ _)
    refine ⟨W2, ?_, f.2⟩
    have r37 : ∀ (V : AW) (g : Int32 → Option (Unit × AW)), V.1 0 37 j = nI (bp j) → rd 10 (V.1 0 37) (nI j) g = g (nI (bp j)) := fun V g h => by rw [rd_in (by omega) (by decide), h]
    have r30 : ∀ (V : AW) (g : Int32 → Option (Unit × AW)), V.1 0 30 (bp j) = nI (c (bp j)) → rd 90 (V.1 0 30) (nI (bp j)) g = g (nI (c (bp j))) := fun V g h => by rw [rd_in (by omega) (by decide), h]
    have e48 : mX6_types_48 (mX6_types_12 n) (nI j) (nI (if c (bp j) = 91 then 2 ^ j else 0)) (nI (muN c bp j)) W = mX6_types_12 n (nI (j + 1)) (am_set (am_set W 0 0 44 (nI (muN c bp (j + 1)))) 0 0 45 (nI (myN c bp (j + 1)))) := by
      unfold mX6_types_48
      rw [nI_or, ← smu, pu_mk, r37 _ _ (by rw [rn 0 37 rfl]; exact p2), r30 _ _ (by rw [rn 0 30 rfl]; exact w30), am_get_other (show (45 : Nat) ≠ 44 by decide), h45]
      unfold mX6_types_80
      by_cases z : c (bp j) = 123
      · rw [if_neg (show ¬ (nI (c (bp j)) ≠ 123) from fun y => y (by rw [z]; rfl)), e1, nI_or, pu_mk, nm_mk, ev, smy, if_pos z]
      · have e0 : nI (myN c bp j) ||| 0 = nI (myN c bp (j + 1)) := by
          rw [smy, if_neg z]
          exact nI_or _ 0
        rw [if_pos (show nI (c (bp j)) ≠ 123 from ne_nI (b := 123) (by omega) (by decide) z), e0, pu_mk, nm_mk, ev]
    rw [mX6_types_12, hB.2.1, if_neg (nI_ge hj (by omega)), r37 _ _ p2, r30 _ _ w30]
    by_cases z : c (bp j) = 91
    · rw [if_neg (show ¬ (nI (c (bp j)) ≠ 91) from fun y => y (by rw [z]; rfl)), e1, h44]
      rw [if_pos z] at e48
      rw [e48]
      exact f.1
    · rw [if_neg z] at e48
      have e48' : mX6_types_48 (mX6_types_12 n) (nI j) 0 (nI (muN c bp j)) W = mX6_types_12 n (nI (j + 1)) (am_set (am_set W 0 0 44 (nI (muN c bp (j + 1)))) 0 0 45 (nI (myN c bp (j + 1)))) := e48
      rw [if_pos (show nI (c (bp j)) ≠ 91 from ne_nI (b := 91) (by omega) (by decide) z), h44, e48']
      exact f.1
theorem M_types {w : AW} (hs : ShapeOK M c l r) (hM1 : 1 ≤ M) (hM : M ≤ 90) (hnb : nb ≤ 10) (hbt : ∀ k, k < M → btq (ph k) < 10) (hnm : ∀ k, k < M → hbB gr (c k) = false → modB (c k) = false) (hB : TB w gr M Z nb c l r b e y ph btq bp) :
    ∃ W2, mX6_types w = some ((), W2) ∧ KM w W2 ∧ TYM W2 nb (muN c bp nb) (myN c bp nb) (fun u => inN c l bp (evV (opT gr c ph btq u) c l r) nb) (fun u => decide (evV (opT gr c ph btq u) c l r (M - 1) = 1)) (2 ^ nb) := by
  have hpw : 2 ^ nb ≤ 1024 := Nat.le_trans (Nat.pow_le_pow_right (by decide) hnb) (by decide)
  have K0 : KM w (am_set (am_set w 0 0 44 0) 0 0 45 0) := ((KM.rf w).set (Or.inr ⟨rfl, by decide, by decide⟩)).set (Or.inr ⟨rfl, by decide, by decide⟩)
  have hB0 : TB (am_set (am_set w 0 0 44 0) 0 0 45 0) gr M Z nb c l r b e y ph btq bp := hB.keep (fun a z1 z2 => by rw [am_get_row (Or.inr z1), am_get_row (Or.inr z1)]) (fun i z => by rw [am_get_other (by omega), am_get_other (by omega)])
  obtain ⟨W1, f1, f2, f3, f4, f5⟩ := M_types12 hs hM hnb nb 0 FU _ (by omega) (FU_gt (by omega)) K0 hB0 (by rw [am_get_other (by decide), am_get_self]; rfl) (by rw [am_get_self]; rfl)
  obtain ⟨W2, g1, g2, g3⟩ := M_types92 hs hM1 hM hnb hbt hnm (2 ^ nb) 0 FU W1 (by omega) (FU_gt (by omega)) f2 f3 ⟨f3.2.1, f4, f5, fun t ht => absurd ht (Nat.not_lt_zero t)⟩
  refine ⟨W2, ?_, g2, g3⟩
  unfold mX6_types
  rw [pu_mk, pu_mk]
  exact f1.trans g1
end TZ
end
section
/-! the model: which types may see which, which must fall -/
def owM (mu my t : Nat) : Nat := t &&& (mu ||| my)
def wnM (mu my t : Nat) : Nat := owM mu my t &&& mu
def baM (mu my t : Nat) : Nat := (owM mu my t ^^^ 4294967295) &&& my
def letB (mu my : Nat) (inn : Nat → Nat) (far : Bool) (a b : Nat) : Bool := decide (sdiff (wnM mu my a) (inn b) = 0) && (decide (baM mu my a &&& inn b = 0) && (!far || (decide (sdiff (wnM mu my a) (owM mu my b) = 0) && decide (baM mu my a &&& owM mu my b = 0))))
def seeM (L mu my : Nat) (inn : Nat → Nat) (a b : Nat) : Bool := letB mu my inn (decide (L = 3 ∨ L = 4)) a b && ((decide (L ≤ 4) || letB mu my inn false b a) && (!decide (L = 7) || decide (owM mu my a = owM mu my b)))
section SM2
variable {W : AW} {nb mu my L T : Nat} {inn : Nat → Nat} {hd : Nat → Bool}
theorem wnM_lt (hm : mu < 2 ^ 10) (t : Nat) : wnM mu my t < 2 ^ 10 := Nat.lt_of_le_of_lt Nat.and_le_right hm
theorem baM_lt (hm : my < 2 ^ 10) (t : Nat) : baM mu my t < 2 ^ 10 := Nat.lt_of_le_of_lt Nat.and_le_right hm
theorem M_lets (h : TYM W nb mu my inn hd T) (hT : T ≤ 1024) (hmu : mu < 2 ^ 10) (hmy : my < 2 ^ 10) (far : Bool) {a b : Nat} (ha : a < T) (hb : b < T) : mX6_lets (nI a) (nI b) (nI (bN far)) W = some (nI (bN (letB mu my inn far a b)), W) := by
  obtain ⟨g1, g2, g3, g4⟩ := h
  obtain ⟨a39, a40, a41⟩ := g4 a ha
  obtain ⟨b39, b40, b41⟩ := g4 b hb
  have r39a : ∀ f : Int32 → Option (Int32 × AW), rd 1024 (W.1 0 39) (nI a) f = f (nI (owM mu my a)) := fun f => by rw [rd_in (by omega) (by decide), a39]; rfl
  have r39b : ∀ f : Int32 → Option (Int32 × AW), rd 1024 (W.1 0 39) (nI b) f = f (nI (owM mu my b)) := fun f => by rw [rd_in (by omega) (by decide), b39]; rfl
  have r40b : ∀ f : Int32 → Option (Int32 × AW), rd 1024 (W.1 0 40) (nI b) f = f (nI (inn b)) := fun f => by rw [rd_in (by omega) (by decide), b40]
  have lw := wnM_lt (my := my) hmu a
  have lb := baM_lt (mu := mu) hmy a
  have ew : nI (owM mu my a) &&& nI mu = nI (wnM mu my a) := nI_and _ _
  have eb : (nI (owM mu my a) ^^^ (-1)) &&& nI my = nI (baM mu my a) := by
    show (nI (owM mu my a) ^^^ nI 4294967295) &&& nI my = _
    rw [nI_xor, nI_and]
    rfl
  have es : ∀ x y : Nat, nI x &&& (nI y ^^^ (-1)) = nI (sdiff x y) := fun x y => nI_sdiff x y
  have z : ∀ x : Nat, x < 2 ^ 31 → x ≠ 0 → nI x ≠ 0 := fun x hx hne => ne_nI (b := 0) hx (by decide) hne
  have s1 : ∀ y, sdiff (wnM mu my a) y < 2 ^ 31 := fun y => Nat.lt_trans (sdiff_lt lw) (by decide)
  have s2 : ∀ y, baM mu my a &&& y < 2 ^ 31 := fun y => Nat.lt_of_le_of_lt Nat.and_le_left (by omega)
  unfold mX6_lets letB
  rw [r39a, g2, ew, nm_mk, r39a, g3, eb, nm_mk, r40b, es]
  by_cases q1 : sdiff (wnM mu my a) (inn b) = 0
  · rw [if_neg (show ¬ (nI (sdiff (wnM mu my a) (inn b)) ≠ 0) from fun y => y (by rw [q1]; rfl)), r40b, nI_and, decide_eq_true q1, Bool.true_and]
    by_cases q2 : baM mu my a &&& inn b = 0
    · rw [if_neg (show ¬ (nI (baM mu my a &&& inn b) ≠ 0) from fun y => y (by rw [q2]; rfl)), decide_eq_true q2, Bool.true_and]
      unfold mX6_lets_59
      rw [if_neg (show ¬ ((1 : Int32) = 0) by decide)]
      cases far
      · rw [if_pos (show nI (bN false) = 0 from rfl)]
        rfl
      · rw [if_neg (show ¬ (nI (bN true) = 0) by decide), r39b, es, Bool.not_true, Bool.false_or]
        by_cases q3 : sdiff (wnM mu my a) (owM mu my b) = 0
        · rw [if_neg (show ¬ (nI (sdiff (wnM mu my a) (owM mu my b)) ≠ 0) from fun y => y (by rw [q3]; rfl)), r39b, nI_and, decide_eq_true q3, Bool.true_and]
          by_cases q4 : baM mu my a &&& owM mu my b = 0
          · rw [if_neg (show ¬ (nI (baM mu my a &&& owM mu my b) ≠ 0) from fun y => y (by rw [q4]; rfl)), decide_eq_true q4]
            rfl
          · rw [if_pos (z _ (s2 _) q4), decide_eq_false q4]
            rfl
        · rw [if_pos (z _ (s1 _) q3), decide_eq_false q3]
          rfl
    · rw [if_pos (z _ (s2 _) q2), decide_eq_false q2]
      rfl
  · rw [if_pos (z _ (s1 _) q1), decide_eq_false q1]
    rfl
theorem M_maySee (h : TYM W nb mu my inn hd T) (hT : T ≤ 1024) (hmu : mu < 2 ^ 10) (hmy : my < 2 ^ 10) (hL : L < 8) {a b : Nat} (ha : a < T) (hb : b < T) : mX6_maySee (nI L) (nI a) (nI b) W = some (nI (bN (seeM L mu my inn a b)), W) := by
  have l1 := fun far => M_lets h hT hmu hmy far ha hb
  have l2 := M_lets h hT hmu hmy false hb ha
  obtain ⟨g1, g2, g3, g4⟩ := h
  have r39 : ∀ t, t < T → ∀ f : Int32 → Option (Int32 × AW), rd 1024 (W.1 0 39) (nI t) f = f (nI (owM mu my t)) := fun t ht f => by rw [rd_in (by omega) (by decide), (g4 t ht).1]; rfl
  have lo : ∀ t, t < T → owM mu my t < 2 ^ 31 := fun t ht => Nat.lt_of_le_of_lt Nat.and_le_left (by omega)
  have e50 : ∀ x : Bool, mX6_maySee_50 (nI L) (nI a) (nI b) (nI (bN x)) W = some (nI (bN (x && (!decide (L = 7) || decide (owM mu my a = owM mu my b)))), W) := fun x => by
    unfold mX6_maySee_50
    cases x
    · rw [if_pos (show nI (bN false) = 0 from rfl)]
      rfl
    · rw [if_neg (show ¬ (nI (bN true) = 0) by decide), Bool.true_and]
      by_cases q : L = 7
      · rw [if_neg (show ¬ (nI L ≠ 7) from fun y => y (by rw [q]; rfl)), r39 a ha, r39 b hb, decide_eq_true q, Bool.not_true, Bool.false_or]
        by_cases q2 : owM mu my a = owM mu my b
        · rw [if_neg (fun y => y (by rw [q2])), decide_eq_true q2]
          rfl
        · rw [if_pos (ne_nI (lo a ha) (lo b hb) q2), decide_eq_false q2]
          rfl
      · rw [if_pos (show nI L ≠ 7 from ne_nI (b := 7) (by omega) (by decide) q), decide_eq_false q]
        rfl
  have e18 : ∀ far : Bool, mX6_maySee_18 (nI L) (nI a) (nI b) (nI (bN far)) (nI b) (nI a) W = some (nI (bN (letB mu my inn far a b && ((decide (L ≤ 4) || letB mu my inn false b a) && (!decide (L = 7) || decide (owM mu my a = owM mu my b))))), W) := fun far => by
    unfold mX6_maySee_18
    rw [l1 far, cl_mk]
    by_cases q : L ≤ 4
    · rw [if_pos (show nI L ≤ 4 from nI_le (b := 4) q (by decide)), e50, decide_eq_true q, Bool.true_or, Bool.true_and]
    · rw [if_neg (show ¬ nI L ≤ 4 from nI_ge (a := 4) (by omega) (by omega)), decide_eq_false q, Bool.false_or]
      cases q2 : letB mu my inn far a b
      · rw [if_pos (show nI (bN false) = 0 from rfl)]
        exact e50 false
      · have l2' : mX6_lets (nI b) (nI a) 0 W = some (nI (bN (letB mu my inn false b a)), W) := l2
        rw [if_neg (show ¬ (nI (bN true) = 0) by decide), l2', cl_mk, Bool.true_and]
        cases q3 : letB mu my inn false b a
        · rw [if_pos (show nI (bN false) = 0 from rfl)]
          exact e50 false
        · rw [if_neg (show ¬ (nI (bN true) = 0) by decide)]
          exact e50 true
  unfold mX6_maySee seeM
  by_cases h3 : L = 3
  · rw [if_pos (show nI L = 3 by rw [h3]; rfl), decide_eq_true (Or.inl h3)]
    exact e18 true
  · rw [if_neg (show ¬ nI L = 3 from ne_nI (b := 3) (by omega) (by decide) h3)]
    by_cases h4 : L = 4
    · rw [if_neg (show ¬ (nI L ≠ 4) from fun y => y (by rw [h4]; rfl)), decide_eq_true (Or.inr h4)]
      exact e18 true
    · rw [if_pos (show nI L ≠ 4 from ne_nI (b := 4) (by omega) (by decide) h4), decide_eq_false (by omega)]
      exact e18 false
end SM2
end
section
/-! the model: which types must fall -/
def brM (mu my : Nat) (inn : Nat → Nat) (u : Nat) : Nat := ((inn u &&& my) ||| ((inn u ^^^ 4294967295) &&& mu)) ^^^ 4294967295
def o0M (mu my t : Nat) : Nat := (owM mu my t &&& my) ||| ((owM mu my t ^^^ 4294967295) &&& mu)
def mfM (L mu my : Nat) (inn : Nat → Nat) (Z : Nat) (th : Nat → Bool) (t : Nat) : Bool := mfB (fun u => th u && seeM L mu my inn t u) (brM mu my inn) (o0M mu my t) (decide (L = 1)) Z
section FM
variable {W : AW} {nb mu my L : Nat} {inn : Nat → Nat} {hd : Nat → Bool}
theorem M_isThere {u : Nat} (hu : u < 1024) {x : Int32} (hf : W.1 0 42 u = x) : mX6_isThere (nI u) W = some (nI (bN (decide (x = -9))), W) := by
  unfold mX6_isThere
  rw [rd_in hu (by decide), hf]
  by_cases h1 : x = -9
  · rw [if_neg (fun z => z h1), decide_eq_true h1]
    rfl
  · rw [if_pos h1, decide_eq_false h1]
    rfl
theorem M_isFalling (h : TYM W nb mu my inn hd (2 ^ nb)) (hnb : nb ≤ 10) (hmu : mu < 2 ^ 10) (hmy : my < 2 ^ 10) (hL : L < 8) {t : Nat} (ht : t < 2 ^ nb) (th : Nat → Bool) (hth : ∀ u, u < 2 ^ nb → decide (W.1 0 42 u = -9) = th u) :
    mX6_isFalling (nI L) (nI t) W = some (nI (bN (mfM L mu my inn (2 ^ nb) th t)), W) := by
  have hpw : 2 ^ nb ≤ 1024 := Nat.le_trans (Nat.pow_le_pow_right (by decide) hnb) (by decide)
  have e1s : (1 : Int32) <<< (nI nb &&& 31) = nI (2 ^ nb) := by
    have : nI nb &&& 31 = nI (nb &&& 31) := nI_and nb 31
    rw [this]
    exact one_shl (by omega)
  have o0l : o0M mu my t < 2 ^ 10 := or_lt (Nat.lt_of_le_of_lt Nat.and_le_right hmy) (Nat.lt_of_le_of_lt Nat.and_le_right hmu)
  have ol : ∀ n, owN (fun u => th u && seeM L mu my inn t u) (brM mu my inn) (o0M mu my t) n < 2 ^ 10 := fun n => Nat.lt_of_le_of_lt (owN_le n) o0l
  have hex : ∃ n, n = 2 ^ nb ∨ (owN (fun u => th u && seeM L mu my inn t u) (brM mu my inn) (o0M mu my t) n = 0 ∧ msN (fun u => th u && seeM L mu my inn t u) (decide (L = 1)) n = false) := ⟨2 ^ nb, Or.inl rfl⟩
  obtain ⟨E, hE, hmin⟩ := pk_least _ hex
  have hEZ : E ≤ 2 ^ nb := by
    rcases Nat.lt_or_ge (2 ^ nb) E with q | q
    · exact absurd (Or.inl rfl) (hmin _ q)
    · exact q
  have run : mX6_isFalling_41 (nI L) (nI t) FU (nI (o0M mu my t)) (nI (bN (!decide (L = 1)))) (nI 0) W = some (nI (bN (mfM L mu my inn (2 ^ nb) th t)), W) := by
    refine loopE (fun n (s : Int32 × Int32 × Int32) => mX6_isFalling_41 (nI L) (nI t) n s.1 s.2.1 s.2.2 W) E (fun k => (nI (owN (fun u => th u && seeM L mu my inn t u) (brM mu my inn) (o0M mu my t) k), nI (bN (!msN (fun u => th u && seeM L mu my inn t u) (decide (L = 1)) k)), nI k)) _ ?_ ?_ FU 0 (Nat.zero_le _) (FU_gt (by omega))
    · intro n u hu
      have huZ : u < 2 ^ nb := by omega
      have hno := hmin u hu
      have ev : nI u + 1 = nI (u + 1) := nI_add u 1
      obtain ⟨u39, u40, u41⟩ := h.2.2.2 u huZ
      have r40 : ∀ f : Int32 → Option (Int32 × AW), rd 1024 (W.1 0 40) (nI u) f = f (nI (inn u)) := fun f => by rw [rd_in (by omega) (by decide), u40]
      have e116 : ∀ (a b : Int32), mX6_isFalling_116 (mX6_isFalling_41 (nI L) (nI t) n) (nI L) (nI t) a b (nI u) W = mX6_isFalling_41 (nI L) (nI t) n a b (nI (u + 1)) W := fun a b => by
        unfold mX6_isFalling_116
        rw [nm_mk, ev]
      have ebr : (((nI (inn u) &&& nI my) ||| ((nI (inn u) ^^^ (-1)) &&& nI mu)) ^^^ (-1)) = nI (brM mu my inn u) := by
        show (((nI (inn u) &&& nI my) ||| ((nI (inn u) ^^^ nI 4294967295) &&& nI mu)) ^^^ nI 4294967295) = _
        rw [nI_and, nI_xor, nI_and, nI_or, nI_xor]
        rfl
      have e61 : mX6_isFalling_61 (mX6_isFalling_41 (nI L) (nI t) n) (nI L) (nI t) (nI (owN (fun u => th u && seeM L mu my inn t u) (brM mu my inn) (o0M mu my t) u)) (nI (bN (!msN (fun u => th u && seeM L mu my inn t u) (decide (L = 1)) u))) (nI u) W = mX6_isFalling_41 (nI L) (nI t) n (nI (owN (fun u => th u && seeM L mu my inn t u) (brM mu my inn) (o0M mu my t) (u + 1))) (nI (bN (!msN (fun u => th u && seeM L mu my inn t u) (decide (L = 1)) (u + 1)))) (nI (u + 1)) W := by
        have s1 : owN (fun u => th u && seeM L mu my inn t u) (brM mu my inn) (o0M mu my t) (u + 1) = if (th u && seeM L mu my inn t u) = true then owN (fun u => th u && seeM L mu my inn t u) (brM mu my inn) (o0M mu my t) u &&& brM mu my inn u else owN (fun u => th u && seeM L mu my inn t u) (brM mu my inn) (o0M mu my t) u := rfl
        have s2 : msN (fun u => th u && seeM L mu my inn t u) (decide (L = 1)) (u + 1) = (msN (fun u => th u && seeM L mu my inn t u) (decide (L = 1)) u && !(th u && seeM L mu my inn t u)) := rfl
        unfold mX6_isFalling_61
        rw [M_isThere (show u < 1024 by omega) rfl, hth u huZ, cl_mk]
        cases q : th u
        · rw [if_pos (show nI (bN false) = 0 from rfl), e116, s1, s2, q, Bool.false_and, if_neg (by decide), Bool.not_false, Bool.and_true]
        · rw [if_neg (show ¬ (nI (bN true) = 0) by decide), M_maySee h hpw hmu hmy hL ht huZ, cl_mk]
          cases q2 : seeM L mu my inn t u
          · rw [if_pos (show nI (bN false) = 0 from rfl), e116, s1, s2, q, q2, Bool.and_false, if_neg (by decide), Bool.not_false, Bool.and_true]
          · rw [if_neg (show ¬ (nI (bN true) = 0) by decide), r40, r40, h.2.1, h.2.2.1, ebr, nI_and, nm_mk, e116, s1, s2, q, q2, Bool.and_true, if_pos rfl, Bool.not_true, Bool.and_false]
            rfl
      dsimp only
      rw [mX6_isFalling_41, h.1, e1s, if_neg (nI_ge huZ (by omega))]
      by_cases z : owN (fun u => th u && seeM L mu my inn t u) (brM mu my inn) (o0M mu my t) u = 0
      · have z2 : msN (fun u => th u && seeM L mu my inn t u) (decide (L = 1)) u = true := by
          cases y : msN (fun u => th u && seeM L mu my inn t u) (decide (L = 1)) u
          · exact absurd (Or.inr ⟨z, y⟩) hno
          · rfl
        rw [if_neg (show ¬ (nI (owN (fun u => th u && seeM L mu my inn t u) (brM mu my inn) (o0M mu my t) u) ≠ 0) from fun y => y (by rw [z]; rfl)), if_neg (show ¬ (nI (bN (!msN (fun u => th u && seeM L mu my inn t u) (decide (L = 1)) u)) ≠ 0) from fun y => y (by rw [z2]; rfl))]
        exact e61
      · rw [if_pos (show nI (owN (fun u => th u && seeM L mu my inn t u) (brM mu my inn) (o0M mu my t) u) ≠ 0 from ne_nI (b := 0) (by have := ol u; omega) (by decide) z)]
        exact e61
    · intro n
      dsimp only
      rw [mX6_isFalling_41, h.1, e1s]
      unfold mfM mfB mX6_isFalling_122
      by_cases z : owN (fun u => th u && seeM L mu my inn t u) (brM mu my inn) (o0M mu my t) E = 0
      · have n0 : ¬ (nI (owN (fun u => th u && seeM L mu my inn t u) (brM mu my inn) (o0M mu my t) E) ≠ 0) := fun y => y (by rw [z]; rfl)
        rw [owN_zero z hEZ, decide_eq_true rfl, Bool.not_true, Bool.false_or, if_neg n0, if_neg n0]
        cases q : msN (fun u => th u && seeM L mu my inn t u) (decide (L = 1)) E
        · rw [msN_false q hEZ, if_pos (show nI (bN (!false)) ≠ 0 by decide), if_pos (show nI (bN (!false)) ≠ 0 by decide)]
          split <;> rfl
        · have hEq : E = 2 ^ nb := by
            rcases hE with y | ⟨-, y⟩
            · exact y
            · rw [q] at y; cases y
          rw [← hEq, q, if_pos (nI_le (Nat.le_refl E) (by omega)), if_neg (show ¬ (nI (bN (!true)) ≠ 0) from fun y => y rfl)]
          rfl
      · have hEq : E = 2 ^ nb := by
          rcases hE with y | ⟨y, -⟩
          · exact y
          · exact absurd y z
        rw [← hEq, decide_eq_false z, if_pos (nI_le (Nat.le_refl E) (by omega)), if_pos (show nI (owN (fun u => th u && seeM L mu my inn t u) (brM mu my inn) (o0M mu my t) E) ≠ 0 from ne_nI (b := 0) (by have := ol E; omega) (by decide) z)]
        rfl
  obtain ⟨t39, t40, t41⟩ := h.2.2.2 t ht
  have r39 : ∀ f : Int32 → Option (Int32 × AW), rd 1024 (W.1 0 39) (nI t) f = f (nI (owM mu my t)) := fun f => by rw [rd_in (by omega) (by decide), t39]; rfl
  have eo : (nI (owM mu my t) &&& nI my) ||| ((nI (owM mu my t) ^^^ (-1)) &&& nI mu) = nI (o0M mu my t) := by
    show (nI (owM mu my t) &&& nI my) ||| ((nI (owM mu my t) ^^^ nI 4294967295) &&& nI mu) = _
    rw [nI_and, nI_xor, nI_and, nI_or]
    rfl
  unfold mX6_isFalling
  rw [r39, r39, h.2.1, h.2.2.1, eo, nm_mk]
  unfold mX6_isFalling_36
  by_cases h1 : L = 1
  · rw [if_pos (show nI L = 1 by rw [h1]; rfl)]
    rw [decide_eq_true h1] at run
    exact run
  · rw [if_neg (show ¬ nI L = 1 from ne_nI (b := 1) (by omega) (by decide) h1)]
    rw [decide_eq_false h1] at run
    exact run
end FM
end
section
/-! the model's rounds -/
def fitM (L mu my : Nat) (inn : Nat → Nat) (t : Nat) : Bool := if L = 2 ∨ L = 4 ∨ 5 < L then seeM L mu my inn t t else true
section RM
variable {W : AW} {nb mu my L : Nat} {inn : Nat → Nat} {hd : Nat → Bool}
theorem TYM.row {W2 : AW} {T : Nat} (h : TYM W nb mu my inn hd T) (e35 : W2.1 0 0 35 = W.1 0 0 35) (e44 : W2.1 0 0 44 = W.1 0 0 44) (e45 : W2.1 0 0 45 = W.1 0 0 45) (e39 : W2.1 0 39 = W.1 0 39) (e40 : W2.1 0 40 = W.1 0 40) (e41 : W2.1 0 41 = W.1 0 41) : TYM W2 nb mu my inn hd T := by
  unfold TYM
  rw [e35, e44, e45, e39, e40, e41]
  exact h
theorem TYM.r42 {T a : Nat} {f : Nat → Int32} (h : TYM W nb mu my inn hd T) (ha : 42 ≤ a) (k : Nat) : TYM (setRow W 0 a f k) nb mu my inn hd T :=
  h.row (by rw [setRow_row (Or.inr (by omega))]) (by rw [setRow_row (Or.inr (by omega))]) (by rw [setRow_row (Or.inr (by omega))]) (setRow_row (Or.inr (by omega)) k) (setRow_row (Or.inr (by omega)) k) (setRow_row (Or.inr (by omega)) k)
theorem pow_nb (hnb : nb ≤ 10) : 2 ^ nb ≤ 1024 := Nat.le_trans (Nat.pow_le_pow_right (by decide) hnb) (by decide)
theorem sh_nb (hnb : nb ≤ 10) : (1 : Int32) <<< (nI nb &&& 31) = nI (2 ^ nb) := by
  have : nI nb &&& 31 = nI (nb &&& 31) := nI_and nb 31
  rw [this]
  exact one_shl (by omega)
theorem setRow_K {w0 : AW} {a : Nat} {f : Nat → Int32} (h : KM w0 W) (ha : 16 ≤ a) : ∀ k, KM w0 (setRow W 0 a f k)
  | 0 => h
  | k + 1 => (setRow_K h ha k).set (Or.inl ha)
theorem M_self (hL : L < 8) : mX6_rounds (nI L) W = mX6_rounds_23 (nI L) (nI (bN (decide (L = 2 ∨ L = 4 ∨ 5 < L)))) FU 0 W := by
  unfold mX6_rounds mX6_rounds_15 mX6_rounds_20
  match L, hL with
  | 0, _ => rfl
  | 1, _ => rfl
  | 2, _ => rfl
  | 3, _ => rfl
  | 4, _ => rfl
  | 5, _ => rfl
  | 6, _ => rfl
  | 7, _ => rfl
theorem M_fit23 (h : TYM W nb mu my inn hd (2 ^ nb)) (hnb : nb ≤ 10) (hmu : mu < 2 ^ 10) (hmy : my < 2 ^ 10) (hL : L < 8) (mf : (Nat → Bool) → Nat → Bool) : mX6_rounds_23 (nI L) (nI (bN (decide (L = 2 ∨ L = 4 ∨ 5 < L)))) FU 0 W = mX6_rounds_70 (nI L) FU 0 1 (setRow W 0 42 (flV (fitM L mu my inn) mf 0) (2 ^ nb)) := by
  have hpw := pow_nb hnb
  refine loopE (fun n (s : Int32 × AW) => mX6_rounds_23 (nI L) (nI (bN (decide (L = 2 ∨ L = 4 ∨ 5 < L)))) n s.1 s.2) (2 ^ nb) (fun k => (nI k, setRow W 0 42 (flV (fitM L mu my inn) mf 0) k)) _ ?_ ?_ FU 0 (Nat.zero_le _) (FU_gt (by omega))
  · intro n t ht
    have hT := h.r42 (f := flV (fitM L mu my inn) mf 0) (Nat.le_refl 42) t
    have ev : nI t + 1 = nI (t + 1) := nI_add t 1
    have e0 : flV (fitM L mu my inn) mf 0 t = if fitM L mu my inn t = true then -9 else nI 0 := rfl
    have fin : ∀ x, flV (fitM L mu my inn) mf 0 t = x → am_set (setRow W 0 42 (flV (fitM L mu my inn) mf 0) t) 0 42 t x = setRow W 0 42 (flV (fitM L mu my inn) mf 0) (t + 1) := fun x hx => by rw [← hx]; rfl
    have e58 : ∀ x, flV (fitM L mu my inn) mf 0 t = x → mX6_rounds_58 (mX6_rounds_23 (nI L) (nI (bN (decide (L = 2 ∨ L = 4 ∨ 5 < L)))) n) (nI L) (nI (bN (decide (L = 2 ∨ L = 4 ∨ 5 < L)))) (nI t) x (nI t) (setRow W 0 42 (flV (fitM L mu my inn) mf 0) t) = mX6_rounds_23 (nI L) (nI (bN (decide (L = 2 ∨ L = 4 ∨ 5 < L)))) n (nI (t + 1)) (setRow W 0 42 (flV (fitM L mu my inn) mf 0) (t + 1)) := fun x hx => by
      unfold mX6_rounds_58
      rw [wr_in (show t < 1024 by omega) (by decide), nm_mk, ev, fin x hx]
    have ef : fitM L mu my inn t = if L = 2 ∨ L = 4 ∨ 5 < L then seeM L mu my inn t t else true := rfl
    dsimp only
    rw [mX6_rounds_23, hT.1, sh_nb hnb, if_neg (nI_ge ht (by omega))]
    unfold mX6_rounds_56
    by_cases q : L = 2 ∨ L = 4 ∨ 5 < L
    · rw [decide_eq_true q] at e58 ⊢
      rw [if_neg (show ¬ (nI (bN true) = 0) by decide), M_maySee hT hpw hmu hmy hL ht ht, cl_mk]
      rw [if_pos q] at ef
      cases q2 : seeM L mu my inn t t
      · rw [if_neg (show ¬ (nI (bN false) ≠ 0) from fun z => z rfl)]
        exact e58 0 (by rw [e0, ef, q2]; rfl)
      · rw [if_pos (show nI (bN true) ≠ 0 by decide)]
        exact e58 (-9) (by rw [e0, ef, q2]; rfl)
    · rw [decide_eq_false q] at e58 ⊢
      rw [if_pos (show nI (bN false) = 0 from rfl)]
      rw [if_neg q] at ef
      exact e58 (-9) (by rw [e0, ef]; rfl)
  · intro n
    have hT := h.r42 (f := flV (fitM L mu my inn) mf 0) (Nat.le_refl 42) (2 ^ nb)
    dsimp only
    rw [mX6_rounds_23, hT.1, sh_nb hnb, if_pos (nI_le (Nat.le_refl _) (by omega))]
/-- one round -/
def rnW (W : AW) (th mt : Nat → Bool) (fl' : Nat → Int32) (Z : Nat) : AW := setRow (setRow W 0 43 (fun t => nI (bN (th t && mt t))) Z) 0 42 fl' Z
theorem nar_B (x : Bool) : vp_nar .boolean (nI (bN x)) = nI (bN x) := by cases x <;> decide
theorem nbN_or (a b : Bool) : nI (bN a) ||| nI (bN b) = nI (bN (a || b)) := by cases a <;> cases b <;> decide
theorem M_round (h : TYM W nb mu my inn hd (2 ^ nb)) (hnb : nb ≤ 10) (hmu : mu < 2 ^ 10) (hmy : my < 2 ^ 10) (hL : L < 8) {fit : Nat → Bool} {r : Nat} (hr : r < 2000) (hF : ∀ u, u < 2 ^ nb → W.1 0 42 u = flV fit (mfM L mu my inn (2 ^ nb)) r u) {k70 : Int32 → Int32 → AW → Option (Int32 × AW)} :
    mX6_rounds_81 k70 (nI L) (nI r) FU 0 0 W = k70 (nI (r + bN (anyN fit (mfM L mu my inn (2 ^ nb)) (2 ^ nb) r))) (nI (bN (anyN fit (mfM L mu my inn (2 ^ nb)) (2 ^ nb) r))) (rnW W (thN fit (mfM L mu my inn (2 ^ nb)) r) (mfM L mu my inn (2 ^ nb) (thN fit (mfM L mu my inn (2 ^ nb)) r)) (flV fit (mfM L mu my inn (2 ^ nb)) (r + 1)) (2 ^ nb)) := by
  have hpw := pow_nb hnb
  have hth := flV_th (fit := fit) (mf := mfM L mu my inn (2 ^ nb)) (fun _ _ => trivial) r (by omega)
  have efl : ∀ t, flV fit (mfM L mu my inn (2 ^ nb)) (r + 1) t = if thN fit (mfM L mu my inn (2 ^ nb)) r t = true ∧ mfM L mu my inn (2 ^ nb) (thN fit (mfM L mu my inn (2 ^ nb)) r) t = true then nI (r + 1) else flV fit (mfM L mu my inn (2 ^ nb)) r t := fun _ => rfl
  have ean : anyN fit (mfM L mu my inn (2 ^ nb)) (2 ^ nb) r = exB (fun t => thN fit (mfM L mu my inn (2 ^ nb)) r t && mfM L mu my inn (2 ^ nb) (thN fit (mfM L mu my inn (2 ^ nb)) r) t) (2 ^ nb) := rfl
  generalize hfl' : flV fit (mfM L mu my inn (2 ^ nb)) (r + 1) = fl' at *
  generalize hfl : flV fit (mfM L mu my inn (2 ^ nb)) r = fl at *
  generalize hthe : thN fit (mfM L mu my inn (2 ^ nb)) r = th at *
  generalize hmt : mfM L mu my inn (2 ^ nb) th = mt at *
  have e81 : mX6_rounds_81 k70 (nI L) (nI r) FU 0 0 W = (if nI (bN (exB (fun t => th t && mt t) (2 ^ nb))) = 0 then mX6_rounds_152 k70 (nI L) (nI (bN (exB (fun t => th t && mt t) (2 ^ nb)))) 0 (nI r) (setRow W 0 43 (fun t => nI (bN (th t && mt t))) (2 ^ nb)) else mX6_rounds_152 k70 (nI L) (nI (bN (exB (fun t => th t && mt t) (2 ^ nb)))) 1 (nI r) (setRow W 0 43 (fun t => nI (bN (th t && mt t))) (2 ^ nb))) := by
    refine loopE (fun n (s : Int32 × Int32 × AW) => mX6_rounds_81 k70 (nI L) (nI r) n s.1 s.2.1 s.2.2) (2 ^ nb) (fun k => (nI (bN (exB (fun t => th t && mt t) k)), nI k, setRow W 0 43 (fun t => nI (bN (th t && mt t))) k)) _ ?_ ?_ FU 0 (Nat.zero_le _) (FU_gt (by omega))
    · intro n t ht
      have hT := h.r42 (f := fun t => nI (bN (th t && mt t))) (show 42 ≤ 43 by decide) t
      have ev : nI t + 1 = nI (t + 1) := nI_add t 1
      have h42 : ∀ u, u < 2 ^ nb → decide ((setRow W 0 43 (fun t => nI (bN (th t && mt t))) t).1 0 42 u = -9) = th u := fun u hu => by
        rw [setRow_row (Or.inr (by decide)), hF u hu]
        have := (hth u).1
        cases q : th u
        · exact decide_eq_false (fun z => by rw [this.mp z] at q; cases q)
        · exact decide_eq_true (this.mpr q)
      have eis : mX6_isThere (nI t) (setRow W 0 43 (fun t => nI (bN (th t && mt t))) t) = some (nI (bN (th t)), setRow W 0 43 (fun t => nI (bN (th t && mt t))) t) := by
        rw [M_isThere (show t < 1024 by omega) rfl, h42 t ht]
      have efa := M_isFalling hT hnb hmu hmy hL ht th h42
      rw [hmt] at efa
      have e122 : ∀ (s0 : Int32), s0 = nI (bN (th t && mt t)) → mX6_rounds_122 k70 (mX6_rounds_81 k70 (nI L) (nI r) n) (nI L) (nI r) (nI (bN (exB (fun t => th t && mt t) t))) (nI t) s0 (nI t) (setRow W 0 43 (fun t => nI (bN (th t && mt t))) t) = mX6_rounds_81 k70 (nI L) (nI r) n (nI (bN (exB (fun t => th t && mt t) (t + 1)))) (nI (t + 1)) (setRow W 0 43 (fun t => nI (bN (th t && mt t))) (t + 1)) := fun s0 hs0 => by
        unfold mX6_rounds_122
        rw [hs0, nar_B, wr_in (show t < 1024 by omega) (by decide), rd_in (show t < 1024 by omega) (by decide), am_get_self, nm_mk, nm_mk, nbN_or, ev]
        rfl
      dsimp only
      rw [mX6_rounds_81, hT.1, sh_nb hnb, if_neg (nI_ge ht (by omega)), eis, cl_mk]
      unfold mX6_rounds_121
      cases q : th t
      · rw [if_pos (show nI (bN false) = 0 from rfl)]
        exact e122 0 (by rw [q]; rfl)
      · rw [if_neg (show ¬ (nI (bN true) = 0) by decide), efa, cl_mk]
        cases q2 : mt t
        · rw [if_pos (show nI (bN false) = 0 from rfl)]
          exact e122 0 (by rw [q, q2]; rfl)
        · rw [if_neg (show ¬ (nI (bN true) = 0) by decide)]
          exact e122 1 (by rw [q, q2]; rfl)
    · intro n
      have hT := h.r42 (f := fun t => nI (bN (th t && mt t))) (show 42 ≤ 43 by decide) (2 ^ nb)
      dsimp only
      rw [mX6_rounds_81, hT.1, sh_nb hnb, if_pos (nI_le (Nat.le_refl _) (by omega))]
  rw [e81, ean]
  have e157 : mX6_rounds_157 k70 (nI L) (nI (r + bN (exB (fun t => th t && mt t) (2 ^ nb)))) (nI (bN (exB (fun t => th t && mt t) (2 ^ nb)))) FU 0 (setRow W 0 43 (fun t => nI (bN (th t && mt t))) (2 ^ nb)) = k70 (nI (r + bN (exB (fun t => th t && mt t) (2 ^ nb)))) (nI (bN (exB (fun t => th t && mt t) (2 ^ nb)))) (rnW W th mt fl' (2 ^ nb)) := by
    refine loopE (fun n (s : Int32 × AW) => mX6_rounds_157 k70 (nI L) (nI (r + bN (exB (fun t => th t && mt t) (2 ^ nb)))) (nI (bN (exB (fun t => th t && mt t) (2 ^ nb)))) n s.1 s.2) (2 ^ nb) (fun k => (nI k, setRow (setRow W 0 43 (fun t => nI (bN (th t && mt t))) (2 ^ nb)) 0 42 fl' k)) _ ?_ ?_ FU 0 (Nat.zero_le _) (FU_gt (by omega))
    · intro n t ht
      have hT := (h.r42 (f := fun t => nI (bN (th t && mt t))) (show 42 ≤ 43 by decide) (2 ^ nb)).r42 (f := fl') (Nat.le_refl 42) t
      have ev : nI t + 1 = nI (t + 1) := nI_add t 1
      have e43 : (setRow (setRow W 0 43 (fun t => nI (bN (th t && mt t))) (2 ^ nb)) 0 42 fl' t).1 0 43 t = nI (bN (th t && mt t)) := by rw [setRow_row (Or.inr (by decide)), setRow_in _ ht]
      have e42 : (setRow (setRow W 0 43 (fun t => nI (bN (th t && mt t))) (2 ^ nb)) 0 42 fl' t).1 0 42 t = fl t := by rw [setRow_out t (Nat.le_refl t), setRow_row (Or.inr (by decide)), hF t ht]
      have e195 : ∀ (s0 : Int32), s0 = fl' t → mX6_rounds_195 k70 (mX6_rounds_157 k70 (nI L) (nI (r + bN (exB (fun t => th t && mt t) (2 ^ nb)))) (nI (bN (exB (fun t => th t && mt t) (2 ^ nb)))) n) (nI L) (nI (r + bN (exB (fun t => th t && mt t) (2 ^ nb)))) (nI (bN (exB (fun t => th t && mt t) (2 ^ nb)))) (nI t) s0 (nI t) (setRow (setRow W 0 43 (fun t => nI (bN (th t && mt t))) (2 ^ nb)) 0 42 fl' t) = mX6_rounds_157 k70 (nI L) (nI (r + bN (exB (fun t => th t && mt t) (2 ^ nb)))) (nI (bN (exB (fun t => th t && mt t) (2 ^ nb)))) n (nI (t + 1)) (setRow (setRow W 0 43 (fun t => nI (bN (th t && mt t))) (2 ^ nb)) 0 42 fl' (t + 1)) := fun s0 hs0 => by
        unfold mX6_rounds_195
        rw [hs0, wr_in (show t < 1024 by omega) (by decide), nm_mk, ev]
        rfl
      dsimp only
      rw [mX6_rounds_157, hT.1, sh_nb hnb, if_neg (nI_ge ht (by omega)), rd_in (show t < 1024 by omega) (by decide), e43]
      cases q : (th t && mt t)
      · rw [if_pos (show nI (bN false) = 0 from rfl), rd_in (show t < 1024 by omega) (by decide), e42]
        refine e195 _ ?_
        rw [efl, if_neg (fun z => by rw [z.1, z.2] at q; cases q)]
      · have hany : exB (fun t => th t && mt t) (2 ^ nb) = true := exB_iff.mpr ⟨t, ht, q⟩
        rw [if_neg (show ¬ (nI (bN true) = 0) by decide)]
        refine e195 _ ?_
        rw [Bool.and_eq_true] at q
        rw [efl, if_pos q, hany]
        rfl
    · intro n
      have hT := (h.r42 (f := fun t => nI (bN (th t && mt t))) (show 42 ≤ 43 by decide) (2 ^ nb)).r42 (f := fl') (Nat.le_refl 42) (2 ^ nb)
      dsimp only
      rw [mX6_rounds_157, hT.1, sh_nb hnb, if_pos (nI_le (Nat.le_refl _) (by omega))]
      rfl
  unfold mX6_rounds_152
  cases q : exB (fun t => th t && mt t) (2 ^ nb)
  · rw [q] at e157
    rw [if_pos (show nI (bN false) = 0 from rfl), nm_mk, show nI r + 0 = nI (r + bN false) from nI_add r 0]
    exact e157
  · rw [q] at e157
    rw [if_neg (show ¬ (nI (bN true) = 0) by decide), nm_mk, show nI r + 1 = nI (r + bN true) from nI_add r 1]
    exact e157
theorem rnW_K {w0 : AW} {th mt : Nat → Bool} {fl' : Nat → Int32} {Z : Nat} (h : KM w0 W) : KM w0 (rnW W th mt fl' Z) := setRow_K (setRow_K h (by decide) Z) (by decide) Z
theorem rnW_T {T : Nat} {th mt : Nat → Bool} {fl' : Nat → Int32} {Z : Nat} (h : TYM W nb mu my inn hd T) : TYM (rnW W th mt fl' Z) nb mu my inn hd T := (h.r42 (by decide) Z).r42 (by decide) Z
theorem M_r70 {w0 : AW} {fit : Nat → Bool} {rho : Nat} (hnb : nb ≤ 10) (hmu : mu < 2 ^ 10) (hmy : my < 2 ^ 10) (hL : L < 8) (hrho : rho ≤ 2 ^ nb) (hend : anyN fit (mfM L mu my inn (2 ^ nb)) (2 ^ nb) rho = false) (hgo : ∀ s, s < rho → anyN fit (mfM L mu my inn (2 ^ nb)) (2 ^ nb) s = true) : ∀ (e r n : Nat) (W : AW), rho = r + e → e + 1 < n → KM w0 W → TYM W nb mu my inn hd (2 ^ nb) → (∀ u, u < 2 ^ nb → W.1 0 42 u = flV fit (mfM L mu my inn (2 ^ nb)) r u) →
    ∃ W2, mX6_rounds_70 (nI L) n (nI r) 1 W = some (nI rho, W2) ∧ KM w0 W2 ∧ TYM W2 nb mu my inn hd (2 ^ nb) ∧ (∀ u, u < 2 ^ nb → W2.1 0 42 u = flV fit (mfM L mu my inn (2 ^ nb)) rho u) := by
  have hpw := pow_nb hnb
  intro e
  induction e with
  | zero =>
    intro r n W he hn hK hT hF
    obtain ⟨n, rfl⟩ : ∃ q, n = q + 2 := ⟨n - 2, by omega⟩
    have e2 : r = rho := by omega
    subst e2
    have er := M_round hT hnb hmu hmy hL (fit := fit) (r := r) (by omega) hF (k70 := mX6_rounds_70 (nI L) (n + 1))
    refine ⟨rnW W (thN fit (mfM L mu my inn (2 ^ nb)) r) (mfM L mu my inn (2 ^ nb) (thN fit (mfM L mu my inn (2 ^ nb)) r)) (flV fit (mfM L mu my inn (2 ^ nb)) (r + 1)) (2 ^ nb), ?_, rnW_K hK, rnW_T hT, fun u hu => ?_⟩
    · rw [mX6_rounds_70, if_neg (show ¬ ((1 : Int32) = 0) by decide), er, hend, mX6_rounds_70, if_pos (show nI (bN false) = 0 from rfl)]
      rfl
    · show (setRow _ 0 42 _ (2 ^ nb)).1 0 42 u = _
      rw [setRow_in _ hu]
      show (if thN fit (mfM L mu my inn (2 ^ nb)) r u = true ∧ mfM L mu my inn (2 ^ nb) (thN fit (mfM L mu my inn (2 ^ nb)) r) u = true then nI (r + 1) else flV fit (mfM L mu my inn (2 ^ nb)) r u) = _
      refine if_neg (fun z => ?_)
      have : anyN fit (mfM L mu my inn (2 ^ nb)) (2 ^ nb) r = true := exB_iff.mpr ⟨u, hu, by rw [z.1, z.2]; rfl⟩
      rw [hend] at this
      cases this
  | succ e ih =>
    intro r n W he hn hK hT hF
    obtain ⟨n, rfl⟩ : ∃ q, n = q + 1 := ⟨n - 1, by omega⟩
    have er := M_round hT hnb hmu hmy hL (fit := fit) (r := r) (by omega) hF (k70 := mX6_rounds_70 (nI L) n)
    rw [hgo r (by omega)] at er
    obtain ⟨W2, f1, f2⟩ := ih (r + 1) n (rnW W (thN fit (mfM L mu my inn (2 ^ nb)) r) (mfM L mu my inn (2 ^ nb) (thN fit (mfM L mu my inn (2 ^ nb)) r)) (flV fit (mfM L mu my inn (2 ^ nb)) (r + 1)) (2 ^ nb)) (by omega) (by omega) (rnW_K hK) (rnW_T hT) (fun u hu => setRow_in _ hu)
    refine ⟨W2, ?_, f2⟩
    rw [mX6_rounds_70, if_neg (show ¬ ((1 : Int32) = 0) by decide), er]
    exact f1
theorem M_rounds (h : TYM W nb mu my inn hd (2 ^ nb)) (hnb : nb ≤ 10) (hmu : mu < 2 ^ 10) (hmy : my < 2 ^ 10) (hL : L < 8) {rho : Nat} (hrho : rho ≤ 2 ^ nb) (hend : anyN (fitM L mu my inn) (mfM L mu my inn (2 ^ nb)) (2 ^ nb) rho = false) (hgo : ∀ s, s < rho → anyN (fitM L mu my inn) (mfM L mu my inn (2 ^ nb)) (2 ^ nb) s = true) :
    ∃ W2, mX6_rounds (nI L) W = some (nI rho, W2) ∧ KM W W2 ∧ TYM W2 nb mu my inn hd (2 ^ nb) ∧ (∀ u, u < 2 ^ nb → W2.1 0 42 u = flV (fitM L mu my inn) (mfM L mu my inn (2 ^ nb)) rho u) := by
  have hpw := pow_nb hnb
  obtain ⟨W2, f1, f2⟩ := M_r70 (w0 := W) (hd := hd) hnb hmu hmy hL hrho hend hgo rho 0 FU (setRow W 0 42 (flV (fitM L mu my inn) (mfM L mu my inn (2 ^ nb)) 0) (2 ^ nb)) (by omega) (FU_gt (by omega)) (setRow_K (KM.rf W) (by decide) _) (h.r42 (by decide) _) (fun u hu => setRow_in _ hu)
  refine ⟨W2, ?_, f2⟩
  rw [M_self hL, M_fit23 h hnb hmu hmy hL (mfM L mu my inn (2 ^ nb))]
  exact f1
/-- whether it holds at all that stay -/
def lawM (th hd : Nat → Bool) (Z : Nat) : Bool := allT (fun t => !th t || hd t) Z
theorem nbN_and (a b : Bool) : nI (bN a) &&& nI (bN b) = nI (bN (a && b)) := by cases a <;> cases b <;> decide
theorem M_isLaw (h35 : W.1 0 0 35 = nI nb) (hnb : nb ≤ 10) (h41 : ∀ t, t < 2 ^ nb → W.1 0 41 t = nI (bN (hd t))) {th : Nat → Bool} (hth : ∀ u, u < 2 ^ nb → decide (W.1 0 42 u = -9) = th u) : mX6_isLaw W = some (nI (bN (lawM th hd (2 ^ nb))), W) := by
  have hpw := pow_nb hnb
  unfold mX6_isLaw lawM
  refine loopE (fun n (s : Int32 × Int32) => mX6_isLaw_4 n s.1 s.2 W) (2 ^ nb) (fun k => (nI (bN (allT (fun t => !th t || hd t) k)), nI k)) _ ?_ ?_ FU 0 (Nat.zero_le _) (FU_gt (by omega))
  · intro n t ht
    have ev : nI t + 1 = nI (t + 1) := nI_add t 1
    have eis : mX6_isThere (nI t) W = some (nI (bN (th t)), W) := by rw [M_isThere (show t < 1024 by omega) rfl, hth t ht]
    have e37 : ∀ x : Bool, x = (!th t || hd t) → mX6_isLaw_37 (mX6_isLaw_4 n) (nI t) (nI (bN x)) (nI (bN (allT (fun t => !th t || hd t) t))) W = mX6_isLaw_4 n (nI (bN (allT (fun t => !th t || hd t) (t + 1)))) (nI (t + 1)) W := fun x hx => by
      unfold mX6_isLaw_37
      rw [nm_mk, nm_mk, nbN_and, ev, hx]
      rfl
    dsimp only
    rw [mX6_isLaw_4, h35, sh_nb hnb, if_neg (nI_ge ht (by omega)), eis, cl_mk]
    unfold mX6_isLaw_32
    cases q : th t
    · rw [if_pos (show nI (bN false) = 0 from rfl)]
      exact e37 true (by rw [q]; rfl)
    · rw [if_neg (show ¬ (nI (bN true) = 0) by decide), rd_in (show t < 1024 by omega) (by decide), h41 t ht]
      cases q2 : hd t
      · rw [if_pos (show nI (bN false) = 0 from rfl)]
        exact e37 false (by rw [q, q2]; rfl)
      · rw [if_neg (show ¬ (nI (bN true) = 0) by decide)]
        exact e37 true (by rw [q, q2]; rfl)
  · intro n
    dsimp only
    rw [mX6_isLaw_4, h35, sh_nb hnb, if_pos (nI_le (Nat.le_refl _) (by omega)), zr_B]
end RM
end
