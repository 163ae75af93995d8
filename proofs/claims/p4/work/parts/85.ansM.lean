/-! the model's answers about types -/
/-- the least type there at which it holds -/
def PWv (th hd : Nat → Bool) (Z : Nat) (x : Int32) : Prop := (x = -9 ∧ ∀ t, t < Z → th t = true → hd t = false) ∨ ∃ t, t < Z ∧ th t = true ∧ hd t = true ∧ (∀ u, u < t → th u = true → hd u = false) ∧ x = nI t
def AnsOK (what : Nat) (th : Nat → Bool) (see : Nat → Nat → Bool) (fit hd : Nat → Bool) (Z rho : Nat) (a : Int32) : Prop :=
  (what = 0 → a = nI (bN (exB (fun t => th t && hd t) Z))) ∧ (what = 1 → a = nI (bN (lawM th hd Z))) ∧ (what = 2 → PWv th hd Z a) ∧
  (what = 3 → (a = 0 ∧ ∀ t, t < Z → th t = true → hd t = false) ∨ ∃ w v, w < Z ∧ PWv th hd Z (nI w) ∧ ReN th see Z w v ∧ a = nI v) ∧
  (what = 4 → a = nI (cntF fit Z)) ∧ (what = 5 → a = nI (cntF th Z)) ∧ (what = 6 → a = nI rho)
theorem PWv.uniq {th hd : Nat → Bool} {Z : Nat} {x y : Int32} (h : PWv th hd Z x) (h2 : PWv th hd Z y) : x = y := by
  rcases h with ⟨a1, a2⟩ | ⟨t, t1, t2, t3, t4, t5⟩
  · rcases h2 with ⟨b1, b2⟩ | ⟨u, u1, u2, u3, u4, u5⟩
    · rw [a1, b1]
    · have := a2 u u1 u2
      rw [u3] at this; cases this
  · rcases h2 with ⟨b1, b2⟩ | ⟨u, u1, u2, u3, u4, u5⟩
    · have := b2 t t1 t2
      rw [t3] at this; cases this
    · rcases Nat.lt_trichotomy t u with z | z | z
      · have := u4 t z t2
        rw [t3] at this; cases this
      · rw [t5, u5, z]
      · have := t4 u z u2
        rw [u3] at this; cases this
theorem AnsOK.uniq {what : Nat} {th : Nat → Bool} {see : Nat → Nat → Bool} {fit hd : Nat → Bool} {Z rho : Nat} {a b : Int32} (hZ : Z ≤ 1024) (hw : what ≤ 6) (h : AnsOK what th see fit hd Z rho a) (h2 : AnsOK what th see fit hd Z rho b) : a = b := by
  obtain ⟨a0, a1, a2, a3, a4, a5, a6⟩ := h
  obtain ⟨b0, b1, b2, b3, b4, b5, b6⟩ := h2
  rcases (show what = 0 ∨ what = 1 ∨ what = 2 ∨ what = 3 ∨ what = 4 ∨ what = 5 ∨ what = 6 by omega) with e | e | e | e | e | e | e
  · rw [a0 e, b0 e]
  · rw [a1 e, b1 e]
  · exact (a2 e).uniq (b2 e)
  · have n9 : ∀ w, w < Z → PWv th hd Z (nI w) → ∃ t, t < Z ∧ th t = true ∧ hd t = true := fun w hw h => by
      rcases h with ⟨z, -⟩ | ⟨t, t1, t2, t3, -⟩
      · exact absurd z (nI_n9 (by omega))
      · exact ⟨t, t1, t2, t3⟩
    rcases a3 e with ⟨c1, c2⟩ | ⟨w, v, c0, c1, c2, c3⟩
    · rcases b3 e with ⟨d1, d2⟩ | ⟨w', v', d0, d1, d2, d3⟩
      · rw [c1, d1]
      · obtain ⟨t, t1, t2, t3⟩ := n9 w' d0 d1
        have := c2 t t1 t2
        rw [t3] at this; cases this
    · rcases b3 e with ⟨d1, d2⟩ | ⟨w', v', d0, d1, d2, d3⟩
      · obtain ⟨t, t1, t2, t3⟩ := n9 w c0 c1
        have := d2 t t1 t2
        rw [t3] at this; cases this
      · have ew : w = w' := (nI_eq (by omega) (by omega)).mp (c1.uniq d1)
        subst ew
        rw [c3, d3, c2.uniq d2]
  · rw [a4 e, b4 e]
  · rw [a5 e, b5 e]
  · rw [a6 e, b6 e]
theorem allT_cg {q q2 : Nat → Bool} {n : Nat} (h : ∀ j, j < n → q j = q2 j) : allT q n = allT q2 n := by
  cases e : allT q2 n
  · cases e2 : allT q n
    · rfl
    · have := allT_iff.mp e2
      rw [allT_iff.mpr (fun k hk => by rw [← h k hk]; exact this k hk)] at e
      cases e
  · exact allT_iff.mpr (fun k hk => by rw [h k hk]; exact allT_iff.mp e k hk)
theorem PWv.cg {th th2 hd hd2 : Nat → Bool} {Z : Nat} {x : Int32} (h : PWv th hd Z x) (e1 : ∀ t, t < Z → th2 t = th t) (e2 : ∀ t, t < Z → hd2 t = hd t) : PWv th2 hd2 Z x := by
  rcases h with ⟨a1, a2⟩ | ⟨t, t1, t2, t3, t4, t5⟩
  · exact Or.inl ⟨a1, fun t ht z => by rw [e2 t ht]; exact a2 t ht (by rw [← e1 t ht]; exact z)⟩
  · exact Or.inr ⟨t, t1, by rw [e1 t t1]; exact t2, by rw [e2 t t1]; exact t3, fun u hu z => by rw [e2 u (by omega)]; exact t4 u hu (by rw [← e1 u (by omega)]; exact z), t5⟩
theorem AnsOK.cg {what : Nat} {th th2 : Nat → Bool} {see see2 : Nat → Nat → Bool} {fit fit2 hd hd2 : Nat → Bool} {Z rho : Nat} {a : Int32} (h : AnsOK what th see fit hd Z rho a) (e1 : ∀ t, t < Z → th2 t = th t) (e2 : ∀ t, t < Z → hd2 t = hd t) (e3 : ∀ t, t < Z → fit2 t = fit t) (e4 : ∀ a b, a < Z → b < Z → see2 a b = see a b) : AnsOK what th2 see2 fit2 hd2 Z rho a := by
  obtain ⟨a0, a1, a2, a3, a4, a5, a6⟩ := h
  refine ⟨fun e => ?_, fun e => ?_, fun e => (a2 e).cg e1 e2, fun e => ?_, fun e => ?_, fun e => ?_, a6⟩
  · rw [a0 e, exB_cg (q := fun t => th2 t && hd2 t) (q2 := fun t => th t && hd t) (fun j hj => by rw [e1 j hj, e2 j hj])]
  · rw [a1 e]
    unfold lawM
    rw [allT_cg (q := fun t => !th2 t || hd2 t) (q2 := fun t => !th t || hd t) (fun j hj => by rw [e1 j hj, e2 j hj])]
  · rcases a3 e with ⟨c1, c2⟩ | ⟨w, v, c0, c1, c2, c3⟩
    · exact Or.inl ⟨c1, fun t ht z => by rw [e2 t ht]; exact c2 t ht (by rw [← e1 t ht]; exact z)⟩
    · exact Or.inr ⟨w, v, c0, c1.cg e1 e2, c2.cg c0 e1 e4, c3⟩
  · rw [a4 e, cntF_cg e3]
  · rw [a5 e, cntF_cg e1]
theorem flV_fit {fit : Nat → Bool} {mf : (Nat → Bool) → Nat → Bool} {t : Nat} : ∀ r, r < 2 ^ 20 → (flV fit mf r t = 0 ↔ fit t = false) := by
  have n0 : (-9 : Int32) ≠ 0 := by decide
  have th_fit : ∀ r, thN fit mf r t = true → fit t = true := fun r => by
    induction r with
    | zero => exact fun h => h
    | succ r ih =>
      intro h
      have : (thN fit mf r t && !mf (thN fit mf r) t) = true := h
      rw [Bool.and_eq_true] at this
      exact ih this.1
  intro r
  induction r with
  | zero =>
    intro _
    show ((if fit t = true then (-9 : Int32) else nI 0) = 0) ↔ _
    cases e : fit t
    · rw [if_neg (by decide)]
      exact ⟨fun _ => rfl, fun _ => rfl⟩
    · rw [if_pos rfl]
      exact ⟨fun z => absurd z n0, fun z => by cases z⟩
  | succ r ih =>
    intro hr
    show ((if thN fit mf r t = true ∧ mf (thN fit mf r) t = true then nI (r + 1) else flV fit mf r t) = 0) ↔ _
    by_cases h : thN fit mf r t = true ∧ mf (thN fit mf r) t = true
    · rw [if_pos h, th_fit r h.1]
      exact ⟨fun z => absurd ((nI_eq (b := 0) (by omega) (by decide)).mp z) (by omega), fun z => by cases z⟩
    · rw [if_neg h]
      exact ih (by omega)
/-- counted, and sought, from above -/
def cntD (p : Nat → Bool) (Z : Nat) : Nat → Nat
  | 0 => 0
  | k + 1 => cntD p Z k + bN (p (Z - 1 - k))
def witD (p : Nat → Bool) (Z : Nat) : Nat → Int32
  | 0 => -9
  | k + 1 => if p (Z - 1 - k) = true then nI (Z - 1 - k) else witD p Z k
theorem cntD_F {p : Nat → Bool} {Z : Nat} : ∀ k, k ≤ Z → cntD p Z k + cntF p (Z - k) = cntF p Z
  | 0, _ => by show 0 + _ = _; rw [Nat.zero_add]; rfl
  | k + 1, h => by
    have ih := cntD_F (p := p) (Z := Z) k (by omega)
    obtain ⟨j, hj⟩ : ∃ j, Z - k = j + 1 := ⟨Z - k - 1, by omega⟩
    have e1 : Z - (k + 1) = j := by omega
    have e2 : Z - 1 - k = j := by omega
    have e3 : cntF p (j + 1) = cntF p j + bN (p j) := rfl
    show cntD p Z k + bN (p (Z - 1 - k)) + cntF p (Z - (k + 1)) = _
    rw [e1, e2]
    rw [hj, e3] at ih
    omega
theorem witD_ok {th hd : Nat → Bool} {Z : Nat} : ∀ k, k ≤ Z → (witD (fun t => th t && hd t) Z k = -9 ∧ ∀ t, Z - k ≤ t → t < Z → th t = true → hd t = false) ∨ ∃ t, Z - k ≤ t ∧ t < Z ∧ th t = true ∧ hd t = true ∧ (∀ u, Z - k ≤ u → u < t → th u = true → hd u = false) ∧ witD (fun t => th t && hd t) Z k = nI t
  | 0, _ => Or.inl ⟨rfl, fun t h1 h2 => by omega⟩
  | k + 1, h => by
    have e : witD (fun t => th t && hd t) Z (k + 1) = if (th (Z - 1 - k) && hd (Z - 1 - k)) = true then nI (Z - 1 - k) else witD (fun t => th t && hd t) Z k := rfl
    rw [e]
    by_cases q : (th (Z - 1 - k) && hd (Z - 1 - k)) = true
    · rw [if_pos q]
      rw [Bool.and_eq_true] at q
      exact Or.inr ⟨Z - 1 - k, by omega, by omega, q.1, q.2, fun u h1 h2 => by omega, rfl⟩
    · rw [if_neg q]
      have q2 : th (Z - 1 - k) = true → hd (Z - 1 - k) = false := fun y => by
        rw [y, Bool.true_and] at q
        cases x : hd (Z - 1 - k)
        · rfl
        · exact absurd x q
      rcases witD_ok (th := th) (hd := hd) (Z := Z) k (by omega) with ⟨a1, a2⟩ | ⟨t, t1, t2, t3, t4, t5, t6⟩
      · refine Or.inl ⟨a1, fun t h1 h2 h3 => ?_⟩
        by_cases y : t = Z - 1 - k
        · rw [y] at h3 ⊢; exact q2 h3
        · exact a2 t (by omega) h2 h3
      · refine Or.inr ⟨t, by omega, t2, t3, t4, fun u h1 h2 h3 => ?_, t6⟩
        by_cases y : u = Z - 1 - k
        · rw [y] at h3 ⊢; exact q2 h3
        · exact t5 u (by omega) h2 h3
theorem witD_PW {th hd : Nat → Bool} {Z : Nat} : PWv th hd Z (witD (fun t => th t && hd t) Z Z) := by
  rcases witD_ok (th := th) (hd := hd) Z (Nat.le_refl Z) with ⟨a1, a2⟩ | ⟨t, t1, t2, t3, t4, t5, t6⟩
  · exact Or.inl ⟨a1, fun t h1 h2 => a2 t (by omega) h1 h2⟩
  · exact Or.inr ⟨t, t2, t3, t4, fun u h1 h2 => t5 u (by omega) h1 h2, t6⟩
theorem PWv.n9 {th hd : Nat → Bool} {Z : Nat} {x : Int32} (hZ : Z ≤ 1024) (h : PWv th hd Z x) : (x = -9 ∧ (∀ t, t < Z → th t = true → hd t = false) ∧ exB (fun t => th t && hd t) Z = false) ∨ ∃ t, t < Z ∧ th t = true ∧ x = nI t ∧ x ≠ -9 ∧ exB (fun t => th t && hd t) Z = true := by
  rcases h with ⟨a1, a2⟩ | ⟨t, t1, t2, t3, t4, t5⟩
  · refine Or.inl ⟨a1, a2, ?_⟩
    cases e : exB (fun t => th t && hd t) Z
    · rfl
    · obtain ⟨k, k1, k2⟩ := exB_iff.mp e
      rw [Bool.and_eq_true] at k2
      rw [a2 k k1 k2.1] at k2
      cases k2.2
  · exact Or.inr ⟨t, t1, t2, t5, by rw [t5]; exact nI_n9 (by omega), exB_iff.mpr ⟨t, t1, by rw [t2, t3]; rfl⟩⟩
section AM
variable {W : AW} {nb mu my L rho : Nat} {inn : Nat → Nat} {hd th fit : Nat → Bool}
def posD (Z k : Nat) : Int32 := if k < Z then nI (Z - 1 - k) else -1
theorem M_l78 (hT : TYM W nb mu my inn hd (2 ^ nb)) (hnb : nb ≤ 10) (hth : ∀ u, u < 2 ^ nb → decide (W.1 0 42 u = -9) = th u) (hft : ∀ u, u < 2 ^ nb → (W.1 0 42 u = 0 ↔ fit u = false)) (v2 v3 v4 : Int32) : mX6_logic_78 v2 v3 v4 FU (-9) 0 0 (posD (2 ^ nb) 0) W = mX6_logic_78 v2 v3 v4 (FU - 2 ^ nb) (witD (fun t => th t && hd t) (2 ^ nb) (2 ^ nb)) (nI (cntF fit (2 ^ nb))) (nI (cntF th (2 ^ nb))) (-1) W := by
  have hpw := pow_nb hnb
  have hFU := FU_le
  have step : ∀ n k, k < 2 ^ nb → mX6_logic_78 v2 v3 v4 (n + 1) (witD (fun t => th t && hd t) (2 ^ nb) k) (nI (cntD fit (2 ^ nb) k)) (nI (cntD th (2 ^ nb) k)) (posD (2 ^ nb) k) W = mX6_logic_78 v2 v3 v4 n (witD (fun t => th t && hd t) (2 ^ nb) (k + 1)) (nI (cntD fit (2 ^ nb) (k + 1))) (nI (cntD th (2 ^ nb) (k + 1))) (posD (2 ^ nb) (k + 1)) W := fun n k hk => by
    have ht : 2 ^ nb - 1 - k < 2 ^ nb := by omega
    have ep : posD (2 ^ nb) k = nI (2 ^ nb - 1 - k) := if_pos hk
    have ep2 : nI (2 ^ nb - 1 - k) + (-1) = posD (2 ^ nb) (k + 1) := by
      unfold posD
      by_cases q : k + 1 < 2 ^ nb
      · rw [if_pos q]
        obtain ⟨j, hj⟩ : ∃ j, 2 ^ nb - 1 - k = j + 1 := ⟨2 ^ nb - 1 - k - 1, by omega⟩
        rw [hj, pk_m1 j]
        congr 1
        omega
      · rw [if_neg q, show 2 ^ nb - 1 - k = 0 by omega]
        decide
    have ew : witD (fun t => th t && hd t) (2 ^ nb) (k + 1) = if (th (2 ^ nb - 1 - k) && hd (2 ^ nb - 1 - k)) = true then nI (2 ^ nb - 1 - k) else witD (fun t => th t && hd t) (2 ^ nb) k := rfl
    have ef : cntD fit (2 ^ nb) (k + 1) = cntD fit (2 ^ nb) k + bN (fit (2 ^ nb - 1 - k)) := rfl
    have et : cntD th (2 ^ nb) (k + 1) = cntD th (2 ^ nb) k + bN (th (2 ^ nb - 1 - k)) := rfl
    rw [ep]
    have hht := hth _ ht
    have hhf := hft _ ht
    have h41 := (hT.2.2.2 _ ht).2.2
    generalize hs : 2 ^ nb - 1 - k = t at *
    have ht4 : t < 1024 := by omega
    have eis : mX6_isThere (nI t) W = some (nI (bN (th t)), W) := by rw [M_isThere ht4 rfl, hht]
    have e147 : ∀ (a b : Int32) (x : Bool), x = th t → mX6_logic_147 (mX6_logic_78 v2 v3 v4 n) v2 v3 v4 a b (nI t) (nI (bN x)) (nI (cntD th (2 ^ nb) k)) W = mX6_logic_78 v2 v3 v4 n a b (nI (cntD th (2 ^ nb) (k + 1))) (posD (2 ^ nb) (k + 1)) W := fun a b x hx => by
      unfold mX6_logic_147
      rw [nm_mk, nm_mk, ep2, et, nI_add, hx]
    have e128 : ∀ (a : Int32) (x : Bool), x = fit t → mX6_logic_128 (mX6_logic_78 v2 v3 v4 n) v2 v3 v4 a (nI (cntD th (2 ^ nb) k)) (nI t) (nI (bN x)) (nI (cntD fit (2 ^ nb) k)) W = mX6_logic_78 v2 v3 v4 n a (nI (cntD fit (2 ^ nb) (k + 1))) (nI (cntD th (2 ^ nb) (k + 1))) (posD (2 ^ nb) (k + 1)) W := fun a x hx => by
      unfold mX6_logic_128
      rw [nm_mk, eis, cl_mk, nI_add, hx, ← ef]
      cases q : th t
      · rw [if_pos (show nI (bN false) = 0 from rfl)]
        exact e147 _ _ false q.symm
      · rw [if_neg (show ¬ (nI (bN true) = 0) by decide)]
        exact e147 _ _ true q.symm
    have e109 : ∀ a : Int32, mX6_logic_109 (mX6_logic_78 v2 v3 v4 n) v2 v3 v4 (nI (cntD fit (2 ^ nb) k)) (nI (cntD th (2 ^ nb) k)) (nI t) a W = mX6_logic_78 v2 v3 v4 n a (nI (cntD fit (2 ^ nb) (k + 1))) (nI (cntD th (2 ^ nb) (k + 1))) (posD (2 ^ nb) (k + 1)) W := fun a => by
      unfold mX6_logic_109
      rw [rd_in ht4 (by decide)]
      by_cases q : W.1 0 42 t = 0
      · rw [if_pos q]
        exact e128 a false (hhf.mp q).symm
      · rw [if_neg q]
        refine e128 a true ?_
        cases x : fit t
        · exact absurd (hhf.mpr x) q
        · rfl
    rw [mX6_logic_78, if_neg (nI_pos (by omega)), eis, cl_mk, ew]
    unfold mX6_logic_107
    cases q : th t
    · rw [if_pos (show nI (bN false) = 0 from rfl), Bool.false_and, if_neg (by decide)]
      exact e109 _
    · rw [if_neg (show ¬ (nI (bN true) = 0) by decide), rd_in ht4 (by decide), h41, Bool.true_and]
      cases q2 : hd t
      · rw [if_pos (show nI (bN false) = 0 from rfl), if_neg (by decide)]
        exact e109 _
      · rw [if_neg (show ¬ (nI (bN true) = 0) by decide), if_pos rfl]
        exact e109 _
  have run : ∀ k, k ≤ 2 ^ nb → mX6_logic_78 v2 v3 v4 FU (-9) 0 0 (posD (2 ^ nb) 0) W = mX6_logic_78 v2 v3 v4 (FU - k) (witD (fun t => th t && hd t) (2 ^ nb) k) (nI (cntD fit (2 ^ nb) k)) (nI (cntD th (2 ^ nb) k)) (posD (2 ^ nb) k) W := by
    intro k
    induction k with
    | zero => intro _; rfl
    | succ k ih =>
      intro hk
      have e : FU - k = (FU - (k + 1)) + 1 := by omega
      rw [ih (by omega), e, step _ k (by omega)]
  have h1 := cntD_F (p := fit) (2 ^ nb) (Nat.le_refl _)
  have h2 := cntD_F (p := th) (2 ^ nb) (Nat.le_refl _)
  have z : ∀ p : Nat → Bool, cntF p (2 ^ nb - 2 ^ nb) = 0 := fun p => by rw [Nat.sub_self]; rfl
  rw [z, Nat.add_zero] at h1 h2
  rw [run _ (Nat.le_refl _), h1, h2]
  have : posD (2 ^ nb) (2 ^ nb) = -1 := if_neg (Nat.lt_irrefl _)
  rw [this]
theorem M_ans (hT : TYM W nb mu my inn hd (2 ^ nb)) (hnb : nb ≤ 10) (hmu : mu < 2 ^ 10) (hmy : my < 2 ^ 10) (hL : L < 8) (hth : ∀ u, u < 2 ^ nb → decide (W.1 0 42 u = -9) = th u) (hft : ∀ u, u < 2 ^ nb → (W.1 0 42 u = 0 ↔ fit u = false)) {what : Nat} (hw : what ≤ 6) :
    ∃ W2 a, mX6_logic_78 (nI L) (nI what) (nI rho) FU (-9) 0 0 (nI (2 ^ nb - 1)) W = some (a, W2) ∧ KM W W2 ∧ AnsOK what th (seeM L mu my inn) fit hd (2 ^ nb) rho a := by
  have hpw := pow_nb hnb
  have hFU := FU_le
  have hpos := Nat.two_pow_pos nb
  have e0 : posD (2 ^ nb) 0 = nI (2 ^ nb - 1) := if_pos hpos
  have hrun := M_l78 hT hnb hth hft (nI L) (nI what) (nI rho)
  rw [e0] at hrun
  rw [hrun]
  obtain ⟨n, hn⟩ : ∃ n, FU - 2 ^ nb = n + 1 := ⟨FU - 2 ^ nb - 1, by omega⟩
  have hP := witD_PW (th := th) (hd := hd) (Z := 2 ^ nb)
  have hP9 := hP.n9 hpw
  generalize witD (fun t => th t && hd t) (2 ^ nb) (2 ^ nb) = x at *
  rw [hn, mX6_logic_78, if_pos (show (-1 : Int32) < 0 by decide)]
  rcases (show what = 0 ∨ what = 1 ∨ what = 2 ∨ what = 3 ∨ what = 4 ∨ what = 5 ∨ what = 6 by omega) with e | e | e | e | e | e | e
  · subst e
    rw [if_pos (show nI 0 = 0 from rfl)]
    rcases hP9 with ⟨p1, p2, p3⟩ | ⟨t, t1, t2, t3, t4, t5⟩
    · rw [if_neg (fun z => z p1)]
      exact ⟨W, 0, rfl, KM.rf W, fun _ => by rw [p3]; rfl, fun z => by omega, fun z => by omega, fun z => by omega, fun z => by omega, fun z => by omega, fun z => by omega⟩
    · rw [if_pos t4]
      exact ⟨W, 1, rfl, KM.rf W, fun _ => by rw [t5]; rfl, fun z => by omega, fun z => by omega, fun z => by omega, fun z => by omega, fun z => by omega, fun z => by omega⟩
  · subst e
    rw [if_neg (show ¬ nI 1 = 0 by decide), if_pos (show nI 1 = 1 from rfl), M_isLaw hT.1 hnb (fun t ht => (hT.2.2.2 t ht).2.2) hth, cl_mk]
    refine ⟨W, nI (bN (lawM th hd (2 ^ nb))), ?_, KM.rf W, fun z => by omega, fun _ => rfl, fun z => by omega, fun z => by omega, fun z => by omega, fun z => by omega, fun z => by omega⟩
    cases q : lawM th hd (2 ^ nb)
    · rw [if_pos (show nI (bN false) = 0 from rfl)]; rfl
    · rw [if_neg (show ¬ (nI (bN true) = 0) by decide)]; rfl
  · subst e
    rw [if_neg (show ¬ nI 2 = 0 by decide), if_neg (show ¬ nI 2 = 1 by decide), if_pos (show nI 2 = 2 from rfl)]
    exact ⟨W, x, rfl, KM.rf W, fun z => by omega, fun z => by omega, fun _ => hP, fun z => by omega, fun z => by omega, fun z => by omega, fun z => by omega⟩
  · subst e
    rw [if_neg (show ¬ nI 3 = 0 by decide), if_neg (show ¬ nI 3 = 1 by decide), if_neg (show ¬ nI 3 = 2 by decide), if_pos (show nI 3 = 3 from rfl)]
    rcases hP9 with ⟨p1, p2, p3⟩ | ⟨t, t1, t2, t3, t4, t5⟩
    · rw [if_neg (fun z => z p1)]
      exact ⟨W, 0, rfl, KM.rf W, fun z => by omega, fun z => by omega, fun z => by omega, fun _ => Or.inl ⟨rfl, p2⟩, fun z => by omega, fun z => by omega, fun z => by omega⟩
    · obtain ⟨W2, v, s1, s2, s3⟩ := M_shownFrom (wt := t) (th := th) hT hnb hmu hmy hL hth t1 t2
      rw [if_pos t4, t3, s1, cl_mk]
      exact ⟨W2, nI v, rfl, s2, fun z => by omega, fun z => by omega, fun z => by omega, fun _ => Or.inr ⟨t, v, t1, by rw [← t3]; exact hP, s3, rfl⟩, fun z => by omega, fun z => by omega, fun z => by omega⟩
  · subst e
    rw [if_neg (show ¬ nI 4 = 0 by decide), if_neg (show ¬ nI 4 = 1 by decide), if_neg (show ¬ nI 4 = 2 by decide), if_neg (show ¬ nI 4 = 3 by decide), if_pos (show nI 4 = 4 from rfl)]
    exact ⟨W, nI (cntF fit (2 ^ nb)), rfl, KM.rf W, fun z => by omega, fun z => by omega, fun z => by omega, fun z => by omega, fun _ => rfl, fun z => by omega, fun z => by omega⟩
  · subst e
    rw [if_neg (show ¬ nI 5 = 0 by decide), if_neg (show ¬ nI 5 = 1 by decide), if_neg (show ¬ nI 5 = 2 by decide), if_neg (show ¬ nI 5 = 3 by decide), if_neg (show ¬ nI 5 = 4 by decide), if_pos (show nI 5 = 5 from rfl)]
    exact ⟨W, nI (cntF th (2 ^ nb)), rfl, KM.rf W, fun z => by omega, fun z => by omega, fun z => by omega, fun z => by omega, fun z => by omega, fun _ => rfl, fun z => by omega⟩
  · subst e
    rw [if_neg (show ¬ nI 6 = 0 by decide), if_neg (show ¬ nI 6 = 1 by decide), if_neg (show ¬ nI 6 = 2 by decide), if_neg (show ¬ nI 6 = 3 by decide), if_neg (show ¬ nI 6 = 4 by decide), if_neg (show ¬ nI 6 = 5 by decide)]
    exact ⟨W, nI rho, rfl, KM.rf W, fun z => by omega, fun z => by omega, fun z => by omega, fun z => by omega, fun z => by omega, fun z => by omega, fun _ => rfl⟩
end AM
