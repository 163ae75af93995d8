section
/-! how many are come to: both sides -/
theorem exB_cg {q q2 : Nat → Bool} {n : Nat} (h : ∀ j, j < n → q j = q2 j) : exB q n = exB q2 n := by
  induction n with
  | zero => rfl
  | succ n ih =>
    show (exB q n || q n) = (exB q2 n || q2 n)
    rw [ih (fun j hj => h j (by omega)), h n (by omega)]
/-- closed under seeing those there -/
def ClR (th : Nat → Bool) (see : Nat → Nat → Bool) (Z w : Nat) (S : Nat → Bool) : Prop := S w = true ∧ ∀ a b, a < Z → b < Z → S a = true → th b = true → see a b = true → S b = true
/-- n types are come to from w -/
def ReN (th : Nat → Bool) (see : Nat → Nat → Bool) (Z w n : Nat) : Prop := ∃ R : Nat → Bool, (∀ t, R t = true → t < Z ∧ th t = true) ∧ ClR th see Z w R ∧ (∀ S, ClR th see Z w S → ∀ t, R t = true → S t = true) ∧ n = cntF R Z
theorem cntF_cg {h g : Nat → Bool} {n : Nat} (e : ∀ q, q < n → h q = g q) : cntF h n = cntF g n := Nat.le_antisymm (cntF_mono (fun q hq z => by rw [← e q hq]; exact z)) (cntF_mono (fun q hq z => by rw [e q hq]; exact z))
theorem ReN.uniq {th : Nat → Bool} {see : Nat → Nat → Bool} {Z w n n2 : Nat} (h : ReN th see Z w n) (h2 : ReN th see Z w n2) : n = n2 := by
  obtain ⟨R, a1, a2, a3, a4⟩ := h
  obtain ⟨S, b1, b2, b3, b4⟩ := h2
  rw [a4, b4]
  refine cntF_cg (fun q _ => ?_)
  cases e : R q
  · cases e2 : S q
    · rfl
    · rw [b3 R a2 q e2] at e; cases e
  · rw [a3 S b2 q e]
theorem ReN.cg {th th2 : Nat → Bool} {see see2 : Nat → Nat → Bool} {Z w n : Nat} (h : ReN th see Z w n) (hw : w < Z) (e1 : ∀ t, t < Z → th2 t = th t) (e2 : ∀ a b, a < Z → b < Z → see2 a b = see a b) : ReN th2 see2 Z w n := by
  obtain ⟨R, a1, a2, a3, a4⟩ := h
  refine ⟨R, fun t ht => ?_, ⟨a2.1, fun a b ha hb q1 q2 q3 => a2.2 a b ha hb q1 (by rw [← e1 b hb]; exact q2) (by rw [← e2 a b ha hb]; exact q3)⟩, fun S hS => a3 S ⟨hS.1, fun a b ha hb q1 q2 q3 => hS.2 a b ha hb q1 (by rw [e1 b hb]; exact q2) (by rw [e2 a b ha hb]; exact q3)⟩, a4⟩
  obtain ⟨z1, z2⟩ := a1 t ht
  exact ⟨z1, by rw [e1 t z1]; exact z2⟩
/-- a list of those come to so far, the first p of which have been asked -/
def ReL (th : Nat → Bool) (see : Nat → Nat → Bool) (Z w : Nat) (q : Nat → Nat) (v : Nat) : Prop := 1 ≤ v ∧ q 0 = w ∧ (∀ i, i < v → q i < Z ∧ th (q i) = true) ∧ (∀ i j, i < v → j < v → q i = q j → i = j) ∧ (∀ S, ClR th see Z w S → ∀ i, i < v → S (q i) = true)
theorem ReL.le {th : Nat → Bool} {see : Nat → Nat → Bool} {Z w : Nat} {q : Nat → Nat} {v : Nat} (h : ReL th see Z w q v) : v ≤ Z := by
  have := cnt_inj (h := fun _ => true) (P := Z) (n := v) (q := q) (fun j hj => ⟨(h.2.2.1 j hj).1, rfl⟩) h.2.2.2.1
  exact Nat.le_trans this (cntF_le _ Z)
theorem ReL.done {th : Nat → Bool} {see : Nat → Nat → Bool} {Z w : Nat} {q : Nat → Nat} {v : Nat} (h : ReL th see Z w q v) (hcl : ∀ i, i < v → ∀ b, b < Z → th b = true → see (q i) b = true → ∃ j, j < v ∧ q j = b) : ReN th see Z w v := by
  obtain ⟨h1, h2, h3, h4, h5⟩ := h
  refine ⟨memB q v, fun t ht => ?_, ⟨memB_iff.mpr ⟨0, h1, h2⟩, fun a b _ hb q1 q2 q3 => ?_⟩, fun S hS t ht => ?_, ((memB_cnt (q := q) (P := Z) v).2 (fun j hj => (h3 j hj).1) h4).symm⟩
  · obtain ⟨j, j1, j2⟩ := memB_iff.mp ht
    rw [← j2]
    exact h3 j j1
  · obtain ⟨j, j1, j2⟩ := memB_iff.mp q1
    exact memB_iff.mpr (hcl j j1 b hb q2 (by rw [j2]; exact q3))
  · obtain ⟨j, j1, j2⟩ := memB_iff.mp ht
    rw [← j2]
    exact h5 S hS j j1
theorem ReL.cgq {th : Nat → Bool} {see : Nat → Nat → Bool} {Z w : Nat} {q q2 : Nat → Nat} {v : Nat} (h : ReL th see Z w q v) (e : ∀ i, i < v → q2 i = q i) : ReL th see Z w q2 v := by
  obtain ⟨h1, h2, h3, h4, h5⟩ := h
  exact ⟨h1, by rw [e 0 h1]; exact h2, fun i hi => by rw [e i hi]; exact h3 i hi, fun i j hi hj z => h4 i j hi hj (by rw [← e i hi, ← e j hj]; exact z), fun S hS i hi => by rw [e i hi]; exact h5 S hS i hi⟩
theorem ReL.add {th : Nat → Bool} {see : Nat → Nat → Bool} {Z w : Nat} {q : Nat → Nat} {v a b : Nat} (h : ReL th see Z w q v) (ha : a < v) (hb : b < Z) (ht : th b = true) (hs : see (q a) b = true) (hn : ∀ i, i < v → q i ≠ b) (hq : q v = b) : ReL th see Z w q (v + 1) := by
  obtain ⟨h1, h2, h3, h4, h5⟩ := h
  refine ⟨by omega, h2, fun i hi => ?_, fun i j hi hj z => ?_, fun S hS i hi => ?_⟩
  · by_cases e : i = v
    · rw [e, hq]; exact ⟨hb, ht⟩
    · exact h3 i (by omega)
  · by_cases e : i = v
    · by_cases e2 : j = v
      · omega
      · rw [e, hq] at z
        exact absurd z.symm (hn j (by omega))
    · by_cases e2 : j = v
      · rw [e2, hq] at z
        exact absurd z (hn i (by omega))
      · exact h4 i j (by omega) (by omega) z
  · by_cases e : i = v
    · rw [e, hq]
      exact hS.2 (q a) b (h3 a ha).1 hb (h5 S hS a ha) ht hs
    · exact h5 S hS i (by omega)
section MS
variable {W0 : AW} {nb mu my L wt : Nat} {inn : Nat → Nat} {hd th : Nat → Bool}
/-- the model's queue -/
def QM (W0 W : AW) (th : Nat → Bool) (see : Nat → Nat → Bool) (Z w : Nat) (q : Nat → Nat) (v : Nat) : Prop := KM W0 W ∧ (∀ a, a ≠ 43 → a ≠ 44 → W.1 0 a = W0.1 0 a) ∧ ReL th see Z w q v ∧ (∀ i, i < v → W.1 0 44 i = nI (q i)) ∧ (∀ t, t < Z → W.1 0 43 t = nI (bN (memB q v t)))
theorem M_q53 (hT : TYM W0 nb mu my inn hd (2 ^ nb)) (hnb : nb ≤ 10) (hmu : mu < 2 ^ 10) (hmy : my < 2 ^ 10) (hL : L < 8) (hth : ∀ u, u < 2 ^ nb → decide (W0.1 0 42 u = -9) = th u) {k44 : Int32 → Int32 → AW → Option (Int32 × AW)} {p : Nat} : ∀ (e b n : Nat) (W : AW) (q : Nat → Nat) (v : Nat), 2 ^ nb = b + e → e < n → p < v → QM W0 W th (seeM L mu my inn) (2 ^ nb) wt q v → (∀ u, u < b → th u = true → seeM L mu my inn (q p) u = true → ∃ j, j < v ∧ q j = u) → (∀ i, i < p → ∀ u, u < 2 ^ nb → th u = true → seeM L mu my inn (q i) u = true → ∃ j, j < v ∧ q j = u) →
    ∃ W2 q2 v2, mX6_shownFrom_53 k44 (nI L) (nI p) n (nI v) (nI b) W = k44 (nI v2) (nI (p + 1)) W2 ∧ v ≤ v2 ∧ QM W0 W2 th (seeM L mu my inn) (2 ^ nb) wt q2 v2 ∧ (∀ i, i < p + 1 → ∀ u, u < 2 ^ nb → th u = true → seeM L mu my inn (q2 i) u = true → ∃ j, j < v2 ∧ q2 j = u) := by
  have hpw := pow_nb hnb
  intro e
  induction e with
  | zero =>
    intro b n W q v he hn hp hQ h1 h2
    obtain ⟨n, rfl⟩ : ∃ k, n = k + 1 := ⟨n - 1, by omega⟩
    have e2 : b = 2 ^ nb := by omega
    subst e2
    have hT' : TYM W nb mu my inn hd (2 ^ nb) := hT.row (by rw [hQ.2.1 0 (by decide) (by decide)]) (by rw [hQ.2.1 0 (by decide) (by decide)]) (by rw [hQ.2.1 0 (by decide) (by decide)]) (hQ.2.1 39 (by decide) (by decide)) (hQ.2.1 40 (by decide) (by decide)) (hQ.2.1 41 (by decide) (by decide))
    refine ⟨W, q, v, ?_, Nat.le_refl v, hQ, fun i hi => ?_⟩
    · rw [mX6_shownFrom_53, hT'.1, sh_nb hnb, if_pos (nI_le (Nat.le_refl _) (by omega)), nm_mk, show nI p + 1 = nI (p + 1) from nI_add p 1]
    · by_cases z : i = p
      · rw [z]; exact h1
      · exact h2 i (by omega)
  | succ e ih =>
    intro b n W q v he hn hp hQ h1 h2
    obtain ⟨n, rfl⟩ : ∃ k, n = k + 1 := ⟨n - 1, by omega⟩
    have hb : b < 2 ^ nb := by omega
    obtain ⟨q1, q2, q3, q4, q5⟩ := hQ
    have hvZ := q3.le
    have hT' : TYM W nb mu my inn hd (2 ^ nb) := hT.row (by rw [q2 0 (by decide) (by decide)]) (by rw [q2 0 (by decide) (by decide)]) (by rw [q2 0 (by decide) (by decide)]) (q2 39 (by decide) (by decide)) (q2 40 (by decide) (by decide)) (q2 41 (by decide) (by decide))
    have e119 : ∀ (x : Int32) (V : AW), mX6_shownFrom_119 k44 (mX6_shownFrom_53 k44 (nI L) (nI p) n) (nI L) x (nI p) (nI b) V = mX6_shownFrom_53 k44 (nI L) (nI p) n x (nI (b + 1)) V := fun x V => by
      unfold mX6_shownFrom_119
      rw [nm_mk, show nI b + 1 = nI (b + 1) from nI_add b 1]
    have hd0 : mX6_shownFrom_53 k44 (nI L) (nI p) (n + 1) (nI v) (nI b) W = (if nI (bN (memB q v b)) ≠ 0 then mX6_shownFrom_53 k44 (nI L) (nI p) n (nI v) (nI (b + 1)) W else if nI (bN (th b)) = 0 then mX6_shownFrom_53 k44 (nI L) (nI p) n (nI v) (nI (b + 1)) W else if nI (bN (seeM L mu my inn (q p) b)) = 0 then mX6_shownFrom_53 k44 (nI L) (nI p) n (nI v) (nI (b + 1)) W else mX6_shownFrom_53 k44 (nI L) (nI p) n (nI (v + 1)) (nI (b + 1)) (am_set (am_set W 0 43 b 1) 0 44 v (nI b))) := by
      have eis : mX6_isThere (nI b) W = some (nI (bN (th b)), W) := by
        rw [M_isThere (show b < 1024 by omega) rfl, q2 42 (by decide) (by decide), hth b hb]
      have ems := M_maySee hT' hpw hmu hmy hL (q3.2.2.1 p hp).1 hb
      rw [mX6_shownFrom_53, hT'.1, sh_nb hnb, if_neg (nI_ge hb (by omega)), rd_in (show b < 1024 by omega) (by decide), q5 b hb]
      by_cases z1 : nI (bN (memB q v b)) ≠ 0
      · rw [if_pos z1, if_pos z1, e119]
      · rw [if_neg z1, if_neg z1, eis, cl_mk]
        by_cases z2 : nI (bN (th b)) = 0
        · rw [if_pos z2, if_pos z2, e119]
        · have hvlt : v < 1024 := by
            rcases Nat.lt_or_ge v (2 ^ nb) with y | y
            · omega
            · exfalso
              have ev : v = 2 ^ nb := by omega
              have hc := (memB_cnt (q := q) (P := 2 ^ nb) v).2 (fun j hj => (q3.2.2.1 j hj).1) q3.2.2.2.1
              have hm : memB q v b = false := by
                cases x : memB q v b
                · rfl
                · exact absurd (show nI (bN (memB q v b)) ≠ 0 by rw [x]; decide) z1
              have := cntF_strict (h := memB q v) (g := fun _ => true) hb (fun _ _ _ => rfl) hm rfl
              have := cntF_le (fun _ => true) (2 ^ nb)
              omega
          rw [if_neg z2, if_neg z2, rd_in (show p < 1024 by omega) (by decide), q4 p hp, ems, cl_mk]
          by_cases z3 : nI (bN (seeM L mu my inn (q p) b)) = 0
          · rw [if_pos z3, if_pos z3, e119]
          · rw [if_neg z3, if_neg z3, wr_in (show b < 1024 by omega) (by decide), wr_in hvlt (by decide), nm_mk, show nI v + 1 = nI (v + 1) from nI_add v 1, e119, nar_1]
    rw [hd0]
    have pass : (th b = true → seeM L mu my inn (q p) b = true → ∃ j, j < v ∧ q j = b) → ∃ W2 q2 v2, mX6_shownFrom_53 k44 (nI L) (nI p) n (nI v) (nI (b + 1)) W = k44 (nI v2) (nI (p + 1)) W2 ∧ v ≤ v2 ∧ QM W0 W2 th (seeM L mu my inn) (2 ^ nb) wt q2 v2 ∧ (∀ i, i < p + 1 → ∀ u, u < 2 ^ nb → th u = true → seeM L mu my inn (q2 i) u = true → ∃ j, j < v2 ∧ q2 j = u) := fun z => ih (b + 1) n W q v (by omega) (by omega) hp ⟨q1, q2, q3, q4, q5⟩ (fun u hu => by
      by_cases y : u = b
      · rw [y]; exact z
      · exact h1 u (by omega)) h2
    cases z1 : memB q v b
    · rw [if_neg (show ¬ (nI (bN false) ≠ 0) from fun z => z rfl)]
      cases z2 : th b
      · rw [if_pos (show nI (bN false) = 0 from rfl)]
        exact pass (fun y => by rw [z2] at y; cases y)
      · rw [if_neg (show ¬ (nI (bN true) = 0) by decide)]
        cases z3 : seeM L mu my inn (q p) b
        · rw [if_pos (show nI (bN false) = 0 from rfl)]
          exact pass (fun _ y => by rw [z3] at y; cases y)
        · rw [if_neg (show ¬ (nI (bN true) = 0) by decide)]
          have hnew : ∀ i, i < v → q i ≠ b := fun i hi y => by
            rw [memB_iff.mpr ⟨i, hi, y⟩] at z1
            cases z1
          have el : ∀ i, i < v → ex1 q v b i = q i := fun i hi => ex1_lt hi
          have hR : ReL th (seeM L mu my inn) (2 ^ nb) wt (ex1 q v b) (v + 1) := (q3.cgq el).add hp hb z2 (by rw [el p hp]; exact z3) (fun i hi => by rw [el i hi]; exact hnew i hi) ex1_s
          obtain ⟨W2, q2', v2, f1, f2, f3⟩ := ih (b + 1) n (am_set (am_set W 0 43 b 1) 0 44 v (nI b)) (ex1 q v b) (v + 1) (by omega) (by omega) (by omega) ⟨(q1.set (Or.inl (by decide))).set (Or.inl (by decide)), fun a y1 y2 => by rw [am_get_row (Or.inr y2), am_get_row (Or.inr y1)]; exact q2 a y1 y2, hR, fun i hi => by
            by_cases y : i = v
            · rw [y, am_get_self, ex1_s]
            · rw [am_get_other y, am_get_row (by decide), el i (by omega)]
              exact q4 i (by omega), fun t ht => by
            have em : memB (ex1 q v b) (v + 1) t = (memB q v t || decide (b = t)) := by
              show (exB (fun j => decide (ex1 q v b j = t)) v || decide (ex1 q v b v = t)) = _
              rw [ex1_s]
              congr 1
              unfold memB
              exact exB_cg (fun j hj => by rw [el j hj])
            rw [am_get_row (by decide), em]
            by_cases y : t = b
            · rw [y, am_get_self, decide_eq_true rfl, Bool.or_true]
              rfl
            · rw [am_get_other y, decide_eq_false (fun x => y x.symm), Bool.or_false]
              exact q5 t ht⟩ (fun u hu y1 y2 => by
            rw [el p hp] at y2
            by_cases y : u = b
            · exact ⟨v, by omega, by rw [ex1_s, y]⟩
            · obtain ⟨j, j1, j2⟩ := h1 u (by omega) y1 y2
              exact ⟨j, by omega, by rw [el j j1]; exact j2⟩) (fun i hi u hu y1 y2 => by
            rw [el i (by omega)] at y2
            obtain ⟨j, j1, j2⟩ := h2 i hi u hu y1 y2
            exact ⟨j, by omega, by rw [el j j1]; exact j2⟩)
          exact ⟨W2, q2', v2, f1, by omega, f3⟩
    · rw [if_pos (show nI (bN true) ≠ 0 by decide)]
      exact pass (fun _ _ => memB_iff.mp z1)
theorem M_q44 (hT : TYM W0 nb mu my inn hd (2 ^ nb)) (hnb : nb ≤ 10) (hmu : mu < 2 ^ 10) (hmy : my < 2 ^ 10) (hL : L < 8) (hth : ∀ u, u < 2 ^ nb → decide (W0.1 0 42 u = -9) = th u) : ∀ (e p n : Nat) (W : AW) (q : Nat → Nat) (v : Nat), 2 ^ nb = p + e → e < n → p ≤ v → QM W0 W th (seeM L mu my inn) (2 ^ nb) wt q v → (∀ i, i < p → ∀ u, u < 2 ^ nb → th u = true → seeM L mu my inn (q i) u = true → ∃ j, j < v ∧ q j = u) →
    ∃ W2 v2, mX6_shownFrom_44 (nI L) n (nI v) (nI p) W = some (nI v2, W2) ∧ KM W0 W2 ∧ ReN th (seeM L mu my inn) (2 ^ nb) wt v2 := by
  have hpw := pow_nb hnb
  intro e
  induction e with
  | zero =>
    intro p n W q v he hn hp hQ h2
    obtain ⟨n, rfl⟩ : ∃ k, n = k + 1 := ⟨n - 1, by omega⟩
    have := hQ.2.2.1.le
    have e2 : p = v := by omega
    subst e2
    exact ⟨W, p, by rw [mX6_shownFrom_44, if_pos (nI_le (Nat.le_refl p) (by omega))], hQ.1, hQ.2.2.1.done h2⟩
  | succ e ih =>
    intro p n W q v he hn hp hQ h2
    obtain ⟨n, rfl⟩ : ∃ k, n = k + 1 := ⟨n - 1, by omega⟩
    have hv := hQ.2.2.1.le
    by_cases hpv : p = v
    · subst hpv
      exact ⟨W, p, by rw [mX6_shownFrom_44, if_pos (nI_le (Nat.le_refl p) (by omega))], hQ.1, hQ.2.2.1.done h2⟩
    · obtain ⟨W2, q2, v2, f1, f2, f3, f4⟩ := M_q53 (k44 := mX6_shownFrom_44 (nI L) n) hT hnb hmu hmy hL hth (2 ^ nb) 0 FU W q v (by omega) (FU_gt (by omega)) (show p < v by omega) hQ (fun u hu => absurd hu (Nat.not_lt_zero u)) h2
      obtain ⟨W3, v3, g⟩ := ih (p + 1) n W2 q2 v2 (by omega) (by omega) (by omega) f3 f4
      refine ⟨W3, v3, ?_, g.2⟩
      have f1' : mX6_shownFrom_53 (mX6_shownFrom_44 (nI L) n) (nI L) (nI p) FU (nI v) 0 W = mX6_shownFrom_44 (nI L) n (nI v2) (nI (p + 1)) W2 := f1
      rw [mX6_shownFrom_44, if_neg (nI_ge (show p < v by omega) (by omega)), f1']
      exact g.1
theorem M_shownFrom (hT : TYM W0 nb mu my inn hd (2 ^ nb)) (hnb : nb ≤ 10) (hmu : mu < 2 ^ 10) (hmy : my < 2 ^ 10) (hL : L < 8) (hth : ∀ u, u < 2 ^ nb → decide (W0.1 0 42 u = -9) = th u) (hwt : wt < 2 ^ nb) (hw : th wt = true) : ∃ W2 v, mX6_shownFrom (nI L) (nI wt) W0 = some (nI v, W2) ∧ KM W0 W2 ∧ ReN th (seeM L mu my inn) (2 ^ nb) wt v := by
  have hpw := pow_nb hnb
  have e2 : mX6_shownFrom (nI L) (nI wt) W0 = mX6_shownFrom_44 (nI L) FU (nI 1) (nI 0) (am_set (am_set (setRow W0 0 43 (fun _ => nI 0) (2 ^ nb)) 0 43 wt 1) 0 44 0 (nI wt)) := by
    unfold mX6_shownFrom
    refine loopE (fun n (s : Int32 × AW) => mX6_shownFrom_2 (nI L) (nI wt) n s.1 s.2) (2 ^ nb) (fun k => (nI k, setRow W0 0 43 (fun _ => nI 0) k)) _ ?_ ?_ FU 0 (Nat.zero_le _) (FU_gt (by omega))
    · intro n t ht
      have hTk := hT.r42 (f := fun _ => nI 0) (show 42 ≤ 43 by decide) t
      dsimp only
      rw [mX6_shownFrom_2, hTk.1, sh_nb hnb, if_neg (nI_ge ht (by omega)), wr_in (show t < 1024 by omega) (by decide), nm_mk, show nI t + 1 = nI (t + 1) from nI_add t 1, nar_0]
      rfl
    · intro n
      have hTk := hT.r42 (f := fun _ => nI 0) (show 42 ≤ 43 by decide) (2 ^ nb)
      have e0 : wr 1024 (am_set (setRow W0 0 43 (fun _ => nI 0) (2 ^ nb)) 0 43 wt 1) 0 44 0 (nI wt) (fun w_2 => mX6_shownFrom_44 (nI L) FU 1 0 w_2) = mX6_shownFrom_44 (nI L) FU 1 0 (am_set (am_set (setRow W0 0 43 (fun _ => nI 0) (2 ^ nb)) 0 43 wt 1) 0 44 0 (nI wt)) := wr_in (show 0 < 1024 by decide) (by decide) _ 0 44 _ _
      dsimp only
      rw [mX6_shownFrom_2, hTk.1, sh_nb hnb, if_pos (nI_le (Nat.le_refl _) (by omega)), nar_1, wr_in (show wt < 1024 by omega) (by decide), e0]
      rfl
  rw [e2]
  refine M_q44 hT hnb hmu hmy hL hth (2 ^ nb) 0 FU _ (fun _ => wt) 1 (by omega) (FU_gt (by omega)) (by omega) ⟨((setRow_K (KM.rf W0) (by decide) _).set (Or.inl (by decide))).set (Or.inl (by decide)), fun a y1 y2 => by rw [am_get_row (Or.inr y2), am_get_row (Or.inr y1), setRow_row (Or.inr y1)], ⟨Nat.le_refl 1, rfl, fun _ _ => ⟨hwt, hw⟩, fun i j hi hj _ => by omega, fun S hS _ _ => hS.1⟩, fun i hi => ?_, fun t ht => ?_⟩ (fun i hi => absurd hi (Nat.not_lt_zero i))
  · have : i = 0 := by omega
    subst this
    exact am_get_self _ _ _ _ _
  · rw [am_get_row (by decide)]
    by_cases y : t = wt
    · rw [y, am_get_self, memB_iff.mpr ⟨0, by omega, rfl⟩]
      rfl
    · have : memB (fun _ => wt) 1 t = false := by
        cases x : memB (fun _ => wt) 1 t
        · rfl
        · obtain ⟨j, _, j2⟩ := memB_iff.mp x
          exact absurd j2.symm y
      rw [am_get_other y, setRow_in _ ht, this]
      rfl
end MS
end
section
/-! the model's answers about types -/
/-- the least type there at which it holds -/
def PWv (th hd : Nat → Bool) (Z : Nat) (x : Int32) : Prop := (x = -9 ∧ ∀ t, t < Z → th t = true → hd t = false) ∨ ∃ t, t < Z ∧ th t = true ∧ hd t = true ∧ (∀ u, u < t → th u = true → hd u = false) ∧ x = nI t
def AnsOK (what : Nat) (th : Nat → Bool) (see : Nat → Nat → Bool) (fit hd : Nat → Bool) (Z rho : Nat) (a : Int32) : Prop :=
  (what = 0 → a = nI (bN (exB (fun t => th t && hd t) Z))) ∧ (what = 1 → a = nI (bN (lawM th hd Z))) ∧ (what = 2 → PWv th hd Z a) ∧
  (what = 3 → (a = 0 ∧ ∀ t, t < Z → th t = true → hd t = false) ∨ ∃ w v, w < Z ∧ PWv th hd Z (nI w) ∧ ReN th see Z w v ∧ a = nI v) ∧
  (what = 4 → a = nI (cntF fit Z)) ∧ (what = 5 → a = nI (cntF th Z)) ∧ (what = 6 → a = nI rho)
theorem PWv.uniq {th hd : Nat → Bool} {Z : Nat} {x y : Int32} (h : PWv th hd Z x) (h2 : PWv th hd Z y) : x = y := by
  rcases h with ⟨a1, a2⟩ | ⟨t, t1, t2, t3, t4, t5⟩
  · rcases h2 with ⟨b1, b2⟩ | ⟨u, u1, u2, u3, u4, u5⟩
    · rw [a1, b1]
    · have := a2 u u1 u2
      rw [u3] at this; cases this
  · rcases h2 with ⟨b1, b2⟩ | ⟨u, u1, u2, u3, u4, u5⟩
    · have := b2 t t1 t2
      rw [t3] at this; cases this
    · rcases Nat.lt_trichotomy t u with z | z | z
      · have := u4 t z t2
        rw [t3] at this; cases this
      · rw [t5, u5, z]
      · have := t4 u z u2
        rw [u3] at this; cases this
theorem AnsOK.uniq {what : Nat} {th : Nat → Bool} {see : Nat → Nat → Bool} {fit hd : Nat → Bool} {Z rho : Nat} {a b : Int32} (hZ : Z ≤ 1024) (hw : what ≤ 6) (h : AnsOK what th see fit hd Z rho a) (h2 : AnsOK what th see fit hd Z rho b) : a = b := by
  obtain ⟨a0, a1, a2, a3, a4, a5, a6⟩ := h
  obtain ⟨b0, b1, b2, b3, b4, b5, b6⟩ := h2
  rcases (show what = 0 ∨ what = 1 ∨ what = 2 ∨ what = 3 ∨ what = 4 ∨ what = 5 ∨ what = 6 by omega) with e | e | e | e | e | e | e
  · rw [a0 e, b0 e]
  · rw [a1 e, b1 e]
  · exact (a2 e).uniq (b2 e)
  · have n9 : ∀ w, w < Z → PWv th hd Z (nI w) → ∃ t, t < Z ∧ th t = true ∧ hd t = true := fun w hw h => by
      rcases h with ⟨z, -⟩ | ⟨t, t1, t2, t3, -⟩
      · exact absurd z (nI_n9 (by omega))
      · exact ⟨t, t1, t2, t3⟩
    rcases a3 e with ⟨c1, c2⟩ | ⟨w, v, c0, c1, c2, c3⟩
    · rcases b3 e with ⟨d1, d2⟩ | ⟨w', v', d0, d1, d2, d3⟩
      · rw [c1, d1]
      · obtain ⟨t, t1, t2, t3⟩ := n9 w' d0 d1
        have := c2 t t1 t2
        rw [t3] at this; cases this
    · rcases b3 e with ⟨d1, d2⟩ | ⟨w', v', d0, d1, d2, d3⟩
      · obtain ⟨t, t1, t2, t3⟩ := n9 w c0 c1
        have := d2 t t1 t2
        rw [t3] at this; cases this
      · have ew : w = w' := (nI_eq (by omega) (by omega)).mp (c1.uniq d1)
        subst ew
        rw [c3, d3, c2.uniq d2]
  · rw [a4 e, b4 e]
  · rw [a5 e, b5 e]
  · rw [a6 e, b6 e]
theorem allT_cg {q q2 : Nat → Bool} {n : Nat} (h : ∀ j, j < n → q j = q2 j) : allT q n = allT q2 n := by
  cases e : allT q2 n
  · cases e2 : allT q n
    · rfl
    · have := allT_iff.mp e2
      rw [allT_iff.mpr (fun k hk => by rw [← h k hk]; exact this k hk)] at e
      cases e
  · exact allT_iff.mpr (fun k hk => by rw [h k hk]; exact allT_iff.mp e k hk)
theorem PWv.cg {th th2 hd hd2 : Nat → Bool} {Z : Nat} {x : Int32} (h : PWv th hd Z x) (e1 : ∀ t, t < Z → th2 t = th t) (e2 : ∀ t, t < Z → hd2 t = hd t) : PWv th2 hd2 Z x := by
  rcases h with ⟨a1, a2⟩ | ⟨t, t1, t2, t3, t4, t5⟩
  · exact Or.inl ⟨a1, fun t ht z => by rw [e2 t ht]; exact a2 t ht (by rw [← e1 t ht]; exact z)⟩
  · exact Or.inr ⟨t, t1, by rw [e1 t t1]; exact t2, by rw [e2 t t1]; exact t3, fun u hu z => by rw [e2 u (by omega)]; exact t4 u hu (by rw [← e1 u (by omega)]; exact z), t5⟩
theorem AnsOK.cg {what : Nat} {th th2 : Nat → Bool} {see see2 : Nat → Nat → Bool} {fit fit2 hd hd2 : Nat → Bool} {Z rho : Nat} {a : Int32} (h : AnsOK what th see fit hd Z rho a) (e1 : ∀ t, t < Z → th2 t = th t) (e2 : ∀ t, t < Z → hd2 t = hd t) (e3 : ∀ t, t < Z → fit2 t = fit t) (e4 : ∀ a b, a < Z → b < Z → see2 a b = see a b) : AnsOK what th2 see2 fit2 hd2 Z rho a := by
  obtain ⟨a0, a1, a2, a3, a4, a5, a6⟩ := h
  refine ⟨fun e => ?_, fun e => ?_, fun e => (a2 e).cg e1 e2, fun e => ?_, fun e => ?_, fun e => ?_, a6⟩
  · rw [a0 e, exB_cg (q := fun t => th2 t && hd2 t) (q2 := fun t => th t && hd t) (fun j hj => by rw [e1 j hj, e2 j hj])]
  · rw [a1 e]
    unfold lawM
    rw [allT_cg (q := fun t => !th2 t || hd2 t) (q2 := fun t => !th t || hd t) (fun j hj => by rw [e1 j hj, e2 j hj])]
  · rcases a3 e with ⟨c1, c2⟩ | ⟨w, v, c0, c1, c2, c3⟩
    · exact Or.inl ⟨c1, fun t ht z => by rw [e2 t ht]; exact c2 t ht (by rw [← e1 t ht]; exact z)⟩
    · exact Or.inr ⟨w, v, c0, c1.cg e1 e2, c2.cg c0 e1 e4, c3⟩
  · rw [a4 e, cntF_cg e3]
  · rw [a5 e, cntF_cg e1]
theorem flV_fit {fit : Nat → Bool} {mf : (Nat → Bool) → Nat → Bool} {t : Nat} : ∀ r, r < 2 ^ 20 → (flV fit mf r t = 0 ↔ fit t = false) := by
  have n0 : (-9 : Int32) ≠ 0 := by decide
  have th_fit : ∀ r, thN fit mf r t = true → fit t = true := fun r => by
    induction r with
    | zero => exact fun h => h
    | succ r ih =>
      intro h
      have : (thN fit mf r t && !mf (thN fit mf r) t) = true := h
      rw [Bool.and_eq_true] at this
      exact ih this.1
  intro r
  induction r with
  | zero =>
    intro _
    show ((if fit t = true then (-9 : Int32) else nI 0) = 0) ↔ _
    cases e : fit t
    · rw [if_neg (by decide)]
      exact ⟨fun _ => rfl, fun _ => rfl⟩
    · rw [if_pos rfl]
      exact ⟨fun z => absurd z n0, fun z => by cases z⟩
  | succ r ih =>
    intro hr
    show ((if thN fit mf r t = true ∧ mf (thN fit mf r) t = true then nI (r + 1) else flV fit mf r t) = 0) ↔ _
    by_cases h : thN fit mf r t = true ∧ mf (thN fit mf r) t = true
    · rw [if_pos h, th_fit r h.1]
      exact ⟨fun z => absurd ((nI_eq (b := 0) (by omega) (by decide)).mp z) (by omega), fun z => by cases z⟩
    · rw [if_neg h]
      exact ih (by omega)
/-- counted, and sought, from above -/
def cntD (p : Nat → Bool) (Z : Nat) : Nat → Nat
  | 0 => 0
  | k + 1 => cntD p Z k + bN (p (Z - 1 - k))
def witD (p : Nat → Bool) (Z : Nat) : Nat → Int32
  | 0 => -9
  | k + 1 => if p (Z - 1 - k) = true then nI (Z - 1 - k) else witD p Z k
theorem cntD_F {p : Nat → Bool} {Z : Nat} : ∀ k, k ≤ Z → cntD p Z k + cntF p (Z - k) = cntF p Z
  | 0, _ => by show 0 + _ = _; rw [Nat.zero_add]; rfl
  | k + 1, h => by
    have ih := cntD_F (p := p) (Z := Z) k (by omega)
    obtain ⟨j, hj⟩ : ∃ j, Z - k = j + 1 := ⟨Z - k - 1, by omega⟩
    have e1 : Z - (k + 1) = j := by omega
    have e2 : Z - 1 - k = j := by omega
    have e3 : cntF p (j + 1) = cntF p j + bN (p j) := rfl
    show cntD p Z k + bN (p (Z - 1 - k)) + cntF p (Z - (k + 1)) = _
    rw [e1, e2]
    rw [hj, e3] at ih
    omega
theorem witD_ok {th hd : Nat → Bool} {Z : Nat} : ∀ k, k ≤ Z → (witD (fun t => th t && hd t) Z k = -9 ∧ ∀ t, Z - k ≤ t → t < Z → th t = true → hd t = false) ∨ ∃ t, Z - k ≤ t ∧ t < Z ∧ th t = true ∧ hd t = true ∧ (∀ u, Z - k ≤ u → u < t → th u = true → hd u = false) ∧ witD (fun t => th t && hd t) Z k = nI t
  | 0, _ => Or.inl ⟨rfl, fun t h1 h2 => by omega⟩
  | k + 1, h => by
    have e : witD (fun t => th t && hd t) Z (k + 1) = if (th (Z - 1 - k) && hd (Z - 1 - k)) = true then nI (Z - 1 - k) else witD (fun t => th t && hd t) Z k := rfl
    rw [e]
    by_cases q : (th (Z - 1 - k) && hd (Z - 1 - k)) = true
    · rw [if_pos q]
      rw [Bool.and_eq_true] at q
      exact Or.inr ⟨Z - 1 - k, by omega, by omega, q.1, q.2, fun u h1 h2 => by omega, rfl⟩
    · rw [if_neg q]
      have q2 : th (Z - 1 - k) = true → hd (Z - 1 - k) = false := fun y => by
        rw [y, Bool.true_and] at q
        cases x : hd (Z - 1 - k)
        · rfl
        · exact absurd x q
      rcases witD_ok (th := th) (hd := hd) (Z := Z) k (by omega) with ⟨a1, a2⟩ | ⟨t, t1, t2, t3, t4, t5, t6⟩
      · refine Or.inl ⟨a1, fun t h1 h2 h3 => ?_⟩
        by_cases y : t = Z - 1 - k
        · rw [y] at h3 ⊢; exact q2 h3
        · exact a2 t (by omega) h2 h3
      · refine Or.inr ⟨t, by omega, t2, t3, t4, fun u h1 h2 h3 => ?_, t6⟩
        by_cases y : u = Z - 1 - k
        · rw [y] at h3 ⊢; exact q2 h3
        · exact t5 u (by omega) h2 h3
theorem witD_PW {th hd : Nat → Bool} {Z : Nat} : PWv th hd Z (witD (fun t => th t && hd t) Z Z) := by
  rcases witD_ok (th := th) (hd := hd) Z (Nat.le_refl Z) with ⟨a1, a2⟩ | ⟨t, t1, t2, t3, t4, t5, t6⟩
  · exact Or.inl ⟨a1, fun t h1 h2 => a2 t (by omega) h1 h2⟩
  · exact Or.inr ⟨t, t2, t3, t4, fun u h1 h2 => t5 u (by omega) h1 h2, t6⟩
theorem PWv.n9 {th hd : Nat → Bool} {Z : Nat} {x : Int32} (hZ : Z ≤ 1024) (h : PWv th hd Z x) : (x = -9 ∧ (∀ t, t < Z → th t = true → hd t = false) ∧ exB (fun t => th t && hd t) Z = false) ∨ ∃ t, t < Z ∧ th t = true ∧ x = nI t ∧ x ≠ -9 ∧ exB (fun t => th t && hd t) Z = true := by
  rcases h with ⟨a1, a2⟩ | ⟨t, t1, t2, t3, t4, t5⟩
  · refine Or.inl ⟨a1, a2, ?_⟩
    cases e : exB (fun t => th t && hd t) Z
    · rfl
    · obtain ⟨k, k1, k2⟩ := exB_iff.mp e
      rw [Bool.and_eq_true] at k2
      rw [a2 k k1 k2.1] at k2
      cases k2.2
  · exact Or.inr ⟨t, t1, t2, t5, by rw [t5]; exact nI_n9 (by omega), exB_iff.mpr ⟨t, t1, by rw [t2, t3]; rfl⟩⟩
section AM
variable {W : AW} {nb mu my L rho : Nat} {inn : Nat → Nat} {hd th fit : Nat → Bool}
def posD (Z k : Nat) : Int32 := if k < Z then nI (Z - 1 - k) else -1
theorem M_l78 (hT : TYM W nb mu my inn hd (2 ^ nb)) (hnb : nb ≤ 10) (hth : ∀ u, u < 2 ^ nb → decide (W.1 0 42 u = -9) = th u) (hft : ∀ u, u < 2 ^ nb → (W.1 0 42 u = 0 ↔ fit u = false)) (v2 v3 v4 : Int32) : mX6_logic_78 v2 v3 v4 FU (-9) 0 0 (posD (2 ^ nb) 0) W = mX6_logic_78 v2 v3 v4 (FU - 2 ^ nb) (witD (fun t => th t && hd t) (2 ^ nb) (2 ^ nb)) (nI (cntF fit (2 ^ nb))) (nI (cntF th (2 ^ nb))) (-1) W := by
  have hpw := pow_nb hnb
  have hFU := FU_le
  have step : ∀ n k, k < 2 ^ nb → mX6_logic_78 v2 v3 v4 (n + 1) (witD (fun t => th t && hd t) (2 ^ nb) k) (nI (cntD fit (2 ^ nb) k)) (nI (cntD th (2 ^ nb) k)) (posD (2 ^ nb) k) W = mX6_logic_78 v2 v3 v4 n (witD (fun t => th t && hd t) (2 ^ nb) (k + 1)) (nI (cntD fit (2 ^ nb) (k + 1))) (nI (cntD th (2 ^ nb) (k + 1))) (posD (2 ^ nb) (k + 1)) W := fun n k hk => by
    have ht : 2 ^ nb - 1 - k < 2 ^ nb := by omega
    have ep : posD (2 ^ nb) k = nI (2 ^ nb - 1 - k) := if_pos hk
    have ep2 : nI (2 ^ nb - 1 - k) + (-1) = posD (2 ^ nb) (k + 1) := by
      unfold posD
      by_cases q : k + 1 < 2 ^ nb
      · rw [if_pos q]
        obtain ⟨j, hj⟩ : ∃ j, 2 ^ nb - 1 - k = j + 1 := ⟨2 ^ nb - 1 - k - 1, by omega⟩
        rw [hj, pk_m1 j]
        congr 1
        omega
      · rw [if_neg q, show 2 ^ nb - 1 - k = 0 by omega]
        decide
    have ew : witD (fun t => th t && hd t) (2 ^ nb) (k + 1) = if (th (2 ^ nb - 1 - k) && hd (2 ^ nb - 1 - k)) = true then nI (2 ^ nb - 1 - k) else witD (fun t => th t && hd t) (2 ^ nb) k := rfl
    have ef : cntD fit (2 ^ nb) (k + 1) = cntD fit (2 ^ nb) k + bN (fit (2 ^ nb - 1 - k)) := rfl
    have et : cntD th (2 ^ nb) (k + 1) = cntD th (2 ^ nb) k + bN (th (2 ^ nb - 1 - k)) := rfl
    rw [ep]
    have hht := hth _ ht
    have hhf := hft _ ht
    have h41 := (hT.2.2.2 _ ht).2.2
    generalize hs : 2 ^ nb - 1 - k = t at *
    have ht4 : t < 1024 := by omega
    have eis : mX6_isThere (nI t) W = some (nI (bN (th t)), W) := by rw [M_isThere ht4 rfl, hht]
    have e147 : ∀ (a b : Int32) (x : Bool), x = th t → mX6_logic_147 (mX6_logic_78 v2 v3 v4 n) v2 v3 v4 a b (nI t) (nI (bN x)) (nI (cntD th (2 ^ nb) k)) W = mX6_logic_78 v2 v3 v4 n a b (nI (cntD th (2 ^ nb) (k + 1))) (posD (2 ^ nb) (k + 1)) W := fun a b x hx => by
      unfold mX6_logic_147
      rw [nm_mk, nm_mk, ep2, et, nI_add, hx]
    have e128 : ∀ (a : Int32) (x : Bool), x = fit t → mX6_logic_128 (mX6_logic_78 v2 v3 v4 n) v2 v3 v4 a (nI (cntD th (2 ^ nb) k)) (nI t) (nI (bN x)) (nI (cntD fit (2 ^ nb) k)) W = mX6_logic_78 v2 v3 v4 n a (nI (cntD fit (2 ^ nb) (k + 1))) (nI (cntD th (2 ^ nb) (k + 1))) (posD (2 ^ nb) (k + 1)) W := fun a x hx => by
      unfold mX6_logic_128
      rw [nm_mk, eis, cl_mk, nI_add, hx, ← ef]
      cases q : th t
      · rw [if_pos (show nI (bN false) = 0 from rfl)]
        exact e147 _ _ false q.symm
      · rw [if_neg (show ¬ (nI (bN true) = 0) by decide)]
        exact e147 _ _ true q.symm
    have e109 : ∀ a : Int32, mX6_logic_109 (mX6_logic_78 v2 v3 v4 n) v2 v3 v4 (nI (cntD fit (2 ^ nb) k)) (nI (cntD th (2 ^ nb) k)) (nI t) a W = mX6_logic_78 v2 v3 v4 n a (nI (cntD fit (2 ^ nb) (k + 1))) (nI (cntD th (2 ^ nb) (k + 1))) (posD (2 ^ nb) (k + 1)) W := fun a => by
      unfold mX6_logic_109
      rw [rd_in ht4 (by decide)]
      by_cases q : W.1 0 42 t = 0
      · rw [if_pos q]
        exact e128 a false (hhf.mp q).symm
      · rw [if_neg q]
        refine e128 a true ?_
        cases x : fit t
        · exact absurd (hhf.mpr x) q
        · rfl
    rw [mX6_logic_78, if_neg (nI_pos (by omega)), eis, cl_mk, ew]
    unfold mX6_logic_107
    cases q : th t
    · rw [if_pos (show nI (bN false) = 0 from rfl), Bool.false_and, if_neg (by decide)]
      exact e109 _
    · rw [if_neg (show ¬ (nI (bN true) = 0) by decide), rd_in ht4 (by decide), h41, Bool.true_and]
      cases q2 : hd t
      · rw [if_pos (show nI (bN false) = 0 from rfl), if_neg (by decide)]
        exact e109 _
      · rw [if_neg (show ¬ (nI (bN true) = 0) by decide), if_pos rfl]
        exact e109 _
  have run : ∀ k, k ≤ 2 ^ nb → mX6_logic_78 v2 v3 v4 FU (-9) 0 0 (posD (2 ^ nb) 0) W = mX6_logic_78 v2 v3 v4 (FU - k) (witD (fun t => th t && hd t) (2 ^ nb) k) (nI (cntD fit (2 ^ nb) k)) (nI (cntD th (2 ^ nb) k)) (posD (2 ^ nb) k) W := by
    intro k
    induction k with
    | zero => intro _; rfl
    | succ k ih =>
      intro hk
      have e : FU - k = (FU - (k + 1)) + 1 := by omega
      rw [ih (by omega), e, step _ k (by omega)]
  have h1 := cntD_F (p := fit) (2 ^ nb) (Nat.le_refl _)
  have h2 := cntD_F (p := th) (2 ^ nb) (Nat.le_refl _)
  have z : ∀ p : Nat → Bool, cntF p (2 ^ nb - 2 ^ nb) = 0 := fun p => by rw [Nat.sub_self]; rfl
  rw [z, Nat.add_zero] at h1 h2
  rw [run _ (Nat.le_refl _), h1, h2]
  have : posD (2 ^ nb) (2 ^ nb) = -1 := if_neg (Nat.lt_irrefl _)
  rw [this]
theorem M_ans (hT : TYM W nb mu my inn hd (2 ^ nb)) (hnb : nb ≤ 10) (hmu : mu < 2 ^ 10) (hmy : my < 2 ^ 10) (hL : L < 8) (hth : ∀ u, u < 2 ^ nb → decide (W.1 0 42 u = -9) = th u) (hft : ∀ u, u < 2 ^ nb → (W.1 0 42 u = 0 ↔ fit u = false)) {what : Nat} (hw : what ≤ 6) :
    ∃ W2 a, mX6_logic_78 (nI L) (nI what) (nI rho) FU (-9) 0 0 (nI (2 ^ nb - 1)) W = some (a, W2) ∧ KM W W2 ∧ AnsOK what th (seeM L mu my inn) fit hd (2 ^ nb) rho a := by
  have hpw := pow_nb hnb
  have hFU := FU_le
  have hpos := Nat.two_pow_pos nb
  have e0 : posD (2 ^ nb) 0 = nI (2 ^ nb - 1) := if_pos hpos
  have hrun := M_l78 hT hnb hth hft (nI L) (nI what) (nI rho)
  rw [e0] at hrun
  rw [hrun]
  obtain ⟨n, hn⟩ : ∃ n, FU - 2 ^ nb = n + 1 := ⟨FU - 2 ^ nb - 1, by omega⟩
  have hP := witD_PW (th := th) (hd := hd) (Z := 2 ^ nb)
  have hP9 := hP.n9 hpw
  generalize witD (fun t => th t && hd t) (2 ^ nb) (2 ^ nb) = x at *
  rw [hn, mX6_logic_78, if_pos (show (-1 : Int32) < 0 by decide)]
  rcases (show what = 0 ∨ what = 1 ∨ what = 2 ∨ what = 3 ∨ what = 4 ∨ what = 5 ∨ what = 6 by omega) with e | e | e | e | e | e | e
  · subst e
    rw [if_pos (show nI 0 = 0 from rfl)]
    rcases hP9 with ⟨p1, p2, p3⟩ | ⟨t, t1, t2, t3, t4, t5⟩
    · rw [if_neg (fun z => z p1)]
      exact ⟨W, 0, rfl, KM.rf W, fun _ => by rw [p3]; rfl, fun z => by omega, fun z => by omega, fun z => by omega, fun z => by omega, fun z => by omega, fun z => by omega⟩
    · rw [if_pos t4]
      exact ⟨W, 1, rfl, KM.rf W, fun _ => by rw [t5]; rfl, fun z => by omega, fun z => by omega, fun z => by omega, fun z => by omega, fun z => by omega, fun z => by omega⟩
  · subst e
    rw [if_neg (show ¬ nI 1 = 0 by decide), if_pos (show nI 1 = 1 from rfl), M_isLaw hT.1 hnb (fun t ht => (hT.2.2.2 t ht).2.2) hth, cl_mk]
    refine ⟨W, nI (bN (lawM th hd (2 ^ nb))), ?_, KM.rf W, fun z => by omega, fun _ => rfl, fun z => by omega, fun z => by omega, fun z => by omega, fun z => by omega, fun z => by omega⟩
    cases q : lawM th hd (2 ^ nb)
    · rw [if_pos (show nI (bN false) = 0 from rfl)]; rfl
    · rw [if_neg (show ¬ (nI (bN true) = 0) by decide)]; rfl
  · subst e
    rw [if_neg (show ¬ nI 2 = 0 by decide), if_neg (show ¬ nI 2 = 1 by decide), if_pos (show nI 2 = 2 from rfl)]
    exact ⟨W, x, rfl, KM.rf W, fun z => by omega, fun z => by omega, fun _ => hP, fun z => by omega, fun z => by omega, fun z => by omega, fun z => by omega⟩
  · subst e
    rw [if_neg (show ¬ nI 3 = 0 by decide), if_neg (show ¬ nI 3 = 1 by decide), if_neg (show ¬ nI 3 = 2 by decide), if_pos (show nI 3 = 3 from rfl)]
    rcases hP9 with ⟨p1, p2, p3⟩ | ⟨t, t1, t2, t3, t4, t5⟩
    · rw [if_neg (fun z => z p1)]
      exact ⟨W, 0, rfl, KM.rf W, fun z => by omega, fun z => by omega, fun z => by omega, fun _ => Or.inl ⟨rfl, p2⟩, fun z => by omega, fun z => by omega, fun z => by omega⟩
    · obtain ⟨W2, v, s1, s2, s3⟩ := M_shownFrom (wt := t) (th := th) hT hnb hmu hmy hL hth t1 t2
      rw [if_pos t4, t3, s1, cl_mk]
      exact ⟨W2, nI v, rfl, s2, fun z => by omega, fun z => by omega, fun z => by omega, fun _ => Or.inr ⟨t, v, t1, by rw [← t3]; exact hP, s3, rfl⟩, fun z => by omega, fun z => by omega, fun z => by omega⟩
  · subst e
    rw [if_neg (show ¬ nI 4 = 0 by decide), if_neg (show ¬ nI 4 = 1 by decide), if_neg (show ¬ nI 4 = 2 by decide), if_neg (show ¬ nI 4 = 3 by decide), if_pos (show nI 4 = 4 from rfl)]
    exact ⟨W, nI (cntF fit (2 ^ nb)), rfl, KM.rf W, fun z => by omega, fun z => by omega, fun z => by omega, fun z => by omega, fun _ => rfl, fun z => by omega, fun z => by omega⟩
  · subst e
    rw [if_neg (show ¬ nI 5 = 0 by decide), if_neg (show ¬ nI 5 = 1 by decide), if_neg (show ¬ nI 5 = 2 by decide), if_neg (show ¬ nI 5 = 3 by decide), if_neg (show ¬ nI 5 = 4 by decide), if_pos (show nI 5 = 5 from rfl)]
    exact ⟨W, nI (cntF th (2 ^ nb)), rfl, KM.rf W, fun z => by omega, fun z => by omega, fun z => by omega, fun z => by omega, fun z => by omega, fun _ => rfl, fun z => by omega⟩
  · subst e
    rw [if_neg (show ¬ nI 6 = 0 by decide), if_neg (show ¬ nI 6 = 1 by decide), if_neg (show ¬ nI 6 = 2 by decide), if_neg (show ¬ nI 6 = 3 by decide), if_neg (show ¬ nI 6 = 4 by decide), if_neg (show ¬ nI 6 = 5 by decide)]
    exact ⟨W, nI rho, rfl, KM.rf W, fun z => by omega, fun z => by omega, fun z => by omega, fun z => by omega, fun z => by omega, fun z => by omega, fun _ => rfl⟩
end AM
end
section
/-! the class's answers about types -/
section RX2
variable {W0 : AW} {L Z CL TU OW wt : Nat} {br wh : Nat → Nat} {th : Nat → Bool}
/-- the class's list, the first r of it those come to so far -/
def QX (W0 W : AW) (th : Nat → Bool) (see : Nat → Nat → Bool) (Z w : Nat) (q : Nat → Nat) (r : Nat) : Prop := KX W0 W ∧ (∀ a, a ≠ 7 → W.1 4 a = W0.1 4 a) ∧ ReL th see Z w q r ∧ r ≤ cntF th Z ∧ (∀ i, i < cntF th Z → W.1 4 7 i = nI (q i) ∧ q i < Z ∧ th (q i) = true) ∧ (∀ i j, i < cntF th Z → j < cntF th Z → q i = q j → i = j)
theorem q_surj {q : Nat → Nat} (h1 : ∀ i, i < cntF th Z → q i < Z ∧ th (q i) = true) (h2 : ∀ i j, i < cntF th Z → j < cntF th Z → q i = q j → i = j) {b : Nat} (hb : b < Z) (hbt : th b = true) : ∃ i, i < cntF th Z ∧ q i = b := by
  apply Classical.byContradiction
  intro hno
  have hm : memB q (cntF th Z) b = false := by
    cases e : memB q (cntF th Z) b
    · rfl
    · exact absurd (memB_iff.mp e) hno
  have e1 := (memB_cnt (q := q) (P := Z) (cntF th Z)).2 (fun j hj => (h1 j hj).1) h2
  have := cntF_strict (h := memB q (cntF th Z)) (g := th) hb (fun p _ z => by
    obtain ⟨j, j1, j2⟩ := memB_iff.mp z
    rw [← j2]
    exact (h1 j j1).2) hm hbt
  omega
theorem X_swap {W : AW} {a b : Nat} {x y : Int32} (ha : a < 1024) (hb : b < 1024) (h1 : W.1 4 7 a = x) (h2 : W.1 4 7 b = y) : mX3_swapStays (nI a) (nI b) W = some ((), am_set (am_set W 4 7 a y) 4 7 b x) := by
  have p1 : ∀ z V, mX5_put 4 7 (nI a) z V = some ((), am_set V 4 7 a z) := fun z V => put_in V (show a < 1024 from ha) (by decide)
  have p2 : ∀ z V, mX5_put 4 7 (nI b) z V = some ((), am_set V 4 7 b z) := fun z V => put_in V (show b < 1024 from hb) (by decide)
  have a1 : mX5_at 4 7 (nI a) W = some (x, W) := by rw [at_in W (show a < 1024 from ha) (by decide), h1]
  have a2 : mX5_at 4 7 (nI b) W = some (y, W) := by rw [at_in W (show b < 1024 from hb) (by decide), h2]
  unfold mX3_swapStays
  rw [a1, cl_mk, a2, cl_mk, p1, cl_mk, p2, cl_mk]
def swp (q : Nat → Nat) (a b i : Nat) : Nat := if i = b then q a else if i = a then q b else q i
theorem swp_a {q : Nat → Nat} {a b : Nat} : swp q a b a = q b := by
  unfold swp
  by_cases e : a = b
  · rw [if_pos e, e]
  · rw [if_neg e, if_pos rfl]
theorem swp_b {q : Nat → Nat} {a b : Nat} : swp q a b b = q a := if_pos rfl
theorem swp_o {q : Nat → Nat} {a b i : Nat} (h1 : i ≠ a) (h2 : i ≠ b) : swp q a b i = q i := by
  unfold swp
  rw [if_neg h2, if_neg h1]
/-- where the value at i came from -/
theorem swp_at {q : Nat → Nat} {a b n : Nat} (ha : a < n) (hb : b < n) (i : Nat) (hi : i < n) : ∃ k, k < n ∧ swp q a b i = q k ∧ (k = if i = b then a else if i = a then b else i) := by
  unfold swp
  by_cases e : i = b
  · exact ⟨a, ha, by rw [if_pos e], by rw [if_pos e]⟩
  · by_cases e2 : i = a
    · exact ⟨b, hb, by rw [if_neg e, if_pos e2], by rw [if_neg e, if_pos e2]⟩
    · exact ⟨i, hi, by rw [if_neg e, if_neg e2], by rw [if_neg e, if_neg e2]⟩
theorem swp_inj {q : Nat → Nat} {a b n : Nat} (ha : a < n) (hb : b < n) (h : ∀ i j, i < n → j < n → q i = q j → i = j) : ∀ i j, i < n → j < n → swp q a b i = swp q a b j → i = j := by
  intro i j hi hj e
  obtain ⟨k, k1, k2, k3⟩ := swp_at ha hb i hi (q := q)
  obtain ⟨m, m1, m2, m3⟩ := swp_at ha hb j hj (q := q)
  have := h k m k1 m1 (by rw [← k2, ← m2]; exact e)
  rw [k3, m3] at this
  split at this
  · split at this
    · omega
    · split at this <;> omega
  · split at this
    · split at this
      · omega
      · split at this <;> omega
    · split at this
      · omega
      · split at this <;> omega
theorem swp_row {W : AW} {q : Nat → Nat} {a b n : Nat} (ha : a < n) (hb : b < n) (h : ∀ i, i < n → W.1 4 7 i = nI (q i)) : ∀ i, i < n → (am_set (am_set W 4 7 a (nI (q b))) 4 7 b (nI (q a))).1 4 7 i = nI (swp q a b i) := by
  intro i hi
  by_cases e : i = b
  · rw [e, am_get_self, swp_b]
  · rw [am_get_other e]
    by_cases e2 : i = a
    · rw [e2, am_get_self, swp_a]
    · rw [am_get_other e2, swp_o e2 e]
      exact h i hi
theorem X_q34 (hT : TX W0 L Z CL TU OW br wh) (hZ : Z ≤ 1024) (hC : CL < 2 ^ 10) (hL : L < 9) (h13 : W0.1 4 0 13 = nI (cntF th Z)) {k18 : Int32 → Int32 → AW → Option (Int32 × AW)} {p : Nat} : ∀ (e b n : Nat) (W : AW) (q : Nat → Nat) (r : Nat), cntF th Z = b + e → e < n → p < r → r ≤ b → QX W0 W th (seeX L CL TU br) Z wt q r → (∀ i, r ≤ i → i < b → seeX L CL TU br (q p) (q i) = false) → (∀ i, i < p → ∀ u, u < Z → th u = true → seeX L CL TU br (q i) u = true → ∃ j, j < r ∧ q j = u) →
    ∃ W2 q2 r2, mX3_howManyReached_34 k18 (nI p) n (nI r) (nI b) W = k18 (nI r2) (nI (p + 1)) W2 ∧ r ≤ r2 ∧ QX W0 W2 th (seeX L CL TU br) Z wt q2 r2 ∧ (∀ i, i < p + 1 → ∀ u, u < Z → th u = true → seeX L CL TU br (q2 i) u = true → ∃ j, j < r2 ∧ q2 j = u) := by
  have hcZ := cntF_le th Z
  intro e
  induction e with
  | zero =>
    intro b n W q r he hn hp hrb hQ h1 h2
    obtain ⟨n, rfl⟩ : ∃ k, n = k + 1 := ⟨n - 1, by omega⟩
    have e2 : b = cntF th Z := by omega
    subst e2
    obtain ⟨q1, q2, q3, q4, q5, q6⟩ := hQ
    refine ⟨W, q, r, ?_, Nat.le_refl r, ⟨q1, q2, q3, q4, q5, q6⟩, fun i hi u hu ht hs => ?_⟩
    · rw [mX3_howManyReached_34, q2 0 (by decide), h13, if_pos (nI_le (Nat.le_refl _) (by omega)), nm_mk, show nI p + 1 = nI (p + 1) from nI_add p 1]
    · by_cases z : i = p
      · rw [z] at hs
        obtain ⟨j, j1, j2⟩ := q_surj (fun i hi => (q5 i hi).2) q6 hu ht
        rcases Nat.lt_or_ge j r with y | y
        · exact ⟨j, y, j2⟩
        · have := h1 j y j1
          rw [j2, hs] at this
          cases this
      · exact h2 i (by omega) u hu ht hs
  | succ e ih =>
    intro b n W q r he hn hp hrb hQ h1 h2
    obtain ⟨n, rfl⟩ : ∃ k, n = k + 1 := ⟨n - 1, by omega⟩
    have hb : b < cntF th Z := by omega
    obtain ⟨q1, q2, q3, q4, q5, q6⟩ := hQ
    have hT' : TX W L Z CL TU OW br wh := hT.row (by rw [q2 0 (by decide)]) (by rw [q2 0 (by decide)]) (by rw [q2 0 (by decide)]) (q2 3 (by decide)) (q2 4 (by decide)) (q2 5 (by decide))
    have ap : mX5_at 4 7 (nI p) W = some (nI (q p), W) := by rw [at_in W (show p < 1024 by omega) (by decide), (q5 p (by omega)).1]
    have ab : mX5_at 4 7 (nI b) W = some (nI (q b), W) := by rw [at_in W (show b < 1024 by omega) (by decide), (q5 b hb).1]
    have es := X_maySee hT' hZ hC hL (q5 p (by omega)).2.1 (q5 b hb).2.1
    have e80 : ∀ (x : Int32) (V : AW), mX3_howManyReached_80 k18 (mX3_howManyReached_34 k18 (nI p) n) x (nI p) (nI b) V = mX3_howManyReached_34 k18 (nI p) n x (nI (b + 1)) V := fun x V => by
      unfold mX3_howManyReached_80
      rw [nm_mk, show nI b + 1 = nI (b + 1) from nI_add b 1]
    rw [mX3_howManyReached_34, q2 0 (by decide), h13, if_neg (nI_ge hb (by omega)), ap, cl_mk, ab, cl_mk, es, cl_mk]
    cases z : seeX L CL TU br (q p) (q b)
    · rw [if_neg (show ¬ (nI (bN false) ≠ 0) from fun y => y rfl), e80]
      exact ih (b + 1) n W q r (by omega) (by omega) hp (by omega) ⟨q1, q2, q3, q4, q5, q6⟩ (fun i hi hi2 => by
        by_cases y : i = b
        · rw [y]; exact z
        · exact h1 i hi (by omega)) h2
    · have esw := X_swap (W := W) (show r < 1024 by omega) (show b < 1024 by omega) (q5 r (by omega)).1 (q5 b hb).1
      rw [if_pos (show nI (bN true) ≠ 0 by decide), esw, cl_mk, nm_mk, show nI r + 1 = nI (r + 1) from nI_add r 1, e80]
      have el : ∀ i, i < r → swp q r b i = q i := fun i hi => swp_o (by omega) (by omega)
      have hnew : ∀ i, i < r → q i ≠ q b := fun i hi y => by
        have := q6 i b (by omega) hb y
        omega
      have hR : ReL th (seeX L CL TU br) Z wt (swp q r b) (r + 1) := (q3.cgq el).add hp (q5 b hb).2.1 (q5 b hb).2.2 (by rw [el p hp]; exact z) (fun i hi => by rw [el i hi]; exact hnew i hi) swp_a
      obtain ⟨W2, q2', r2, f1, f2, f3⟩ := ih (b + 1) n (am_set (am_set W 4 7 r (nI (q b))) 4 7 b (nI (q r))) (swp q r b) (r + 1) (by omega) (by omega) (by omega) (by omega) ⟨(q1.set (Or.inl ⟨by decide, by decide⟩)).set (Or.inl ⟨by decide, by decide⟩), fun a y => by rw [am_get_row (Or.inr y), am_get_row (Or.inr y)]; exact q2 a y, hR, by omega, fun i hi => by
          obtain ⟨k, k1, k2, -⟩ := swp_at (q := q) (show r < cntF th Z by omega) hb i hi
          exact ⟨swp_row (show r < cntF th Z by omega) hb (fun i hi => (q5 i hi).1) i hi, by rw [k2]; exact (q5 k k1).2⟩, swp_inj (show r < cntF th Z by omega) hb q6⟩ (fun i hi hi2 => by
        rw [el p hp]
        by_cases y : i = b
        · rw [y, swp_b]
          by_cases y2 : r = b
          · omega
          · exact h1 r (Nat.le_refl r) (by omega)
        · rw [swp_o (by omega) y]
          exact h1 i (by omega) (by omega)) (fun i hi u hu y1 y2 => by
        rw [el i (by omega)] at y2
        obtain ⟨j, j1, j2⟩ := h2 i hi u hu y1 y2
        exact ⟨j, by omega, by rw [el j j1]; exact j2⟩)
      exact ⟨W2, q2', r2, f1, by omega, f3⟩
theorem X_q18 (hT : TX W0 L Z CL TU OW br wh) (hZ : Z ≤ 1024) (hC : CL < 2 ^ 10) (hL : L < 9) (h13 : W0.1 4 0 13 = nI (cntF th Z)) : ∀ (e p n : Nat) (W : AW) (q : Nat → Nat) (r : Nat), cntF th Z = p + e → e < n → p ≤ r → QX W0 W th (seeX L CL TU br) Z wt q r → (∀ i, i < p → ∀ u, u < Z → th u = true → seeX L CL TU br (q i) u = true → ∃ j, j < r ∧ q j = u) →
    ∃ W2 r2, mX3_howManyReached_18 n (nI r) (nI p) W = some (nI r2, W2) ∧ KX W0 W2 ∧ ReN th (seeX L CL TU br) Z wt r2 := by
  have hcZ := cntF_le th Z
  intro e
  induction e with
  | zero =>
    intro p n W q r he hn hp hQ h2
    obtain ⟨n, rfl⟩ : ∃ k, n = k + 1 := ⟨n - 1, by omega⟩
    have := hQ.2.2.2.1
    have e2 : p = r := by omega
    subst e2
    exact ⟨W, p, by rw [mX3_howManyReached_18, if_pos (nI_le (Nat.le_refl p) (by omega))], hQ.1, hQ.2.2.1.done h2⟩
  | succ e ih =>
    intro p n W q r he hn hp hQ h2
    obtain ⟨n, rfl⟩ : ∃ k, n = k + 1 := ⟨n - 1, by omega⟩
    have hr := hQ.2.2.2.1
    by_cases hpr : p = r
    · subst hpr
      exact ⟨W, p, by rw [mX3_howManyReached_18, if_pos (nI_le (Nat.le_refl p) (by omega))], hQ.1, hQ.2.2.1.done h2⟩
    · obtain ⟨W2, q2, r2, f1, f2, f3, f4⟩ := X_q34 (wt := wt) (k18 := mX3_howManyReached_18 n) hT hZ hC hL h13 (cntF th Z - r) r FU W q r (by omega) (FU_gt (by omega)) (show p < r by omega) (Nat.le_refl r) hQ (fun i h1 h2 => by omega) h2
      obtain ⟨W3, r3, g⟩ := ih (p + 1) n W2 q2 r2 (by omega) (by omega) (by omega) f3 f4
      refine ⟨W3, r3, ?_, g.2⟩
      rw [mX3_howManyReached_18, if_neg (nI_ge (show p < r by omega) (by omega)), hQ.2.1 0 (by decide), h13, if_neg (nI_ge (show p < cntF th Z by omega) (by omega)), f1]
      exact g.1
theorem X_reached (hT : TX W0 L Z CL TU OW br wh) (hZ : Z ≤ 1024) (hC : CL < 2 ^ 10) (hL : L < 9) (hS : StL W0 th Z) (hwt : wt < Z) (hw : th wt = true) : ∃ W2 v, mX3_howManyReached (nI (cntF th wt)) W0 = some (nI v, W2) ∧ KX W0 W2 ∧ ReN th (seeX L CL TU br) Z wt v := by
  have hcZ := cntF_le th Z
  have hlt := cntF_lt hwt hw
  have hrow : ∀ i, i < cntF th Z → W0.1 4 7 i = nI (stQ th Z i) := fun i hi => by
    obtain ⟨s1, s2, s3⟩ := stQ_spec hi
    have e := hS.2 _ s1 s2
    rw [s3] at e
    exact e
  have esw := X_swap (W := W0) (a := 0) (b := cntF th wt) (by decide) (by omega) (hrow 0 (by omega)) (hrow _ hlt)
  have eq0 : stQ th Z (cntF th wt) = wt := stQ_ls wt hwt hw
  have inj : ∀ i j, i < cntF th Z → j < cntF th Z → stQ th Z i = stQ th Z j → i = j := fun i j hi hj e => by
    have h1 := (stQ_spec hi).2.2
    have h2 := (stQ_spec hj).2.2
    rw [e] at h1
    omega
  obtain ⟨W2, v, f1, f2, f3⟩ := X_q18 (W0 := W0) (wt := wt) hT hZ hC hL hS.1 (cntF th Z) 0 FU (am_set (am_set W0 4 7 0 (nI (stQ th Z (cntF th wt)))) 4 7 (cntF th wt) (nI (stQ th Z 0))) (swp (stQ th Z) 0 (cntF th wt)) 1 (by omega) (FU_gt (by omega)) (by omega) ⟨((KX.rf W0).set (Or.inl ⟨by decide, by decide⟩)).set (Or.inl ⟨by decide, by decide⟩), fun a y => by rw [am_get_row (Or.inr y), am_get_row (Or.inr y)], ⟨Nat.le_refl 1, by rw [swp_a, eq0], fun i hi => by
      have : i = 0 := by omega
      rw [this, swp_a, eq0]
      exact ⟨hwt, hw⟩, fun i j hi hj _ => by omega, fun S hSS i hi => by
      have : i = 0 := by omega
      rw [this, swp_a, eq0]
      exact hSS.1⟩, by omega, fun i hi => by
      obtain ⟨k, k1, k2, -⟩ := swp_at (q := stQ th Z) (show 0 < cntF th Z by omega) hlt i hi
      obtain ⟨s1, s2, -⟩ := stQ_spec k1
      exact ⟨swp_row (show 0 < cntF th Z by omega) hlt hrow i hi, by rw [k2]; exact ⟨s1, s2⟩⟩, swp_inj (show 0 < cntF th Z by omega) hlt inj⟩ (fun i hi => absurd hi (Nat.not_lt_zero i))
  refine ⟨W2, v, ?_, f2, f3⟩
  have esw' : mX3_swapStays 0 (nI (cntF th wt)) W0 = some ((), am_set (am_set W0 4 7 0 (nI (stQ th Z (cntF th wt)))) 4 7 (cntF th wt) (nI (stQ th Z 0))) := esw
  unfold mX3_howManyReached
  rw [if_pos (nI_n9 (by omega)), esw', cl_mk]
  exact f1
theorem X_fitC {fit : Nat → Bool} (h8 : W0.1 4 0 8 = nI Z) (hZ : Z ≤ 1024) (hft : ∀ u, u < Z → (W0.1 4 6 u = 0 ↔ fit u = false)) : mX3_howManyFit W0 = some (nI (cntF fit Z), W0) := by
  unfold mX3_howManyFit
  refine loopE (fun n (s : Int32 × Int32) => mX3_howManyFit_4 n s.1 s.2 W0) Z (fun k => (nI (cntF fit k), nI k)) _ ?_ ?_ FU 0 (Nat.zero_le _) (FU_gt (by omega))
  · intro n t ht
    have e26 : ∀ x : Int32, mX3_howManyFit_26 (mX3_howManyFit_4 n) x (nI t) W0 = mX3_howManyFit_4 n x (nI (t + 1)) W0 := fun x => by
      unfold mX3_howManyFit_26
      rw [nm_mk, show nI t + 1 = nI (t + 1) from nI_add t 1]
    have ecn : cntF fit (t + 1) = cntF fit t + bN (fit t) := rfl
    dsimp only
    rw [mX3_howManyFit_4, h8, if_neg (nI_ge ht (by omega)), at_in W0 (show t < 1024 by omega) (by decide), cl_mk, ecn]
    cases q : fit t
    · rw [if_pos ((hft t ht).mpr q), e26]
      rfl
    · rw [if_neg (fun z => by rw [(hft t ht).mp z] at q; cases q), nm_mk, e26, show nI (cntF fit t) + 1 = nI (cntF fit t + bN true) from nI_add _ 1]
  · intro n
    dsimp only
    rw [mX3_howManyFit_4, h8, if_pos (nI_le (Nat.le_refl Z) (by omega))]
theorem X_ans {fit : Nat → Bool} {rho : Nat} (hT : TX W0 L Z CL TU OW br wh) (hZ : Z ≤ 1024) (hC : CL < 2 ^ 10) (hL : L < 9) (hS : StL W0 th Z) (hwl : ∀ t, wh t < 2) (hft : ∀ u, u < Z → (W0.1 4 6 u = 0 ↔ fit u = false)) (h12 : W0.1 4 0 12 = nI rho) {what : Nat} (hw : what ≤ 6) :
    ∃ W2 a, mX3_answer (nI what) W0 = some (a, W2) ∧ KX W0 W2 ∧ AnsOK what th (seeX L CL TU br) fit (fun t => decide (wh t = 1)) Z rho a := by
  have h5 : ∀ t, t < Z → W0.1 4 5 t = nI (wh t) := fun t ht => (hT.2.2.2 t ht).2.2
  obtain ⟨x, px, hx⟩ := X_place hZ hS.1 hS.2 h5 hwl (v := 1) (by decide)
  have px' : mX3_placeWhere 1 W0 = some (x, W0) := px
  have d1 : ∀ t, (fun t => decide (wh t = 1)) t = true ↔ wh t = 1 := fun t => decide_eq_true_iff
  have d0 : ∀ t, wh t ≠ 1 → (fun t => decide (wh t = 1)) t = false := fun t h => decide_eq_false h
  rcases (show what = 0 ∨ what = 1 ∨ what = 2 ∨ what = 3 ∨ what = 4 ∨ what = 5 ∨ what = 6 by omega) with e | e | e | e | e | e | e
  · subst e
    unfold mX3_answer
    rw [if_pos (show nI 0 = 0 from rfl), px', cl_mk]
    have wh0 : ∀ b : Bool, (mX3_answer_55 (nI (bN b)) W0 : Option (Int32 × AW)) = some (nI (bN b), W0) := fun b => by cases b <;> rfl
    rcases hx with ⟨y1, y2⟩ | ⟨t, t1, t2, t3, t4, t5⟩
    · rw [if_pos y1]
      refine ⟨W0, _, wh0 false, KX.rf W0, fun _ => ?_, fun z => by omega, fun z => by omega, fun z => by omega, fun z => by omega, fun z => by omega, fun z => by omega⟩
      congr 2
      cases q : exB (fun t => th t && decide (wh t = 1)) Z
      · rfl
      · obtain ⟨k, k1, k2⟩ := exB_iff.mp q
        rw [Bool.and_eq_true, decide_eq_true_eq] at k2
        exact absurd k2.2 (y2 k k1 k2.1)
    · have := cntF_le th t
      rw [if_neg (show ¬ x = -9 by rw [t5]; exact nI_n9 (by omega))]
      refine ⟨W0, _, wh0 true, KX.rf W0, fun _ => ?_, fun z => by omega, fun z => by omega, fun z => by omega, fun z => by omega, fun z => by omega, fun z => by omega⟩
      rw [exB_iff.mpr ⟨t, t1, by show (th t && decide (wh t = 1)) = true; rw [t2, t3]; rfl⟩]
  · subst e
    have el := X_law hZ hS.1 hS.2 h5 hwl
    exact ⟨W0, _, el, KX.rf W0, fun z => by omega, fun _ => rfl, fun z => by omega, fun z => by omega, fun z => by omega, fun z => by omega, fun z => by omega⟩
  · subst e
    unfold mX3_answer
    rw [if_neg (show ¬ nI 2 = 0 by decide), if_neg (show ¬ nI 2 = 1 by decide), if_pos (show nI 2 = 2 from rfl), px', cl_mk]
    rcases hx with ⟨y1, y2⟩ | ⟨t, t1, t2, t3, t4, t5⟩
    · rw [if_neg (fun z => z y1)]
      exact ⟨W0, -9, rfl, KX.rf W0, fun z => by omega, fun z => by omega, fun _ => Or.inl ⟨rfl, fun t h1 h2 => d0 t (y2 t h1 h2)⟩, fun z => by omega, fun z => by omega, fun z => by omega, fun z => by omega⟩
    · have hle := cntF_le th t
      rw [if_pos (show x ≠ -9 by rw [t5]; exact nI_n9 (by omega)), px', cl_mk, t5, at_in W0 (show cntF th t < 1024 by omega) (by decide), hS.2 t t1 t2, cl_mk]
      exact ⟨W0, nI t, rfl, KX.rf W0, fun z => by omega, fun z => by omega, fun _ => Or.inr ⟨t, t1, t2, (d1 t).mpr t3, fun u h1 h2 => d0 u (t4 u h1 h2), rfl⟩, fun z => by omega, fun z => by omega, fun z => by omega, fun z => by omega⟩
  · subst e
    unfold mX3_answer
    rw [if_neg (show ¬ nI 3 = 0 by decide), if_neg (show ¬ nI 3 = 1 by decide), if_neg (show ¬ nI 3 = 2 by decide), if_pos (show nI 3 = 3 from rfl), px', cl_mk]
    rcases hx with ⟨y1, y2⟩ | ⟨t, t1, t2, t3, t4, t5⟩
    · have eh : mX3_howManyReached x W0 = some (0, W0) := by
        unfold mX3_howManyReached
        rw [if_neg (fun z => z y1)]
      rw [eh, cl_mk]
      exact ⟨W0, 0, rfl, KX.rf W0, fun z => by omega, fun z => by omega, fun z => by omega, fun _ => Or.inl ⟨rfl, fun t h1 h2 => d0 t (y2 t h1 h2)⟩, fun z => by omega, fun z => by omega, fun z => by omega⟩
    · obtain ⟨W2, v, g1, g2, g3⟩ := X_reached hT hZ hC hL hS t1 t2
      rw [t5, g1, cl_mk]
      exact ⟨W2, nI v, rfl, g2, fun z => by omega, fun z => by omega, fun z => by omega, fun _ => Or.inr ⟨t, v, t1, Or.inr ⟨t, t1, t2, (d1 t).mpr t3, fun u h1 h2 => d0 u (t4 u h1 h2), rfl⟩, g3, rfl⟩, fun z => by omega, fun z => by omega, fun z => by omega⟩
  · subst e
    unfold mX3_answer
    rw [if_neg (show ¬ nI 4 = 0 by decide), if_neg (show ¬ nI 4 = 1 by decide), if_neg (show ¬ nI 4 = 2 by decide), if_neg (show ¬ nI 4 = 3 by decide), if_pos (show nI 4 = 4 from rfl), X_fitC hT.2.1 hZ hft, cl_mk]
    exact ⟨W0, nI (cntF fit Z), rfl, KX.rf W0, fun z => by omega, fun z => by omega, fun z => by omega, fun z => by omega, fun _ => rfl, fun z => by omega, fun z => by omega⟩
  · subst e
    unfold mX3_answer
    rw [if_neg (show ¬ nI 5 = 0 by decide), if_neg (show ¬ nI 5 = 1 by decide), if_neg (show ¬ nI 5 = 2 by decide), if_neg (show ¬ nI 5 = 3 by decide), if_neg (show ¬ nI 5 = 4 by decide), if_pos (show nI 5 = 5 from rfl), hS.1]
    exact ⟨W0, nI (cntF th Z), rfl, KX.rf W0, fun z => by omega, fun z => by omega, fun z => by omega, fun z => by omega, fun z => by omega, fun _ => rfl, fun z => by omega⟩
  · subst e
    unfold mX3_answer
    rw [if_neg (show ¬ nI 6 = 0 by decide), if_neg (show ¬ nI 6 = 1 by decide), if_neg (show ¬ nI 6 = 2 by decide), if_neg (show ¬ nI 6 = 3 by decide), if_neg (show ¬ nI 6 = 4 by decide), if_neg (show ¬ nI 6 = 5 by decide), h12]
    exact ⟨W0, nI rho, rfl, KX.rf W0, fun z => by omega, fun z => by omega, fun z => by omega, fun z => by omega, fun z => by omega, fun z => by omega, fun _ => rfl⟩
end RX2
end
section
/-! the class's types and the model's: the same, but for the order of the bits -/
def BitOK (n : Nat) (pi f : Nat → Nat) : Prop := (∀ j, j < n → pi j < n) ∧ (∀ i, i < n → ∃ j, j < n ∧ pi j = i) ∧ (∀ t, t < 2 ^ n → f t < 2 ^ n) ∧ (∀ t j, t < 2 ^ n → j < n → (f t).testBit (pi j) = t.testBit j) ∧ (∀ u, u < 2 ^ n → ∃ t, t < 2 ^ n ∧ f t = u)
def MskOK (n : Nat) (pi : Nat → Nat) (CL TU OW mu my : Nat) : Prop := CL < 2 ^ n ∧ TU < 2 ^ n ∧ OW < 2 ^ n ∧ mu < 2 ^ n ∧ my < 2 ^ n ∧ ∀ j, j < n → CL.testBit (pi j) = (mu.testBit j || my.testBit j) ∧ TU.testBit (pi j) = my.testBit j ∧ OW.testBit (pi j) = (mu.testBit j || my.testBit j) ∧ (mu.testBit j && my.testBit j) = false
def BrOK (n : Nat) (pi f : Nat → Nat) (mu my : Nat) (br inn : Nat → Nat) : Prop := ∀ t, t < 2 ^ n → ∀ j, j < n → (mu.testBit j = true → (br (f t)).testBit (pi j) = (inn t).testBit j) ∧ (my.testBit j = true → (br (f t)).testBit (pi j) = !(inn t).testBit j)
theorem BitOK.rf (n : Nat) : BitOK n id id := ⟨fun _ h => h, fun i h => ⟨i, h, rfl⟩, fun _ h => h, fun _ _ _ _ => rfl, fun u h => ⟨u, h, rfl⟩⟩
theorem bool_eq {a b : Bool} (h : a = true ↔ b = true) : a = b := by
  cases a <;> cases b <;> simp at h ⊢
theorem mfB_iff {sees : Nat → Bool} {br : Nat → Nat} {o0 Z : Nat} {b0 : Bool} : mfB sees br o0 b0 Z = true ↔ (∃ k, o0.testBit k = true ∧ ∀ u, u < Z → sees u = true → (br u).testBit k = true) ∨ (b0 = true ∧ ∀ u, u < Z → sees u = false) := by
  have ho : ∀ Z k, (owN sees br o0 Z).testBit k = true ↔ (o0.testBit k = true ∧ ∀ u, u < Z → sees u = true → (br u).testBit k = true) := by
    intro Z k
    induction Z with
    | zero => exact ⟨fun h => ⟨h, fun u hu => absurd hu (Nat.not_lt_zero u)⟩, fun h => h.1⟩
    | succ Z ih =>
      show (if sees Z = true then owN sees br o0 Z &&& br Z else owN sees br o0 Z).testBit k = true ↔ _
      by_cases q : sees Z = true
      · rw [if_pos q, Nat.testBit_and, Bool.and_eq_true, ih]
        constructor
        · rintro ⟨⟨h1, h2⟩, h3⟩
          exact ⟨h1, fun u hu z => by
            by_cases e : u = Z
            · rw [e]; exact h3
            · exact h2 u (by omega) z⟩
        · rintro ⟨h1, h2⟩
          exact ⟨⟨h1, fun u hu z => h2 u (by omega) z⟩, h2 Z (by omega) q⟩
      · rw [if_neg q, ih]
        constructor
        · rintro ⟨h1, h2⟩
          exact ⟨h1, fun u hu z => by
            by_cases e : u = Z
            · rw [e] at z; exact absurd z q
            · exact h2 u (by omega) z⟩
        · rintro ⟨h1, h2⟩
          exact ⟨h1, fun u hu z => h2 u (by omega) z⟩
  have hm : ∀ Z, msN sees b0 Z = true ↔ (b0 = true ∧ ∀ u, u < Z → sees u = false) := by
    intro Z
    induction Z with
    | zero => exact ⟨fun h => ⟨h, fun u hu => absurd hu (Nat.not_lt_zero u)⟩, fun h => h.1⟩
    | succ Z ih =>
      show (msN sees b0 Z && !sees Z) = true ↔ _
      rw [Bool.and_eq_true, ih]
      constructor
      · rintro ⟨⟨h1, h2⟩, h3⟩
        exact ⟨h1, fun u hu => by
          by_cases e : u = Z
          · rw [e]; simpa using h3
          · exact h2 u (by omega)⟩
      · rintro ⟨h1, h2⟩
        exact ⟨⟨h1, fun u hu => h2 u (by omega)⟩, by rw [h2 Z (by omega)]; rfl⟩
  unfold mfB
  rw [Bool.or_eq_true, hm]
  constructor
  · rintro (h | h)
    · refine Or.inl ?_
      have hne : owN sees br o0 Z ≠ 0 := by simpa using h
      apply Classical.byContradiction
      intro hno
      apply hne
      refine zero_iff_bits.mpr (fun k => ?_)
      cases e : (owN sees br o0 Z).testBit k
      · rfl
      · exact absurd ⟨k, (ho Z k).mp e⟩ hno
    · exact Or.inr h
  · rintro (⟨k, hk⟩ | h)
    · refine Or.inl ?_
      have : owN sees br o0 Z ≠ 0 := fun z => by
        have := (ho Z k).mpr hk
        rw [z, Nat.zero_testBit] at this
        cases this
      simpa using this
    · exact Or.inr h
section SAME
variable {n : Nat} {pi f : Nat → Nat} {CL TU OW mu my L : Nat} {br inn : Nat → Nat}
theorem sd_pi (hb : BitOK n pi f) (hn : n ≤ 10) {x y : Nat} (hx : x < 2 ^ n) : sdiff x y = 0 ↔ ∀ j, j < n → x.testBit (pi j) = true → y.testBit (pi j) = true := by
  rw [sdiff_zero hx (by omega)]
  constructor
  · intro h j hj z
    exact h (pi j) (hb.1 j hj) z
  · intro h k hk z
    obtain ⟨j, j1, j2⟩ := hb.2.1 k hk
    rw [← j2]
    exact h j j1 (by rw [j2]; exact z)
theorem clN_bit (hb : BitOK n pi f) (hm : MskOK n pi CL TU OW mu my) {a j : Nat} (ha : a < 2 ^ n) (hj : j < n) : (clN CL TU (f a)).testBit (pi j) = ((mu.testBit j && a.testBit j) || (my.testBit j && !a.testBit j)) := by
  obtain ⟨m1, m2, m3, m4⟩ := hm.2.2.2.2.2 j hj
  unfold clN
  rw [Nat.testBit_and, Nat.testBit_xor, hb.2.2.2.1 a j ha hj, m1, m2]
  cases e1 : mu.testBit j <;> cases e2 : my.testBit j <;> cases e3 : a.testBit j <;> simp [e1, e2] at m4 ⊢
theorem clN_ltn (hm : MskOK n pi CL TU OW mu my) (t : Nat) : clN CL TU t < 2 ^ n := Nat.lt_of_le_of_lt Nat.and_le_right hm.1
theorem owM_bit {a j : Nat} : (owM mu my a).testBit j = (a.testBit j && (mu.testBit j || my.testBit j)) := by
  unfold owM
  rw [Nat.testBit_and, Nat.testBit_or]
theorem wnM_bit {a j : Nat} : (wnM mu my a).testBit j = (a.testBit j && mu.testBit j) := by
  unfold wnM
  rw [Nat.testBit_and, owM_bit]
  cases a.testBit j <;> cases mu.testBit j <;> cases my.testBit j <;> rfl
theorem baM_bit {a j : Nat} (hj : j < 32) : (baM mu my a).testBit j = (!a.testBit j && my.testBit j) := by
  unfold baM
  rw [Nat.testBit_and, Nat.testBit_xor, tb_all, owM_bit, decide_eq_true hj]
  cases a.testBit j <;> cases mu.testBit j <;> cases my.testBit j <;> rfl
theorem and_pi {x y : Nat} (hx : x < 2 ^ n) : x &&& y = 0 ↔ ∀ j, j < n → x.testBit j = true → y.testBit j = false := by
  rw [and_zero]
  constructor
  · intro h j _ z
    cases e : y.testBit j
    · rfl
    · exact absurd ⟨z, e⟩ (h j)
  · rintro h j ⟨z1, z2⟩
    have : j < n := by
      rcases Nat.lt_or_ge j n with q | q
      · exact q
      · rw [bits_of_lt hx q] at z1; cases z1
    rw [h j this z1] at z2
    cases z2
theorem see_1 (hb : BitOK n pi f) (hm : MskOK n pi CL TU OW mu my) (hr : BrOK n pi f mu my br inn) (hn : n ≤ 10) {a b : Nat} (ha : a < 2 ^ n) (hb2 : b < 2 ^ n) : sdiff (clN CL TU (f a)) (br (f b)) = 0 ↔ (sdiff (wnM mu my a) (inn b) = 0 ∧ baM mu my a &&& inn b = 0) := by
  have w1 : wnM mu my a < 2 ^ n := Nat.lt_of_le_of_lt Nat.and_le_right hm.2.2.2.1
  have w2 : baM mu my a < 2 ^ n := Nat.lt_of_le_of_lt Nat.and_le_right hm.2.2.2.2.1
  rw [sd_pi hb hn (clN_ltn hm _), sdiff_zero w1 (by omega), and_pi w2]
  constructor
  · intro h
    refine ⟨fun j hj z => ?_, fun j hj z => ?_⟩
    · have := h j hj
      rw [clN_bit hb hm ha hj] at this
      rw [wnM_bit, Bool.and_eq_true] at z
      rw [(hr b hb2 j hj).1 z.2, z.1, z.2] at this
      exact this rfl
    · have := h j hj
      rw [clN_bit hb hm ha hj] at this
      rw [baM_bit (by omega), Bool.and_eq_true] at z
      rw [(hr b hb2 j hj).2 z.2, z.1, z.2, Bool.true_and, Bool.or_true] at this
      simpa using this rfl
  · rintro ⟨h1, h2⟩ j hj z
    rw [clN_bit hb hm ha hj, Bool.or_eq_true, Bool.and_eq_true, Bool.and_eq_true] at z
    rcases z with ⟨z1, z2⟩ | ⟨z1, z2⟩
    · rw [(hr b hb2 j hj).1 z1]
      exact h1 j hj (by rw [wnM_bit, z1, z2]; rfl)
    · rw [(hr b hb2 j hj).2 z1, h2 j hj (by rw [baM_bit (by omega), z1, z2]; rfl)]
      rfl
theorem see_2 (hb : BitOK n pi f) (hm : MskOK n pi CL TU OW mu my) (hn : n ≤ 10) {a b : Nat} (ha : a < 2 ^ n) (hb2 : b < 2 ^ n) : sdiff (clN CL TU (f a)) (clN CL TU (f b)) = 0 ↔ (sdiff (wnM mu my a) (owM mu my b) = 0 ∧ baM mu my a &&& owM mu my b = 0) := by
  have w1 : wnM mu my a < 2 ^ n := Nat.lt_of_le_of_lt Nat.and_le_right hm.2.2.2.1
  have w2 : baM mu my a < 2 ^ n := Nat.lt_of_le_of_lt Nat.and_le_right hm.2.2.2.2.1
  rw [sd_pi hb hn (clN_ltn hm _), sdiff_zero w1 (by omega), and_pi w2]
  constructor
  · intro h
    refine ⟨fun j hj z => ?_, fun j hj z => ?_⟩
    · have := h j hj
      have m4 := (hm.2.2.2.2.2 j hj).2.2.2
      rw [clN_bit hb hm ha hj, clN_bit hb hm hb2 hj] at this
      rw [wnM_bit, Bool.and_eq_true] at z
      rw [owM_bit]
      cases e1 : my.testBit j <;> cases e3 : b.testBit j <;> simp [e1, e3, z.1, z.2] at this m4 ⊢
    · have := h j hj
      have m4 := (hm.2.2.2.2.2 j hj).2.2.2
      rw [clN_bit hb hm ha hj, clN_bit hb hm hb2 hj] at this
      rw [baM_bit (by omega), Bool.and_eq_true] at z
      rw [owM_bit]
      have z1 : a.testBit j = false := by simpa using z.1
      cases e1 : mu.testBit j <;> cases e3 : b.testBit j <;> simp [e1, e3, z1, z.2] at this m4 ⊢
  · rintro ⟨h1, h2⟩ j hj z
    have m4 := (hm.2.2.2.2.2 j hj).2.2.2
    rw [clN_bit hb hm ha hj, Bool.or_eq_true, Bool.and_eq_true, Bool.and_eq_true] at z
    rw [clN_bit hb hm hb2 hj]
    rcases z with ⟨z1, z2⟩ | ⟨z1, z2⟩
    · have := h1 j hj (by rw [wnM_bit, z1, z2]; rfl)
      rw [owM_bit, Bool.and_eq_true] at this
      rw [z1, this.1]
      rfl
    · have := h2 j hj (by rw [baM_bit (by omega), z1, z2]; rfl)
      rw [owM_bit, z1, Bool.or_true, Bool.and_true] at this
      rw [z1, this]
      simp
theorem see_3 (hb : BitOK n pi f) (hm : MskOK n pi CL TU OW mu my) {a b : Nat} (ha : a < 2 ^ n) (hb2 : b < 2 ^ n) : clN CL TU (f a) = clN CL TU (f b) ↔ owM mu my a = owM mu my b := by
  have lt : ∀ t, owM mu my t < 2 ^ n := fun t => Nat.lt_of_le_of_lt Nat.and_le_right (or_lt hm.2.2.2.1 hm.2.2.2.2.1)
  constructor
  · intro h
    refine Nat.eq_of_testBit_eq (fun j => ?_)
    rcases Nat.lt_or_ge j n with hj | hj
    · have e := congrArg (fun x => Nat.testBit x (pi j)) h
      have m4 := (hm.2.2.2.2.2 j hj).2.2.2
      rw [clN_bit hb hm ha hj, clN_bit hb hm hb2 hj] at e
      rw [owM_bit, owM_bit]
      cases e1 : mu.testBit j <;> cases e2 : my.testBit j <;> cases e3 : a.testBit j <;> cases e4 : b.testBit j <;> simp [e1, e2, e3, e4] at e m4 ⊢
    · rw [bits_of_lt (lt a) hj, bits_of_lt (lt b) hj]
  · intro h
    refine Nat.eq_of_testBit_eq (fun k => ?_)
    rcases Nat.lt_or_ge k n with hk | hk
    · obtain ⟨j, hj, rfl⟩ := hb.2.1 k hk
      have e := congrArg (fun x => Nat.testBit x j) h
      rw [owM_bit, owM_bit] at e
      rw [clN_bit hb hm ha hj, clN_bit hb hm hb2 hj]
      cases e1 : mu.testBit j <;> cases e2 : my.testBit j <;> cases e3 : a.testBit j <;> cases e4 : b.testBit j <;> simp [e1, e2, e3, e4] at e ⊢
    · rw [bits_of_lt (clN_ltn hm _) hk, bits_of_lt (clN_ltn hm _) hk]
theorem let_iff {far : Bool} {a b : Nat} : letB mu my inn far a b = true ↔ (sdiff (wnM mu my a) (inn b) = 0 ∧ baM mu my a &&& inn b = 0) ∧ (far = true → sdiff (wnM mu my a) (owM mu my b) = 0 ∧ baM mu my a &&& owM mu my b = 0) := by
  unfold letB
  rw [Bool.and_eq_true, Bool.and_eq_true, decide_eq_true_eq, decide_eq_true_eq, Bool.or_eq_true, Bool.and_eq_true, decide_eq_true_eq, decide_eq_true_eq]
  cases far <;> simp [and_assoc]
theorem see_eq (hb : BitOK n pi f) (hm : MskOK n pi CL TU OW mu my) (hr : BrOK n pi f mu my br inn) (hn : n ≤ 10) (hL : L < 8) {a b : Nat} (ha : a < 2 ^ n) (hb2 : b < 2 ^ n) : seeX L CL TU br (f a) (f b) = seeM L mu my inn a b := by
  have s1 := see_1 hb hm hr hn ha hb2
  have s1' := see_1 hb hm hr hn hb2 ha
  have s2 := see_2 hb hm hn ha hb2
  have s3 := see_3 hb hm ha hb2
  have l1 : ∀ far, letB mu my inn far a b = true ↔ (sdiff (clN CL TU (f a)) (br (f b)) = 0 ∧ (far = true → sdiff (clN CL TU (f a)) (clN CL TU (f b)) = 0)) := fun far => by rw [let_iff, s1, s2]
  have l2 : letB mu my inn false b a = true ↔ sdiff (clN CL TU (f b)) (br (f a)) = 0 := by rw [let_iff, s1']; simp
  apply bool_eq
  unfold seeX seeM
  rw [Bool.and_eq_true, Bool.and_eq_true, Bool.and_eq_true, decide_eq_true_eq, l1, Bool.or_eq_true, Bool.or_eq_true, l2, decide_eq_true_eq (p := owM mu my a = owM mu my b), ← s3]
  match L, hL with
  | 0, _ => simp
  | 1, _ => simp
  | 2, _ => simp
  | 3, _ => simp
  | 4, _ => simp
  | 5, _ => simp
  | 6, _ => simp
  | 7, _ => simp
theorem fit_eq (hb : BitOK n pi f) (hm : MskOK n pi CL TU OW mu my) (hr : BrOK n pi f mu my br inn) (hn : n ≤ 10) (hL : L < 8) {a : Nat} (ha : a < 2 ^ n) : fitX L CL TU br (f a) = fitM L mu my inn a := by
  unfold fitX fitM
  rw [see_eq hb hm hr hn hL ha ha]
  by_cases q : L = 2 ∨ L = 4 ∨ 5 < L
  · rw [if_pos q, if_pos (by omega)]
  · rw [if_neg q, if_neg (by omega)]
theorem o0M_bit {t j : Nat} (hj : j < 32) : (o0M mu my t).testBit j = ((t.testBit j && my.testBit j) || (!t.testBit j && mu.testBit j)) := by
  unfold o0M
  rw [Nat.testBit_or, Nat.testBit_and, Nat.testBit_and, Nat.testBit_xor, tb_all, owM_bit, decide_eq_true hj]
  cases t.testBit j <;> cases mu.testBit j <;> cases my.testBit j <;> rfl
theorem brM_bit {u j : Nat} (hj : j < 32) : (brM mu my inn u).testBit j = !(((inn u).testBit j && my.testBit j) || (!(inn u).testBit j && mu.testBit j)) := by
  unfold brM
  rw [Nat.testBit_xor, Nat.testBit_or, Nat.testBit_and, Nat.testBit_and, Nat.testBit_xor, tb_all, decide_eq_true hj]
  cases (inn u).testBit j <;> cases mu.testBit j <;> cases my.testBit j <;> rfl
theorem mf_eq (hb : BitOK n pi f) (hm : MskOK n pi CL TU OW mu my) (hr : BrOK n pi f mu my br inn) (hn : n ≤ 10) (hL : L < 8) {thX thM : Nat → Bool} (hth : ∀ u, u < 2 ^ n → thX (f u) = thM u) {t : Nat} (ht : t < 2 ^ n) : mfX L (2 ^ n) CL TU OW br thX (f t) = mfM L mu my inn (2 ^ n) thM t := by
  have hs : ∀ u, u < 2 ^ n → (thX (f u) && seeX L CL TU br (f t) (f u)) = (thM u && seeM L mu my inn t u) := fun u hu => by rw [hth u hu, see_eq hb hm hr hn hL ht hu]
  have hall : ∀ Q : Nat → Prop, (∀ v, v < 2 ^ n → Q v) ↔ ∀ u, u < 2 ^ n → Q (f u) := fun Q => ⟨fun h u hu => h _ (hb.2.2.1 u hu), fun h v hv => by
    obtain ⟨u, u1, u2⟩ := hb.2.2.2.2 v hv
    rw [← u2]
    exact h u u1⟩
  have ho : ∀ j, j < n → (sdiff OW (clN CL TU (f t))).testBit (pi j) = (o0M mu my t).testBit j := fun j hj => by
    obtain ⟨m1, m2, m3, m4⟩ := hm.2.2.2.2.2 j hj
    have hO : OW < 2 ^ 32 := Nat.lt_of_lt_of_le hm.2.2.1 (Nat.pow_le_pow_right (by decide) (by omega))
    rw [tb_sdiff hO, m3, clN_bit hb hm ht hj, o0M_bit (by omega)]
    cases e1 : mu.testBit j <;> cases e2 : my.testBit j <;> cases e3 : t.testBit j <;> simp [e1, e2] at m4 ⊢
  have hbr : ∀ j, j < n → (o0M mu my t).testBit j = true → ∀ u, u < 2 ^ n → (br (f u)).testBit (pi j) = (brM mu my inn u).testBit j := fun j hj z u hu => by
    obtain ⟨m1, m2, m3, m4⟩ := hm.2.2.2.2.2 j hj
    obtain ⟨r1, r2⟩ := hr u hu j hj
    rw [o0M_bit (by omega)] at z
    rw [brM_bit (by omega)]
    cases e1 : mu.testBit j
    · cases e2 : my.testBit j
      · rw [e1, e2] at z
        simp at z
      · rw [r2 e2]
        cases (inn u).testBit j <;> rfl
    · have e2 : my.testBit j = false := by
        rw [e1, Bool.true_and] at m4
        exact m4
      rw [r1 e1, e2]
      cases (inn u).testBit j <;> rfl
  have lo : sdiff OW (clN CL TU (f t)) < 2 ^ n := sdiff_lt hm.2.2.1
  have lo2 : o0M mu my t < 2 ^ n := or_lt (Nat.lt_of_le_of_lt Nat.and_le_right hm.2.2.2.2.1) (Nat.lt_of_le_of_lt Nat.and_le_right hm.2.2.2.1)
  apply bool_eq
  unfold mfX mfM
  rw [mfB_iff, mfB_iff]
  rw [hall (fun v => (thX v && seeX L CL TU br (f t) v) = false)]
  have h2 : (∀ u, u < 2 ^ n → (thX (f u) && seeX L CL TU br (f t) (f u)) = false) ↔ ∀ u, u < 2 ^ n → (thM u && seeM L mu my inn t u) = false := ⟨fun h u hu => by rw [← hs u hu]; exact h u hu, fun h u hu => by rw [hs u hu]; exact h u hu⟩
  rw [h2]
  have h1 : (∃ k, (sdiff OW (clN CL TU (f t))).testBit k = true ∧ ∀ u, u < 2 ^ n → (thX u && seeX L CL TU br (f t) u) = true → (br u).testBit k = true) ↔ ∃ k, (o0M mu my t).testBit k = true ∧ ∀ u, u < 2 ^ n → (thM u && seeM L mu my inn t u) = true → (brM mu my inn u).testBit k = true := by
    constructor
    · rintro ⟨k, k1, k2⟩
      have hk : k < n := by
        rcases Nat.lt_or_ge k n with q | q
        · exact q
        · rw [bits_of_lt lo q] at k1; cases k1
      obtain ⟨j, hj, rfl⟩ := hb.2.1 k hk
      rw [ho j hj] at k1
      refine ⟨j, k1, fun u hu z => ?_⟩
      rw [← hbr j hj k1 u hu]
      exact k2 (f u) (hb.2.2.1 u hu) (by rw [hs u hu]; exact z)
    · rintro ⟨j, k1, k2⟩
      have hj : j < n := by
        rcases Nat.lt_or_ge j n with q | q
        · exact q
        · rw [bits_of_lt lo2 q] at k1; cases k1
      refine ⟨pi j, by rw [ho j hj]; exact k1, ?_⟩
      rw [hall (fun v => (thX v && seeX L CL TU br (f t) v) = true → (br v).testBit (pi j) = true)]
      intro u hu z
      rw [hbr j hj k1 u hu]
      exact k2 u hu (by rw [← hs u hu]; exact z)
  rw [h1]
theorem th_eq (hb : BitOK n pi f) (hm : MskOK n pi CL TU OW mu my) (hr : BrOK n pi f mu my br inn) (hn : n ≤ 10) (hL : L < 8) : ∀ r t, t < 2 ^ n → thN (fitX L CL TU br) (mfX L (2 ^ n) CL TU OW br) r (f t) = thN (fitM L mu my inn) (mfM L mu my inn (2 ^ n)) r t := by
  intro r
  induction r with
  | zero => exact fun t ht => fit_eq hb hm hr hn hL ht
  | succ r ih =>
    intro t ht
    show (thN (fitX L CL TU br) (mfX L (2 ^ n) CL TU OW br) r (f t) && !mfX L (2 ^ n) CL TU OW br (thN (fitX L CL TU br) (mfX L (2 ^ n) CL TU OW br) r) (f t)) = (thN (fitM L mu my inn) (mfM L mu my inn (2 ^ n)) r t && !mfM L mu my inn (2 ^ n) (thN (fitM L mu my inn) (mfM L mu my inn (2 ^ n)) r) t)
    rw [ih t ht, mf_eq hb hm hr hn hL ih ht]
theorem fl_eq (hb : BitOK n pi f) (hm : MskOK n pi CL TU OW mu my) (hr : BrOK n pi f mu my br inn) (hn : n ≤ 10) (hL : L < 8) : ∀ r t, t < 2 ^ n → flV (fitX L CL TU br) (mfX L (2 ^ n) CL TU OW br) r (f t) = flV (fitM L mu my inn) (mfM L mu my inn (2 ^ n)) r t := by
  intro r
  induction r with
  | zero =>
    intro t ht
    show (if fitX L CL TU br (f t) = true then (-9 : Int32) else nI 0) = if fitM L mu my inn t = true then -9 else nI 0
    rw [fit_eq hb hm hr hn hL ht]
  | succ r ih =>
    intro t ht
    show (if thN (fitX L CL TU br) (mfX L (2 ^ n) CL TU OW br) r (f t) = true ∧ mfX L (2 ^ n) CL TU OW br (thN (fitX L CL TU br) (mfX L (2 ^ n) CL TU OW br) r) (f t) = true then nI (r + 1) else flV (fitX L CL TU br) (mfX L (2 ^ n) CL TU OW br) r (f t)) = if thN (fitM L mu my inn) (mfM L mu my inn (2 ^ n)) r t = true ∧ mfM L mu my inn (2 ^ n) (thN (fitM L mu my inn) (mfM L mu my inn (2 ^ n)) r) t = true then nI (r + 1) else flV (fitM L mu my inn) (mfM L mu my inn (2 ^ n)) r t
    rw [ih t ht, th_eq hb hm hr hn hL r t ht, mf_eq hb hm hr hn hL (th_eq hb hm hr hn hL r) ht]
theorem any_eq (hb : BitOK n pi f) (hm : MskOK n pi CL TU OW mu my) (hr : BrOK n pi f mu my br inn) (hn : n ≤ 10) (hL : L < 8) (r : Nat) : anyN (fitX L CL TU br) (mfX L (2 ^ n) CL TU OW br) (2 ^ n) r = anyN (fitM L mu my inn) (mfM L mu my inn (2 ^ n)) (2 ^ n) r := by
  apply bool_eq
  unfold anyN
  rw [exB_iff, exB_iff]
  constructor
  · rintro ⟨k, k1, k2⟩
    obtain ⟨t, t1, rfl⟩ := hb.2.2.2.2 k k1
    rw [th_eq hb hm hr hn hL r t t1, mf_eq hb hm hr hn hL (th_eq hb hm hr hn hL r) t1] at k2
    exact ⟨t, t1, k2⟩
  · rintro ⟨t, t1, k2⟩
    refine ⟨f t, hb.2.2.1 t t1, ?_⟩
    rw [th_eq hb hm hr hn hL r t t1, mf_eq hb hm hr hn hL (th_eq hb hm hr hn hL r) t1]
    exact k2
end SAME
end
section
/-! the class's bits against the model's list -/
def LQ (h : Nat → Bool) (P nb : Nat) (q : Nat → Nat) : Prop := (∀ j, j < nb → q j < P ∧ h (q j) = true) ∧ (∀ i j, i < nb → j < nb → q i = q j → i = j) ∧ (∀ p, p < P → h p = true → ∃ j, j < nb ∧ q j = p)
theorem rk_inj {h : Nat → Bool} {pl : Nat → Nat} {P p p2 : Nat} (hp : p < P) (hp2 : p2 < P) (h1 : h p = true) (h2 : h p2 = true) (e : rkF h pl P p = rkF h pl P p2) : p = p2 := by
  have key : ∀ a b, a < P → h a = true → (pl a < pl b ∨ (pl a = pl b ∧ a < b)) → rkF h pl P a < rkF h pl P b := fun a b ha ha2 z => by
    unfold rkF
    refine cntF_strict ha (fun q _ y => ?_) ?_ ?_
    · unfold befB at y ⊢
      rw [Bool.and_eq_true, decide_eq_true_eq] at y ⊢
      exact ⟨y.1, by omega⟩
    · unfold befB
      rw [decide_eq_false (by omega), Bool.and_false]
    · unfold befB
      rw [ha2, decide_eq_true z]
      rfl
  rcases Nat.lt_trichotomy (pl p) (pl p2) with z | z | z
  · have := key p p2 hp h1 (Or.inl z); omega
  · rcases Nat.lt_trichotomy p p2 with y | y | y
    · have := key p p2 hp h1 (Or.inr ⟨z, y⟩); omega
    · exact y
    · have := key p2 p hp2 h2 (Or.inr ⟨z.symm, y⟩); omega
  · have := key p2 p hp2 h2 (Or.inl z); omega
/-- a map into n places that never meets itself meets all -/
theorem pig {pi : Nat → Nat} {n : Nat} (h1 : ∀ j, j < n → pi j < n) (h2 : ∀ i j, i < n → j < n → pi i = pi j → i = j) {i : Nat} (hi : i < n) : ∃ j, j < n ∧ pi j = i := by
  apply Classical.byContradiction
  intro hno
  have hm : memB pi n i = false := by
    cases e : memB pi n i
    · rfl
    · exact absurd (memB_iff.mp e) hno
  have e1 := (memB_cnt (q := pi) (P := n) n).2 h1 h2
  have := cntF_strict (h := memB pi n) (g := fun _ => true) hi (fun _ _ _ => rfl) hm rfl
  have := cntF_le (fun _ => true) n
  omega
section LQS
variable {h : Nat → Bool} {P nb : Nat} {q pl : Nat → Nat}
theorem LQ.cnt (hk : LQ h P nb q) : cntF h P = nb := Nat.le_antisymm (cnt_surj hk.2.2) (cnt_inj hk.1 hk.2.1)
theorem LQ.pi_lt (hk : LQ h P nb q) {j : Nat} (hj : j < nb) : rkF h pl P (q j) < nb := by
  have := rkF_lt (pl := pl) (hk.1 j hj).1 (hk.1 j hj).2
  rw [hk.cnt] at this
  exact this
theorem LQ.pi_inj (hk : LQ h P nb q) : ∀ i j, i < nb → j < nb → rkF h pl P (q i) = rkF h pl P (q j) → i = j := fun i j hi hj e =>
  hk.2.1 i j hi hj (rk_inj (hk.1 i hi).1 (hk.1 j hj).1 (hk.1 i hi).2 (hk.1 j hj).2 e)
theorem LQ.pi_surj (hk : LQ h P nb q) {i : Nat} (hi : i < nb) : ∃ j, j < nb ∧ rkF h pl P (q j) = i := pig (pi := fun j => rkF h pl P (q j)) (fun _ hj => hk.pi_lt hj) hk.pi_inj hi
/-- a type of the model's as one of the class's -/
def fT (h : Nat → Bool) (P nb : Nat) (q pl : Nat → Nat) (t : Nat) : Nat := orF (fun j => if t.testBit j = true then 2 ^ (rkF h pl P (q j)) else 0) nb
theorem fT_bit (hk : LQ h P nb q) {t j : Nat} (hj : j < nb) : (fT h P nb q pl t).testBit (rkF h pl P (q j)) = t.testBit j := by
  apply bool_eq
  unfold fT
  rw [tb_orF]
  constructor
  · rintro ⟨k, k1, k2⟩
    split at k2
    · rename_i z
      rw [tb_pow, decide_eq_true_eq] at k2
      rw [← hk.pi_inj (pl := pl) k j k1 hj k2]
      exact z
    · rw [Nat.zero_testBit] at k2; cases k2
  · intro z
    exact ⟨j, hj, by rw [if_pos z, tb_pow, decide_eq_true rfl]⟩
theorem fT_ok (hk : LQ h P nb q) : BitOK nb (fun j => rkF h pl P (q j)) (fT h P nb q pl) := by
  have hlt : ∀ t, fT h P nb q pl t < 2 ^ nb := fun t => orF_lt (fun j hj => by
    split
    · exact pow_lt_of (hk.pi_lt hj)
    · exact Nat.two_pow_pos nb)
  refine ⟨fun j hj => hk.pi_lt hj, fun i hi => hk.pi_surj hi, fun t _ => hlt t, fun t j _ hj => fT_bit hk hj, fun u hu => ?_⟩
  refine ⟨orF (fun j => if u.testBit (rkF h pl P (q j)) = true then 2 ^ j else 0) nb, orF_lt (fun j hj => by
    split
    · exact pow_lt_of hj
    · exact Nat.two_pow_pos nb), ?_⟩
  refine Nat.eq_of_testBit_eq (fun k => ?_)
  rcases Nat.lt_or_ge k nb with hk2 | hk2
  · obtain ⟨j, hj, rfl⟩ := hk.pi_surj (pl := pl) hk2
    rw [fT_bit hk hj]
    apply bool_eq
    rw [tb_orF]
    constructor
    · rintro ⟨i, i1, i2⟩
      split at i2
      · rename_i z
        rw [tb_pow, decide_eq_true_eq] at i2
        rw [← i2]
        exact z
      · rw [Nat.zero_testBit] at i2; cases i2
    · intro z
      exact ⟨j, hj, by rw [if_pos z, tb_pow, decide_eq_true rfl]⟩
  · rw [bits_of_lt (hlt _) hk2, bits_of_lt hu hk2]
theorem id_ok (hk : LQ h P nb q) (hid : ∀ j, j < nb → rkF h pl P (q j) = j) : BitOK nb (fun j => rkF h pl P (q j)) id := ⟨fun j hj => hk.pi_lt hj, fun i hi => hk.pi_surj hi, fun _ ht => ht, fun t j _ hj => by
    dsimp only [id]
    rw [hid j hj], fun u hu => ⟨u, hu, rfl⟩⟩
theorem msk_bit (hk : LQ h P nb q) {g : Nat → Bool} (hg : ∀ p, g p = true → h p = true) {j : Nat} (hj : j < nb) : (mskF g (rkF h pl P) P).testBit (rkF h pl P (q j)) = g (q j) := by
  apply bool_eq
  unfold mskF
  rw [tb_orF]
  constructor
  · rintro ⟨p, p1, p2⟩
    split at p2
    · rename_i z
      rw [tb_pow, decide_eq_true_eq] at p2
      rw [← rk_inj p1 (hk.1 j hj).1 (hg p z) (hk.1 j hj).2 p2]
      exact z
    · rw [Nat.zero_testBit] at p2; cases p2
  · intro z
    exact ⟨q j, (hk.1 j hj).1, by rw [if_pos z, tb_pow, decide_eq_true rfl]⟩
theorem msk_ltn (hk : LQ h P nb q) {g : Nat → Bool} (hg : ∀ p, g p = true → h p = true) : mskF g (rkF h pl P) P < 2 ^ nb := msk_lt hg (Nat.le_of_eq hk.cnt)
/-- the model's bit of a part -/
noncomputable def jqE (nb : Nat) (q : Nat → Nat) (p : Nat) : Nat := Classical.epsilon (fun j => j < nb ∧ q j = p)
noncomputable def jqF (nb : Nat) (q : Nat → Nat) (p : Nat) : Nat := if jqE nb q p < nb then jqE nb q p else 0
theorem jq_spec {p : Nat} (h : ∃ j, j < nb ∧ q j = p) : jqF nb q p < nb ∧ q (jqF nb q p) = p := by
  have h2 : jqE nb q p < nb ∧ q (jqE nb q p) = p := Classical.epsilon_spec (p := fun j => j < nb ∧ q j = p) h
  unfold jqF
  rw [if_pos h2.1]
  exact h2
theorem jq_lt {p : Nat} (hn : nb ≤ 10) : jqF nb q p < 10 := by
  unfold jqF
  split <;> omega
theorem jq_at (hk : LQ h P nb q) {j : Nat} (hj : j < nb) : jqF nb q (q j) = j := by
  obtain ⟨h1, h2⟩ := jq_spec (nb := nb) (q := q) ⟨j, hj, rfl⟩
  exact hk.2.1 _ _ h1 hj h2
end LQS
section BB
variable {m P nb L : Nat} {c l r b e y ph pl dp bp f : Nat → Nat}
theorem two_bit {x k j : Nat} (hx : x < 2) : (x * 2 ^ k).testBit j = (decide (x = 1) && decide (k = j)) := by
  rcases (show x = 0 ∨ x = 1 by omega) with z | z
  · rw [z, Nat.zero_mul, Nat.zero_testBit]; rfl
  · rw [z, Nat.one_mul, tb_pow]; rfl
/-- the values of the nodes, by the class's bits and by the model's -/
theorem ev_same (hk : LQ (hq L m c ph) P nb (fun j => ph (bp j))) (hs : ShapeOK m c l r) (hc : ClassOK m P c l r ph) (hf : BitOK nb (fun j => rkF (hq L m c ph) pl P (ph (bp j))) f) {t : Nat} (ht : t < 2 ^ nb) : ∀ k, k < m → evV (opT (decide (L = 8)) c ph (rkF (hq L m c ph) pl P) (f t)) c l r k = evV (opT (decide (L = 8)) c ph (jqF nb (fun j => ph (bp j))) t) c l r k := by
  have hop : ∀ k, k < m → opT (decide (L = 8)) c ph (rkF (hq L m c ph) pl P) (f t) k = opT (decide (L = 8)) c ph (jqF nb (fun j => ph (bp j))) t k := fun k hkm => by
    funext a b
    unfold opT
    by_cases z : hbB (decide (L = 8)) (c k) = true
    · rw [if_pos z, if_pos z]
      have hh : hq L m c ph (ph k) = true := by
        unfold hq
        obtain ⟨z1, z2⟩ := rpF_spec hc (hc.1 k hkm)
        rw [hb_same hc z1 hkm z2]
        exact z
      obtain ⟨j, j1, j2⟩ := hk.2.2 (ph k) (hc.1 k hkm) hh
      have j2' : ph (bp j) = ph k := j2
      have e1 : jqF nb (fun j => ph (bp j)) (ph k) = j := by rw [← j2']; exact jq_at hk j1
      have e2 := hf.2.2.2.1 t j ht j1
      dsimp only at e2
      rw [j2'] at e2
      rw [e1, e2]
    · rw [if_neg z, if_neg z]
  have main : ∀ n k, k < n → k < m → evV (opT (decide (L = 8)) c ph (rkF (hq L m c ph) pl P) (f t)) c l r k = evV (opT (decide (L = 8)) c ph (jqF nb (fun j => ph (bp j))) t) c l r k := by
    intro n
    induction n with
    | zero => intro k hk; omega
    | succ n ih =>
      intro k hkn hkm
      rw [evV_eq hs hkm, evV_eq hs hkm, hop k hkm]
      unfold argA argB
      rcases hs k hkm with g | ⟨g, g1⟩ | ⟨g, g1, g2⟩
      · rw [kd_leaf g, if_pos rfl, if_pos rfl, if_neg (by decide), if_neg (by decide)]
      · rw [kd_pre g, ih (l k) (by omega) (by omega), if_neg (show ¬ (1 = 2) by decide), if_neg (show ¬ (1 = 2) by decide)]
      · rw [kd_jn g, ih (l k) (by omega) (by omega), ih (r k) (by omega) (by omega)]
  exact fun k hk2 => main (k + 1) k (Nat.lt_succ_self k) hk2
/-- the sign of a part in the list -/
theorem list_c (hc : ClassOK m P c l r ph) {j : Nat} (hb : bp j < m) : c (rpF m ph (ph (bp j))) = c (bp j) ∧ rpF m ph (ph (bp j)) < m ∧ ph (rpF m ph (ph (bp j))) = ph (bp j) := by
  obtain ⟨z1, z2⟩ := rpF_spec hc (hc.1 (bp j) hb)
  exact ⟨((hc.2.2.2.2 _ _ z1 hb).mp z2).1, z1, z2⟩
theorem hb_modal {cc : Nat} (h : hbB false cc = true) (ha : atmB cc = false) : cc = 91 ∨ cc = 123 := by
  unfold hbB at h
  rw [ha, Bool.false_or, if_neg (by decide)] at h
  unfold modB at h
  rw [decide_eq_true_eq] at h
  exact h
theorem msk_same (hk : LQ (hq L m c ph) P nb (fun j => ph (bp j))) (hc : ClassOK m P c l r ph) (hbp : ∀ j, j < nb → bp j < m) (hL : L < 8) : MskOK nb (fun j => rkF (hq L m c ph) pl P (ph (bp j))) (CLf L m P c ph pl) (TUf L m P c ph pl) (OWf L m P c ph pl) (muN c bp nb) (myN c bp nb) := by
  have g1 : ∀ p, clF L m c ph p = true → hq L m c ph p = true := fun p z => by unfold clF at z; rw [Bool.and_eq_true] at z; exact z.1
  have g2 : ∀ p, tuF L m c ph p = true → hq L m c ph p = true := fun p z => by unfold tuF at z; rw [Bool.and_eq_true] at z; exact z.1
  have g3 : ∀ p, owF L m c ph p = true → hq L m c ph p = true := fun p z => by unfold owF at z; rw [Bool.and_eq_true] at z; exact z.1
  have mk : ∀ f : Nat → Prop, [∀ j, Decidable (f j)] → orF (fun j => if f j then 2 ^ j else 0) nb < 2 ^ nb := fun f _ => orF_lt (fun j hj => by
    split
    · exact pow_lt_of hj
    · exact Nat.two_pow_pos nb)
  refine ⟨msk_ltn hk g1, msk_ltn hk g2, msk_ltn hk g3, mk _, mk _, fun j hj => ?_⟩
  have e1 := msk_bit (pl := pl) hk g1 hj
  have e2 := msk_bit (pl := pl) hk g2 hj
  have e3 := msk_bit (pl := pl) hk g3 hj
  obtain ⟨k1, k2, k3⟩ := list_c hc (hbp j hj)
  have hh : hq L m c ph (ph (bp j)) = true := (hk.1 j hj).2
  have d8 : decide (L = 8) = false := decide_eq_false (by omega)
  have hh2 : hbB false (c (bp j)) = true := by
    have : hq L m c ph (ph (bp j)) = hbB (decide (L = 8)) (c (rpF m ph (ph (bp j)))) := rfl
    rw [this, k1, d8] at hh
    exact hh
  have m1 : (muN c bp nb).testBit j = decide (c (bp j) = 91) := bool_eq (by rw [tb_muN, decide_eq_true_eq]; exact ⟨fun z => z.2, fun z => ⟨hj, z⟩⟩)
  have m2 : (myN c bp nb).testBit j = decide (c (bp j) = 123) := bool_eq (by rw [tb_myN, decide_eq_true_eq]; exact ⟨fun z => z.2, fun z => ⟨hj, z⟩⟩)
  have c1 : clF L m c ph (ph (bp j)) = !atmB (c (bp j)) := by unfold clF; rw [hh, k1, d8, Bool.or_false, Bool.true_and]
  have c2 : tuF L m c ph (ph (bp j)) = decide (c (bp j) = 123) := by unfold tuF; rw [hh, k1, Bool.true_and]
  have c3 : owF L m c ph (ph (bp j)) = !atmB (c (bp j)) := by unfold owF; rw [hh, k1, Bool.true_and]
  have hmod : (!atmB (c (bp j))) = (decide (c (bp j) = 91) || decide (c (bp j) = 123)) := by
    cases a : atmB (c (bp j))
    · rcases hb_modal hh2 a with z | z
      · rw [decide_eq_true z]; rfl
      · rw [decide_eq_true z, Bool.or_true]; rfl
    · unfold atmB at a
      rw [decide_eq_true_eq] at a
      rw [decide_eq_false (by omega), decide_eq_false (by omega)]
      rfl
  dsimp only at e1 e2 e3 ⊢
  unfold CLf TUf OWf
  rw [e1, e2, e3, m1, m2, c1, c2, c3, hmod]
  refine ⟨rfl, rfl, rfl, ?_⟩
  by_cases z : c (bp j) = 91
  · rw [decide_eq_false (show ¬ c (bp j) = 123 by omega), Bool.and_false]
  · rw [decide_eq_false z, Bool.false_and]
theorem br_same (hk : LQ (hq L m c ph) P nb (fun j => ph (bp j))) (hs : ShapeOK m c l r) (hc : ClassOK m P c l r ph) (hf : BitOK nb (fun j => rkF (hq L m c ph) pl P (ph (bp j))) f) (hbp : ∀ j, j < nb → bp j < m) (hL : L < 8) : BrOK nb (fun j => rkF (hq L m c ph) pl P (ph (bp j))) f (muN c bp nb) (myN c bp nb) (brT L m P c l r ph pl) (fun u => inN c l bp (evV (opT false c ph (jqF nb (fun j => ph (bp j))) u) c l r) nb) := by
  intro t ht j hj
  have d8 : decide (L = 8) = false := decide_eq_false (by omega)
  obtain ⟨k1, k2, k3⟩ := list_c hc (hbp j hj)
  have hev := ev_same hk hs hc hf ht
  have hh : hq L m c ph (ph (bp j)) = true := (hk.1 j hj).2
  have ebit : (brT L m P c l r ph pl (f t)).testBit (rkF (hq L m c ph) pl P (ph (bp j))) = decide (brP L m c l r ph (rkF (hq L m c ph) pl P) (f t) (ph (bp j)) = 1) := by
    apply bool_eq
    unfold brT brF
    rw [tb_orF, decide_eq_true_eq]
    constructor
    · rintro ⟨p, p1, p2⟩
      split at p2
      · rename_i z
        rw [two_bit (brP_lt hs hc p1), Bool.and_eq_true, decide_eq_true_eq, decide_eq_true_eq] at p2
        have e2 : p = ph (bp j) := rk_inj p1 (hk.1 j hj).1 z hh p2.2
        rw [← e2]
        exact p2.1
      · rw [Nat.zero_testBit] at p2; cases p2
    · intro z
      exact ⟨ph (bp j), (hk.1 j hj).1, by rw [if_pos hh, z, two_bit (by decide), decide_eq_true rfl, decide_eq_true rfl]; rfl⟩
  have hpre : c (bp j) = 91 ∨ c (bp j) = 123 → argA c l (evV (opT (decide (L = 8)) c ph (rkF (hq L m c ph) pl P) (f t)) c l r) (rpF m ph (ph (bp j))) = evV (opT false c ph (jqF nb (fun j => ph (bp j))) t) c l r (l (bp j)) := fun z => by
    have pre1 : isPre (c (rpF m ph (ph (bp j)))) := by rw [k1]; unfold isPre; omega
    have pre2 : isPre (c (bp j)) := by unfold isPre; omega
    have hl1 : l (rpF m ph (ph (bp j))) < rpF m ph (ph (bp j)) := by
      rcases hs _ k2 with g | ⟨g, g1⟩ | ⟨g, g1, g2⟩
      · unfold isLeaf at g; unfold isPre at pre1; omega
      · exact g1
      · exact g1
    have hl2 : l (bp j) < bp j := by
      rcases hs _ (hbp j hj) with g | ⟨g, g1⟩ | ⟨g, g1, g2⟩
      · unfold isLeaf at g; unfold isPre at pre2; omega
      · exact g1
      · exact g1
    have hb := hbp j hj
    have el := ((hc.2.2.2.2 _ _ k2 (hbp j hj)).mp k3).2.1 pre1
    unfold argA
    rw [kd_pre pre1, if_neg (by decide), hev _ (by omega), d8]
    exact evV_ph hs hc (fun k i hk1 hi he => by
      funext x z
      unfold opT
      rw [((hc.2.2.2.2 k i hk1 hi).mp he).1, he]) _ _ _ (Nat.lt_succ_self _) (by omega) (by omega) el
  have hin : (inN c l bp (evV (opT false c ph (jqF nb (fun j => ph (bp j))) t) c l r) nb).testBit j = decide ((c (bp j) = 91 ∨ c (bp j) = 123) ∧ evV (opT false c ph (jqF nb (fun j => ph (bp j))) t) c l r (l (bp j)) = 1) := by
    apply bool_eq
    unfold inN
    rw [tb_orF, decide_eq_true_eq]
    constructor
    · rintro ⟨i, i1, i2⟩
      split at i2
      · rename_i z
        rw [tb_pow, decide_eq_true_eq] at i2
        rw [← i2]
        exact z
      · rw [Nat.zero_testBit] at i2; cases i2
    · intro z
      exact ⟨j, hj, by rw [if_pos z, tb_pow, decide_eq_true rfl]⟩
  refine ⟨fun z => ?_, fun z => ?_⟩
  · obtain ⟨-, z⟩ := tb_muN.mp z
    dsimp only
    rw [ebit, hin]
    unfold brP brg
    rw [k1, if_pos z, hpre (Or.inl z)]
    congr 1
    exact propext ⟨fun y => ⟨Or.inl z, y⟩, fun y => y.2⟩
  · obtain ⟨-, z⟩ := tb_myN.mp z
    have hlt : evV (opT false c ph (jqF nb (fun j => ph (bp j))) t) c l r (l (bp j)) < 2 := by
      have hb := hbp j hj
      have pre2 : isPre (c (bp j)) := by unfold isPre; omega
      have hl2 : l (bp j) < bp j := by
        rcases hs _ (hbp j hj) with g | ⟨g, g1⟩ | ⟨g, g1, g2⟩
        · unfold isLeaf at g; unfold isPre at pre2; omega
        · exact g1
        · exact g1
      exact evV_lt hs (by decide) (fun k _ a b ha hb => opT_lt ha hb) _ _ (Nat.lt_succ_self _) (by omega)
    dsimp only
    rw [ebit, hin]
    unfold brP brg
    rw [k1, if_neg (show ¬ c (bp j) = 91 by omega), if_pos z, hpre (Or.inr z)]
    rcases (show evV (opT false c ph (jqF nb (fun j => ph (bp j))) t) c l r (l (bp j)) = 0 ∨ evV (opT false c ph (jqF nb (fun j => ph (bp j))) t) c l r (l (bp j)) = 1 by omega) with y | y
    · rw [y, decide_eq_true rfl, decide_eq_false (fun x => by cases x.2)]
      rfl
    · rw [y, decide_eq_false (by decide), decide_eq_true ⟨Or.inr z, rfl⟩]
      rfl
end BB
end
section
/-! the types of one sentence, both sides -/
section TL
variable {w0 W : AW} {M Z P nb : Nat} {c l r b e y ph pl dp bp : Nat → Nat} {gr : Bool}
theorem TI.lq {L : Nat} (hI : TI w0 W (decide (L = 8)) M c b ph nb bp Z 0) (hc : ClassOK M P c l r ph) (hb : ∀ k, k < M → b k < Z) : LQ (hq L M c ph) P nb (fun j => ph (bp j)) := by
  obtain ⟨t1, t2, t3, t4, t5, t6, t7, t8, t9⟩ := hI
  refine ⟨fun j hj => ?_, fun i j hi hj z => ?_, fun p hp z => ?_⟩
  · obtain ⟨z1, z2, z3⟩ := t6 j hj
    refine ⟨hc.1 _ z1, ?_⟩
    unfold hq
    obtain ⟨y1, y2⟩ := rpF_spec hc (hc.1 _ z1)
    rw [hb_same hc y1 z1 y2]
    exact z3.1
  · rcases Nat.lt_trichotomy i j with q | q | q
    · exact absurd z (t7 i j q hj).1
    · exact q
    · exact absurd z.symm (t7 j i q hi).1
  · obtain ⟨y1, y2⟩ := rpF_spec hc hp
    obtain ⟨j, j1, j2, -⟩ := (t9 _ y1).1 ⟨z, Or.inl (hb _ y1)⟩
    exact ⟨j, j1, j2.trans y2⟩
theorem TI.tb {L : Nat} (hI : TI w0 W (decide (L = 8)) M c b ph nb bp Z 0) (hc : ClassOK M P c l r ph) (hb : ∀ k, k < M → b k < Z) (hW : WorkM w0 M Z c l r b e y) : TB W (decide (L = 8)) M Z nb c l r b e y ph (jqF nb (fun j => ph (bp j))) bp := by
  have hk := hI.lq hc hb
  have hWW := hI.work hW
  obtain ⟨t1, t2, t3, t4, t5, t6, t7, t8, t9⟩ := hI
  refine ⟨hWW, t4, fun j hj => ⟨(t6 j hj).1, (t6 j hj).2.1⟩, fun k hkM => ?_⟩
  by_cases z : hbB (decide (L = 8)) (c k) = true
  · obtain ⟨j, j1, j2, j3⟩ := (t9 k hkM).1 ⟨z, Or.inl (hb k hkM)⟩
    have e1 : jqF nb (fun j => ph (bp j)) (ph k) = j := by rw [← j2]; exact jq_at hk j1
    rw [if_pos z, e1]
    exact j3
  · rw [if_neg z]
    exact (t9 k hkM).2 (fun y => z y.1)
/-- in one sentence the class's bit is the number in the model's list -/
theorem TI.rank {L : Nat} (hI : TI w0 W (decide (L = 8)) M c b ph nb bp Z 0) (hT : TreeOK M c l r b e y) (hp : PartOK M P c l r b ph pl dp) (hb : ∀ k, k < M → b k < Z) : ∀ j, j < nb → rkF (hq L M c ph) pl P (ph (bp j)) = j := by
  have hc := hp.cls
  have hk := hI.lq hc hb
  obtain ⟨t1, t2, t3, t4, t5, t6, t7, t8, t9⟩ := hI
  have hpl : ∀ j, j < nb → pl (ph (bp j)) = b (bp j) := fun j hj => by
    obtain ⟨z1, z2, z3⟩ := t6 j hj
    obtain ⟨k, k1, k2, k3⟩ := hp.2.1 (ph (bp j)) (hc.1 _ z1)
    have h1 := t8 j hj k k1 k2
    have h2 := hp.2.2.1 (bp j) z1
    omega
  have hlist : ListOK (hq L M c ph) P nb (fun j => ph (bp j)) pl := by
    refine ⟨hk.1, fun i j hij hj => ?_, hk.2.2⟩
    have hi : i < nb := by omega
    show pl (ph (bp i)) < pl (ph (bp j))
    rw [hpl i hi, hpl j hj]
    obtain ⟨h1, h2⟩ := t7 i j hij hj
    rcases Nat.lt_or_ge (b (bp i)) (b (bp j)) with q | q
    · exact q
    · have e1 : b (bp i) = b (bp j) := by omega
      exact absurd (read_uniq hT hc _ (bp i) (bp j) (Nat.lt_succ_self _) (t6 i hi).1 (t6 j hj).1 (fun t _ => by rw [e1])).1 h1
  exact fun j hj => list_rank hlist hj
end TL
section LG
theorem X_log_t {k : Nat} (w : AW) (hk : k < 8) : mX5_isLogic (nI k) w = some (nI 1, w) := by
  have c1 : ¬ nI k < nI 0 := nI_nlt (Nat.zero_le k) (by omega)
  have c2 : ¬ nI 8 ≤ nI k := nI_ge hk (by decide)
  simp only [mX5_isLogic, c1, c2, cl_mk, nm_mk, pu_mk, lit, if_true, if_false, ne_eq, not_false_eq_true, not_true_eq_false, nI_add, nI_or, nI_and, Bool.false_eq_true, ne01, ne10, nI_m1', Nat.or_zero]
theorem X_log_f {v : Int32} (w : AW) (hv : ¬ ∃ k, k < 8 ∧ v = nI k) : mX5_isLogic v w = some (nI 0, w) := by
  rcases pk_ix v (n := 8) (by decide) with q | q | ⟨k, hk, rfl⟩
  · have c1 : v < nI 0 := q
    simp only [mX5_isLogic, c1, cl_mk, nm_mk, pu_mk, lit, if_true, if_false, ne_eq, not_false_eq_true, not_true_eq_false, nI_add, nI_or, nI_and, Bool.false_eq_true, ne01, ne10, nI_m1', Nat.or_zero]
  · by_cases c1 : v < nI 0
    · simp only [mX5_isLogic, c1, cl_mk, nm_mk, pu_mk, lit, if_true, if_false, ne_eq, not_false_eq_true, not_true_eq_false, nI_add, nI_or, nI_and, Bool.false_eq_true, ne01, ne10, nI_m1', Nat.or_zero]
    · simp only [mX5_isLogic, c1, q, cl_mk, nm_mk, pu_mk, lit, if_true, if_false, ne_eq, not_false_eq_true, not_true_eq_false, nI_add, nI_or, nI_and, Bool.false_eq_true, ne01, ne10, nI_m1', Nat.or_zero]
  · exact absurd ⟨k, hk, rfl⟩ hv
theorem M_log_t {k : Nat} (w : AW) (hk : k < 8) : mX6_isLogic (nI k) w = some (nI 1, w) := by
  have e := M_in_t w (show k < 7 + 1 from hk) (by decide)
  simp only [Nat.add_sub_cancel] at e
  simp only [mX6_isLogic, e, zr_1, cl_mk, nm_mk, pu_mk, lit, if_true, if_false, ne_eq, not_false_eq_true, not_true_eq_false, nI_add, nI_or, nI_and, Bool.false_eq_true, ne01, ne10, nI_m1', Nat.or_zero]
theorem M_log_f {v : Int32} (w : AW) (hv : ¬ ∃ k, k < 8 ∧ v = nI k) : mX6_isLogic v w = some (nI 0, w) := by
  have e := M_in_f (n := 7 + 1) w hv (by decide) (by decide)
  simp only [Nat.add_sub_cancel] at e
  simp only [mX6_isLogic, e, zr_0, cl_mk, nm_mk, pu_mk, lit, if_true, if_false, ne_eq, not_false_eq_true, not_true_eq_false, nI_add, nI_or, nI_and, Bool.false_eq_true, ne01, ne10, nI_m1', Nat.or_zero]
end LG
section BT
variable {wX w1 : AW} {i L : Nat} {d : SD}
theorem SDok.bZ (hd : SDok d) {k : Nat} (hk : k < sdM d) : sdb d k < sdZ d := by
  have h1 := len_pos hd.2.2.2.2.2.1 (k + 1) k (Nat.lt_succ_self k) hk
  have h2 := hd.2.2.2.2.2.2.2.2.2.2.2.1 k hk
  omega
theorem SDok.plZ (hd : SDok d) {p : Nat} (hp : p < sdP d) : sdp d p < 1000 := by
  obtain ⟨k, k1, k2, k3⟩ := hd.2.2.2.2.2.2.1.2.1 p hp
  have h1 := hd.bZ k1
  have h2 := hd.2.2.2.2.1
  omega
/-- too many bits, on both sides -/
def BothNo (wX w1 : AW) (o L : Nat) (gr : Bool) : Prop := mX3_sortOut o (nI L) wX = some (nI 0, wX) ∧ ∃ W2, mX6_tells (nI (bN gr)) w1 = some (nI 0, W2) ∧ KM w1 W2
/-- both sorted out: f turns the model's types to the class's -/
def BothYes (wX w1 : AW) (o L : Nat) (f : Nat → Nat) : Prop := ∃ (wX2 W2 W3 W4 : AW) (nb rho CL TU OW mu my : Nat) (pi br wh inn : Nat → Nat) (hd : Nat → Bool),
  nb ≤ 10 ∧ rho ≤ 2 ^ nb ∧ BitOK nb pi f ∧ MskOK nb pi CL TU OW mu my ∧ BrOK nb pi f mu my br inn ∧ (∀ t, wh t < 2) ∧ (∀ t, t < 2 ^ nb → decide (wh (f t) = 1) = hd t) ∧
  mX3_countBits o (nI L) wX = some (nI nb, wX) ∧
  mX3_sortOut o (nI L) wX = some (nI 1, wX2) ∧ KX wX wX2 ∧ SO wX2 L (2 ^ nb) CL TU OW br wh rho ∧
  mX6_tells (nI (bN false)) w1 = some (nI 1, W2) ∧ KM w1 W2 ∧ W2.1 0 0 35 = nI nb ∧ mX6_types W2 = some ((), W3) ∧ mX6_rounds (nI L) W3 = some (nI rho, W4) ∧ KM w1 W4 ∧
  TYM W4 nb mu my inn hd (2 ^ nb) ∧ (∀ u, u < 2 ^ nb → W4.1 0 42 u = flV (fitM L mu my inn) (mfM L mu my inn (2 ^ nb)) rho u)
theorem nm_false {gr : Bool} {cc : Nat} (h0 : gr = false) (h : hbB gr cc = false) : modB cc = false := by
  subst h0
  unfold hbB at h
  rw [Bool.or_eq_false_iff] at h
  exact h.2
/-- the common core: given the class's data and the model's work area of the same nodes -/
theorem both_core {Q : (Nat → Nat) → Prop} {o m P Z : Nat} {c l r l0 r0 b e y ph pl dp : Nat → Nat} (hX : SenP wX o m P c l r ph pl dp) (hLn : LenOK o P) (hT : TreeOK m c l0 r0 b e y) (hc0 : ClassOK m P c l0 r0 ph) (hs : ShapeOK m c l r) (hc : ClassOK m P c l r ph) (hP : P ≤ 81) (hm : 1 ≤ m) (hm2 : m ≤ 90) (hlast : ph (m - 1) = P - 1) (ho : o ≠ 4) (hpl : ∀ p, p < P → pl p < 1000) (hW : WorkM w1 m Z c l r b e y) (hZ : Z ≤ 420) (he : ∀ k, k < m → e k ≤ Z) (hy : ∀ j, y j < 256) (hL : L < 8)
    (hf : ∀ nb bp W, TI w1 W (decide (L = 8)) m c b ph nb bp Z 0 → ∃ f, BitOK nb (fun j => rkF (hq L m c ph) pl P (ph (bp j))) f ∧ Q f) : BothNo wX w1 o L false ∨ ∃ f, Q f ∧ BothYes wX w1 o L f := by
  have d8 : decide (L = 8) = false := decide_eq_false (by omega)
  have hb : ∀ k, k < m → b k < Z := fun k hk => by
    have h1 := len_pos hT (k + 1) k (Nat.lt_succ_self k) hk
    have h2 := he k hk
    omega
  obtain ⟨s1, s2⟩ := X_sortOut hX hLn hc hs hP hm hlast ho (show L < 9 by omega) hpl
  have hte := M_tells (gr := decide (L = 8)) hW hT hc0 hm2 hZ he hy
  have ecn : cntF (fun q => hbB (decide (L = 8)) (c (rpF m ph q))) P = cntF (hq L m c ph) P := rfl
  rcases hte with ⟨W2, nb, bp, t1, hI⟩ | ⟨W2, t1, t2, t3⟩
  · refine Or.inr ?_
    obtain ⟨f, hbit, hQ⟩ := hf nb bp W2 hI
    have hk := hI.lq hc hb
    have hcn := hk.cnt
    have hnb := hI.2.2.2.2.1
    have hbp : ∀ j, j < nb → bp j < m := fun j hj => (hI.2.2.2.2.2.1 j hj).1
    have hpw := pow_nb hnb
    have hmk := msk_same (pl := pl) hk hc hbp hL
    have hbr := br_same hk hs hc hbit hbp hL
    have hTB := hI.tb hc hb hW
    have hbt : ∀ k, k < m → jqF nb (fun j => ph (bp j)) (ph k) < 10 := fun k _ => jq_lt hnb
    have hmu : muN c bp nb < 2 ^ 10 := mask_lt hnb
    have hmy : myN c bp nb < 2 ^ 10 := mask_lt hnb
    obtain ⟨W3, y1, y2, y3⟩ := M_types hs hm hm2 hnb hbt (fun k _ z => nm_false d8 z) hTB
    obtain ⟨rho, r1, r2, r3⟩ := any_end (fit := fitM L (muN c bp nb) (myN c bp nb) (fun u => inN c l bp (evV (opT (decide (L = 8)) c ph (jqF nb (fun j => ph (bp j))) u) c l r) nb)) (mf := mfM L (muN c bp nb) (myN c bp nb) (fun u => inN c l bp (evV (opT (decide (L = 8)) c ph (jqF nb (fun j => ph (bp j))) u) c l r) nb) (2 ^ nb)) (2 ^ nb)
    obtain ⟨W4, v1, v2, v3, v4⟩ := M_rounds y3 hnb hmu hmy hL r1 r2 r3
    rw [d8] at r2 r3 v3 v4
    obtain ⟨wX2, x1, x2, x3⟩ := s2 (by omega) rho (by rw [hcn]; exact r1) (by rw [hcn, any_eq hbit hmk hbr hnb hL]; exact r2) (fun s hs2 => by rw [hcn, any_eq hbit hmk hbr hnb hL]; exact r3 s hs2)
    rw [hcn] at x3
    have ecb := X_countBits hX hLn hc hs hP (show L < 9 by omega)
    rw [hcn] at ecb
    have hwl : ∀ t, whT L m P c l r ph pl t < 2 := fun t => evV_lt hs (by decide) (fun k _ a b ha hb => opT_lt ha hb) _ _ (Nat.lt_succ_self _) (by omega)
    refine ⟨f, hQ, wX2, W2, W3, W4, nb, rho, CLf L m P c ph pl, TUf L m P c ph pl, OWf L m P c ph pl, muN c bp nb, myN c bp nb, _, brT L m P c l r ph pl, whT L m P c l r ph pl, _, _, hnb, r1, hbit, hmk, hbr, hwl, fun t ht => ?_, ecb, x1, x2, x3, ?_, hI.1, hI.2.2.2.1, y1, v1, (hI.1.tr y2).tr v2, v3, v4⟩
    · unfold whT
      rw [ev_same hk hs hc hbit ht (m - 1) (by omega), d8]
    · rw [d8] at t1
      exact t1
  · refine Or.inl ⟨s1 (by omega), W2, ?_, t2⟩
    rw [d8] at t1
    exact t1
theorem both_one (hd : SDok d) (hi : i < 6) (hSX : SenX wX (6 + i) (sdM d) (sdP d) (sdc d) (sdl d) (sdr d) (sdf d) (sdp d) (sdd d)) (hW : WorkM w1 (sdM d) (sdZ d) (sdc d) (sdl d) (sdr d) (sdb d) (sde d) (sdy d)) (hL : L < 8) : BothNo wX w1 (6 + i) L false ∨ BothYes wX w1 (6 + i) L id := by
  have hM := hd.2.1
  have hZ := hd.2.2.2.2.1
  have hP := hd.P40
  have hc := hd.cl
  have := both_core (Q := fun f => f = id) hSX.p (len_sen hi hP) hd.2.2.2.2.2.1 hc hd.sh hc (by omega) hd.1 (by omega) hd.2.2.2.2.2.2.2.1 (by omega) (fun p hp => hd.plZ hp) hW (by omega) hd.2.2.2.2.2.2.2.2.2.2.2.1 hd.2.2.2.2.2.2.2.2.2.2.1 hL (fun nb bp W hI => ⟨id, id_ok (hI.lq hc (fun k hk => hd.bZ hk)) (hI.rank hd.2.2.2.2.2.1 hd.2.2.2.2.2.2.1 (fun k hk => hd.bZ hk)), rfl⟩)
  rcases this with h | ⟨f, rfl, h⟩
  · exact Or.inl h
  · exact Or.inr h
end BT
end
