/-! how many are come to: both sides -/
theorem exB_cg {q q2 : Nat → Bool} {n : Nat} (h : ∀ j, j < n → q j = q2 j) : exB q n = exB q2 n := by
  induction n with
  | zero => rfl
  | succ n ih =>
    show (exB q n || q n) = (exB q2 n || q2 n)
    rw [ih (fun j hj => h j (by omega)), h n (by omega)]
/-- closed under seeing those there -/
def ClR (th : Nat → Bool) (see : Nat → Nat → Bool) (Z w : Nat) (S : Nat → Bool) : Prop := S w = true ∧ ∀ a b, a < Z → b < Z → S a = true → th b = true → see a b = true → S b = true
/-- n types are come to from w -/
def ReN (th : Nat → Bool) (see : Nat → Nat → Bool) (Z w n : Nat) : Prop := ∃ R : Nat → Bool, (∀ t, R t = true → t < Z ∧ th t = true) ∧ ClR th see Z w R ∧ (∀ S, ClR th see Z w S → ∀ t, R t = true → S t = true) ∧ n = cntF R Z
theorem cntF_cg {h g : Nat → Bool} {n : Nat} (e : ∀ q, q < n → h q = g q) : cntF h n = cntF g n := Nat.le_antisymm (cntF_mono (fun q hq z => by rw [← e q hq]; exact z)) (cntF_mono (fun q hq z => by rw [e q hq]; exact z))
theorem ReN.uniq {th : Nat → Bool} {see : Nat → Nat → Bool} {Z w n n2 : Nat} (h : ReN th see Z w n) (h2 : ReN th see Z w n2) : n = n2 := by
  obtain ⟨R, a1, a2, a3, a4⟩ := h
  obtain ⟨S, b1, b2, b3, b4⟩ := h2
  rw [a4, b4]
  refine cntF_cg (fun q _ => ?_)
  cases e : R q
  · cases e2 : S q
    · rfl
    · rw [b3 R a2 q e2] at e; cases e
  · rw [a3 S b2 q e]
theorem ReN.cg {th th2 : Nat → Bool} {see see2 : Nat → Nat → Bool} {Z w n : Nat} (h : ReN th see Z w n) (hw : w < Z) (e1 : ∀ t, t < Z → th2 t = th t) (e2 : ∀ a b, a < Z → b < Z → see2 a b = see a b) : ReN th2 see2 Z w n := by
  obtain ⟨R, a1, a2, a3, a4⟩ := h
  refine ⟨R, fun t ht => ?_, ⟨a2.1, fun a b ha hb q1 q2 q3 => a2.2 a b ha hb q1 (by rw [← e1 b hb]; exact q2) (by rw [← e2 a b ha hb]; exact q3)⟩, fun S hS => a3 S ⟨hS.1, fun a b ha hb q1 q2 q3 => hS.2 a b ha hb q1 (by rw [e1 b hb]; exact q2) (by rw [e2 a b ha hb]; exact q3)⟩, a4⟩
  obtain ⟨z1, z2⟩ := a1 t ht
  exact ⟨z1, by rw [e1 t z1]; exact z2⟩
/-- a list of those come to so far, the first p of which have been asked -/
def ReL (th : Nat → Bool) (see : Nat → Nat → Bool) (Z w : Nat) (q : Nat → Nat) (v : Nat) : Prop := 1 ≤ v ∧ q 0 = w ∧ (∀ i, i < v → q i < Z ∧ th (q i) = true) ∧ (∀ i j, i < v → j < v → q i = q j → i = j) ∧ (∀ S, ClR th see Z w S → ∀ i, i < v → S (q i) = true)
theorem ReL.le {th : Nat → Bool} {see : Nat → Nat → Bool} {Z w : Nat} {q : Nat → Nat} {v : Nat} (h : ReL th see Z w q v) : v ≤ Z := by
  have := cnt_inj (h := fun _ => true) (P := Z) (n := v) (q := q) (fun j hj => ⟨(h.2.2.1 j hj).1, rfl⟩) h.2.2.2.1
  exact Nat.le_trans this (cntF_le _ Z)
theorem ReL.done {th : Nat → Bool} {see : Nat → Nat → Bool} {Z w : Nat} {q : Nat → Nat} {v : Nat} (h : ReL th see Z w q v) (hcl : ∀ i, i < v → ∀ b, b < Z → th b = true → see (q i) b = true → ∃ j, j < v ∧ q j = b) : ReN th see Z w v := by
  obtain ⟨h1, h2, h3, h4, h5⟩ := h
  refine ⟨memB q v, fun t ht => ?_, ⟨memB_iff.mpr ⟨0, h1, h2⟩, fun a b _ hb q1 q2 q3 => ?_⟩, fun S hS t ht => ?_, ((memB_cnt (q := q) (P := Z) v).2 (fun j hj => (h3 j hj).1) h4).symm⟩
  · obtain ⟨j, j1, j2⟩ := memB_iff.mp ht
    rw [← j2]
    exact h3 j j1
  · obtain ⟨j, j1, j2⟩ := memB_iff.mp q1
    exact memB_iff.mpr (hcl j j1 b hb q2 (by rw [j2]; exact q3))
  · obtain ⟨j, j1, j2⟩ := memB_iff.mp ht
    rw [← j2]
    exact h5 S hS j j1
theorem ReL.cgq {th : Nat → Bool} {see : Nat → Nat → Bool} {Z w : Nat} {q q2 : Nat → Nat} {v : Nat} (h : ReL th see Z w q v) (e : ∀ i, i < v → q2 i = q i) : ReL th see Z w q2 v := by
  obtain ⟨h1, h2, h3, h4, h5⟩ := h
  exact ⟨h1, by rw [e 0 h1]; exact h2, fun i hi => by rw [e i hi]; exact h3 i hi, fun i j hi hj z => h4 i j hi hj (by rw [← e i hi, ← e j hj]; exact z), fun S hS i hi => by rw [e i hi]; exact h5 S hS i hi⟩
theorem ReL.add {th : Nat → Bool} {see : Nat → Nat → Bool} {Z w : Nat} {q : Nat → Nat} {v a b : Nat} (h : ReL th see Z w q v) (ha : a < v) (hb : b < Z) (ht : th b = true) (hs : see (q a) b = true) (hn : ∀ i, i < v → q i ≠ b) (hq : q v = b) : ReL th see Z w q (v + 1) := by
  obtain ⟨h1, h2, h3, h4, h5⟩ := h
  refine ⟨by omega, h2, fun i hi => ?_, fun i j hi hj z => ?_, fun S hS i hi => ?_⟩
  · by_cases e : i = v
    · rw [e, hq]; exact ⟨hb, ht⟩
    · exact h3 i (by omega)
  · by_cases e : i = v
    · by_cases e2 : j = v
      · omega
      · rw [e, hq] at z
        exact absurd z.symm (hn j (by omega))
    · by_cases e2 : j = v
      · rw [e2, hq] at z
        exact absurd z (hn i (by omega))
      · exact h4 i j (by omega) (by omega) z
  · by_cases e : i = v
    · rw [e, hq]
      exact hS.2 (q a) b (h3 a ha).1 hb (h5 S hS a ha) ht hs
    · exact h5 S hS i (by omega)
section MS
variable {W0 : AW} {nb mu my L wt : Nat} {inn : Nat → Nat} {hd th : Nat → Bool}
/-- the model's queue -/
def QM (W0 W : AW) (th : Nat → Bool) (see : Nat → Nat → Bool) (Z w : Nat) (q : Nat → Nat) (v : Nat) : Prop := KM W0 W ∧ (∀ a, a ≠ 43 → a ≠ 44 → W.1 0 a = W0.1 0 a) ∧ ReL th see Z w q v ∧ (∀ i, i < v → W.1 0 44 i = nI (q i)) ∧ (∀ t, t < Z → W.1 0 43 t = nI (bN (memB q v t)))
theorem M_q53 (hT : TYM W0 nb mu my inn hd (2 ^ nb)) (hnb : nb ≤ 10) (hmu : mu < 2 ^ 10) (hmy : my < 2 ^ 10) (hL : L < 8) (hth : ∀ u, u < 2 ^ nb → decide (W0.1 0 42 u = -9) = th u) {k44 : Int32 → Int32 → AW → Option (Int32 × AW)} {p : Nat} : ∀ (e b n : Nat) (W : AW) (q : Nat → Nat) (v : Nat), 2 ^ nb = b + e → e < n → p < v → QM W0 W th (seeM L mu my inn) (2 ^ nb) wt q v → (∀ u, u < b → th u = true → seeM L mu my inn (q p) u = true → ∃ j, j < v ∧ q j = u) → (∀ i, i < p → ∀ u, u < 2 ^ nb → th u = true → seeM L mu my inn (q i) u = true → ∃ j, j < v ∧ q j = u) →
    ∃ W2 q2 v2, mX6_shownFrom_53 k44 (nI L) (nI p) n (nI v) (nI b) W = k44 (nI v2) (nI (p + 1)) W2 ∧ v ≤ v2 ∧ QM W0 W2 th (seeM L mu my inn) (2 ^ nb) wt q2 v2 ∧ (∀ i, i < p + 1 → ∀ u, u < 2 ^ nb → th u = true → seeM L mu my inn (q2 i) u = true → ∃ j, j < v2 ∧ q2 j = u) := by
  have hpw := pow_nb hnb
  intro e
  induction e with
  | zero =>
    intro b n W q v he hn hp hQ h1 h2
    obtain ⟨n, rfl⟩ : ∃ k, n = k + 1 := ⟨n - 1, by omega⟩
    have e2 : b = 2 ^ nb := by omega
    subst e2
    have hT' : TYM W nb mu my inn hd (2 ^ nb) := hT.row (by rw [hQ.2.1 0 (by decide) (by decide)]) (by rw [hQ.2.1 0 (by decide) (by decide)]) (by rw [hQ.2.1 0 (by decide) (by decide)]) (hQ.2.1 39 (by decide) (by decide)) (hQ.2.1 40 (by decide) (by decide)) (hQ.2.1 41 (by decide) (by decide))
    refine ⟨W, q, v, ?_, Nat.le_refl v, hQ, fun i hi => ?_⟩
    · rw [mX6_shownFrom_53, hT'.1, sh_nb hnb, if_pos (nI_le (Nat.le_refl _) (by omega)), nm_mk, show nI p + 1 = nI (p + 1) from nI_add p 1]
    · by_cases z : i = p
      · rw [z]; exact h1
      · exact h2 i (by omega)
  | succ e ih =>
    intro b n W q v he hn hp hQ h1 h2
    obtain ⟨n, rfl⟩ : ∃ k, n = k + 1 := ⟨n - 1, by omega⟩
    have hb : b < 2 ^ nb := by omega
    obtain ⟨q1, q2, q3, q4, q5⟩ := hQ
    have hvZ := q3.le
    have hT' : TYM W nb mu my inn hd (2 ^ nb) := hT.row (by rw [q2 0 (by decide) (by decide)]) (by rw [q2 0 (by decide) (by decide)]) (by rw [q2 0 (by decide) (by decide)]) (q2 39 (by decide) (by decide)) (q2 40 (by decide) (by decide)) (q2 41 (by decide) (by decide))
    have e119 : ∀ (x : Int32) (V : AW), mX6_shownFrom_119 k44 (mX6_shownFrom_53 k44 (nI L) (nI p) n) (nI L) x (nI p) (nI b) V = mX6_shownFrom_53 k44 (nI L) (nI p) n x (nI (b + 1)) V := fun x V => by
      unfold mX6_shownFrom_119
      rw [nm_mk, show nI b + 1 = nI (b + 1) from nI_add b 1]
    have hd0 : mX6_shownFrom_53 k44 (nI L) (nI p) (n + 1) (nI v) (nI b) W = (if nI (bN (memB q v b)) ≠ 0 then mX6_shownFrom_53 k44 (nI L) (nI p) n (nI v) (nI (b + 1)) W else if nI (bN (th b)) = 0 then mX6_shownFrom_53 k44 (nI L) (nI p) n (nI v) (nI (b + 1)) W else if nI (bN (seeM L mu my inn (q p) b)) = 0 then mX6_shownFrom_53 k44 (nI L) (nI p) n (nI v) (nI (b + 1)) W else mX6_shownFrom_53 k44 (nI L) (nI p) n (nI (v + 1)) (nI (b + 1)) (am_set (am_set W 0 43 b 1) 0 44 v (nI b))) := by
      have eis : mX6_isThere (nI b) W = some (nI (bN (th b)), W) := by
        rw [M_isThere (show b < 1024 by omega) rfl, q2 42 (by decide) (by decide), hth b hb]
      have ems := M_maySee hT' hpw hmu hmy hL (q3.2.2.1 p hp).1 hb
      rw [mX6_shownFrom_53, hT'.1, sh_nb hnb, if_neg (nI_ge hb (by omega)), rd_in (show b < 1024 by omega) (by decide), q5 b hb]
      by_cases z1 : nI (bN (memB q v b)) ≠ 0
      · rw [if_pos z1, if_pos z1, e119]
      · rw [if_neg z1, if_neg z1, eis, cl_mk]
        by_cases z2 : nI (bN (th b)) = 0
        · rw [if_pos z2, if_pos z2, e119]
        · have hvlt : v < 1024 := by
            rcases Nat.lt_or_ge v (2 ^ nb) with y | y
            · omega
            · exfalso
              have ev : v = 2 ^ nb := by omega
              have hc := (memB_cnt (q := q) (P := 2 ^ nb) v).2 (fun j hj => (q3.2.2.1 j hj).1) q3.2.2.2.1
              have hm : memB q v b = false := by
                cases x : memB q v b
                · rfl
                · exact absurd (show nI (bN (memB q v b)) ≠ 0 by rw [x]; decide) z1
              have := cntF_strict (h := memB q v) (g := fun _ => true) hb (fun _ _ _ => rfl) hm rfl
              have := cntF_le (fun _ => true) (2 ^ nb)
              omega
          rw [if_neg z2, if_neg z2, rd_in (show p < 1024 by omega) (by decide), q4 p hp, ems, cl_mk]
          by_cases z3 : nI (bN (seeM L mu my inn (q p) b)) = 0
          · rw [if_pos z3, if_pos z3, e119]
          · rw [if_neg z3, if_neg z3, wr_in (show b < 1024 by omega) (by decide), wr_in hvlt (by decide), nm_mk, show nI v + 1 = nI (v + 1) from nI_add v 1, e119, nar_1]
    rw [hd0]
    have pass : (th b = true → seeM L mu my inn (q p) b = true → ∃ j, j < v ∧ q j = b) → ∃ W2 q2 v2, mX6_shownFrom_53 k44 (nI L) (nI p) n (nI v) (nI (b + 1)) W = k44 (nI v2) (nI (p + 1)) W2 ∧ v ≤ v2 ∧ QM W0 W2 th (seeM L mu my inn) (2 ^ nb) wt q2 v2 ∧ (∀ i, i < p + 1 → ∀ u, u < 2 ^ nb → th u = true → seeM L mu my inn (q2 i) u = true → ∃ j, j < v2 ∧ q2 j = u) := fun z => ih (b + 1) n W q v (by omega) (by omega) hp ⟨q1, q2, q3, q4, q5⟩ (fun u hu => by
      by_cases y : u = b
      · rw [y]; exact z
      · exact h1 u (by omega)) h2
    cases z1 : memB q v b
    · rw [if_neg (show ¬ (nI (bN false) ≠ 0) from fun z => z rfl)]
      cases z2 : th b
      · rw [if_pos (show nI (bN false) = 0 from rfl)]
        exact pass (fun y => by rw [z2] at y; cases y)
      · rw [if_neg (show ¬ (nI (bN true) = 0) by decide)]
        cases z3 : seeM L mu my inn (q p) b
        · rw [if_pos (show nI (bN false) = 0 from rfl)]
          exact pass (fun _ y => by rw [z3] at y; cases y)
        · rw [if_neg (show ¬ (nI (bN true) = 0) by decide)]
          have hnew : ∀ i, i < v → q i ≠ b := fun i hi y => by
            rw [memB_iff.mpr ⟨i, hi, y⟩] at z1
            cases z1
          have el : ∀ i, i < v → ex1 q v b i = q i := fun i hi => ex1_lt hi
          have hR : ReL th (seeM L mu my inn) (2 ^ nb) wt (ex1 q v b) (v + 1) := (q3.cgq el).add hp hb z2 (by rw [el p hp]; exact z3) (fun i hi => by rw [el i hi]; exact hnew i hi) ex1_s
          obtain ⟨W2, q2', v2, f1, f2, f3⟩ := ih (b + 1) n (am_set (am_set W 0 43 b 1) 0 44 v (nI b)) (ex1 q v b) (v + 1) (by omega) (by omega) (by omega) ⟨(q1.set (Or.inl (by decide))).set (Or.inl (by decide)), fun a y1 y2 => by rw [am_get_row (Or.inr y2), am_get_row (Or.inr y1)]; exact q2 a y1 y2, hR, fun i hi => by
            by_cases y : i = v
            · rw [y, am_get_self, ex1_s]
            · rw [am_get_other y, am_get_row (by decide), el i (by omega)]
              exact q4 i (by omega), fun t ht => by
            have em : memB (ex1 q v b) (v + 1) t = (memB q v t || decide (b = t)) := by
              show (exB (fun j => decide (ex1 q v b j = t)) v || decide (ex1 q v b v = t)) = _
              rw [ex1_s]
              congr 1
              unfold memB
              exact exB_cg (fun j hj => by rw [el j hj])
            rw [am_get_row (by decide), em]
            by_cases y : t = b
            · rw [y, am_get_self, decide_eq_true rfl, Bool.or_true]
              rfl
            · rw [am_get_other y, decide_eq_false (fun x => y x.symm), Bool.or_false]
              exact q5 t ht⟩ (fun u hu y1 y2 => by
            rw [el p hp] at y2
            by_cases y : u = b
            · exact ⟨v, by omega, by rw [ex1_s, y]⟩
            · obtain ⟨j, j1, j2⟩ := h1 u (by omega) y1 y2
              exact ⟨j, by omega, by rw [el j j1]; exact j2⟩) (fun i hi u hu y1 y2 => by
            rw [el i (by omega)] at y2
            obtain ⟨j, j1, j2⟩ := h2 i hi u hu y1 y2
            exact ⟨j, by omega, by rw [el j j1]; exact j2⟩)
          exact ⟨W2, q2', v2, f1, by omega, f3⟩
    · rw [if_pos (show nI (bN true) ≠ 0 by decide)]
      exact pass (fun _ _ => memB_iff.mp z1)
theorem M_q44 (hT : TYM W0 nb mu my inn hd (2 ^ nb)) (hnb : nb ≤ 10) (hmu : mu < 2 ^ 10) (hmy : my < 2 ^ 10) (hL : L < 8) (hth : ∀ u, u < 2 ^ nb → decide (W0.1 0 42 u = -9) = th u) : ∀ (e p n : Nat) (W : AW) (q : Nat → Nat) (v : Nat), 2 ^ nb = p + e → e < n → p ≤ v → QM W0 W th (seeM L mu my inn) (2 ^ nb) wt q v → (∀ i, i < p → ∀ u, u < 2 ^ nb → th u = true → seeM L mu my inn (q i) u = true → ∃ j, j < v ∧ q j = u) →
    ∃ W2 v2, mX6_shownFrom_44 (nI L) n (nI v) (nI p) W = some (nI v2, W2) ∧ KM W0 W2 ∧ ReN th (seeM L mu my inn) (2 ^ nb) wt v2 := by
  have hpw := pow_nb hnb
  intro e
  induction e with
  | zero =>
    intro p n W q v he hn hp hQ h2
    obtain ⟨n, rfl⟩ : ∃ k, n = k + 1 := ⟨n - 1, by omega⟩
    have := hQ.2.2.1.le
    have e2 : p = v := by omega
    subst e2
    exact ⟨W, p, by rw [mX6_shownFrom_44, if_pos (nI_le (Nat.le_refl p) (by omega))], hQ.1, hQ.2.2.1.done h2⟩
  | succ e ih =>
    intro p n W q v he hn hp hQ h2
    obtain ⟨n, rfl⟩ : ∃ k, n = k + 1 := ⟨n - 1, by omega⟩
    have hv := hQ.2.2.1.le
    by_cases hpv : p = v
    · subst hpv
      exact ⟨W, p, by rw [mX6_shownFrom_44, if_pos (nI_le (Nat.le_refl p) (by omega))], hQ.1, hQ.2.2.1.done h2⟩
    · obtain ⟨W2, q2, v2, f1, f2, f3, f4⟩ := M_q53 (k44 := mX6_shownFrom_44 (nI L) n) hT hnb hmu hmy hL hth (2 ^ nb) 0 FU W q v (by omega) (FU_gt (by omega)) (show p < v by omega) hQ (fun u hu => absurd hu (Nat.not_lt_zero u)) h2
      obtain ⟨W3, v3, g⟩ := ih (p + 1) n W2 q2 v2 (by omega) (by omega) (by omega) f3 f4
      refine ⟨W3, v3, ?_, g.2⟩
      have f1' : mX6_shownFrom_53 (mX6_shownFrom_44 (nI L) n) (nI L) (nI p) FU (nI v) 0 W = mX6_shownFrom_44 (nI L) n (nI v2) (nI (p + 1)) W2 := f1
      rw [mX6_shownFrom_44, if_neg (nI_ge (show p < v by omega) (by omega)), f1']
      exact g.1
theorem M_shownFrom (hT : TYM W0 nb mu my inn hd (2 ^ nb)) (hnb : nb ≤ 10) (hmu : mu < 2 ^ 10) (hmy : my < 2 ^ 10) (hL : L < 8) (hth : ∀ u, u < 2 ^ nb → decide (W0.1 0 42 u = -9) = th u) (hwt : wt < 2 ^ nb) (hw : th wt = true) : ∃ W2 v, mX6_shownFrom (nI L) (nI wt) W0 = some (nI v, W2) ∧ KM W0 W2 ∧ ReN th (seeM L mu my inn) (2 ^ nb) wt v := by
  have hpw := pow_nb hnb
  have e2 : mX6_shownFrom (nI L) (nI wt) W0 = mX6_shownFrom_44 (nI L) FU (nI 1) (nI 0) (am_set (am_set (setRow W0 0 43 (fun _ => nI 0) (2 ^ nb)) 0 43 wt 1) 0 44 0 (nI wt)) := by
    unfold mX6_shownFrom
    refine loopE (fun n (s : Int32 × AW) => mX6_shownFrom_2 (nI L) (nI wt) n s.1 s.2) (2 ^ nb) (fun k => (nI k, setRow W0 0 43 (fun _ => nI 0) k)) _ ?_ ?_ FU 0 (Nat.zero_le _) (FU_gt (by omega))
    · intro n t ht
      have hTk := hT.r42 (f := fun _ => nI 0) (show 42 ≤ 43 by decide) t
      dsimp only
      rw [mX6_shownFrom_2, hTk.1, sh_nb hnb, if_neg (nI_ge ht (by omega)), wr_in (show t < 1024 by omega) (by decide), nm_mk, show nI t + 1 = nI (t + 1) from nI_add t 1, nar_0]
      rfl
    · intro n
      have hTk := hT.r42 (f := fun _ => nI 0) (show 42 ≤ 43 by decide) (2 ^ nb)
      have e0 : wr 1024 (am_set (setRow W0 0 43 (fun _ => nI 0) (2 ^ nb)) 0 43 wt 1) 0 44 0 (nI wt) (fun w_2 => mX6_shownFrom_44 (nI L) FU 1 0 w_2) = mX6_shownFrom_44 (nI L) FU 1 0 (am_set (am_set (setRow W0 0 43 (fun _ => nI 0) (2 ^ nb)) 0 43 wt 1) 0 44 0 (nI wt)) := wr_in (show 0 < 1024 by decide) (by decide) _ 0 44 _ _
      dsimp only
      rw [mX6_shownFrom_2, hTk.1, sh_nb hnb, if_pos (nI_le (Nat.le_refl _) (by omega)), nar_1, wr_in (show wt < 1024 by omega) (by decide), e0]
      rfl
  rw [e2]
  refine M_q44 hT hnb hmu hmy hL hth (2 ^ nb) 0 FU _ (fun _ => wt) 1 (by omega) (FU_gt (by omega)) (by omega) ⟨((setRow_K (KM.rf W0) (by decide) _).set (Or.inl (by decide))).set (Or.inl (by decide)), fun a y1 y2 => by rw [am_get_row (Or.inr y2), am_get_row (Or.inr y1), setRow_row (Or.inr y1)], ⟨Nat.le_refl 1, rfl, fun _ _ => ⟨hwt, hw⟩, fun i j hi hj _ => by omega, fun S hS _ _ => hS.1⟩, fun i hi => ?_, fun t ht => ?_⟩ (fun i hi => absurd hi (Nat.not_lt_zero i))
  · have : i = 0 := by omega
    subst this
    exact am_get_self _ _ _ _ _
  · rw [am_get_row (by decide)]
    by_cases y : t = wt
    · rw [y, am_get_self, memB_iff.mpr ⟨0, by omega, rfl⟩]
      rfl
    · have : memB (fun _ => wt) 1 t = false := by
        cases x : memB (fun _ => wt) 1 t
        · rfl
        · obtain ⟨j, _, j2⟩ := memB_iff.mp x
          exact absurd j2.symm y
      rw [am_get_other y, setRow_in _ ht, this]
      rfl
end MS
