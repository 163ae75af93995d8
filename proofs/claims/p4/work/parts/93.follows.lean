/-! follows -/
theorem law_all {th hd : Nat → Bool} {Z : Nat} : lawM th hd Z = true ↔ ∀ t, t < Z → th t = true → hd t = true := by
  unfold lawM
  rw [allT_iff]
  constructor
  · intro h t ht z
    have := h t ht
    rw [z, Bool.not_true, Bool.false_or] at this
    exact this
  · intro h t ht
    cases z : th t
    · rfl
    · rw [h t ht z]; rfl
/-- the law by both sides -/
theorem both_law {wX w1 : AW} {o L : Nat} {f : Nat → Nat} (hL : L < 8) (h : BothYes wX w1 o L f) :
    ∃ (wX2 W2 W3 W4 : AW) (rho : Int32) (x : Bool), mX3_sortOut o (nI L) wX = some (nI 1, wX2) ∧ mX3_answer (nI 1) wX2 = some (nI (bN x), wX2) ∧ KX wX wX2 ∧
      mX6_tells 0 w1 = some (nI 1, W2) ∧ mX6_types W2 = some ((), W3) ∧ mX6_rounds (nI L) W3 = some (rho, W4) ∧ mX6_isLaw W4 = some (nI (bN x), W4) ∧ KM w1 W4 := by
  obtain ⟨wX2, W2, W3, W4, nb, rho, CL, TU, OW, mu, my, pi, br, wh, inn, hd, hnb, hrho, hbit, hmk, hbr, hwl, hwh, hcb, x1, x2, x3, t1, t2, t3, t4, t5, t6, t7, t8⟩ := h
  have hpw := pow_nb hnb
  obtain ⟨s1, s2, s3, s4⟩ := x3
  have el := X_law hpw s4.1 s4.2 (fun t ht => (s1.2.2.2 t ht).2.2) hwl
  have hth := flV_th (fit := fitM L mu my inn) (mf := mfM L mu my inn (2 ^ nb)) (fun _ _ => trivial) rho (by omega)
  have em := M_isLaw (th := thN (fitM L mu my inn) (mfM L mu my inn (2 ^ nb)) rho) t7.1 hnb (fun t ht => (t7.2.2.2 t ht).2.2) (fun u hu => by
    rw [t8 u hu]
    have := (hth u).1
    cases q : thN (fitM L mu my inn) (mfM L mu my inn (2 ^ nb)) rho u
    · exact decide_eq_false (fun z => by rw [this.mp z] at q; cases q)
    · exact decide_eq_true (this.mpr q))
  have same : lawB (thN (fitX L CL TU br) (mfX L (2 ^ nb) CL TU OW br) rho) wh (2 ^ nb) = lawM (thN (fitM L mu my inn) (mfM L mu my inn (2 ^ nb)) rho) hd (2 ^ nb) := by
    have e0 : lawB (thN (fitX L CL TU br) (mfX L (2 ^ nb) CL TU OW br) rho) wh (2 ^ nb) = lawM (thN (fitX L CL TU br) (mfX L (2 ^ nb) CL TU OW br) rho) (fun t => decide (wh t = 1)) (2 ^ nb) := rfl
    rw [e0]
    apply bool_eq
    rw [law_all, law_all]
    constructor
    · intro h t ht z
      rw [← hwh t ht]
      exact h (f t) (hbit.2.2.1 t ht) (by rw [th_eq hbit hmk hbr hnb hL rho t ht]; exact z)
    · intro h u hu z
      obtain ⟨t, t1, rfl⟩ := hbit.2.2.2.2 u hu
      show decide (wh (f t) = 1) = true
      rw [hwh t t1]
      exact h t t1 (by rw [← th_eq hbit hmk hbr hnb hL rho t t1]; exact z)
  rw [same] at el
  exact ⟨wX2, W2, W3, W4, nI rho, _, x1, el, x2, t1, t4, t5, em, t6⟩
/-- the parts of ( d1 > d2 ) as the class takes them in -/
noncomputable def rpS (d : SD) (q : Nat) : Nat := rpF (sdM d) (sdf d) q
noncomputable def ptC (d1 d2 : SD) (x : Nat) : Nat := if x < sdP d1 then sdc d1 (rpS d1 x) else if x < sdP d1 + sdP d2 then sdc d2 (rpS d2 (x - sdP d1)) else 62
noncomputable def ptL (d1 d2 : SD) (x : Nat) : Nat := if x < sdP d1 then sdf d1 (sdl d1 (rpS d1 x)) else if x < sdP d1 + sdP d2 then sdP d1 + sdf d2 (sdl d2 (rpS d2 (x - sdP d1))) else sdP d1 - 1
noncomputable def ptR (d1 d2 : SD) (x : Nat) : Nat := if x < sdP d1 then sdf d1 (sdr d1 (rpS d1 x)) else if x < sdP d1 + sdP d2 then sdP d1 + sdf d2 (sdr d2 (rpS d2 (x - sdP d1))) else sdP d1 + sdP d2 - 1
/-- which part a node is -/
def pgN (d1 d2 : SD) (k : Nat) : Nat := if k < sdM d1 then sdf d1 k else if k < sdM d1 + sdM d2 then sdP d1 + sdf d2 (k - sdM d1) else sdP d1 + sdP d2
section PG
variable {d1 d2 : SD}
theorem pt_1 {x : Nat} (hx : x < sdP d1) : ptC d1 d2 x = sdc d1 (rpS d1 x) ∧ ptL d1 d2 x = sdf d1 (sdl d1 (rpS d1 x)) ∧ ptR d1 d2 x = sdf d1 (sdr d1 (rpS d1 x)) := ⟨if_pos hx, if_pos hx, if_pos hx⟩
theorem pt_2 {x : Nat} (hx : x < sdP d2) : ptC d1 d2 (sdP d1 + x) = sdc d2 (rpS d2 x) ∧ ptL d1 d2 (sdP d1 + x) = sdP d1 + sdf d2 (sdl d2 (rpS d2 x)) ∧ ptR d1 d2 (sdP d1 + x) = sdP d1 + sdf d2 (sdr d2 (rpS d2 x)) := by
  unfold ptC ptL ptR
  rw [if_neg (by omega), if_pos (by omega), if_neg (by omega), if_pos (by omega), if_neg (by omega), if_pos (by omega), show sdP d1 + x - sdP d1 = x by omega]
  exact ⟨rfl, rfl, rfl⟩
theorem pt_3 : ptC d1 d2 (sdP d1 + sdP d2) = 62 ∧ ptL d1 d2 (sdP d1 + sdP d2) = sdP d1 - 1 ∧ ptR d1 d2 (sdP d1 + sdP d2) = sdP d1 + sdP d2 - 1 := by
  unfold ptC ptL ptR
  rw [if_neg (by omega), if_neg (by omega), if_neg (by omega), if_neg (by omega), if_neg (by omega), if_neg (by omega)]
  exact ⟨rfl, rfl, rfl⟩
theorem pg_1 {k : Nat} (hk : k < sdM d1) : pgN d1 d2 k = sdf d1 k := if_pos hk
theorem pg_2 {k : Nat} (hk : k < sdM d2) : pgN d1 d2 (sdM d1 + k) = sdP d1 + sdf d2 k := by
  unfold pgN
  rw [if_neg (by omega), if_pos (by omega), show sdM d1 + k - sdM d1 = k by omega]
theorem pg_3 : pgN d1 d2 (sdM d1 + sdM d2) = sdP d1 + sdP d2 := by
  unfold pgN
  rw [if_neg (by omega), if_neg (by omega)]
theorem same_rep {d : SD} (hd : SDok d) {k : Nat} (hk : k < sdM d) : sdc d (rpS d (sdf d k)) = sdc d k ∧ (kd (sdc d k) ≠ 0 → sdf d (sdl d (rpS d (sdf d k))) = sdf d (sdl d k)) ∧ (kd (sdc d k) = 2 → sdf d (sdr d (rpS d (sdf d k))) = sdf d (sdr d k)) := by
  obtain ⟨z1, z2⟩ := rpF_spec hd.cl (hd.cl.1 k hk)
  have h := (hd.cl.2.2.2.2 _ _ z1 hk).mp z2
  have e : sdc d (rpS d (sdf d k)) = sdc d k := h.1
  refine ⟨e, fun z => ?_, fun z => ?_⟩
  · rcases kinds_of hd.sh hk with g | g | g
    · exact absurd (kd_leaf g) z
    · exact h.2.1 (by rw [h.1]; exact g)
    · exact (h.2.2 (by rw [h.1]; exact g)).1
  · rcases kinds_of hd.sh hk with g | g | g
    · rw [kd_leaf g] at z; cases z
    · rw [kd_pre g] at z; cases z
    · exact (h.2.2 (by rw [h.1]; exact g)).2
/-- the node's words are its part's -/
theorem pg_ok (h1 : SDok d1) (h2 : SDok d2) {k : Nat} (hk : k < sdM d1 + sdM d2 + 1) : pgN d1 d2 k < sdP d1 + sdP d2 + 1 ∧ pcC d1 d2 k = ptC d1 d2 (pgN d1 d2 k) ∧ (kd (pcC d1 d2 k) ≠ 0 → pgN d1 d2 (pcL d1 d2 k) = ptL d1 d2 (pgN d1 d2 k)) ∧ (kd (pcC d1 d2 k) = 2 → pgN d1 d2 (pcR d1 d2 k) = ptR d1 d2 (pgN d1 d2 k)) := by
  have lt : ∀ {d : SD}, SDok d → ∀ k, k < sdM d → (kd (sdc d k) ≠ 0 → sdl d k < k) ∧ (kd (sdc d k) = 2 → sdr d k < k) := fun {d} hd k hk => by
    rcases hd.sh k hk with g | ⟨g, g1⟩ | ⟨g, g1, g2⟩
    · exact ⟨fun z => absurd (kd_leaf g) z, fun z => by rw [kd_leaf g] at z; cases z⟩
    · exact ⟨fun _ => g1, fun z => by rw [kd_pre g] at z; cases z⟩
    · exact ⟨fun _ => g1, fun _ => g2⟩
  rcases pc_cases hk with q | ⟨j, hj, rfl⟩ | rfl
  · obtain ⟨a1, a2, a3, -⟩ := pc_1 (d2 := d2) q
    have hp := h1.cl.1 k q
    obtain ⟨b1, b2, b3⟩ := pt_1 (d2 := d2) hp
    obtain ⟨c1, c2, c3⟩ := same_rep h1 q
    obtain ⟨l1, l2⟩ := lt h1 k q
    rw [pg_1 q, a1, a2, a3, b1, b2, b3]
    refine ⟨by omega, c1.symm, fun z => ?_, fun z => ?_⟩
    · rw [c2 z, pg_1 (show sdl d1 k < sdM d1 by have := l1 z; omega)]
    · rw [c3 z, pg_1 (show sdr d1 k < sdM d1 by have := l2 z; omega)]
  · obtain ⟨a1, a2, a3, -⟩ := pc_2 (d1 := d1) hj
    have hp := h2.cl.1 j hj
    obtain ⟨b1, b2, b3⟩ := pt_2 (d1 := d1) hp
    obtain ⟨c1, c2, c3⟩ := same_rep h2 hj
    obtain ⟨l1, l2⟩ := lt h2 j hj
    rw [pg_2 hj, a1, a2, a3, b1, b2, b3]
    refine ⟨by omega, c1.symm, fun z => ?_, fun z => ?_⟩
    · rw [c2 z, Nat.add_comm (sdl d2 j), pg_2 (show sdl d2 j < sdM d2 by have := l1 z; omega)]
    · rw [c3 z, Nat.add_comm (sdr d2 j), pg_2 (show sdr d2 j < sdM d2 by have := l2 z; omega)]
  · obtain ⟨a1, a2, a3, -⟩ := pc_3 (d1 := d1) (d2 := d2)
    obtain ⟨b1, b2, b3⟩ := pt_3 (d1 := d1) (d2 := d2)
    have m1 := h1.1
    have m2 := h2.1
    have r1 := h1.2.2.2.2.2.2.2.1
    have r2 := h2.2.2.2.2.2.2.2.1
    have p2 := h2.2.2.1
    rw [pg_3, a1, a2, a3, b1, b2, b3]
    refine ⟨by omega, rfl, fun _ => ?_, fun _ => ?_⟩
    · rw [pg_1 (show sdM d1 - 1 < sdM d1 by omega), r1]
    · rw [show sdM d1 + sdM d2 - 1 = sdM d1 + (sdM d2 - 1) by omega, pg_2 (show sdM d2 - 1 < sdM d2 by omega), r2]
      omega
theorem pg_surj (h1 : SDok d1) (h2 : SDok d2) {x : Nat} (hx : x < sdP d1 + sdP d2 + 1) : ∃ k, k < sdM d1 + sdM d2 + 1 ∧ pgN d1 d2 k = x ∧ (x < sdP d1 + sdP d2 → k < sdM d1 + sdM d2) := by
  rcases Nat.lt_or_ge x (sdP d1) with q | q
  · obtain ⟨z1, z2⟩ := rpF_spec h1.cl q
    exact ⟨rpF (sdM d1) (sdf d1) x, by omega, by rw [pg_1 z1]; exact z2, fun _ => by omega⟩
  · rcases Nat.lt_or_ge x (sdP d1 + sdP d2) with q2 | q2
    · obtain ⟨z1, z2⟩ := rpF_spec h2.cl (show x - sdP d1 < sdP d2 by omega)
      exact ⟨sdM d1 + rpF (sdM d2) (sdf d2) (x - sdP d1), by omega, by rw [pg_2 z1, z2]; omega, fun _ => by omega⟩
    · exact ⟨sdM d1 + sdM d2, by omega, by rw [pg_3]; omega, fun z => by omega⟩
/-- the draft's parts, told of the model's nodes -/
theorem cls_comp {M n P' : Nat} {c l r cT lT rT ph' g : Nat → Nat} (hc : ClassOK n P' cT lT rT ph') (hg : ∀ k, k < M → g k < n ∧ c k = cT (g k) ∧ (kd (c k) ≠ 0 → g (l k) = lT (g k)) ∧ (kd (c k) = 2 → g (r k) = rT (g k))) (hs : ∀ x, x < n → ∃ k, k < M ∧ g k = x) : ClassOK M P' c l r (fun k => ph' (g k)) := by
  refine ⟨fun k hk => hc.1 _ (hg k hk).1, fun p hp => ?_, fun k hk z => ?_, fun k hk z => ?_, fun k j hk hj => ?_⟩
  · obtain ⟨x, x1, x2⟩ := hc.2.1 p hp
    obtain ⟨k, k1, k2⟩ := hs x x1
    exact ⟨k, k1, by dsimp only; rw [k2]; exact x2⟩
  · obtain ⟨g1, g2, g3, g4⟩ := hg k hk
    dsimp only
    rw [g3 (by rw [kd_pre z]; decide)]
    exact hc.2.2.1 _ g1 (by rw [← g2]; exact z)
  · obtain ⟨g1, g2, g3, g4⟩ := hg k hk
    dsimp only
    rw [g3 (by rw [kd_jn z]; decide), g4 (kd_jn z)]
    exact hc.2.2.2.1 _ g1 (by rw [← g2]; exact z)
  · obtain ⟨g1, g2, g3, g4⟩ := hg k hk
    obtain ⟨j1, j2, j3, j4⟩ := hg j hj
    dsimp only
    rw [hc.2.2.2.2 _ _ g1 j1, ← g2, ← j2]
    constructor
    · rintro ⟨a1, a2, a3⟩
      refine ⟨a1, fun z => ?_, fun z => ?_⟩
      · rw [g3 (by rw [kd_pre z]; decide), j3 (by rw [← a1, kd_pre z]; decide)]
        exact a2 z
      · rw [g3 (by rw [kd_jn z]; decide), j3 (by rw [← a1, kd_jn z]; decide), g4 (kd_jn z), j4 (by rw [← a1]; exact kd_jn z)]
        exact a3 z
    · rintro ⟨a1, a2, a3⟩
      refine ⟨a1, fun z => ?_, fun z => ?_⟩
      · have := a2 z
        rw [g3 (by rw [kd_pre z]; decide), j3 (by rw [← a1, kd_pre z]; decide)] at this
        exact this
      · have := a3 z
        rw [g3 (by rw [kd_jn z]; decide), j3 (by rw [← a1, kd_jn z]; decide), g4 (kd_jn z), j4 (by rw [← a1]; exact kd_jn z)] at this
        exact this
theorem sen_comp {W : AW} {M n P' : Nat} {c l r cT lT rT ph' pl' dp' g : Nat → Nat} (hD : DraftX W n P' cT lT rT ph' pl' dp') (hk : ∀ k, k < M → isLeaf (c k) ∨ isPre (c k) ∨ isJn (c k)) (hg : ∀ k, k < M → g k < n ∧ c k = cT (g k) ∧ (kd (c k) ≠ 0 → g (l k) = lT (g k)) ∧ (kd (c k) = 2 → g (r k) = rT (g k))) : SenP W 5 M P' c l r (fun k => ph' (g k)) pl' dp' := by
  refine ⟨hD.1, fun k hkM => ?_, hD.2.2⟩
  obtain ⟨g1, g2, g3, g4⟩ := hg k hkM
  obtain ⟨a1, a2, a3⟩ := hD.2.1 _ g1
  unfold fsX at a2
  unfold ssX at a3
  rw [← g2] at a1 a2 a3
  refine ⟨a1, fun z => ?_, fun z => ?_, fun z => ?_⟩
  · rw [kd_leaf z, if_pos rfl] at a2
    rw [kd_leaf z, if_neg (by decide)] at a3
    exact ⟨a2, a3⟩
  · have e := g3 (by rw [kd_pre z]; decide)
    rw [kd_pre z, if_neg (by decide)] at a2
    rw [kd_pre z, if_neg (by decide)] at a3
    dsimp only
    rw [e]
    exact ⟨a2, a3⟩
  · have e := g3 (by rw [kd_jn z]; decide)
    have e2 := g4 (kd_jn z)
    rw [kd_jn z, if_neg (by decide)] at a2
    rw [kd_jn z, if_pos rfl] at a3
    dsimp only
    rw [e, e2]
    exact ⟨a2, a3⟩
theorem dr_0 {W : AW} {cT lT rT ph pl dp : Nat → Nat} (h : W.1 5 0 5 = nI 0) : DrOK W 0 cT lT rT 0 ph pl dp := by
  refine ⟨⟨h, fun k hk => absurd hk (Nat.not_lt_zero k), fun p hp => absurd hp (Nat.not_lt_zero p)⟩, ⟨fun k hk => absurd hk (Nat.not_lt_zero k), fun p hp => absurd hp (Nat.not_lt_zero p), fun k hk => absurd hk (Nat.not_lt_zero k), fun k hk => absurd hk (Nat.not_lt_zero k), fun k j hk => absurd hk (Nat.not_lt_zero k)⟩, fun k hk => absurd hk (Nat.not_lt_zero k), fun p hp => absurd hp (Nat.not_lt_zero p)⟩
theorem len_5 {P : Nat} (h : P ≤ 81) : LenOK 5 P := by
  have e : ∀ a, a < 6 → 1 ≤ a → am_aL false 5 a = 81 := by decide
  intro a h1 h2
  rw [e a (by omega) h1]
  exact ⟨h, by decide⟩
/-- the class's follows, up to sortOut -/
theorem X_pair {wX : AW} {i j L : Nat} (h1 : SDok d1) (h2 : SDok d2) (hi : i < 6) (hj : j < 6) (hL : L < 8) (hS1 : SenX wX (6 + i) (sdM d1) (sdP d1) (sdc d1) (sdl d1) (sdr d1) (sdf d1) (sdp d1) (sdd d1)) (hS2 : SenX wX (6 + j) (sdM d2) (sdP d2) (sdc d2) (sdl d2) (sdr d2) (sdf d2) (sdp d2) (sdd d2)) :
    ∃ (W : AW) (P' : Nat) (ph' pl' dp' : Nat → Nat), mX5_follows (nI i) (nI j) (nI L) wX = (cl (mX3_sortOut 5 (nI L) W) fun x_18 w_17 => if x_18 ≠ 0 then cl (mX3_answer 1 w_17) fun x_20 w_19 => some (x_20, w_19) else some ((-2), w_17)) ∧ KX wX W ∧ DrOK W (sdP d1 + sdP d2 + 1) (ptC d1 d2) (ptL d1 d2) (ptR d1 d2) P' ph' pl' dp' ∧ (ph' (sdP d1 + sdP d2) = P' - 1 ∨ ∃ k, k < sdP d1 + sdP d2 ∧ ph' (sdP d1 + sdP d2) = ph' k) := by
  have p1 := h1.2.2.1
  have p2 := h2.2.2.1
  have P1 := h1.P40
  have P2 := h2.P40
  have n11 : (nI 1 : Int32) ≠ 0 := by decide
  have K1 : KX wX (am_set (am_set wX 5 0 5 0) 5 0 6 0) := ((KX.rf wX).set (Or.inl ⟨by decide, by decide⟩)).set (Or.inl ⟨by decide, by decide⟩)
  have s1 : SenP (am_set (am_set wX 5 0 5 0) 5 0 6 0) (6 + i) (sdM d1) (sdP d1) (sdc d1) (sdl d1) (sdr d1) (sdf d1) (sdp d1) (sdd d1) := hS1.p.cg (K1.2.2.2.2.2 _ (by omega) (by omega))
  have s2 : SenP (am_set (am_set wX 5 0 5 0) 5 0 6 0) (6 + j) (sdM d2) (sdP d2) (sdc d2) (sdl d2) (sdr d2) (sdf d2) (sdp d2) (sdd d2) := hS2.p.cg (K1.2.2.2.2.2 _ (by omega) (by omega))
  have d0 : DrOK (am_set (am_set wX 5 0 5 0) 5 0 6 0) (0 + 0) (ptC d1 d2) (ptL d1 d2) (ptR d1 d2) 0 (fun _ => 0) (fun _ => 0) (fun _ => 0) := dr_0 (by rw [am_get_other (by decide), am_get_self]; rfl)
  generalize hw1 : am_set (am_set wX 5 0 5 0) 5 0 6 0 = w1 at K1 s1 s2 d0
  obtain ⟨W2, Q2, ph2, pl2, dp2, f1, f2, f3, -⟩ := X_take2 (m0 := 0) (cT := ptC d1 d2) (lT := ptL d1 d2) (rT := ptR d1 d2) s1 (len_sen hi P1) h1.cl h1.sh hi p1 P1 (by omega) (fun p hp => h1.plZ hp) (fun q hq => by rw [Nat.zero_add]; exact (pt_1 hq).1) (fun q hq _ => by rw [Nat.zero_add, Nat.zero_add]; exact (pt_1 hq).2.1) (fun q hq _ => by rw [Nat.zero_add, Nat.zero_add]; exact (pt_1 hq).2.2) (sdP d1) 0 FU w1 0 (fun _ => 0) (fun _ => 0) (fun _ => 0) (by omega) (FU_gt (by omega)) (KX.rf _) d0 (fun p hp => absurd hp (Nat.not_lt_zero p))
  rw [Nat.zero_add] at f1 f3
  obtain ⟨W3, Q3, ph3, pl3, dp3, g1, g2, g3, g4⟩ := X_take2 (m0 := sdP d1) (cT := ptC d1 d2) (lT := ptL d1 d2) (rT := ptR d1 d2) s2 (len_sen hj P2) h2.cl h2.sh hj p2 P2 (by omega) (fun p hp => h2.plZ hp) (fun q hq => (pt_2 hq).1) (fun q hq _ => (pt_2 hq).2.1) (fun q hq _ => (pt_2 hq).2.2) (sdP d2) 0 FU W2 Q2 ph2 pl2 dp2 (by omega) (FU_gt (by omega)) f2 f3 (fun p hp => absurd hp (Nat.not_lt_zero p))
  rw [Nat.add_zero] at g4
  obtain ⟨t1, t2, t3⟩ := pt_3 (d1 := d1) (d2 := d2)
  obtain ⟨Q4, ph4, pl4, dp4, W4, y1, y2, y3, y4, y5, y6⟩ := X_addT (pb := 0) (f := nI (ph3 (sdP d1 - 1))) (s := nI (ph3 (sdP d1 + sdP d2 - 1))) g3 (by omega) (by rw [t1]; exact Or.inr (Or.inr jn62)) (fun _ => by rw [t2]; omega) (fun _ => by rw [t3]; omega) (by decide) (by
    rw [t1, t2, t3]
    exact ⟨rfl, rfl⟩)
  rw [t1] at y1
  refine ⟨W4, Q4, ph4, pl4, dp4, ?_, (K1.tr g2).tr y4, y2, ?_⟩
  · have eb : mX2_begin 5 wX = some ((), w1) := by
      unfold mX2_begin
      rw [pu_mk, pu_mk, hw1]
    have e1 : mX2_takeIn 5 (6 + i) 0 7 w1 = some (nI (ph3 (sdP d1 - 1)), W2) := by
      unfold mX2_takeIn
      have f1' : mX2_takeIn_2 5 (6 + i) 0 7 FU 0 w1 = some (nI (ph2 (sdP d1 - 1)), W2) := f1
      rw [f1', g4 (sdP d1 - 1) (by omega)]
    have e2 : mX2_takeIn 5 (6 + j) 0 7 W2 = some (nI (ph3 (sdP d1 + sdP d2 - 1)), W3) := g1
    have e3 : mX2_part 5 62 (nI (ph3 (sdP d1 - 1))) (nI (ph3 (sdP d1 + sdP d2 - 1))) 0 W3 = some (nI (ph4 (sdP d1 + sdP d2)), W4) := y1
    unfold mX5_follows
    rw [X_sen_t _ hi, cl_mk, X_sen_t _ hj, cl_mk, nS_some (cls_sen i hi), nS_some (cls_sen j hj), X_log_t _ hL, cl_mk, if_pos n11, eb, cl_mk, e1, cl_mk, e2, cl_mk, e3, cl_mk]
  · rcases y6 with ⟨z1, z2⟩ | ⟨-, k, k1, k2⟩
    · exact Or.inl (by omega)
    · exact Or.inr ⟨k, k1, k2⟩
/-- both of follows, sorted out -/
theorem both_pair {wX wM : AW} {i j L : Nat} (h1 : SDok d1) (h2 : SDok d2) (hi : i < 6) (hj : j < 6) (hL : L < 8) (hS1 : SenX wX (6 + i) (sdM d1) (sdP d1) (sdc d1) (sdl d1) (sdr d1) (sdf d1) (sdp d1) (sdd d1)) (hS2 : SenX wX (6 + j) (sdM d2) (sdP d2) (sdc d2) (sdl d2) (sdr d2) (sdf d2) (sdp d2) (sdd d2)) (hM1 : SenM wM i (sdM d1) (sdZ d1) (sdc d1) (sdl d1) (sdr d1) (sdb d1) (sde d1) (sdy d1)) (hM2 : SenM wM j (sdM d2) (sdZ d2) (sdc d2) (sdl d2) (sdr d2) (sdb d2) (sde d2) (sdy d2)) :
    ∃ (r : Int32) (wX2 wM2 : AW), mX5_follows (nI i) (nI j) (nI L) wX = some (r, wX2) ∧ mX6_follows (nI i) (nI j) (nI L) wM = some (r, wM2) ∧ KX wX wX2 ∧ KM wM wM2 := by
  have m1 := h1.1
  have m2 := h2.1
  have M1 := h1.2.1
  have M2 := h2.2.1
  have Z1 := h1.2.2.2.2.1
  have Z2 := h2.2.2.2.2.1
  have P1 := h1.P40
  have P2 := h2.P40
  have n11 : (nI 1 : Int32) ≠ 0 := by decide
  have n00 : ¬ ((nI 0 : Int32) ≠ 0) := fun z => z rfl
  obtain ⟨W, eM, kM, hW⟩ := M_pair h1 h2 hi hj hL hM1 hM2
  obtain ⟨X, P', ph', pl', dp', eX, kX, hD, hlast⟩ := X_pair h1 h2 hi hj hL hS1 hS2
  obtain ⟨d1', d2', d3', d4'⟩ := hD
  have hP' := cls_le d2'
  have hT := pc_tree h1 h2
  have hsh := pc_shape h1 h2
  have hg := fun k (hk : k < sdM d1 + sdM d2 + 1) => pg_ok h1 h2 hk
  have hgs : ∀ x, x < sdP d1 + sdP d2 + 1 → ∃ k, k < sdM d1 + sdM d2 + 1 ∧ pgN d1 d2 k = x := fun x hx => by
    obtain ⟨k, k1, k2, -⟩ := pg_surj h1 h2 hx
    exact ⟨k, k1, k2⟩
  have hc := cls_comp (l := pcL d1 d2) (r := pcR d1 d2) d2' hg hgs
  have hc0 := cls_comp (l := pcL0 d1 d2) (r := pcR0 d1 d2) d2' (fun k hk => by
    obtain ⟨a1, a2, a3, a4⟩ := hg k hk
    refine ⟨a1, a2, fun z => ?_, fun z => ?_⟩
    · rw [show pcL0 d1 d2 k = pcL d1 d2 k from if_neg z]; exact a3 z
    · rw [show pcR0 d1 d2 k = pcR d1 d2 k from if_pos z]; exact a4 z) hgs
  have hs := sen_comp (l := pcL d1 d2) (r := pcR d1 d2) d1' (fun k hk => kinds_of hsh hk) hg
  have hb : ∀ k, k < sdM d1 + sdM d2 + 1 → pcB d1 d2 k < sdZ d1 + sdZ d2 + 3 := fun k hk => by
    have q1 := len_pos hT (k + 1) k (Nat.lt_succ_self k) hk
    have q2 := pc_E h1 h2 k hk
    omega
  have hl : (fun k => ph' (pgN d1 d2 k)) (sdM d1 + sdM d2 + 1 - 1) = P' - 1 := by
    rw [Nat.add_sub_cancel]
    dsimp only
    rw [pg_3]
    rcases hlast with z | ⟨x, x1, x2⟩
    · exact z
    · exfalso
      obtain ⟨k, k1, k2, k3⟩ := pg_surj h1 h2 (show x < sdP d1 + sdP d2 + 1 by omega)
      have k4 := k3 x1
      have e : (fun k => ph' (pgN d1 d2 k)) (sdM d1 + sdM d2) = (fun k => ph' (pgN d1 d2 k)) k := by
        dsimp only
        rw [pg_3, k2]
        exact x2
      have li := (like_of hT hc0 _ (sdM d1 + sdM d2) k (Nat.lt_succ_self _) (by omega) (by omega) e).1
      obtain ⟨-, -, -, b1, b2⟩ := pc_3 (d1 := d1) (d2 := d2)
      rw [b1, b2] at li
      rcases pc_cases k1 with q | ⟨y, hy, rfl⟩ | rfl
      · obtain ⟨-, -, -, c1, c2⟩ := pc_1 (d2 := d2) q
        have := h1.2.2.2.2.2.2.2.2.2.2.2.1 k q
        rw [c1, c2] at li
        omega
      · obtain ⟨-, -, -, c1, c2⟩ := pc_2 (d1 := d1) hy
        have := h2.2.2.2.2.2.2.2.2.2.2.2.1 y hy
        rw [c1, c2] at li
        omega
      · omega
  have hy := pcY_lt h1 h2
  rcases both_core (Q := fun _ => True) hs (len_5 (by omega)) hT hc0 hsh hc (by omega) (by omega) (by omega) hl (by decide) (fun p hp => (d4' p hp).2) hW (by omega) (pc_E h1 h2) hy hL (fun nb bp V hI => ⟨_, fT_ok (hI.lq hc0 hb), trivial⟩) with ⟨z1, V2, z2, z3⟩ | ⟨f, -, hB⟩
  · have z2' : mX6_tells 0 W = some (nI 0, V2) := z2
    refine ⟨-nI 2, X, V2, ?_, ?_, kX, kM.tr z3⟩
    · rw [eX, z1, cl_mk, if_neg n00]; rfl
    · rw [eM, z2', cl_mk, if_neg n00]; rfl
  · obtain ⟨X2, V2, V3, V4, rho, x, x1, x2, x3, t1, t2, t3, t4, t5⟩ := both_law hL hB
    have x2' : mX3_answer 1 X2 = some (nI (bN x), X2) := x2
    refine ⟨nI (bN x), X2, V4, ?_, ?_, kX.tr x3, kM.tr t5⟩
    · rw [eX, x1, cl_mk, if_pos n11, x2', cl_mk]
    · rw [eM, t1, cl_mk, if_pos n11, t2, cl_mk, t3, cl_mk, t4, cl_mk]
      cases x
      · rw [if_pos (show nI (bN false) = 0 from rfl)]; rfl
      · rw [if_neg (show ¬ (nI (bN true) = 0) by decide)]; rfl
end PG
theorem pub_follows : Pub_follows Rel := by
  rintro wX wM ⟨N, S, A, T, y, D, h⟩ v0 v1 v2
  have hR := h
  obtain ⟨hN, hX, hM, hT, h2, hS, h12⟩ := h
  have n10 : ¬ (nI 1 : Int32) = 0 := by decide
  by_cases c0 : ∃ k, k < 6 ∧ v0 = nI k
  rotate_left
  · refine pub_same hR (-nI 1) ?_ ?_ (KX.rf _) (KM0 wM)
    · by_cases c1 : ∃ k, k < 6 ∧ v1 = nI k
      · obtain ⟨j, hj, rfl⟩ := c1
        simp only [mX5_follows, X_sen_f _ c0, X_sen_t _ hj, nS_none, cl_mk, nm_mk, pu_mk, lit, if_true, if_false, ne_eq, not_false_eq_true, not_true_eq_false, nI_add, nI_or, nI_and, Bool.false_eq_true, ne01, ne10, nI_m1', Nat.or_zero]
      · simp only [mX5_follows, X_sen_f _ c0, X_sen_f _ c1, nS_none, cl_mk, nm_mk, pu_mk, lit, if_true, if_false, ne_eq, not_false_eq_true, not_true_eq_false, nI_add, nI_or, nI_and, Bool.false_eq_true, ne01, ne10, nI_m1', Nat.or_zero]
    · simp only [mX6_follows, M_sen_f _ c0, cl_mk, nm_mk, pu_mk, lit, if_true, if_false, ne_eq, not_false_eq_true, not_true_eq_false, nI_add, nI_or, nI_and, Bool.false_eq_true, ne01, ne10, nI_m1', Nat.or_zero]
  obtain ⟨i, hi, rfl⟩ := c0
  by_cases c1 : ∃ k, k < 6 ∧ v1 = nI k
  rotate_left
  · refine pub_same hR (-nI 1) ?_ ?_ (KX.rf _) (KM0 wM)
    · simp only [mX5_follows, X_sen_t _ hi, X_sen_f _ c1, nS_some (cls_sen i hi), nS_none, cl_mk, nm_mk, pu_mk, lit, if_true, if_false, ne_eq, not_false_eq_true, not_true_eq_false, nI_add, nI_or, nI_and, Bool.false_eq_true, ne01, ne10, nI_m1', Nat.or_zero]
    · simp only [mX6_follows, M_sen_t _ hi, M_sen_f _ c1, cl_mk, nm_mk, pu_mk, lit, if_true, if_false, ne_eq, not_false_eq_true, not_true_eq_false, nI_add, nI_or, nI_and, Bool.false_eq_true, ne01, ne10, nI_m1', Nat.or_zero]
  obtain ⟨j, hj, rfl⟩ := c1
  by_cases c2 : ∃ k, k < 8 ∧ v2 = nI k
  rotate_left
  · refine pub_same hR (-nI 1) ?_ ?_ (KX.rf _) (KM0 wM)
    · simp only [mX5_follows, X_sen_t _ hi, X_sen_t _ hj, nS_some (cls_sen i hi), nS_some (cls_sen j hj), X_log_f _ c2, cl_mk, nm_mk, pu_mk, lit, if_true, if_false, ne_eq, not_false_eq_true, not_true_eq_false, nI_add, nI_or, nI_and, Bool.false_eq_true, ne01, ne10, nI_m1', Nat.or_zero]
    · simp only [mX6_follows, M_sen_t _ hi, M_sen_t _ hj, M_log_f _ c2, cl_mk, nm_mk, pu_mk, lit, if_true, if_false, ne_eq, not_false_eq_true, not_true_eq_false, nI_add, nI_or, nI_and, Bool.false_eq_true, ne01, ne10, nI_m1', Nat.or_zero]
  obtain ⟨L, hL, rfl⟩ := c2
  obtain ⟨a1, a2, a3⟩ := hS i hi
  obtain ⟨b1, b2, b3⟩ := hS j hj
  obtain ⟨r, wX2, wM2, e1, e2, k1, k2⟩ := both_pair a1 b1 hi hj hL a2 b2 a3 b3
  exact pub_same hR r e1 e2 k1 k2
