section
/-! about -/
def newB (ph : Nat → Nat) (k : Nat) : Bool := allT (fun j => !decide (ph j = ph k)) k
def newN (ph : Nat → Nat) : Nat → Nat
  | 0 => 0
  | k + 1 => newN ph k + bN (newB ph k)
def mkS (ph : Nat → Nat) (k : Nat) : Nat := orF (fun j => 2 ^ (ph j)) k
theorem tb_mkS {ph : Nat → Nat} {k i : Nat} : (mkS ph k).testBit i = true ↔ ∃ j, j < k ∧ ph j = i := by
  unfold mkS
  rw [tb_orF]
  constructor
  · rintro ⟨j, h1, h2⟩
    rw [tb_pow, decide_eq_true_eq] at h2
    exact ⟨j, h1, h2⟩
  · rintro ⟨j, h1, h2⟩
    exact ⟨j, h1, by rw [tb_pow, decide_eq_true_eq]; exact h2⟩
theorem cnt_set (m i : Nat) : ∀ n, cntB (m ||| 2 ^ i) n = cntB m n + (if i < n ∧ m.testBit i = false then 1 else 0)
  | 0 => by rw [if_neg (fun h => by omega)]; rfl
  | n + 1 => by
    have ih := cnt_set m i n
    show cntB (m ||| 2 ^ i) n + (if (m ||| 2 ^ i).testBit n = true then 1 else 0) = cntB m n + (if m.testBit n = true then 1 else 0) + _
    rw [ih, Nat.testBit_or, tb_pow]
    by_cases e : i = n
    · subst e
      cases q : m.testBit i <;> simp [q]
    · have e2 : (i < n + 1 ∧ m.testBit i = false) ↔ (i < n ∧ m.testBit i = false) := ⟨fun h => ⟨by omega, h.2⟩, fun h => ⟨by omega, h.2⟩⟩
      rw [decide_eq_false e, Bool.or_false]
      simp only [e2]
      omega
theorem cnt_all {m : Nat} : ∀ n, (∀ i, i < n → m.testBit i = true) → cntB m n = n
  | 0, _ => rfl
  | n + 1, h => by
    show cntB m n + (if m.testBit n = true then 1 else 0) = n + 1
    rw [cnt_all n (fun i hi => h i (by omega)), h n (by omega)]
    rfl
section AB
variable {m P : Nat} {c l r b e y ph pl dp : Nat → Nat}
theorem newB_eq (k : Nat) : newB ph k = !(mkS ph k).testBit (ph k) := by
  cases q : (mkS ph k).testBit (ph k)
  · unfold newB
    rw [Bool.not_false, allT_iff]
    intro j hj
    cases z : decide (ph j = ph k)
    · rfl
    · rw [decide_eq_true_eq] at z
      rw [tb_mkS.mpr ⟨j, hj, z⟩] at q
      cases q
  · obtain ⟨j, h1, h2⟩ := tb_mkS.mp q
    cases z : newB ph k
    · rfl
    · unfold newB at z
      rw [allT_iff] at z
      have := z j h1
      rw [decide_eq_true h2] at this
      cases this
theorem newN_cnt (hc : ClassOK m P c l r ph) : ∀ k, k ≤ m → cntB (mkS ph k) P = newN ph k := by
  intro k
  induction k with
  | zero =>
    intro _
    have : ∀ n, cntB (mkS ph 0) n = 0 := by
      intro n
      induction n with
      | zero => rfl
      | succ n ih =>
        show cntB (mkS ph 0) n + (if (mkS ph 0).testBit n = true then 1 else 0) = 0
        rw [ih]
        show 0 + (if Nat.testBit 0 n = true then 1 else 0) = 0
        rw [Nat.zero_testBit]
        rfl
    exact this P
  | succ k ih =>
    intro hk
    show cntB (mkS ph k ||| 2 ^ (ph k)) P = newN ph k + bN (newB ph k)
    rw [cnt_set, ih (by omega), newB_eq]
    have := hc.1 k (by omega)
    cases q : (mkS ph k).testBit (ph k)
    · rw [if_pos ⟨this, rfl⟩]; rfl
    · rw [if_neg (fun h => by cases h.2)]; rfl
theorem newN_P (hc : ClassOK m P c l r ph) : newN ph m = P := by
  rw [← newN_cnt hc m (Nat.le_refl m)]
  refine cnt_all P (fun i hi => ?_)
  obtain ⟨k, h1, h2⟩ := hc.2.1 i hi
  exact tb_mkS.mpr ⟨k, h1, h2⟩
theorem newN_le (ph : Nat → Nat) : ∀ k, newN ph k ≤ k
  | 0 => Nat.le_refl 0
  | k + 1 => by
    have := newN_le ph k
    have := bN_lt (newB ph k)
    show newN ph k + bN (newB ph k) ≤ k + 1
    omega
def opD (c a b : Nat) : Nat := max a b + bN (modB c)
theorem dp_ev (hs : ShapeOK m c l r) (hp : PartOK m P c l r b ph pl dp) : ∀ n k, k < n → k < m → evV (fun k => opD (c k)) c l r k = dp (ph k) := by
  intro n
  induction n with
  | zero => intro k h; omega
  | succ n ih =>
    intro k hkn hk
    obtain ⟨d1, d2, d3⟩ := hp.2.2.2.2.2.2 k hk
    rw [evV_eq hs hk]
    show max (argA c l (evV (fun k => opD (c k)) c l r) k) (argB c r (evV (fun k => opD (c k)) c l r) k) + bN (modB (c k)) = dp (ph k)
    unfold argA argB
    rcases hs k hk with g | ⟨g, g1⟩ | ⟨g, g1, g2⟩
    · have h3 : ¬ (c k = 91 ∨ c k = 123) := by unfold isLeaf at g; omega
      have h4 : modB (c k) = false := decide_eq_false h3
      rw [kd_leaf g, d1 g, h4]
      rfl
    · rw [kd_pre g, d2 g]
      simp only [Nat.one_ne_zero, if_false]
      rw [ih _ (by omega) (by omega)]
      unfold isPre at g
      by_cases q : c k = 33
      · have h3 : ¬ (c k = 91 ∨ c k = 123) := by omega
        have h4 : modB (c k) = false := decide_eq_false h3
        rw [h4, if_pos q]
        show max _ 0 + 0 = _ + 0
        omega
      · have h3 : c k = 91 ∨ c k = 123 := by omega
        have h4 : modB (c k) = true := decide_eq_true h3
        rw [h4, if_neg q]
        show max _ 0 + 1 = _ + 1
        omega
    · have h3 : ¬ (c k = 91 ∨ c k = 123) := by unfold isJn at g; omega
      have h4 : modB (c k) = false := decide_eq_false h3
      rw [kd_jn g, d3 g, h4, if_neg (by decide), if_pos rfl, ih _ (by omega) (by omega), ih _ (by omega) (by omega)]
      rfl
end AB
section AM
variable {w : AW}
noncomputable def dE (W : AW) (p : Nat) (K : Int32 → Int32 → AW → Option (Int32 × AW)) : Option (Int32 × AW) :=
  rd 90 (W.1 0 30) (nI p) fun x_1 => cl (mX6_isPrefix x_1 W) fun x_3 w_2 => if x_3 ≠ 0 then mX6_about_108 K (nI 1) (nI p) w_2 else cl (mX6_isTwo (nI p) w_2) fun x_5 w_4 => if x_5 = 0 then mX6_about_124 K (nI 1) (nI p) 0 w_4 else mX6_about_108 K (nI 1) (nI p) w_4
theorem M_dE {W : AW} {p cc x y lp rp : Nat} {K : Int32 → Int32 → AW → Option (Int32 × AW)} (hcc : isLeaf cc ∨ isPre cc ∨ isJn cc) (hp : p < 90) (hc : W.1 0 30 p = nI cc)
    (hx0 : kd cc = 0 → x = 0) (hx : kd cc ≠ 0 → lp < 90 ∧ W.1 0 31 p = nI lp ∧ W.1 0 38 lp = nI x) (hy0 : kd cc ≠ 2 → y = 0) (hy : kd cc = 2 → rp < 90 ∧ W.1 0 32 p = nI rp ∧ W.1 0 38 rp = nI y) :
    dE W p K = mX6_about_151 K (nI 1) (nI p) (nI x) (nI y) W := by
  have r30 : ∀ f : Int32 → Option (Int32 × AW), rd 90 (W.1 0 30) (nI p) f = f (nI cc) := fun f => by
    rw [rd_in (by omega) (by decide), hc]
  have r31 : kd cc ≠ 0 → (∀ f : Int32 → Option (Int32 × AW), rd 90 (W.1 0 31) (nI p) f = f (nI lp)) ∧ (∀ f : Int32 → Option (Int32 × AW), rd 90 (W.1 0 38) (nI lp) f = f (nI x)) := fun z => by
    obtain ⟨z1, z2, z3⟩ := hx z
    exact ⟨fun f => by rw [rd_in (by omega) (by decide), z2], fun f => by rw [rd_in z1 (by decide), z3]⟩
  have r32 : kd cc = 2 → (∀ f : Int32 → Option (Int32 × AW), rd 90 (W.1 0 32) (nI p) f = f (nI rp)) ∧ (∀ f : Int32 → Option (Int32 × AW), rd 90 (W.1 0 38) (nI rp) f = f (nI y)) := fun z => by
    obtain ⟨z1, z2, z3⟩ := hy z
    exact ⟨fun f => by rw [rd_in (by omega) (by decide), z2], fun f => by rw [rd_in z1 (by decide), z3]⟩
  have ePre : mX6_isPrefix (nI cc) W = some (nI (if kd cc = 1 then 1 else 0), W) := by
    rcases hcc with (rfl | rfl | rfl | rfl | rfl | rfl) | (rfl | rfl | rfl) | (rfl | rfl | rfl) <;> simp only [mX6_isPrefix, mX6_isPrefix_18, cl_mk, nm_mk, pu_mk, lit, if_true, if_false, ne_eq, not_false_eq_true, not_true_eq_false, nI_add, nI_or, nI_and, Bool.false_eq_true, ne01, ne10, nI_m1', Nat.or_zero, nI_eqD, nI_leD, nI_ltD, Nat.reduceLT, Nat.reduceLeDiff, Nat.reduceEqDiff, Nat.reduceSub, or_true, true_or, or_false, false_or, and_true, true_and, and_false, false_and] <;> rfl
  have eJoin : mX6_isJoin (nI cc) W = some (nI (if kd cc = 2 then 1 else 0), W) := by
    rcases hcc with (rfl | rfl | rfl | rfl | rfl | rfl) | (rfl | rfl | rfl) | (rfl | rfl | rfl) <;> simp only [mX6_isJoin, mX6_isJoin_18, cl_mk, nm_mk, pu_mk, lit, if_true, if_false, ne_eq, not_false_eq_true, not_true_eq_false, nI_add, nI_or, nI_and, Bool.false_eq_true, ne01, ne10, nI_m1', Nat.or_zero, nI_eqD, nI_leD, nI_ltD, Nat.reduceLT, Nat.reduceLeDiff, Nat.reduceEqDiff, Nat.reduceSub, or_true, true_or, or_false, false_or, and_true, true_and, and_false, false_and] <;> rfl
  have eTwo : mX6_isTwo (nI p) W = some (nI (if kd cc = 2 then 1 else 0), W) := by
    unfold mX6_isTwo
    rw [r30, eJoin, cl_mk]
    split
    · exact zr_1 W
    · exact zr_0 W
  have n10 : (nI 1 : Int32) ≠ 0 := by decide
  unfold dE
  rw [r30, ePre, cl_mk]
  rcases hcc with g | g | g
  · have k0 := kd_leaf g
    obtain rfl := hx0 k0
    obtain rfl := hy0 (by rw [k0]; decide)
    rw [k0] at eTwo ⊢
    rw [if_neg (show ¬ (nI (if 0 = 1 then 1 else 0) ≠ 0) from fun h => h rfl), eTwo, cl_mk, if_pos (show nI (if 0 = 2 then 1 else 0) = 0 from rfl)]
    unfold mX6_about_124
    rw [eTwo, cl_mk, if_pos (show nI (if 0 = 2 then 1 else 0) = 0 from rfl)]
    rfl
  · have k0 := kd_pre g
    obtain rfl := hy0 (by rw [k0]; decide)
    obtain ⟨r1, r2⟩ := r31 (by rw [k0]; decide)
    rw [k0] at eTwo ⊢
    rw [if_pos (show nI (if 1 = 1 then 1 else 0) ≠ 0 from n10)]
    unfold mX6_about_108
    rw [r1, r2]
    unfold mX6_about_124
    rw [eTwo, cl_mk, if_pos (show nI (if 1 = 2 then 1 else 0) = 0 from rfl)]
    rfl
  · have k0 := kd_jn g
    obtain ⟨r1, r2⟩ := r31 (by rw [k0]; decide)
    obtain ⟨r3, r4⟩ := r32 k0
    rw [k0] at eTwo ⊢
    rw [if_neg (show ¬ (nI (if 2 = 1 then 1 else 0) ≠ 0) from fun h => h rfl), eTwo, cl_mk, if_neg (show ¬ (nI (if 2 = 2 then 1 else 0) = 0) from n10)]
    unfold mX6_about_108
    rw [r1, r2]
    unfold mX6_about_124
    rw [eTwo, cl_mk, if_neg (show ¬ (nI (if 2 = 2 then 1 else 0) = 0) from n10), r3, r4]
theorem M_d151 {W : AW} {p cc x y : Nat} {K : Int32 → Int32 → AW → Option (Int32 × AW)} (hp : p < 90) (hcc : cc < 128) (hc : W.1 0 30 p = nI cc) (hxl : x < 1000) (hyl : y < 1000) : mX6_about_151 K (nI 1) (nI p) (nI x) (nI y) W = K (nI (opD cc x y)) (nI (p + 1)) (am_set W 0 38 p (nI (opD cc x y))) := by
  have emod := M_isModal (w := W) hp hcc hc
  have hw := fun z => wr_in (α := Int32 × AW) hp (show 90 < 2 ^ 31 by decide) W 0 38 z
  have r38 : ∀ (z : Int32) (f : Int32 → Option (Int32 × AW)), rd 90 ((am_set W 0 38 p z).1 0 38) (nI p) f = f z := fun z f => by
    rw [rd_in hp (by decide), am_get_self]
  have tail : ∀ (s0 : Nat), s0 = max x y → mX6_about_173 K (nI 1) (nI p) (nI s0) (nI p) W = K (nI (opD cc x y)) (nI (p + 1)) (am_set W 0 38 p (nI (opD cc x y))) := by
    intro s0 hs0
    subst hs0
    unfold opD
    cases q : modB cc
    · rw [q] at emod
      simp only [mX6_about_173, mX6_about_187, mX6_about_253, emod, hw, r38, bN_f, Nat.add_zero, cl_mk, nm_mk, pu_mk, lit, if_true, if_false, ne_eq, not_false_eq_true, not_true_eq_false, nI_add, nI_or, nI_and, Bool.false_eq_true, ne01, ne10, nI_m1', Nat.or_zero]
    · rw [q] at emod
      simp only [mX6_about_173, mX6_about_187, mX6_about_253, emod, hw, r38, bN_t, cl_mk, nm_mk, pu_mk, lit, if_true, if_false, ne_eq, not_false_eq_true, not_true_eq_false, nI_add, nI_or, nI_and, Bool.false_eq_true, ne01, ne10, nI_m1', Nat.or_zero]
  unfold mX6_about_151
  by_cases h : x ≤ y
  · rw [if_pos (nI_le h (by omega))]
    exact tail y (by omega)
  · rw [if_neg (nI_ge (by omega) (by omega))]
    exact tail x (by omega)
theorem M_dstep {W : AW} {n p M cc x y lp rp : Nat} {v : Int32} (hcc : isLeaf cc ∨ isPre cc ∨ isJn cc) (h26 : W.1 0 0 26 = nI M) (hp : p < M) (hMM : M ≤ 90) (hc : W.1 0 30 p = nI cc)
    (hx0 : kd cc = 0 → x = 0) (hx : kd cc ≠ 0 → lp < 90 ∧ W.1 0 31 p = nI lp ∧ W.1 0 38 lp = nI x) (hy0 : kd cc ≠ 2 → y = 0) (hy : kd cc = 2 → rp < 90 ∧ W.1 0 32 p = nI rp ∧ W.1 0 38 rp = nI y) (hxl : x < 1000) (hyl : y < 1000) :
    mX6_about_72 (nI 1) (n + 1) v (nI p) W = mX6_about_72 (nI 1) n (nI (opD cc x y)) (nI (p + 1)) (am_set W 0 38 p (nI (opD cc x y))) := by
  have c1 : ¬ nI M ≤ nI p := nI_ge hp (by omega)
  have e1 := M_dE (K := mX6_about_72 (nI 1) n) hcc (show p < 90 by omega) hc hx0 hx hy0 hy
  have e2 := M_d151 (K := mX6_about_72 (nI 1) n) (show p < 90 by omega) (kinds_lt hcc) hc hxl hyl
  rw [mX6_about_72, h26, if_neg c1, if_neg (fun h => h rfl)]
  exact e1.trans e2
theorem opD_le {m : Nat} {c l r : Nat → Nat} (hs : ShapeOK m c l r) : ∀ n k, k < n → k < m → evV (fun k => opD (c k)) c l r k ≤ k := by
  intro n
  induction n with
  | zero => intro k h; omega
  | succ n ih =>
    intro k hkn hk
    rw [evV_eq hs hk]
    show max (argA c l (evV (fun k => opD (c k)) c l r) k) (argB c r (evV (fun k => opD (c k)) c l r) k) + bN (modB (c k)) ≤ k
    unfold argA argB
    have hb := bN_lt (modB (c k))
    rcases hs k hk with g | ⟨g, g1⟩ | ⟨g, g1, g2⟩
    · have h3 : ¬ (c k = 91 ∨ c k = 123) := by unfold isLeaf at g; omega
      have e : modB (c k) = false := decide_eq_false h3
      rw [kd_leaf g, e]
      exact Nat.zero_le _
    · have := ih _ (show l k < n by omega) (by omega)
      rw [kd_pre g]
      simp only [Nat.one_ne_zero, if_false]
      show max (evV (fun k => opD (c k)) c l r (l k)) 0 + bN (modB (c k)) ≤ k
      omega
    · have h1 := ih _ (show l k < n by omega) (by omega)
      have h2 := ih _ (show r k < n by omega) (by omega)
      rw [kd_jn g]
      show max (evV (fun k => opD (c k)) c l r (l k)) (evV (fun k => opD (c k)) c l r (r k)) + bN (modB (c k)) ≤ k
      omega
variable {M Z P : Nat} {c l r b e y ph : Nat → Nat}
theorem M_about1 (hW : WorkM w M Z c l r b e y) (hs : ShapeOK M c l r) (hM1 : 1 ≤ M) (hM2 : M ≤ 90) : mX6_about_72 (nI 1) FU (nI 0) (nI 0) w = some (nI (evV (fun k => opD (c k)) c l r (M - 1)), hdW w (evV (fun k => opD (c k)) c l r) M) := by
  have hb : ∀ k, k < M → evV (fun k => opD (c k)) c l r k < 1000 := fun k hk => by
    have := opD_le hs (k + 1) k (Nat.lt_succ_self k) hk
    omega
  refine loopE (fun n (s : Int32 × Int32 × AW) => mX6_about_72 (nI 1) n s.1 s.2.1 s.2.2) M (fun k => (nI (if k = 0 then 0 else evV (fun k => opD (c k)) c l r (k - 1)), nI k, hdW w (evV (fun k => opD (c k)) c l r) k)) _ ?_ ?_ FU 0 (Nat.zero_le _) (FU_gt (by omega))
  · intro n k hk
    have hWk : WorkM (hdW w (evV (fun k => opD (c k)) c l r) k) M Z c l r b e y := hW.c (by rw [hdW_row k 0 (by decide)]) (by rw [hdW_row k 0 (by decide)]) (fun a h1 h2 => hdW_row k a (by omega))
    obtain ⟨a1, a2, a3, a4⟩ := M_args (op := fun k => opD (c k)) hWk hs hM2 hk (fun j hj => setRow_in k hj)
    have hA : argA c l (evV (fun k => opD (c k)) c l r) k < 1000 := by
      unfold argA
      rcases hs k hk with g | ⟨g, g1⟩ | ⟨g, g1, g2⟩
      · rw [kd_leaf g]; exact (show (0 : Nat) < 1000 by decide)
      · rw [kd_pre g]; exact hb _ (by omega)
      · rw [kd_jn g]; exact hb _ (by omega)
    have hB : argB c r (evV (fun k => opD (c k)) c l r) k < 1000 := by
      unfold argB
      rcases hs k hk with g | ⟨g, g1⟩ | ⟨g, g1, g2⟩
      · rw [kd_leaf g]; exact (show (0 : Nat) < 1000 by decide)
      · rw [kd_pre g]; exact (show (0 : Nat) < 1000 by decide)
      · rw [kd_jn g]; exact hb _ (by omega)
    have e := M_dstep (n := n) (v := nI (if k = 0 then 0 else evV (fun k => opD (c k)) c l r (k - 1))) (kinds_of hs hk) hWk.1 hk hM2 (hWk.2.2.1 k hk).1 a1 a2 a3 a4 hA hB
    refine e.trans ?_
    rw [← evV_eq (op := fun k => opD (c k)) hs hk]
    rfl
  · intro n
    have c1 : nI M ≤ nI M := nI_le (Nat.le_refl M) (by omega)
    have e26 : (hdW w (evV (fun k => opD (c k)) c l r) M).1 0 0 26 = nI M := by rw [hdW_row M 0 (by decide)]; exact hW.1
    simp only [mX6_about_72, e26, c1, cl_mk, nm_mk, pu_mk, lit, if_true, if_false, ne_eq, not_false_eq_true, not_true_eq_false, nI_add, nI_or, nI_and, Bool.false_eq_true, ne01, ne10, nI_m1', Nat.or_zero]
    rw [if_neg (by omega)]
theorem M_about2 (hW : WorkM w M Z c l r b e y) (hT : TreeOK M c l r b e y) (hc : ClassOK M P c l r ph) (hM : M ≤ 90) (hZ : Z ≤ 420) (he : ∀ k, k < M → e k ≤ Z) (hy : ∀ j, y j < 256) : mX6_about_72 (nI 2) FU (nI 0) (nI 0) w = some (nI P, w) := by
  rw [← newN_P hc]
  have q21 : (nI 2 = nI 1) = False := by
    rw [nI_eqD (by decide) (by decide)]
    exact eq_false (by decide)
  refine loopE (fun n (s : Int32 × Int32) => mX6_about_72 (nI 2) n s.1 s.2 w) M (fun k => (nI (newN ph k), nI k)) _ ?_ ?_ FU 0 (Nat.zero_le _) (FU_gt (by omega))
  · intro n k hk
    have c1 : ¬ nI M ≤ nI k := nI_ge hk (by omega)
    have inner : mX6_about_206 (mX6_about_72 (nI 2) n) (nI 2) (nI (newN ph k)) (nI k) FU (nI 1) (nI 0) w = mX6_about_72 (nI 2) n (nI (newN ph (k + 1))) (nI (k + 1)) w := by
      refine loopE (fun n2 (s : Int32 × Int32) => mX6_about_206 (mX6_about_72 (nI 2) n) (nI 2) (nI (newN ph k)) (nI k) n2 s.1 s.2 w) k (fun j => (nI (bN (allT (fun j => !decide (ph j = ph k)) j)), nI j)) _ ?_ ?_ FU 0 (Nat.zero_le _) (FU_gt (by omega))
      · intro n2 j hj
        have d1 : ¬ nI k ≤ nI j := nI_ge hj (by omega)
        have e1 := M_isLike hW hT hc hM hZ he hy (show j < M by omega) hk
        by_cases q : ph j = ph k
        · rw [decide_eq_true q, bN_t] at e1
          simp only [mX6_about_206, mX6_about_231, d1, e1, allT, decide_eq_true q, Bool.not_true, Bool.and_false, bN_f, Nat.and_zero, cl_mk, nm_mk, pu_mk, lit, if_true, if_false, ne_eq, not_false_eq_true, not_true_eq_false, nI_add, nI_or, nI_and, Bool.false_eq_true, ne01, ne10, nI_m1', Nat.or_zero]
        · rw [decide_eq_false q, bN_f] at e1
          have e2 : ∀ b : Bool, nI (bN b &&& 1) = nI (bN b) := fun b => by cases b <;> rfl
          simp only [mX6_about_206, mX6_about_231, d1, e1, allT, decide_eq_false q, Bool.not_false, Bool.and_true, e2, cl_mk, nm_mk, pu_mk, lit, if_true, if_false, ne_eq, not_false_eq_true, not_true_eq_false, nI_add, nI_or, nI_and, Bool.false_eq_true, ne01, ne10, nI_m1', Nat.or_zero]
      · intro n2
        have d1 : nI k ≤ nI k := nI_le (Nat.le_refl k) (by omega)
        have e3 : newN ph (k + 1) = newN ph k + bN (newB ph k) := rfl
        unfold newB at e3
        cases q : allT (fun j => !decide (ph j = ph k)) k
        · rw [q, bN_f] at e3
          simp only [mX6_about_206, mX6_about_251, mX6_about_253, d1, q, bN_f, e3, cl_mk, nm_mk, pu_mk, lit, if_true, if_false, ne_eq, not_false_eq_true, not_true_eq_false, nI_add, nI_or, nI_and, Bool.false_eq_true, ne01, ne10, nI_m1', Nat.or_zero]
        · rw [q, bN_t] at e3
          simp only [mX6_about_206, mX6_about_251, mX6_about_253, d1, q, bN_t, e3, cl_mk, nm_mk, pu_mk, lit, if_true, if_false, ne_eq, not_false_eq_true, not_true_eq_false, nI_add, nI_or, nI_and, Bool.false_eq_true, ne01, ne10, nI_m1', Nat.or_zero]
    simp only [mX6_about_72, hW.1, c1, q21, cl_mk, nm_mk, pu_mk, lit, if_true, if_false, ne_eq, not_false_eq_true, not_true_eq_false, nI_add, nI_or, nI_and, Bool.false_eq_true, ne01, ne10, nI_m1', Nat.or_zero]
    exact inner
  · intro n
    have c1 : nI M ≤ nI M := nI_le (Nat.le_refl M) (by omega)
    simp only [mX6_about_72, hW.1, c1, cl_mk, nm_mk, pu_mk, lit, if_true, if_false, ne_eq, not_false_eq_true, not_true_eq_false, nI_add, nI_or, nI_and, Bool.false_eq_true, ne01, ne10, nI_m1', Nat.or_zero]
end AM
theorem pub_about : Pub_about Rel := by
  rintro wX wM ⟨N, S, A, T, y, D, h⟩ v0 v1
  have hR := h
  obtain ⟨hN, hX, hM, hT, h2, hS, h12⟩ := h
  by_cases c0 : ∃ k, k < 6 ∧ v0 = nI k
  rotate_left
  · refine pub_same hR (-nI 1) ?_ ?_ (KX.rf _) (KM0 wM)
    · simp only [mX5_about, X_sen_f _ c0, nS_none, cl_mk, nm_mk, pu_mk, lit, if_true, if_false, ne_eq, not_false_eq_true, not_true_eq_false, nI_add, nI_or, nI_and, Bool.false_eq_true, ne01, ne10, nI_m1', Nat.or_zero]
    · simp only [mX6_about, M_sen_f _ c0, cl_mk, nm_mk, pu_mk, lit, if_true, if_false, ne_eq, not_false_eq_true, not_true_eq_false, nI_add, nI_or, nI_and, Bool.false_eq_true, ne01, ne10, nI_m1', Nat.or_zero]
  obtain ⟨i, hi, rfl⟩ := c0
  have hcl := cls_sen i hi
  by_cases c1 : ∃ k, k < 5 ∧ v1 = nI k
  rotate_left
  · have z : ∀ k, k < 5 → (v1 = nI k) = False := fun k hk => eq_false (fun e => c1 ⟨k, hk, e⟩)
    have e := M_in_f (n := 5) (am_set wM 0 0 0 (nI 0)) c1 (by decide) (by decide)
    have e' : mX6_in v1 (nI 0) (nI 4) (am_set wM 0 0 0 (nI 0)) = some (nI 0, am_set wM 0 0 0 (nI 0)) := e
    refine pub_same hR (-nI 1) ?_ ?_ (KX.rf _) (KM0 wM)
    · simp only [mX5_about, X_sen_t _ hi, nS_some hcl, z 0 (by decide), z 1 (by decide), z 2 (by decide), z 3 (by decide), z 4 (by decide), cl_mk, nm_mk, pu_mk, lit, if_true, if_false, ne_eq, not_false_eq_true, not_true_eq_false, nI_add, nI_or, nI_and, Bool.false_eq_true, ne01, ne10, nI_m1', Nat.or_zero]
    · simp only [mX6_about, M_sen_t _ hi, e', cl_mk, nm_mk, pu_mk, lit, if_true, if_false, ne_eq, not_false_eq_true, not_true_eq_false, nI_add, nI_or, nI_and, Bool.false_eq_true, ne01, ne10, nI_m1', Nat.or_zero]
  obtain ⟨k, hk, rfl⟩ := c1
  obtain ⟨hd, hSX, hSM⟩ := hS i hi
  generalize D i = d at hd hSX hSM
  have hP := hd.P40
  have hM40 := hd.2.1
  have hL := len_sen (i := i) hi hP
  have e1 := M_works (hSM.k (KM0 wM)) hi hd.2.1 hd.2.2.2.2.1
  have k1 := wkW_K (w := am_set wM 0 0 0 (nI 0)) (m := sdM d) (z := sdZ d) (c := sdc d) (l := sdl d) (r := sdr d) (b := sdb d) (e := sde d) (y := sdy d)
  have hW := wkW_W (w := am_set wM 0 0 0 (nI 0)) (m := sdM d) (z := sdZ d) (c := sdc d) (l := sdl d) (r := sdr d) (b := sdb d) (e := sde d) (y := sdy d)
  generalize wkW (am_set wM 0 0 0 (nI 0)) (sdM d) (sdZ d) (sdc d) (sdl d) (sdr d) (sdb d) (sde d) (sdy d) = w1 at e1 k1 hW
  have ein := M_inL (lo := 0) (hi := 4) (am_set wM 0 0 0 (nI 0)) (Nat.zero_le k) (show k ≤ 4 by omega) (by decide)
  match k, hk, ein with
  | 0, _, ein =>
    refine pub_same hR (nI (sdM d)) ?_ ?_ (KX.rf _) ((KM0 wM).tr k1)
    · simp only [mX5_about, X_sen_t _ hi, nS_some hcl, mX2_signs, hSX.2.1, cl_mk, nm_mk, pu_mk, lit, if_true, if_false, ne_eq, not_false_eq_true, not_true_eq_false, nI_add, nI_or, nI_and, Bool.false_eq_true, ne01, ne10, nI_m1', Nat.or_zero]
    · simp only [mX6_about, M_sen_t _ hi, ein, e1, hW.1, cl_mk, nm_mk, pu_mk, lit, if_true, if_false, ne_eq, not_false_eq_true, not_true_eq_false, nI_add, nI_or, nI_and, Bool.false_eq_true, ne01, ne10, nI_m1', Nat.or_zero]
  | 1, _, ein =>
    have f1 := X_depth hSX hL hd.2.2.1 (by omega) hd.2.2.2.2.2.2.2.1
    have g1 := M_about1 hW hd.sh hd.1 (by omega)
    rw [dp_ev hd.sh hd.2.2.2.2.2.2.1 (sdM d) _ (by have := hd.1; omega) (by have := hd.1; omega)] at g1
    refine pub_same hR (nI (sdd d (sdf d (sdM d - 1)))) ?_ ?_ (KX.rf _) ((KM0 wM).tr (k1.tr (hdW_K (v := evV (fun k => opD (sdc d k)) (sdc d) (sdl d) (sdr d)) (sdM d))))
    · simp only [mX5_about, X_sen_t _ hi, nS_some hcl, f1, cl_mk, nm_mk, pu_mk, lit, if_true, if_false, ne_eq, not_false_eq_true, not_true_eq_false, nI_add, nI_or, nI_and, Bool.false_eq_true, ne01, ne10, nI_m1', Nat.or_zero]
    · simp only [mX6_about, M_sen_t _ hi, ein, e1, cl_mk, nm_mk, pu_mk, lit, if_true, if_false, ne_eq, not_false_eq_true, not_true_eq_false, nI_add, nI_or, nI_and, Bool.false_eq_true, ne01, ne10, nI_m1', Nat.or_zero, nI_eqD, nI_leD, nI_ltD, Nat.reduceLT, Nat.reduceLeDiff, Nat.reduceEqDiff, Nat.reduceSub, or_true, true_or, or_false, false_or, and_true, true_and, and_false, false_and]
      exact g1
  | 2, _, ein =>
    have f1 : mX2_parts (6 + i) wX = some (nI (sdP d), wX) := by unfold mX2_parts; rw [hSX.1]
    have g1 := M_about2 hW hd.2.2.2.2.2.1 hd.cl (by omega) (by have := hd.2.2.2.2.1; omega) hd.2.2.2.2.2.2.2.2.2.2.2.1 hd.2.2.2.2.2.2.2.2.2.2.1
    refine pub_same hR (nI (sdP d)) ?_ ?_ (KX.rf _) ((KM0 wM).tr k1)
    · simp only [mX5_about, X_sen_t _ hi, nS_some hcl, f1, cl_mk, nm_mk, pu_mk, lit, if_true, if_false, ne_eq, not_false_eq_true, not_true_eq_false, nI_add, nI_or, nI_and, Bool.false_eq_true, ne01, ne10, nI_m1', Nat.or_zero, nI_eqD, nI_leD, nI_ltD, Nat.reduceLT, Nat.reduceLeDiff, Nat.reduceEqDiff, Nat.reduceSub, or_true, true_or, or_false, false_or, and_true, true_and, and_false, false_and]
    · simp only [mX6_about, M_sen_t _ hi, ein, e1, cl_mk, nm_mk, pu_mk, lit, if_true, if_false, ne_eq, not_false_eq_true, not_true_eq_false, nI_add, nI_or, nI_and, Bool.false_eq_true, ne01, ne10, nI_m1', Nat.or_zero, nI_eqD, nI_leD, nI_ltD, Nat.reduceLT, Nat.reduceLeDiff, Nat.reduceEqDiff, Nat.reduceSub, or_true, true_or, or_false, false_or, and_true, true_and, and_false, false_and]
      exact g1
  | 3, _, ein =>
    have f1 := X_atoms hSX hL hd.sh hd.cl (by omega)
    have g1 := M_atomsOf hW hd.sh (by omega)
    refine pub_same hR (nI (atomsN (sdM d) (sdc d))) ?_ ?_ (KX.rf _) ((KM0 wM).tr k1)
    · simp only [mX5_about, X_sen_t _ hi, nS_some hcl, f1, cl_mk, nm_mk, pu_mk, lit, if_true, if_false, ne_eq, not_false_eq_true, not_true_eq_false, nI_add, nI_or, nI_and, Bool.false_eq_true, ne01, ne10, nI_m1', Nat.or_zero, nI_eqD, nI_leD, nI_ltD, Nat.reduceLT, Nat.reduceLeDiff, Nat.reduceEqDiff, Nat.reduceSub, or_true, true_or, or_false, false_or, and_true, true_and, and_false, false_and]
    · simp only [mX6_about, M_sen_t _ hi, ein, e1, g1, cl_mk, nm_mk, pu_mk, lit, if_true, if_false, ne_eq, not_false_eq_true, not_true_eq_false, nI_add, nI_or, nI_and, Bool.false_eq_true, ne01, ne10, nI_m1', Nat.or_zero, nI_eqD, nI_leD, nI_ltD, Nat.reduceLT, Nat.reduceLeDiff, Nat.reduceEqDiff, Nat.reduceSub, or_true, true_or, or_false, false_or, and_true, true_and, and_false, false_and]
  | 4, _, ein =>
    have f1 := X_isPlain hSX hL hd.2.2.1 (by omega) hd.2.2.2.2.2.2.2.1 hd.dlt
    have g1 := M_isPlain hW hd.sh (by omega)
    rw [hd.plain] at g1
    cases q : decide (sdd d (sdf d (sdM d - 1)) = 0)
    · rw [q, bN_f] at f1 g1
      refine pub_same hR (nI 0) ?_ ?_ (KX.rf _) ((KM0 wM).tr k1)
      · simp only [mX5_about, X_sen_t _ hi, nS_some hcl, f1, mX5_whether, cl_mk, nm_mk, pu_mk, lit, if_true, if_false, ne_eq, not_false_eq_true, not_true_eq_false, nI_add, nI_or, nI_and, Bool.false_eq_true, ne01, ne10, nI_m1', Nat.or_zero, nI_eqD, nI_leD, nI_ltD, Nat.reduceLT, Nat.reduceLeDiff, Nat.reduceEqDiff, Nat.reduceSub, or_true, true_or, or_false, false_or, and_true, true_and, and_false, false_and]
      · simp only [mX6_about, M_sen_t _ hi, ein, e1, g1, cl_mk, nm_mk, pu_mk, lit, if_true, if_false, ne_eq, not_false_eq_true, not_true_eq_false, nI_add, nI_or, nI_and, Bool.false_eq_true, ne01, ne10, nI_m1', Nat.or_zero, nI_eqD, nI_leD, nI_ltD, Nat.reduceLT, Nat.reduceLeDiff, Nat.reduceEqDiff, Nat.reduceSub, or_true, true_or, or_false, false_or, and_true, true_and, and_false, false_and]
    · rw [q, bN_t] at f1 g1
      refine pub_same hR (nI 1) ?_ ?_ (KX.rf _) ((KM0 wM).tr k1)
      · simp only [mX5_about, X_sen_t _ hi, nS_some hcl, f1, mX5_whether, cl_mk, nm_mk, pu_mk, lit, if_true, if_false, ne_eq, not_false_eq_true, not_true_eq_false, nI_add, nI_or, nI_and, Bool.false_eq_true, ne01, ne10, nI_m1', Nat.or_zero, nI_eqD, nI_leD, nI_ltD, Nat.reduceLT, Nat.reduceLeDiff, Nat.reduceEqDiff, Nat.reduceSub, or_true, true_or, or_false, false_or, and_true, true_and, and_false, false_and]
      · simp only [mX6_about, M_sen_t _ hi, ein, e1, g1, cl_mk, nm_mk, pu_mk, lit, if_true, if_false, ne_eq, not_false_eq_true, not_true_eq_false, nI_add, nI_or, nI_and, Bool.false_eq_true, ne01, ne10, nI_m1', Nat.or_zero, nI_eqD, nI_leD, nI_ltD, Nat.reduceLT, Nat.reduceLeDiff, Nat.reduceEqDiff, Nat.reduceSub, or_true, true_or, or_false, false_or, and_true, true_and, and_false, false_and]
end
section
/-! sure -/
def dlF (N at_ ch i : Nat) : Nat := ch / 2 ^ (N * cntB at_ i) &&& (2 ^ N - 1)
theorem dlF_lt (N at_ ch i : Nat) : dlF N at_ ch i < 2 ^ N := Nat.lt_of_le_of_lt Nat.and_le_right (full_lt N)
def dlW (W : AW) (o a N at_ ch : Nat) : Nat → AW
  | 0 => W
  | i + 1 => if at_.testBit i = true then am_set (dlW W o a N at_ ch i) o a i (nI (dlF N at_ ch i)) else dlW W o a N at_ ch i
section DL
variable {W : AW} {o a N at_ ch : Nat}
theorem dlW_row {o' a' : Nat} (h : o' ≠ o ∨ a' ≠ a) : ∀ n, (dlW W o a N at_ ch n).1 o' a' = W.1 o' a'
  | 0 => rfl
  | n + 1 => by
    unfold dlW
    split
    · exact (am_get_row h).trans (dlW_row h n)
    · exact dlW_row h n
theorem dlW_2 : ∀ n, (dlW W o a N at_ ch n).2 = W.2
  | 0 => rfl
  | n + 1 => by
    unfold dlW
    split
    · exact dlW_2 n
    · exact dlW_2 n
theorem dlW_in : ∀ n i, (dlW W o a N at_ ch n).1 o a i = if i < n ∧ at_.testBit i = true then nI (dlF N at_ ch i) else W.1 o a i := by
  intro n
  induction n with
  | zero => intro i; rw [if_neg (fun h => by omega)]; rfl
  | succ n ih =>
    intro i
    unfold dlW
    by_cases q : at_.testBit n = true
    · rw [if_pos q]
      by_cases e : i = n
      · subst e
        rw [am_get_self, if_pos ⟨by omega, q⟩]
      · rw [am_get_other e, ih i]
        by_cases z : i < n ∧ at_.testBit i = true
        · rw [if_pos z, if_pos ⟨by omega, z.2⟩]
        · rw [if_neg z, if_neg (fun h => z ⟨by omega, h.2⟩)]
    · rw [if_neg q, ih i]
      by_cases z : i < n ∧ at_.testBit i = true
      · rw [if_pos z, if_pos ⟨by omega, z.2⟩]
      · rw [if_neg z, if_neg (fun h => z ⟨by
          have : i ≠ n := fun e => q (by rw [← e]; exact h.2)
          omega, h.2⟩)]
end DL
theorem dl_next {N ch at_ k : Nat} (q : at_.testBit k = true) : ch / 2 ^ (N * cntB at_ k) / 2 ^ N = ch / 2 ^ (N * cntB at_ (k + 1)) := by
  show _ = ch / 2 ^ (N * (cntB at_ k + (if at_.testBit k = true then 1 else 0)))
  rw [q, if_pos rfl, Nat.div_div_eq_div_mul, ← Nat.pow_add, Nat.mul_add, Nat.mul_one]
theorem cnt_skip {at_ k : Nat} (q : at_.testBit k = false) : cntB at_ (k + 1) = cntB at_ k := by
  show cntB at_ k + (if at_.testBit k = true then 1 else 0) = _
  rw [q]
  rfl
section DX
variable {w : AW} {N : Nat} {S A : Nat → Nat}
theorem X_deal (h : NetX w N S A) (hN : NetOK N S A) {at_ ch : Nat} (ha : at_ < 2 ^ 4) (hch : ch < 2 ^ 31) : mX5_deal (nI at_) (nI ch) w = some ((), dlW w 0 8 N at_ ch 4) := by
  have h8 := hN.2.1
  unfold mX5_deal
  have e0 : ch / 2 ^ (N * cntB at_ 0) = ch := by
    show ch / 2 ^ (N * 0) = ch
    rw [Nat.mul_zero]
    exact Nat.div_one ch
  have := loopE (fun n (s : Int32 × Int32 × AW) => mX5_deal_5 (nI at_) n s.1 s.2.1 s.2.2) 4 (fun k => (nI (ch / 2 ^ (N * cntB at_ k)), nI k, dlW w 0 8 N at_ ch k)) (some ((), dlW w 0 8 N at_ ch 4)) ?_ ?_ FU 0 (Nat.zero_le _) (FU_gt (by omega))
  · dsimp only at this
    rw [e0] at this
    exact this
  · intro n k hk
    have c1 : ¬ nI 4 ≤ nI k := nI_ge hk (by omega)
    have hXk : NetX (dlW w 0 8 N at_ ch k) N S A := h.c (by rw [dlW_row (by decide)]) (by rw [dlW_row (by decide)]) (by rw [dlW_row (by decide)])
    have hlt : ch / 2 ^ (N * cntB at_ k) < 2 ^ 31 := Nat.lt_of_le_of_lt (Nat.div_le_self _ _) hch
    cases q : at_.testBit k
    · have e5 : dlW w 0 8 N at_ ch (k + 1) = dlW w 0 8 N at_ ch k := by
        show (if at_.testBit k = true then _ else _) = _
        rw [q]
        rfl
      simp only [mX5_deal_5, mX5_deal_51, c1, bit_f _ (show at_ < 2 ^ 32 by omega) (show k < 32 by omega) q, e5, cnt_skip q, cl_mk, nm_mk, pu_mk, lit, if_true, if_false, ne_eq, not_false_eq_true, not_true_eq_false, nI_add, nI_or, nI_and, Bool.false_eq_true, ne01, ne10, nI_m1', Nat.or_zero]
    · have e5 : dlW w 0 8 N at_ ch (k + 1) = am_set (dlW w 0 8 N at_ ch k) 0 8 k (nI (dlF N at_ ch k)) := by
        show (if at_.testBit k = true then _ else _) = _
        rw [q]
        rfl
      have e4 : ∀ x, mX5_put 0 8 (nI k) x (dlW w 0 8 N at_ ch k) = some ((), am_set (dlW w 0 8 N at_ ch k) 0 8 k x) := fun x => put_in _ (show k < 4 from hk) (by decide)
      have e6 : mX0_size (am_set (dlW w 0 8 N at_ ch k) 0 8 k (nI (dlF N at_ ch k))) = some (nI N, am_set (dlW w 0 8 N at_ ch k) 0 8 k (nI (dlF N at_ ch k))) := by
        unfold mX0_size
        rw [am_get_row (by decide), hXk.1]
      have e7 : nI (ch / 2 ^ (N * cntB at_ k)) &&& nI (2 ^ N - 1) = nI (dlF N at_ ch k) := nI_and _ _
      have e8 := nI_ushr (a := ch / 2 ^ (N * cntB at_ k)) (k := N) (by omega) (by omega)
      rw [dl_next q] at e8
      simp only [mX5_deal_5, mX5_deal_51, c1, bit_t _ (show at_ < 2 ^ 32 by omega) (show k < 32 by omega) q, X_all hXk hN, e4, cl_mk, nm_mk, lit, ne_eq, ne10, not_false_eq_true, if_true, if_false]
      rw [e7, e6, cl_mk, e8, e5, nI_add]
  · intro n
    have c1 : nI 4 ≤ nI 4 := by decide
    simp only [mX5_deal_5, c1, cl_mk, nm_mk, pu_mk, lit, if_true, if_false, ne_eq, not_false_eq_true, not_true_eq_false, nI_add, nI_or, nI_and, Bool.false_eq_true, ne01, ne10, nI_m1', Nat.or_zero]
/-- what the atoms in a sentence are true at decides all -/
theorem ev_atoms {m : Nat} {c l r : Nat → Nat} {Fr A A2 : Nat → Nat} (hs : ShapeOK m c l r) (h : ∀ i, i < 4 → (atomsN m c).testBit i = true → A i = A2 i) : ∀ n k, k < n → k < m → evV (fun k => opH N A Fr (c k)) c l r k = evV (fun k => opH N A2 Fr (c k)) c l r k := by
  intro n
  induction n with
  | zero => intro k hk; omega
  | succ n ih =>
    intro k hkn hk
    rw [evV_eq hs hk, evV_eq hs hk]
    have ea : argA c l (evV (fun k => opH N A Fr (c k)) c l r) k = argA c l (evV (fun k => opH N A2 Fr (c k)) c l r) k := by
      unfold argA
      rcases hs k hk with g | ⟨g, g1⟩ | ⟨g, g1, g2⟩
      · rw [kd_leaf g]; rfl
      · rw [ih _ (by omega) (by omega)]
      · rw [ih _ (by omega) (by omega)]
    have eb : argB c r (evV (fun k => opH N A Fr (c k)) c l r) k = argB c r (evV (fun k => opH N A2 Fr (c k)) c l r) k := by
      unfold argB
      rcases hs k hk with g | ⟨g, g1⟩ | ⟨g, g1, g2⟩
      · rw [kd_leaf g]; rfl
      · rw [kd_pre g]; rfl
      · rw [ih _ (by omega) (by omega)]
    rw [ea, eb]
    have eA : ∀ i, i < 4 → c k = 112 + i → A i = A2 i := fun i hi e => h i hi (tb_orF.mpr ⟨k, hk, by
      unfold atB
      rw [if_pos (by omega), tb_pow, decide_eq_true_eq]
      omega⟩)
    unfold opH
    rcases kinds_of hs hk with (g | g | g | g | g | g) | (g | g | g) | (g | g | g)
    · rw [g]; exact eA 0 (by decide) g
    · rw [g]; exact eA 1 (by decide) g
    · rw [g]; exact eA 2 (by decide) g
    · rw [g]; exact eA 3 (by decide) g
    all_goals (rw [g]; rfl)
def sureB (N : Nat) (Fr : Nat → Nat) (d : SD) (ch : Nat) : Bool := decide (holdV N (dlF N (atomsN (sdM d) (sdc d)) ch) Fr d = 2 ^ N - 1)
theorem X_sure61 {Fr : Nat → Nat} {i : Nat} {d : SD} (hN : NetOK N S A) (hi : i < 6) (hd : SDok d) (hF : ∀ k, k < N → Fr k < 2 ^ N) {B : Nat} (hB : N * B ≤ 12) : ∀ (e k n : Nat) (w : AW), 2 ^ (N * B) = k + e → e < n → NetX w N S A → ViewX w N Fr → SenX w (6 + i) (sdM d) (sdP d) (sdc d) (sdl d) (sdr d) (sdf d) (sdp d) (sdd d) → allT (sureB N Fr d) k = true →
    ∃ w2, mX5_sure_61 (6 + i) (nI (N * B)) n (nI k) w = some (nI (bN (allT (sureB N Fr d) (2 ^ (N * B)))), w2) ∧ KX w w2 := by
  have h8 := hN.2.1
  have h256 := two_le h8
  have hpw : 2 ^ (N * B) ≤ 2 ^ 12 := Nat.pow_le_pow_right (by decide) hB
  have hone : nI 1 <<< nI (N * B &&& 31) = nI (2 ^ (N * B)) := one_shl (by omega)
  intro e
  induction e with
  | zero =>
    intro k n w he hn hX hV hS hall
    obtain ⟨n, rfl⟩ : ∃ m, n = m + 1 := ⟨n - 1, by omega⟩
    have e2 : k = 2 ^ (N * B) := by omega
    subst e2
    have c1 : nI (2 ^ (N * B)) ≤ nI (2 ^ (N * B)) := nI_le (Nat.le_refl _) (by omega)
    refine ⟨w, ?_, KX.rf w⟩
    simp only [mX5_sure_61, hone, c1, hall, bN_t, cl_mk, nm_mk, pu_mk, lit, if_true, if_false, ne_eq, not_false_eq_true, not_true_eq_false, nI_add, nI_or, nI_and, Bool.false_eq_true, ne01, ne10, nI_m1', Nat.or_zero]
  | succ e ih =>
    intro k n w he hn hX hV hS hall
    obtain ⟨n, rfl⟩ : ∃ m, n = m + 1 := ⟨n - 1, by omega⟩
    have c1 : ¬ nI (2 ^ (N * B)) ≤ nI k := nI_ge (by omega) (by omega)
    have hP := hd.P40
    have hL := len_sen (i := i) hi hP
    have a1 := X_atoms hS hL hd.sh hd.cl (by omega)
    have hat := atomsN_lt (sdM d) (sdc d)
    have a2 := X_deal hX hN (ch := k) hat (by omega)
    have hK : KX w (dlW w 0 8 N (atomsN (sdM d) (sdc d)) k 4) := by
      have : ∀ j, KX w (dlW w 0 8 N (atomsN (sdM d) (sdc d)) k j) := by
        intro j
        induction j with
        | zero => exact KX.rf w
        | succ j ihj =>
          unfold dlW
          split
          · exact ihj.set (Or.inr ⟨rfl, Or.inr rfl⟩)
          · exact ihj
      exact this 4
    have hV1 : ViewX (dlW w 0 8 N (atomsN (sdM d) (sdc d)) k 4) N Fr := ⟨by rw [dlW_row (by decide)]; exact hV.1, fun j hj => by rw [dlW_row (by decide)]; exact hV.2 j hj⟩
    have hS1 := hS.k hi hK
    obtain ⟨w2, f1, f2, f3⟩ := X_judge false (A := dlF N (atomsN (sdM d) (sdc d)) k) (o := 6 + i) (ro := 0) (ra := 8) hV1 h8 hF (fun j hj q hq he2 => by
      rw [dlW_in, if_pos ⟨hj, tb_orF.mpr ⟨q, hq, by
        unfold atB
        rw [if_pos (by omega), tb_pow, decide_eq_true_eq]
        omega⟩⟩]) (fun j => dlF_lt _ _ _ _) (by decide) (by decide) hS1 hL hd.sh hd.cl hP hd.1 hd.2.2.2.2.2.2.2.1 (by omega)
    rw [opJ_f] at f1
    have f1' : mX4_judge (6 + i) 0 8 (nI 0) (dlW w 0 8 N (atomsN (sdM d) (sdc d)) k 4) = some (nI (holdV N (dlF N (atomsN (sdM d) (sdc d)) k) Fr d), w2) := f1
    have hK2 := hK.tr f2
    have hX2 := hX.k hK2
    have hv : holdV N (dlF N (atomsN (sdM d) (sdc d)) k) Fr d < 2 ^ N := holdV_lt (fun j => dlF_lt _ _ _ _) hd
    have hfl := full_lt N
    have hall1 : allT (sureB N Fr d) (k + 1) = sureB N Fr d k := by
      show (allT (sureB N Fr d) k && sureB N Fr d k) = _
      rw [hall, Bool.true_and]
    by_cases q : holdV N (dlF N (atomsN (sdM d) (sdc d)) k) Fr d = 2 ^ N - 1
    · have hV2 : ViewX w2 N Fr := ⟨by rw [f3 2 0 (by decide)]; exact hV1.1, fun j hj => by rw [f3 2 1 (by decide)]; exact hV1.2 j hj⟩
      obtain ⟨w3, g1, g2⟩ := ih (k + 1) n w2 (by omega) (by omega) hX2 hV2 (hS.k hi hK2) (by rw [hall1]; exact decide_eq_true q)
      refine ⟨w3, ?_, hK2.tr g2⟩
      simp only [mX5_sure_61, hone, c1, a1, a2, f1', X_all hX2 hN, q, cl_mk, nm_mk, pu_mk, lit, if_true, if_false, ne_eq, not_false_eq_true, not_true_eq_false, nI_add, nI_or, nI_and, Bool.false_eq_true, ne01, ne10, nI_m1', Nat.or_zero]
      exact g1
    · have q2 : (nI (holdV N (dlF N (atomsN (sdM d) (sdc d)) k) Fr d) = nI (2 ^ N - 1)) = False := eq_false (fun z => q ((nI_eq (by omega) (by omega)).mp z))
      have hf : allT (sureB N Fr d) (2 ^ (N * B)) = false := by
        cases z : allT (sureB N Fr d) (2 ^ (N * B))
        · rfl
        · rw [allT_iff] at z
          have := z k (by omega)
          unfold sureB at this
          rw [decide_eq_true_eq] at this
          exact absurd this q
      refine ⟨w2, ?_, hK2⟩
      simp only [mX5_sure_61, hone, c1, a1, a2, f1', X_all hX2 hN, q2, hf, bN_f, cl_mk, nm_mk, pu_mk, lit, if_true, if_false, ne_eq, not_false_eq_true, not_true_eq_false, nI_add, nI_or, nI_and, Bool.false_eq_true, ne01, ne10, nI_m1', Nat.or_zero]
end DX
end
section
/-! sure, the model -/
def KM5 (w w2 : AW) : Prop := w2.2 = w.2 ∧ w2.1 12 1 = w.1 12 1 ∧ w2.1 0 0 2 = w.1 0 0 2 ∧ w2.1 0 0 6 = w.1 0 0 6 ∧ (∀ a, 4 ≤ a → a < 16 → a ≠ 7 → a ≠ 5 → w2.1 0 a = w.1 0 a) ∧ ∀ i, 4 ≤ i → w2.1 0 5 i = w.1 0 5 i
theorem KM.k5 {w w2 : AW} (h : KM w w2) : KM5 w w2 := ⟨h.1, h.2.1, h.2.2.1, h.2.2.2.1, fun a h1 h2 h3 _ => h.2.2.2.2 a h1 h2 h3, fun i _ => by rw [h.2.2.2.2 5 (by decide) (by decide) (by decide)]⟩
theorem KM5.tr {a b c : AW} (h : KM5 a b) (h2 : KM5 b c) : KM5 a c := ⟨h2.1.trans h.1, h2.2.1.trans h.2.1, h2.2.2.1.trans h.2.2.1, h2.2.2.2.1.trans h.2.2.2.1, fun o h1 h3 h4 h5 => (h2.2.2.2.2.1 o h1 h3 h4 h5).trans (h.2.2.2.2.1 o h1 h3 h4 h5), fun i hi => (h2.2.2.2.2.2 i hi).trans (h.2.2.2.2.2 i hi)⟩
theorem KM5.back {w w2 : AW} (h : KM5 w w2) : KM w (am_set (am_set (am_set (am_set w2 0 5 0 (w.1 0 5 0)) 0 5 1 (w.1 0 5 1)) 0 5 2 (w.1 0 5 2)) 0 5 3 (w.1 0 5 3)) := by
  obtain ⟨h1, h2, h3, h4, h5, h6⟩ := h
  refine ⟨h1, ?_, ?_, ?_, fun a z1 z2 z3 => ?_⟩
  · rw [am_get_row (by decide), am_get_row (by decide), am_get_row (by decide), am_get_row (by decide)]; exact h2
  · rw [am_get_row (by decide), am_get_row (by decide), am_get_row (by decide), am_get_row (by decide)]; exact h3
  · rw [am_get_row (by decide), am_get_row (by decide), am_get_row (by decide), am_get_row (by decide)]; exact h4
  · by_cases e : a = 5
    · subst e
      funext i
      by_cases i3 : i = 3
      · subst i3; exact am_get_self _ _ _ _ _
      rw [am_get_other i3]
      by_cases i2 : i = 2
      · subst i2; exact am_get_self _ _ _ _ _
      rw [am_get_other i2]
      by_cases i1 : i = 1
      · subst i1; exact am_get_self _ _ _ _ _
      rw [am_get_other i1]
      by_cases i0 : i = 0
      · subst i0; exact am_get_self _ _ _ _ _
      rw [am_get_other i0]
      exact h6 i (by omega)
    · rw [am_get_row (Or.inr e), am_get_row (Or.inr e), am_get_row (Or.inr e), am_get_row (Or.inr e)]
      exact h5 a z1 z2 z3 e
theorem dlW_K5 {w : AW} {N at_ ch : Nat} : ∀ n, n ≤ 4 → KM5 w (dlW w 0 5 N at_ ch n) := by
  intro n hn
  refine ⟨dlW_2 n, by rw [dlW_row (by decide)], by rw [dlW_row (by decide)], by rw [dlW_row (by decide)], fun a _ _ _ h5 => by rw [dlW_row (Or.inr h5)], fun i hi => ?_⟩
  rw [dlW_in, if_neg (fun h => by omega)]
section SM
variable {N : Nat} {S Fr : Nat → Nat} {d : SD}
def InvS (wM w : AW) (N : Nat) (S Fr : Nat → Nat) (d : SD) : Prop := KM5 wM w ∧ (∃ B, NetOK N S B ∧ NetM w N S B) ∧ WorkM w (sdM d) (sdZ d) (sdc d) (sdl d) (sdr d) (sdb d) (sde d) (sdy d) ∧ ViewM w N Fr
theorem M_sure139 {wM w : AW} {ch : Nat} (hd : SDok d) (hF : ∀ k, k < N → Fr k < 2 ^ N) (hch : ch < 2 ^ 31) (hI : InvS wM w N S Fr d) (k118 : Int32 → Int32 → AW → Option (Int32 × AW)) (v4 v5 v6 v7 v8 : Int32) :
    ∃ w2, mX6_sure_139 k118 (nI (atomsN (sdM d) (sdc d))) v4 v5 v6 v7 v8 (nI ch) FU (nI ch) (nI 0) w = k118 (nI (bN (sureB N Fr d ch))) (nI (ch + 1)) w2 ∧ InvS wM w2 N S Fr d := by
  obtain ⟨hK, ⟨B, hN, hM⟩, hW, hV⟩ := hI
  have h8 := hN.2.1
  have h256 := two_le h8
  have hat := atomsN_lt (sdM d) (sdc d)
  have hfl := full_lt N
  generalize hat0 : atomsN (sdM d) (sdc d) = at_ at hat
  have hM4 : NetM (dlW w 0 5 N at_ ch 4) N S (fun i => if i < 4 ∧ at_.testBit i = true then dlF N at_ ch i else B i) := by
    refine ⟨by rw [dlW_row (by decide)]; exact hM.1, fun k hk => by rw [dlW_row (by decide)]; exact hM.2.1 k hk, fun i hi => ?_⟩
    rw [dlW_in]
    dsimp only
    split
    · rfl
    · exact hM.2.2 i hi
  have hN4 : NetOK N S (fun i => if i < 4 ∧ at_.testBit i = true then dlF N at_ ch i else B i) := by
    refine ⟨hN.1, hN.2.1, hN.2.2.1, hN.2.2.2.1, fun i => ?_⟩
    dsimp only
    split
    · exact dlF_lt _ _ _ _
    · exact hN.2.2.2.2 i
  have hW4 : WorkM (dlW w 0 5 N at_ ch 4) (sdM d) (sdZ d) (sdc d) (sdl d) (sdr d) (sdb d) (sde d) (sdy d) := hW.c (by rw [dlW_row (by decide)]) (by rw [dlW_row (by decide)]) (fun a h1 h2 => by rw [dlW_row (by omega)])
  have hV4 : ViewM (dlW w 0 5 N at_ ch 4) N Fr := fun j hj => by rw [dlW_row (by decide)]; exact hV j hj
  have e1 := M_holding hM4 hN4 hV4 hF hW4 hd.sh hd.1 (by have := hd.2.1; omega)
  have e2 := ev_atoms (N := N) (Fr := Fr) (A := fun i => if i < 4 ∧ at_.testBit i = true then dlF N at_ ch i else B i) (A2 := dlF N at_ ch) hd.sh (fun i hi hb => if_pos ⟨hi, by rw [← hat0]; exact hb⟩) (sdM d) (sdM d - 1) (by have := hd.1; omega) (by have := hd.1; omega)
  rw [e2] at e1
  have hvl : holdV N (dlF N at_ ch) Fr d < 2 ^ N := holdV_lt (fun j => dlF_lt _ _ _ _) hd
  have e1' : mX6_holding (dlW w 0 5 N at_ ch 4) = some (nI (holdV N (dlF N at_ ch) Fr d), hdW (dlW w 0 5 N at_ ch 4) (evV (fun k => opH N (fun i => if i < 4 ∧ at_.testBit i = true then dlF N at_ ch i else B i) Fr (sdc d k)) (sdc d) (sdl d) (sdr d)) (sdM d)) := e1
  generalize hw5 : hdW (dlW w 0 5 N at_ ch 4) (evV (fun k => opH N (fun i => if i < 4 ∧ at_.testBit i = true then dlF N at_ ch i else B i) Fr (sdc d k)) (sdc d) (sdl d) (sdr d)) (sdM d) = w5 at e1'
  have hK5 : KM (dlW w 0 5 N at_ ch 4) w5 := by rw [← hw5]; exact hdW_K _
  have hr5 : ∀ a, a ≠ 38 → w5.1 0 a = (dlW w 0 5 N at_ ch 4).1 0 a := fun a ha => by rw [← hw5]; exact hdW_row _ a ha
  have hM5 := hM4.k hK5
  refine ⟨w5, ?_, ((hK.tr (dlW_K5 4 (Nat.le_refl 4))).tr hK5.k5), ⟨_, hN4, hM5⟩, hW4.c (by rw [hr5 0 (by decide)]) (by rw [hr5 0 (by decide)]) (fun a h1 h2 => hr5 a (by omega)), fun j hj => by rw [hr5 47 (by decide)]; exact hV4 j hj⟩
  have e0 : ch / 2 ^ (N * cntB at_ 0) = ch := by
    show ch / 2 ^ (N * 0) = ch
    rw [Nat.mul_zero]
    exact Nat.div_one ch
  have := loopE (fun n (s : Int32 × Int32 × AW) => mX6_sure_139 k118 (nI at_) v4 v5 v6 v7 v8 (nI ch) n s.1 s.2.1 s.2.2) 4 (fun k => (nI (ch / 2 ^ (N * cntB at_ k)), nI k, dlW w 0 5 N at_ ch k)) (k118 (nI (bN (sureB N Fr d ch))) (nI (ch + 1)) w5) ?_ ?_ FU 0 (Nat.zero_le _) (FU_gt (by omega))
  · dsimp only at this
    rw [e0] at this
    exact this
  · intro n k hk
    have c1 : ¬ nI 4 ≤ nI k := nI_ge hk (by omega)
    have hzk : (dlW w 0 5 N at_ ch k).1 0 0 2 = nI N := by rw [dlW_row (by decide)]; exact hM.1
    have hlt : ch / 2 ^ (N * cntB at_ k) < 2 ^ 31 := Nat.lt_of_le_of_lt (Nat.div_le_self _ _) hch
    cases q : at_.testBit k
    · have e5 : dlW w 0 5 N at_ ch (k + 1) = dlW w 0 5 N at_ ch k := by
        show (if at_.testBit k = true then _ else _) = _
        rw [q]
        rfl
      simp only [mX6_sure_139, mX6_sure_178, c1, shr_f (show k < 32 by omega) (show at_ < 2 ^ 31 by omega) q, e5, cnt_skip q, cl_mk, nm_mk, pu_mk, lit, if_true, if_false, ne_eq, not_false_eq_true, not_true_eq_false, nI_add, nI_or, nI_and, Bool.false_eq_true, ne01, ne10, nI_m1', Nat.or_zero]
    · have e5 : dlW w 0 5 N at_ ch (k + 1) = am_set (dlW w 0 5 N at_ ch k) 0 5 k (nI (dlF N at_ ch k)) := by
        show (if at_.testBit k = true then _ else _) = _
        rw [q]
        rfl
      have hall : mX6_all (dlW w 0 5 N at_ ch k) = some (nI (2 ^ N - 1), dlW w 0 5 N at_ ch k) := by
        simp only [mX6_all, hzk, cl_mk, nm_mk, pu_mk, lit, if_true, if_false, ne_eq, not_false_eq_true, not_true_eq_false, nI_add, nI_or, nI_and, Bool.false_eq_true, ne01, ne10, nI_m1', Nat.or_zero]
        rw [full_nI hN]
      have e7 : nI (ch / 2 ^ (N * cntB at_ k)) &&& nI (2 ^ N - 1) = nI (dlF N at_ ch k) := nI_and _ _
      have e8 := shrN (a := ch / 2 ^ (N * cntB at_ k)) (k := N) (by omega) hlt
      rw [dl_next q] at e8
      have e9 : (am_set (dlW w 0 5 N at_ ch k) 0 5 k (nI (dlF N at_ ch k))).1 0 0 2 = nI N := by rw [am_get_row (by decide), hzk]
      have e10 : nI N &&& nI 31 = nI (N &&& 31) := nI_and _ _
      have e11 : nI k &&& nI 31 = nI (k &&& 31) := nI_and _ _
      simp only [mX6_sure_139, mX6_sure_178, c1, e11, shr_t (show k < 32 by omega) (show at_ < 2 ^ 31 by omega) q, hall, wr_in hk (show 4 < 2 ^ 31 by decide), cl_mk, nm_mk, lit, ne_eq, not_true_eq_false, if_false]
      rw [e7, e9, e10, e8, e5, nI_add]
  · intro n
    have c1 : nI 4 ≤ nI 4 := by decide
    have e9 : sureB N Fr d ch = decide (holdV N (dlF N at_ ch) Fr d = 2 ^ N - 1) := by unfold sureB; rw [hat0]
    by_cases q : holdV N (dlF N at_ ch) Fr d = 2 ^ N - 1
    · rw [e9, decide_eq_true q, bN_t]
      simp only [mX6_sure_139, mX6_sure_200, c1, e1', X_all' hM5 hN4, q, cl_mk, nm_mk, pu_mk, lit, if_true, if_false, ne_eq, not_false_eq_true, not_true_eq_false, nI_add, nI_or, nI_and, Bool.false_eq_true, ne01, ne10, nI_m1', Nat.or_zero]
    · have q2 : (nI (holdV N (dlF N at_ ch) Fr d) = nI (2 ^ N - 1)) = False := eq_false (fun z => q ((nI_eq (by omega) (by omega)).mp z))
      rw [e9, decide_eq_false q, bN_f]
      simp only [mX6_sure_139, mX6_sure_200, c1, e1', X_all' hM5 hN4, q2, cl_mk, nm_mk, pu_mk, lit, if_true, if_false, ne_eq, not_false_eq_true, not_true_eq_false, nI_add, nI_or, nI_and, Bool.false_eq_true, ne01, ne10, nI_m1', Nat.or_zero]
theorem M_sure118 {wM : AW} (hd : SDok d) (hF : ∀ k, k < N → Fr k < 2 ^ N) {R : Nat} (hR : R ≤ 12) (v5 v6 v7 v8 : Int32) : ∀ (e k n : Nat) (w : AW), 2 ^ R = k + e → e < n → InvS wM w N S Fr d →
    ∃ w2, mX6_sure_118 (nI (atomsN (sdM d) (sdc d))) (nI R) v5 v6 v7 v8 n (nI (bN (allT (sureB N Fr d) k))) (nI k) w = mX6_sure_208 v5 v6 v7 v8 (nI (bN (allT (sureB N Fr d) (2 ^ R)))) w2 ∧ InvS wM w2 N S Fr d := by
  have hpw : 2 ^ R ≤ 2 ^ 12 := Nat.pow_le_pow_right (by decide) hR
  have hone : nI 1 <<< nI (R &&& 31) = nI (2 ^ R) := one_shl (by omega)
  intro e
  induction e with
  | zero =>
    intro k n w he hn hI
    obtain ⟨n, rfl⟩ : ∃ m, n = m + 1 := ⟨n - 1, by omega⟩
    have e2 : k = 2 ^ R := by omega
    subst e2
    have c1 : nI (2 ^ R) ≤ nI (2 ^ R) := nI_le (Nat.le_refl _) (by omega)
    refine ⟨w, ?_, hI⟩
    simp only [mX6_sure_118, hone, c1, cl_mk, nm_mk, pu_mk, lit, if_true, if_false, ne_eq, not_false_eq_true, not_true_eq_false, nI_add, nI_or, nI_and, Bool.false_eq_true, ne01, ne10, nI_m1', Nat.or_zero]
  | succ e ih =>
    intro k n w he hn hI
    obtain ⟨n, rfl⟩ : ∃ m, n = m + 1 := ⟨n - 1, by omega⟩
    have c1 : ¬ nI (2 ^ R) ≤ nI k := nI_ge (by omega) (by omega)
    cases q : allT (sureB N Fr d) k
    · have hf : allT (sureB N Fr d) (2 ^ R) = false := by
        cases z : allT (sureB N Fr d) (2 ^ R)
        · rfl
        · rw [allT_iff] at z
          rw [← q]
          exact (allT_iff.mpr (fun j hj => z j (by omega))).symm
      refine ⟨w, ?_, hI⟩
      simp only [mX6_sure_118, hone, c1, hf, bN_f, cl_mk, nm_mk, pu_mk, lit, if_true, if_false, ne_eq, not_false_eq_true, not_true_eq_false, nI_add, nI_or, nI_and, Bool.false_eq_true, ne01, ne10, nI_m1', Nat.or_zero]
    · obtain ⟨w2, g1, g2⟩ := M_sure139 hd hF (ch := k) (by omega) hI (mX6_sure_118 (nI (atomsN (sdM d) (sdc d))) (nI R) v5 v6 v7 v8 n) (nI R) v5 v6 v7 v8
      have hall1 : allT (sureB N Fr d) (k + 1) = sureB N Fr d k := by
        show (allT (sureB N Fr d) k && sureB N Fr d k) = _
        rw [q, Bool.true_and]
      obtain ⟨w3, f1, f2⟩ := ih (k + 1) n w2 (by omega) (by omega) g2
      rw [hall1] at f1
      refine ⟨w3, ?_, f2⟩
      simp only [mX6_sure_118, hone, c1, bN_t, cl_mk, nm_mk, pu_mk, lit, if_true, if_false, ne_eq, not_false_eq_true, not_true_eq_false, nI_add, nI_or, nI_and, Bool.false_eq_true, ne01, ne10, nI_m1', Nat.or_zero]
      rw [g1]
      exact f1
end SM
theorem M_sure37 {w : AW} {N at_ : Nat} {sort : Int32} (hz : w.1 0 0 2 = nI N) (hat : at_ < 2 ^ 4) (X : Option (Int32 × AW)) (hx : ∀ n, mX6_sure_37 sort (nI at_) (n + 1) (nI (N * cntB at_ 4)) (nI 4) w = X) : mX6_sure_37 sort (nI at_) FU (nI 0) (nI 0) w = X := by
  have z0 : nI (N * cntB at_ 0) = nI 0 := congrArg nI (Nat.mul_zero N)
  have g := loopE (fun n (s : Int32 × Int32) => mX6_sure_37 sort (nI at_) n s.1 s.2 w) 4 (fun k => (nI (N * cntB at_ k), nI k)) X (fun n k hk => by
    have c1 : ¬ nI 4 ≤ nI k := nI_ge hk (by omega)
    have e4 : N * cntB at_ k + bN (at_.testBit k) * N = N * cntB at_ (k + 1) := by
      show _ = N * (cntB at_ k + bN (at_.testBit k))
      rw [Nat.mul_add, Nat.mul_comm N (bN _)]
    simp only [mX6_sure_37, c1, shr_B (show k < 32 by omega) (show at_ < 2 ^ 31 by omega), hz, pk_mul, e4, cl_mk, nm_mk, pu_mk, lit, if_true, if_false, ne_eq, not_false_eq_true, not_true_eq_false, nI_add, nI_or, nI_and, Bool.false_eq_true, ne01, ne10, nI_m1', Nat.or_zero]) hx FU 0 (Nat.zero_le _) (FU_gt (by omega))
  dsimp only at g
  rw [z0] at g
  exact g
theorem pub_sure : Pub_sure Rel := by
  rintro wX wM ⟨N, S, A, T, y, D, h⟩ v0 v1
  have hR := h
  obtain ⟨hN, hX, hM, hT, h2, hS, h12⟩ := h
  have hM0 : NetM (am_set wM 0 0 0 (nI 0)) N S A := hM.k (KM0 wM)
  have h8 := hN.2.1
  by_cases c0 : ∃ k, k < 6 ∧ v0 = nI k
  rotate_left
  · refine pub_same hR (-nI 1) ?_ ?_ (KX.rf _) (KM0 wM)
    · simp only [mX5_sure, X_sen_f _ c0, nS_none, cl_mk, nm_mk, pu_mk, lit, if_true, if_false, ne_eq, not_false_eq_true, not_true_eq_false, nI_add, nI_or, nI_and, Bool.false_eq_true, ne01, ne10, nI_m1', Nat.or_zero]
    · simp only [mX6_sure, M_sen_f _ c0, cl_mk, nm_mk, pu_mk, lit, if_true, if_false, ne_eq, not_false_eq_true, not_true_eq_false, nI_add, nI_or, nI_and, Bool.false_eq_true, ne01, ne10, nI_m1', Nat.or_zero]
  obtain ⟨i, hi, rfl⟩ := c0
  have hcl := cls_sen i hi
  by_cases c1 : ∃ k, k < 4 ∧ v1 = nI k
  rotate_left
  · refine pub_same hR (-nI 1) ?_ ?_ (KX.rf _) (KM0 wM)
    · simp only [mX5_sure, X_sen_t _ hi, nS_some hcl, X_sort_f _ c1, cl_mk, nm_mk, pu_mk, lit, if_true, if_false, ne_eq, not_false_eq_true, not_true_eq_false, nI_add, nI_or, nI_and, Bool.false_eq_true, ne01, ne10, nI_m1', Nat.or_zero]
    · simp only [mX6_sure, M_sen_t _ hi, M_sort_f _ c1, cl_mk, nm_mk, pu_mk, lit, if_true, if_false, ne_eq, not_false_eq_true, not_true_eq_false, nI_add, nI_or, nI_and, Bool.false_eq_true, ne01, ne10, nI_m1', Nat.or_zero]
  obtain ⟨s, hs, rfl⟩ := c1
  obtain ⟨hd, hSX, hSM⟩ := hS i hi
  generalize D i = d at hd hSX hSM
  have hP := hd.P40
  have hM40 := hd.2.1
  have hL := len_sen (i := i) hi hP
  have e1 := M_works (hSM.k (KM0 wM)) hi hd.2.1 hd.2.2.2.2.1
  have k1 := wkW_K (w := am_set wM 0 0 0 (nI 0)) (m := sdM d) (z := sdZ d) (c := sdc d) (l := sdl d) (r := sdr d) (b := sdb d) (e := sde d) (y := sdy d)
  have hW := wkW_W (w := am_set wM 0 0 0 (nI 0)) (m := sdM d) (z := sdZ d) (c := sdc d) (l := sdl d) (r := sdr d) (b := sdb d) (e := sde d) (y := sdy d)
  generalize wkW (am_set wM 0 0 0 (nI 0)) (sdM d) (sdZ d) (sdc d) (sdl d) (sdr d) (sdb d) (sde d) (sdy d) = w1 at e1 k1 hW
  have e2 := M_atomsOf hW hd.sh (by omega)
  have f2 := X_atoms hSX hL hd.sh hd.cl (by omega)
  have hat := atomsN_lt (sdM d) (sdc d)
  have f3 := bc_eq (a := atomsN (sdM d) (sdc d)) wX (by omega)
  rw [cnt_high (n := 8) hat (by decide)] at f3
  have hM1 := hM0.k k1
  have hB := cntB_le (atomsN (sdM d) (sdc d)) 4
  have hNB : N * cntB (atomsN (sdM d) (sdc d)) 4 ≤ 32 := Nat.le_trans (Nat.mul_le_mul h8 hB) (by decide)
  have c4 : nI 4 ≤ nI 4 := by decide
  have n10 : (nI 1 : Int32) ≠ 0 := by decide
  have eX : mX5_sure (nI i) (nI s) wX = (if nI (N * cntB (atomsN (sdM d) (sdc d)) 4) ≤ 12 then cl (mX4_look (nI s) wX) fun _ w_13 => mX5_sure_61 (6 + i) (nI (N * cntB (atomsN (sdM d) (sdc d)) 4)) FU 0 w_13 else some ((-2), wX)) := by
    unfold mX5_sure
    rw [X_sen_t _ hi, cl_mk, nS_some hcl, X_sort_t _ hs, cl_mk, if_pos n10, X_size hX, cl_mk, f2, cl_mk, f3, cl_mk, nm_mk, pk_mul]
  by_cases q : N * cntB (atomsN (sdM d) (sdc d)) 4 ≤ 12
  rotate_left
  · have q2 : ¬ nI (N * cntB (atomsN (sdM d) (sdc d)) 4) ≤ nI 12 := nI_ge (by omega) (by omega)
    refine pub_same hR (-nI 2) ?_ ?_ (KX.rf _) ((KM0 wM).tr k1)
    · exact eX.trans (if_neg q2)
    · simp only [mX6_sure, M_sen_t _ hi, M_sort_t _ hs, e1, e2, cl_mk, nm_mk, pu_mk, lit, if_true, if_false, ne_eq, not_false_eq_true, not_true_eq_false, nI_add, nI_or, nI_and, Bool.false_eq_true, ne01, ne10, nI_m1', Nat.or_zero]
      refine M_sure37 hM1.1 hat _ (fun n => ?_)
      simp only [mX6_sure_37, c4, q2, cl_mk, nm_mk, pu_mk, lit, if_true, if_false, ne_eq, not_false_eq_true, not_true_eq_false, nI_add, nI_or, nI_and, Bool.false_eq_true, ne01, ne10, nI_m1', Nat.or_zero]
  have q2 : nI (N * cntB (atomsN (sdM d) (sdc d)) 4) ≤ nI 12 := nI_le q (by omega)
  have hpw : 2 ^ (N * cntB (atomsN (sdM d) (sdc d)) 4) < 5000 := by
    have := Nat.pow_le_pow_right (n := 2) (by decide) q
    omega
  have hF : ∀ k, k < N → seenS N S s k < 2 ^ N := fun k hk => seenS_lt hN hk
  have k2 := lookX_K wX N S s N
  obtain ⟨wX3, g1, g2⟩ := X_sure61 (A := A) hN hi hd hF q (2 ^ (N * cntB (atomsN (sdM d) (sdc d)) 4)) 0 FU (lookX wX N S s N) (by omega) (FU_gt hpw) (hX.k k2) (lookX_V wX N S s) (hSX.k hi k2) rfl
  have e5 := M_looks hM1 hN hs
  have k3 := lookM_K w1 N S s N
  have hM3 := hM1.k k3
  have hW3 : WorkM (lookM w1 N S s N) (sdM d) (sdZ d) (sdc d) (sdl d) (sdr d) (sdb d) (sde d) (sdy d) := hW.c (by unfold lookM; rw [setRow_row (by decide)]) (by unfold lookM; rw [setRow_row (by decide)]) (fun a h1 h2 => by unfold lookM; rw [setRow_row (by omega)])
  obtain ⟨wM4, g3, g4⟩ := M_sure118 (wM := lookM w1 N S s N) hd hF q (nI (A 0)) (nI (A 1)) (nI (A 2)) (nI (A 3)) (2 ^ (N * cntB (atomsN (sdM d) (sdc d)) 4)) 0 FU (lookM w1 N S s N) (by omega) (FU_gt hpw) ⟨(KM.rf _).k5, ⟨A, hN, hM3⟩, hW3, lookM_V w1 N S s⟩
  have kb := g4.1.back
  rw [hM3.2.2 0 (by decide), hM3.2.2 1 (by decide), hM3.2.2 2 (by decide), hM3.2.2 3 (by decide)] at kb
  refine pub_same hR (nI (bN (allT (sureB N (seenS N S s) d) (2 ^ (N * cntB (atomsN (sdM d) (sdc d)) 4))))) ?_ ?_ (k2.tr g2) ((KM0 wM).tr ((k1.tr k3).tr kb))
  · rw [eX, if_pos (show nI (N * cntB (atomsN (sdM d) (sdc d)) 4) ≤ 12 from q2), X_look hX hN hs, cl_mk]
    exact g1
  · simp only [mX6_sure, M_sen_t _ hi, M_sort_t _ hs, e1, e2, cl_mk, nm_mk, pu_mk, lit, if_true, if_false, ne_eq, not_false_eq_true, not_true_eq_false, nI_add, nI_or, nI_and, Bool.false_eq_true, ne01, ne10, nI_m1', Nat.or_zero]
    refine M_sure37 hM1.1 hat _ (fun n => ?_)
    simp only [mX6_sure_37, c4, q2, e5, M_atom hM3 (show 0 < 4 by decide), M_atom hM3 (show 1 < 4 by decide), M_atom hM3 (show 2 < 4 by decide), M_atom hM3 (show 3 < 4 by decide), cl_mk, nm_mk, pu_mk, lit, if_true, if_false, ne_eq, not_false_eq_true, not_true_eq_false, nI_add, nI_or, nI_and, Bool.false_eq_true, ne01, ne10, nI_m1', Nat.or_zero]
    refine g3.trans ?_
    cases allT (sureB N (seenS N S s) d) (2 ^ (N * cntB (atomsN (sdM d) (sdc d)) 4))
    · simp only [mX6_sure_208, wr_in (show 0 < 4 by decide) (show 4 < 2 ^ 31 by decide), wr_in (show 1 < 4 by decide) (show 4 < 2 ^ 31 by decide), wr_in (show 2 < 4 by decide) (show 4 < 2 ^ 31 by decide), wr_in (show 3 < 4 by decide) (show 4 < 2 ^ 31 by decide), bN_f, cl_mk, nm_mk, pu_mk, lit, if_true, if_false, ne_eq, not_false_eq_true, not_true_eq_false, nI_add, nI_or, nI_and, Bool.false_eq_true, ne01, ne10, nI_m1', Nat.or_zero]
    · simp only [mX6_sure_208, wr_in (show 0 < 4 by decide) (show 4 < 2 ^ 31 by decide), wr_in (show 1 < 4 by decide) (show 4 < 2 ^ 31 by decide), wr_in (show 2 < 4 by decide) (show 4 < 2 ^ 31 by decide), wr_in (show 3 < 4 by decide) (show 4 < 2 ^ 31 by decide), bN_t, cl_mk, nm_mk, pu_mk, lit, if_true, if_false, ne_eq, not_false_eq_true, not_true_eq_false, nI_add, nI_or, nI_and, Bool.false_eq_true, ne01, ne10, nI_m1', Nat.or_zero]
end
section
/-! the class's part(): the unlike part that stands already, or a new one -/
def DraftX (w : AW) (m P : Nat) (c l r ph pl dp : Nat → Nat) : Prop := w.1 5 0 5 = nI P ∧ (∀ k, k < m → w.1 5 1 (ph k) = nI (c k) ∧ w.1 5 2 (ph k) = fsX c l ph k ∧ w.1 5 3 (ph k) = ssX c r ph k) ∧ ∀ p, p < P → w.1 5 4 p = nI (pl p) ∧ w.1 5 5 p = nI (dp p)
def ex1 (f : Nat → Nat) (m x : Nat) (k : Nat) : Nat := if k = m then x else f k
theorem ex1_s {f : Nat → Nat} {m x : Nat} : ex1 f m x m = x := if_pos rfl
theorem ex1_o {f : Nat → Nat} {m x k : Nat} (h : k ≠ m) : ex1 f m x k = f k := if_neg h
theorem ex1_lt {f : Nat → Nat} {m x k : Nat} (h : k < m) : ex1 f m x k = f k := if_neg (by omega)
theorem rn5 {w : AW} {i : Nat} {x : Int32} (a a' : Nat) (h : (a' == a) = false) : (am_set w 5 a i x).1 5 a' = w.1 5 a' := am_get_row (Or.inr (by simpa using h))
theorem X_isModal {c : Nat} (w : AW) (hc : c < 128) : mX5_isModal (nI c) w = some (nI (bN (modB c)), w) := by
  unfold modB
  by_cases q : c = 91
  · subst q
    simp only [mX5_isModal, mX5_isModal_12, true_or, decide_true, bN_t, cl_mk, nm_mk, pu_mk, lit, if_true, if_false, ne_eq, not_false_eq_true, not_true_eq_false, nI_add, nI_or, nI_and, Bool.false_eq_true, ne01, ne10, nI_m1', Nat.or_zero]
  · have q1 : (nI c = nI 91) = False := eq_false (fun z => q ((nI_eq (by omega) (by decide)).mp z))
    by_cases q2 : c = 123
    · subst q2
      simp only [mX5_isModal, mX5_isModal_12, q1, or_true, decide_true, bN_t, cl_mk, nm_mk, pu_mk, lit, if_true, if_false, ne_eq, not_false_eq_true, not_true_eq_false, nI_add, nI_or, nI_and, Bool.false_eq_true, ne01, ne10, nI_m1', Nat.or_zero]
    · have q3 : (nI c = nI 123) = False := eq_false (fun z => q2 ((nI_eq (by omega) (by decide)).mp z))
      have q4 : ¬ (c = 91 ∨ c = 123) := by omega
      simp only [mX5_isModal, mX5_isModal_12, q1, q3, q4, decide_false, bN_f, cl_mk, nm_mk, pu_mk, lit, if_true, if_false, ne_eq, not_false_eq_true, not_true_eq_false, nI_add, nI_or, nI_and, Bool.false_eq_true, ne01, ne10, nI_m1', Nat.or_zero]
theorem X_whether (b : Bool) (w : AW) : mX5_whether (nI (bN b)) w = some (nI (bN b), w) := by
  cases b
  · simp only [mX5_whether, bN_f, cl_mk, nm_mk, pu_mk, lit, if_true, if_false, ne_eq, not_false_eq_true, not_true_eq_false, nI_add, nI_or, nI_and, Bool.false_eq_true, ne01, ne10, nI_m1', Nat.or_zero]
  · simp only [mX5_whether, bN_t, cl_mk, nm_mk, pu_mk, lit, if_true, if_false, ne_eq, not_false_eq_true, not_true_eq_false, nI_add, nI_or, nI_and, Bool.false_eq_true, ne01, ne10, nI_m1', Nat.or_zero]
def newW (w : AW) (P cc : Nat) (f s : Int32) (pb d : Nat) : AW := am_set (am_set (am_set (am_set (am_set (am_set w 5 1 P (nI cc)) 5 2 P f) 5 3 P s) 5 4 P (nI pb)) 5 5 P (nI d)) 5 0 5 (nI (P + 1))
theorem newW_row {w : AW} {P cc pb d : Nat} {f s : Int32} {o a : Nat} (h : o ≠ 5 ∨ 5 < a) : (newW w P cc f s pb d).1 o a = w.1 o a := by
  unfold newW
  rw [am_get_row (by omega), am_get_row (by omega), am_get_row (by omega), am_get_row (by omega), am_get_row (by omega), am_get_row (by omega)]
theorem newW_sg {w : AW} {P cc pb d : Nat} {f s : Int32} : (newW w P cc f s pb d).1 5 0 6 = w.1 5 0 6 := by
  unfold newW
  rw [am_get_other (by decide), am_get_row (by decide), am_get_row (by decide), am_get_row (by decide), am_get_row (by decide), am_get_row (by decide)]
theorem newW_old {w : AW} {P cc pb d : Nat} {f s : Int32} {a p : Nat} (h : p ≠ P) (ha : 1 ≤ a) : (newW w P cc f s pb d).1 5 a p = w.1 5 a p := by
  unfold newW
  rw [am_get, if_neg (by omega), am_get, if_neg (by omega), am_get, if_neg (by omega), am_get, if_neg (by omega), am_get, if_neg (by omega), am_get, if_neg (by omega)]
theorem newW_new {w : AW} {P cc pb d : Nat} {f s : Int32} : (newW w P cc f s pb d).1 5 1 P = nI cc ∧ (newW w P cc f s pb d).1 5 2 P = f ∧ (newW w P cc f s pb d).1 5 3 P = s ∧ (newW w P cc f s pb d).1 5 4 P = nI pb ∧ (newW w P cc f s pb d).1 5 5 P = nI d ∧ (newW w P cc f s pb d).1 5 0 5 = nI (P + 1) := by
  unfold newW
  simp [am_get]
theorem newW_K {w : AW} {P cc pb d : Nat} {f s : Int32} : KX w (newW w P cc f s pb d) := ((((((KX.rf w).set (Or.inl ⟨by decide, by decide⟩)).set (Or.inl ⟨by decide, by decide⟩)).set (Or.inl ⟨by decide, by decide⟩)).set (Or.inl ⟨by decide, by decide⟩)).set (Or.inl ⟨by decide, by decide⟩)).set (Or.inl ⟨by decide, by decide⟩)
section XP
variable {w : AW} {m P cc lm rm : Nat} {c l r ph pl dp : Nat → Nat} {f s : Int32} {pb : Nat}
theorem X_part_new {n : Nat} (h5 : w.1 5 0 5 = nI P) (hP : P < 81) (hcc : cc < 128) {da db : Nat} (hda : da < 1000) (hdb : db < 1000) (hf : ∀ W : AW, W.1 5 5 = w.1 5 5 → mX5_at 5 5 f W = some (nI da, W)) (hs : ∀ W : AW, W.1 5 5 = w.1 5 5 → mX5_at 5 5 s W = some (nI db, W)) :
    mX2_part_3 5 (nI cc) f s (nI pb) (n + 1) (nI P) w = some (nI P, newW w P cc f s pb (max da db + bN (modB cc))) := by
  have hput : ∀ a, 1 ≤ a → a ≤ 5 → ∀ (W : AW) (x : Int32), mX5_put 5 a (nI P) x W = some ((), am_set W 5 a P x) := fun a h1 h2 W x => by
    have e : am_aL false 5 a = 81 := by
      have : ∀ a, a < 6 → 1 ≤ a → am_aL false 5 a = 81 := by decide
      exact this a (by omega) h1
    exact put_in W (by rw [e]; exact hP) (by rw [e]; decide)
  have c1 : nI P ≤ nI P := nI_le (Nat.le_refl P) (by omega)
  have c2 : ¬ (Int32.ofNat (am_aL false 5 1)) ≤ nI P := nI_ge (show P < 81 from hP) (by decide)
  have e1 := hf (am_set (am_set (am_set (am_set w 5 1 P (nI cc)) 5 2 P f) 5 3 P s) 5 4 P (nI pb)) (by rw [rn5 4 5 rfl, rn5 3 5 rfl, rn5 2 5 rfl, rn5 1 5 rfl])
  have e2 := hs (am_set (am_set (am_set (am_set w 5 1 P (nI cc)) 5 2 P f) 5 3 P s) 5 4 P (nI pb)) (by rw [rn5 4 5 rfl, rn5 3 5 rfl, rn5 2 5 rfl, rn5 1 5 rfl])
  have e3 : (if nI da < nI db then nI db else nI da) = nI (max da db) := by
    by_cases q : da < db
    · rw [if_pos (nI_lt q (by omega)), show max da db = db by omega]
    · rw [if_neg (nI_nlt (by omega) (by omega)), show max da db = da by omega]
  unfold mX2_part_3
  rw [h5, if_pos c1, if_neg c2, hput 1 (by decide) (by decide), cl_mk, rn5 1 0 rfl, h5, hput 2 (by decide) (by decide), cl_mk, rn5 2 0 rfl, rn5 1 0 rfl, h5, hput 3 (by decide) (by decide), cl_mk, rn5 3 0 rfl, rn5 2 0 rfl, rn5 1 0 rfl, h5, hput 4 (by decide) (by decide), cl_mk, e1, cl_mk, e2, cl_mk, X_isModal _ hcc, cl_mk, X_whether, cl_mk, rn5 4 0 rfl, rn5 3 0 rfl, rn5 2 0 rfl, rn5 1 0 rfl, h5, e3, nI_add, hput 5 (by decide) (by decide), cl_mk, pu_mk, rn5 5 0 rfl, rn5 4 0 rfl, rn5 3 0 rfl, rn5 2 0 rfl, rn5 1 0 rfl, h5, lit, nI_add]
  unfold mX2_part_169
  rw [am_get_self, lit, pk_sub (by omega), Nat.add_sub_cancel]
  rfl
/-- what is asked for: a node m of sign cc with lm (and rm) before it -/
def asks (cc lm rm : Nat) (ph : Nat → Nat) (f s : Int32) : Prop := f = (if kd cc = 0 then -nI 1 else nI (ph lm)) ∧ s = (if kd cc = 2 then nI (ph rm) else -nI 1)
theorem X_part_hit {n p k : Nat} (hD : DraftX w m P c l r ph pl dp) (hP : P ≤ 81) (hk : k < m) (hp : p < P) (he : ph k = p) (h1 : nI (c k) = nI cc) (h2 : fsX c l ph k = f) (h3 : ssX c r ph k = s) : mX2_part_3 5 (nI cc) f s (nI pb) (n + 1) (nI p) w = some (nI p, w) := by
  have c1 : ¬ nI P ≤ nI p := nI_ge hp (by omega)
  obtain ⟨g1, g2, g3⟩ := hD.2.1 k hk
  rw [he] at g1 g2 g3
  have at_ : ∀ a, 1 ≤ a → a ≤ 5 → mX5_at 5 a (nI p) w = some (w.1 5 a p, w) := fun a z1 z2 => by
    have e : am_aL false 5 a = 81 := by
      have : ∀ a, a < 6 → 1 ≤ a → am_aL false 5 a = 81 := by decide
      exact this a (by omega) z1
    exact at_in w (by rw [e]; omega) (by rw [e]; decide)
  unfold mX2_part_3
  rw [hD.1, if_neg c1, at_ 1 (by decide) (by decide), cl_mk, g1, if_neg (fun z => z h1), at_ 2 (by decide) (by decide), cl_mk, g2, if_neg (fun z => z h2), at_ 3 (by decide) (by decide), cl_mk, g3, if_neg (fun z => z h3)]
theorem X_part_miss {n p k : Nat} (hD : DraftX w m P c l r ph pl dp) (hP : P ≤ 81) (hk : k < m) (hp : p < P) (he : ph k = p) (hno : ¬ (nI (c k) = nI cc ∧ fsX c l ph k = f ∧ ssX c r ph k = s)) : mX2_part_3 5 (nI cc) f s (nI pb) (n + 1) (nI p) w = mX2_part_3 5 (nI cc) f s (nI pb) n (nI (p + 1)) w := by
  have c1 : ¬ nI P ≤ nI p := nI_ge hp (by omega)
  obtain ⟨g1, g2, g3⟩ := hD.2.1 k hk
  rw [he] at g1 g2 g3
  have at_ : ∀ a, 1 ≤ a → a ≤ 5 → mX5_at 5 a (nI p) w = some (w.1 5 a p, w) := fun a z1 z2 => by
    have e : am_aL false 5 a = 81 := by
      have : ∀ a, a < 6 → 1 ≤ a → am_aL false 5 a = 81 := by decide
      exact this a (by omega) z1
    exact at_in w (by rw [e]; omega) (by rw [e]; decide)
  have t54 : mX2_part_54 (mX2_part_3 5 (nI cc) f s (nI pb) n) 5 (nI cc) f s (nI pb) (nI p) w = mX2_part_3 5 (nI cc) f s (nI pb) n (nI (p + 1)) w := by
    unfold mX2_part_54
    rw [nm_mk, lit, nI_add]
  rw [mX2_part_3]
  by_cases h1 : nI (c k) = nI cc
  · by_cases h2 : fsX c l ph k = f
    · have h3 : ssX c r ph k ≠ s := fun z => hno ⟨h1, h2, z⟩
      rw [hD.1, if_neg c1, at_ 1 (by decide) (by decide), cl_mk, g1, if_neg (fun z => z h1), at_ 2 (by decide) (by decide), cl_mk, g2, if_neg (fun z => z h2), at_ 3 (by decide) (by decide), cl_mk, g3, if_pos h3]
      exact t54
    · rw [hD.1, if_neg c1, at_ 1 (by decide) (by decide), cl_mk, g1, if_neg (fun z => z h1), at_ 2 (by decide) (by decide), cl_mk, g2, if_pos h2]
      exact t54
  · rw [hD.1, if_neg c1, at_ 1 (by decide) (by decide), cl_mk, g1, if_pos h1]
    exact t54
/-- what has come of it -/
def PartAdd (m P cc lm rm pb : Nat) (c l r ph pl dp : Nat → Nat) (P' : Nat) (ph' pl' dp' : Nat → Nat) : Prop :=
  ClassOK (m + 1) P' (ex1 c m cc) (ex1 l m lm) (ex1 r m rm) ph' ∧ (∀ k, k < m → ph' k = ph k) ∧ (∀ p, p < P → pl' p = pl p ∧ dp' p = dp p) ∧
  ((P' = P + 1 ∧ ph' m = P ∧ pl' P = pb ∧ dp' P = max (if kd cc = 0 then 0 else dp (ph lm)) (if kd cc = 2 then dp (ph rm) else 0) + bN (modB cc)) ∨ (P' = P ∧ ∃ k, k < m ∧ ph' m = ph k))
theorem X_part (hD : DraftX w m P c l r ph pl dp) (hc : ClassOK m P c l r ph) (hsh : ShapeOK m c l r) (hP : P < 81) (hcc : isLeaf cc ∨ isPre cc ∨ isJn cc) (hl : kd cc ≠ 0 → lm < m) (hr : kd cc = 2 → rm < m) (hdp : ∀ p, p < P → dp p < 1000) (hq : asks cc lm rm ph f s) :
    ∃ P' ph' pl' dp' w2, mX2_part 5 (nI cc) f s (nI pb) w = some (nI (ph' m), w2) ∧ DraftX w2 (m + 1) P' (ex1 c m cc) (ex1 l m lm) (ex1 r m rm) ph' pl' dp' ∧ PartAdd m P cc lm rm pb c l r ph pl dp P' ph' pl' dp' ∧ KX w w2 ∧ (∀ o a, (o ≠ 5 ∨ 5 < a) → w2.1 o a = w.1 o a) ∧ w2.1 5 0 6 = w.1 5 0 6 := by
  obtain ⟨hf, hs⟩ := hq
  have hcc2 := kinds_lt hcc
  have kinds : ∀ k, k < m → c k < 128 := fun k hk => kinds_lt (kinds_of hsh hk)
  have phlt : ∀ k, k < m → ph k < 2 ^ 31 := fun k hk => by have := hc.1 k hk; omega
  have m1ne : ∀ q, q < 2 ^ 31 → nI q ≠ -nI 1 := fun q hq z => by
    have := nI_pos hq
    rw [z] at this
    exact this (by decide)
  -- the new node is like k just where the three words of k are those asked for
  have iff : ∀ k, k < m → ((nI (c k) = nI cc ∧ fsX c l ph k = f ∧ ssX c r ph k = s) ↔ (c k = cc ∧ (isPre (c k) → ph (l k) = ph lm) ∧ (isJn (c k) → ph (l k) = ph lm ∧ ph (r k) = ph rm))) := by
    intro k hk
    have e1 : (nI (c k) = nI cc) ↔ c k = cc := nI_eq (by have := kinds k hk; omega) (by omega)
    rw [e1, hf, hs]
    unfold fsX ssX
    constructor
    · rintro ⟨h1, h2, h3⟩
      refine ⟨h1, fun g => ?_, fun g => ?_⟩
      · rw [← h1, kd_pre g] at h2
        rcases hsh k hk with q | ⟨q, q1⟩ | ⟨q, q1, q2⟩
        · have := kd_leaf q; rw [kd_pre g] at this; cases this
        · exact (nI_eq (phlt _ (by omega)) (phlt _ (hl (by rw [← h1, kd_pre g]; decide)))).mp h2
        · have := kd_jn q; rw [kd_pre g] at this; cases this
      · rw [← h1, kd_jn g] at h2 h3
        rcases hsh k hk with q | ⟨q, q1⟩ | ⟨q, q1, q2⟩
        · have := kd_leaf q; rw [kd_jn g] at this; cases this
        · have := kd_pre q; rw [kd_jn g] at this; cases this
        · exact ⟨(nI_eq (phlt _ (by omega)) (phlt _ (hl (by rw [← h1, kd_jn g]; decide)))).mp h2, (nI_eq (phlt _ (by omega)) (phlt _ (hr (by rw [← h1, kd_jn g])))).mp h3⟩
    · rintro ⟨h1, h2, h3⟩
      rw [← h1]
      refine ⟨rfl, ?_, ?_⟩
      · rcases hsh k hk with q | ⟨q, q1⟩ | ⟨q, q1, q2⟩
        · rw [kd_leaf q]; rfl
        · rw [h2 q]
        · rw [(h3 q).1]
      · rcases hsh k hk with q | ⟨q, q1⟩ | ⟨q, q1, q2⟩
        · rw [kd_leaf q]; rfl
        · rw [kd_pre q]; rfl
        · rw [(h3 q).2]
  by_cases hex : ∃ k, k < m ∧ (c k = cc ∧ (isPre (c k) → ph (l k) = ph lm) ∧ (isJn (c k) → ph (l k) = ph lm ∧ ph (r k) = ph rm))
  · -- it stands already
    obtain ⟨k0, hk0, hit⟩ := hex
    have hp0 := hc.1 k0 hk0
    have run : mX2_part 5 (nI cc) f s (nI pb) w = some (nI (ph k0), w) := by
      unfold mX2_part
      refine loopE (fun n p => mX2_part_3 5 (nI cc) f s (nI pb) n p w) (ph k0) nI _ ?_ ?_ FU 0 (Nat.zero_le _) (FU_gt (by omega))
      · intro n p hp
        obtain ⟨z1, z2⟩ := rpF_spec hc (show p < P by omega)
        refine X_part_miss hD (by omega) z1 (by omega) z2 (fun h => ?_)
        have h2 := (iff _ z1).mp h
        have h3 : ph (rpF m ph p) = ph k0 := (hc.2.2.2.2 _ _ z1 hk0).mpr ⟨h2.1.trans hit.1.symm, fun g => (h2.2.1 g).trans (hit.2.1 (by rw [hit.1, ← h2.1]; exact g)).symm, fun g => ⟨(h2.2.2 g).1.trans (hit.2.2 (by rw [hit.1, ← h2.1]; exact g)).1.symm, (h2.2.2 g).2.trans (hit.2.2 (by rw [hit.1, ← h2.1]; exact g)).2.symm⟩⟩
        omega
      · intro n
        obtain ⟨h1, h2, h3⟩ := (iff k0 hk0).mpr hit
        exact X_part_hit hD (by omega) hk0 hp0 rfl h1 h2 h3
    have exm : ∀ k, k < m → ex1 ph m (ph k0) k = ph k := fun k hk => ex1_lt hk
    have hcl : ClassOK (m + 1) P (ex1 c m cc) (ex1 l m lm) (ex1 r m rm) (ex1 ph m (ph k0)) := by
      have lt2 : ∀ k, k < m + 1 → k ≠ m → k < m := fun k h1 h2 => by omega
      -- the node m stands for k0
      have rep : ∀ k, k < m + 1 → ∃ j, j < m ∧ ex1 ph m (ph k0) k = ph j ∧ ex1 c m cc k = c j ∧ (isPre (c j) → ex1 ph m (ph k0) (ex1 l m lm k) = ph (l j)) ∧ (isJn (c j) → ex1 ph m (ph k0) (ex1 l m lm k) = ph (l j) ∧ ex1 ph m (ph k0) (ex1 r m rm k) = ph (r j)) := by
        intro k hk
        by_cases e : k = m
        · subst e
          refine ⟨k0, hk0, ex1_s, by rw [ex1_s]; exact hit.1.symm, fun g => ?_, fun g => ⟨?_, ?_⟩⟩
          · rw [ex1_s, exm _ (hl (by rw [← hit.1, kd_pre g]; decide))]
            exact (hit.2.1 g).symm
          · rw [ex1_s, exm _ (hl (by rw [← hit.1, kd_jn g]; decide))]
            exact (hit.2.2 g).1.symm
          · rw [ex1_s, exm _ (hr (by rw [← hit.1, kd_jn g]))]
            exact (hit.2.2 g).2.symm
        · have hk' := lt2 k hk e
          refine ⟨k, hk', exm k hk', ex1_o e, fun g => ?_, fun g => ?_⟩
          · rcases hsh k hk' with q | ⟨q, q1⟩ | ⟨q, q1, q2⟩
            · have := kd_leaf q; rw [kd_pre g] at this; cases this
            · rw [ex1_o e, exm _ (by omega)]
            · have := kd_jn q; rw [kd_pre g] at this; cases this
          · rcases hsh k hk' with q | ⟨q, q1⟩ | ⟨q, q1, q2⟩
            · have := kd_leaf q; rw [kd_jn g] at this; cases this
            · have := kd_pre q; rw [kd_jn g] at this; cases this
            · rw [ex1_o e, ex1_o e, exm _ (by omega), exm _ (by omega)]
              exact ⟨rfl, rfl⟩
      refine ⟨fun k hk => ?_, fun p hp => ?_, fun k hk g => ?_, fun k hk g => ?_, fun k j hk hj => ?_⟩
      · obtain ⟨i, i1, i2, i3, i4, i5⟩ := rep k hk
        rw [i2]; exact hc.1 i i1
      · obtain ⟨k, z1, z2⟩ := hc.2.1 p hp
        exact ⟨k, by omega, by rw [exm k z1]; exact z2⟩
      · obtain ⟨i, i1, i2, i3, i4, i5⟩ := rep k hk
        rw [i3] at g
        rw [i2, i4 g]
        exact hc.2.2.1 i i1 g
      · obtain ⟨i, i1, i2, i3, i4, i5⟩ := rep k hk
        rw [i3] at g
        rw [i2, (i5 g).1, (i5 g).2]
        exact hc.2.2.2.1 i i1 g
      · obtain ⟨i, i1, i2, i3, i4, i5⟩ := rep k hk
        obtain ⟨q, q1, q2, q3, q4, q5⟩ := rep j hj
        rw [i2, q2, i3, q3, hc.2.2.2.2 i q i1 q1]
        constructor
        · rintro ⟨z1, z2, z3⟩
          exact ⟨z1, fun g => by rw [i4 g, q4 (by rw [← z1]; exact g)]; exact z2 g, fun g => by rw [(i5 g).1, (i5 g).2, (q5 (by rw [← z1]; exact g)).1, (q5 (by rw [← z1]; exact g)).2]; exact z3 g⟩
        · rintro ⟨z1, z2, z3⟩
          refine ⟨z1, fun g => ?_, fun g => ?_⟩
          · have := z2 g
            rw [i4 g, q4 (by rw [← z1]; exact g)] at this
            exact this
          · have := z3 g
            rw [(i5 g).1, (i5 g).2, (q5 (by rw [← z1]; exact g)).1, (q5 (by rw [← z1]; exact g)).2] at this
            exact this
    refine ⟨P, ex1 ph m (ph k0), pl, dp, w, by rw [ex1_s]; exact run, ⟨hD.1, fun k hk => ?_, hD.2.2⟩, ⟨hcl, exm, fun p _ => ⟨rfl, rfl⟩, Or.inr ⟨rfl, k0, hk0, ex1_s⟩⟩, KX.rf w, fun _ _ _ => rfl, rfl⟩
    by_cases e : k = m
    · subst e
      obtain ⟨g1, g2, g3⟩ := hD.2.1 k0 hk0
      obtain ⟨h1, h2, h3⟩ := (iff k0 hk0).mpr hit
      unfold fsX ssX
      rw [ex1_s, ex1_s, ex1_s, ex1_s, g1, g2, g3]
      refine ⟨h1, ?_, ?_⟩
      · rw [h2, hf]
        by_cases z : kd cc = 0
        · rw [if_pos z, if_pos z]
        · rw [if_neg z, if_neg z, exm _ (hl z)]
      · rw [h3, hs]
        by_cases z : kd cc = 2
        · rw [if_pos z, if_pos z, exm _ (hr z)]
        · rw [if_neg z, if_neg z]
    · have hk' : k < m := by omega
      obtain ⟨g1, g2, g3⟩ := hD.2.1 k hk'
      rw [exm k hk', ex1_o e, g1, g2, g3]
      unfold fsX ssX
      rw [ex1_o e, ex1_o e, ex1_o e]
      refine ⟨rfl, ?_, ?_⟩
      · rcases hsh k hk' with q | ⟨q, q1⟩ | ⟨q, q1, q2⟩
        · rw [kd_leaf q]; rfl
        · rw [exm _ (by omega)]
        · rw [exm _ (by omega)]
      · rcases hsh k hk' with q | ⟨q, q1⟩ | ⟨q, q1, q2⟩
        · rw [kd_leaf q]; rfl
        · rw [kd_pre q]; rfl
        · rw [exm _ (by omega)]
  · -- a new one
    have hno : ∀ k, k < m → ¬ (c k = cc ∧ (isPre (c k) → ph (l k) = ph lm) ∧ (isJn (c k) → ph (l k) = ph lm ∧ ph (r k) = ph rm)) := fun k hk h => hex ⟨k, hk, h⟩
    have at5 : ∀ (W : AW), W.1 5 5 = w.1 5 5 → ∀ q, q < P → mX5_at 5 5 (nI q) W = some (nI (dp q), W) := fun W hW q hq => by
      rw [at_in W (show q < 81 by omega) (by decide), hW, (hD.2.2 q hq).2]
    have hda : (if kd cc = 0 then 0 else dp (ph lm)) < 1000 := by
      by_cases z : kd cc = 0
      · rw [if_pos z]; decide
      · rw [if_neg z]; exact hdp _ (hc.1 _ (hl z))
    have hdb : (if kd cc = 2 then dp (ph rm) else 0) < 1000 := by
      by_cases z : kd cc = 2
      · rw [if_pos z]; exact hdp _ (hc.1 _ (hr z))
      · rw [if_neg z]; decide
    have run : mX2_part 5 (nI cc) f s (nI pb) w = some (nI P, newW w P cc f s pb (max (if kd cc = 0 then 0 else dp (ph lm)) (if kd cc = 2 then dp (ph rm) else 0) + bN (modB cc))) := by
      unfold mX2_part
      refine loopE (fun n p => mX2_part_3 5 (nI cc) f s (nI pb) n p w) P nI _ ?_ ?_ FU 0 (Nat.zero_le _) (FU_gt (by omega))
      · intro n p hp
        obtain ⟨z1, z2⟩ := rpF_spec hc hp
        exact X_part_miss hD (by omega) z1 hp z2 (fun h => hno _ z1 ((iff _ z1).mp h))
      · intro n
        refine X_part_new hD.1 hP hcc2 hda hdb (fun W hW => ?_) (fun W hW => ?_)
        · rw [hf]
          by_cases z : kd cc = 0
          · rw [if_pos z, if_pos z]; exact at_m1 W
          · rw [if_neg z, if_neg z]; exact at5 W hW _ (hc.1 _ (hl z))
        · rw [hs]
          by_cases z : kd cc = 2
          · rw [if_pos z, if_pos z]; exact at5 W hW _ (hc.1 _ (hr z))
          · rw [if_neg z, if_neg z]; exact at_m1 W
    have exm : ∀ k, k < m → ex1 ph m P k = ph k := fun k hk => ex1_lt hk
    have hcl : ClassOK (m + 1) (P + 1) (ex1 c m cc) (ex1 l m lm) (ex1 r m rm) (ex1 ph m P) := by
      refine ⟨fun k hk => ?_, fun p hp => ?_, fun k hk g => ?_, fun k hk g => ?_, fun k j hk hj => ?_⟩
      · by_cases e : k = m
        · subst e; rw [ex1_s]; omega
        · rw [exm k (by omega)]; have := hc.1 k (by omega); omega
      · by_cases e : p = P
        · subst e; exact ⟨m, by omega, ex1_s⟩
        · obtain ⟨k, z1, z2⟩ := hc.2.1 p (by omega)
          exact ⟨k, by omega, by rw [exm k z1]; exact z2⟩
      · by_cases e : k = m
        · subst e
          rw [ex1_s] at g
          have hlk := hl (by rw [kd_pre g]; decide)
          rw [ex1_s, ex1_s, exm _ hlk]
          exact hc.1 _ hlk
        · have hk' : k < m := by omega
          rw [ex1_o e] at g
          rw [ex1_o e, exm k hk']
          rcases hsh k hk' with q | ⟨q, q1⟩ | ⟨q, q1, q2⟩
          · have := kd_leaf q; rw [kd_pre g] at this; cases this
          · rw [exm _ (by omega)]; exact hc.2.2.1 k hk' g
          · have := kd_jn q; rw [kd_pre g] at this; cases this
      · by_cases e : k = m
        · subst e
          rw [ex1_s] at g
          have hlk := hl (by rw [kd_jn g]; decide)
          have hrk := hr (by rw [kd_jn g])
          rw [ex1_s, ex1_s, ex1_s, exm _ hlk, exm _ hrk]
          exact ⟨hc.1 _ hlk, hc.1 _ hrk⟩
        · have hk' : k < m := by omega
          rw [ex1_o e] at g
          rw [ex1_o e, ex1_o e, ex1_o e]
          rcases hsh k hk' with q | ⟨q, q1⟩ | ⟨q, q1, q2⟩
          · have := kd_leaf q; rw [kd_jn g] at this; cases this
          · have := kd_pre q; rw [kd_jn g] at this; cases this
          · rw [exm _ (by omega), exm _ (by omega)]; exact hc.2.2.2.1 k hk' g
      · have sub : ∀ k, k < m → (isPre (c k) → ex1 ph m P (l k) = ph (l k)) ∧ (isJn (c k) → ex1 ph m P (l k) = ph (l k) ∧ ex1 ph m P (r k) = ph (r k)) := fun k hk' => by
          rcases hsh k hk' with q | ⟨q, q1⟩ | ⟨q, q1, q2⟩
          · exact ⟨fun g => absurd (kd_leaf q) (by rw [kd_pre g]; decide), fun g => absurd (kd_leaf q) (by rw [kd_jn g]; decide)⟩
          · exact ⟨fun _ => exm _ (by omega), fun g => absurd (kd_pre q) (by rw [kd_jn g]; decide)⟩
          · exact ⟨fun g => absurd (kd_jn q) (by rw [kd_pre g]; decide), fun _ => ⟨exm _ (by omega), exm _ (by omega)⟩⟩
        by_cases e : k = m
        · subst e
          by_cases e2 : j = k
          · subst e2
            exact ⟨fun _ => ⟨rfl, fun _ => rfl, fun _ => ⟨rfl, rfl⟩⟩, fun _ => rfl⟩
          · have hj' : j < k := by omega
            rw [ex1_s, exm j hj', ex1_s, ex1_s, ex1_s, ex1_o e2, ex1_o e2, ex1_o e2]
            constructor
            · intro z
              have := hc.1 j hj'
              omega
            · rintro ⟨z1, z2, z3⟩
              exfalso
              apply hno j hj'
              refine ⟨z1.symm, fun g => ?_, fun g => ?_⟩
              · have := z2 (by rw [z1]; exact g)
                rw [exm _ (hl (by rw [z1, kd_pre g]; decide)), (sub j hj').1 g] at this
                exact this.symm
              · have := z3 (by rw [z1]; exact g)
                rw [exm _ (hl (by rw [z1, kd_jn g]; decide)), exm _ (hr (by rw [z1, kd_jn g])), ((sub j hj').2 g).1, ((sub j hj').2 g).2] at this
                exact ⟨this.1.symm, this.2.symm⟩
        · have hk' : k < m := by omega
          by_cases e2 : j = m
          · subst e2
            rw [ex1_s, exm k hk', ex1_s, ex1_s, ex1_s, ex1_o e, ex1_o e, ex1_o e]
            constructor
            · intro z
              have := hc.1 k hk'
              omega
            · rintro ⟨z1, z2, z3⟩
              exfalso
              apply hno k hk'
              refine ⟨z1, fun g => ?_, fun g => ?_⟩
              · have := z2 g
                rw [exm _ (hl (by rw [← z1, kd_pre g]; decide)), (sub k hk').1 g] at this
                exact this
              · have := z3 g
                rw [exm _ (hl (by rw [← z1, kd_jn g]; decide)), exm _ (hr (by rw [← z1, kd_jn g])), ((sub k hk').2 g).1, ((sub k hk').2 g).2] at this
                exact this
          · have hj' : j < m := by omega
            rw [exm k hk', exm j hj', ex1_o e, ex1_o e, ex1_o e, ex1_o e2, ex1_o e2, ex1_o e2, hc.2.2.2.2 k j hk' hj']
            constructor
            · rintro ⟨z1, z2, z3⟩
              exact ⟨z1, fun g => by rw [(sub k hk').1 g, (sub j hj').1 (by rw [← z1]; exact g)]; exact z2 g, fun g => by rw [((sub k hk').2 g).1, ((sub k hk').2 g).2, ((sub j hj').2 (by rw [← z1]; exact g)).1, ((sub j hj').2 (by rw [← z1]; exact g)).2]; exact z3 g⟩
            · rintro ⟨z1, z2, z3⟩
              refine ⟨z1, fun g => ?_, fun g => ?_⟩
              · have := z2 g
                rw [(sub k hk').1 g, (sub j hj').1 (by rw [← z1]; exact g)] at this
                exact this
              · have := z3 g
                rw [((sub k hk').2 g).1, ((sub k hk').2 g).2, ((sub j hj').2 (by rw [← z1]; exact g)).1, ((sub j hj').2 (by rw [← z1]; exact g)).2] at this
                exact this
    obtain ⟨n1, n2, n3, n4, n5, n6⟩ := newW_new (w := w) (P := P) (cc := cc) (f := f) (s := s) (pb := pb) (d := max (if kd cc = 0 then 0 else dp (ph lm)) (if kd cc = 2 then dp (ph rm) else 0) + bN (modB cc))
    refine ⟨P + 1, ex1 ph m P, ex1 pl P pb, ex1 dp P (max (if kd cc = 0 then 0 else dp (ph lm)) (if kd cc = 2 then dp (ph rm) else 0) + bN (modB cc)), _, by rw [ex1_s]; exact run, ⟨n6, fun k hk => ?_, fun p hp => ?_⟩, ⟨hcl, exm, fun p hp => ⟨ex1_lt hp, ex1_lt hp⟩, Or.inl ⟨rfl, ex1_s, ex1_s, ex1_s⟩⟩, newW_K, fun o a h => newW_row h, newW_sg⟩
    · by_cases e : k = m
      · subst e
        unfold fsX ssX
        rw [ex1_s, ex1_s, ex1_s, ex1_s, n1, n2, n3]
        refine ⟨rfl, ?_, ?_⟩
        · rw [hf]
          by_cases z : kd cc = 0
          · rw [if_pos z, if_pos z]
          · rw [if_neg z, if_neg z, exm _ (hl z)]
        · rw [hs]
          by_cases z : kd cc = 2
          · rw [if_pos z, if_pos z, exm _ (hr z)]
          · rw [if_neg z, if_neg z]
      · have hk' : k < m := by omega
        have hne : ph k ≠ P := by have := hc.1 k hk'; omega
        obtain ⟨g1, g2, g3⟩ := hD.2.1 k hk'
        rw [exm k hk', newW_old hne (by decide), newW_old hne (by decide), newW_old hne (by decide), ex1_o e, g1, g2, g3]
        unfold fsX ssX
        rw [ex1_o e, ex1_o e, ex1_o e]
        refine ⟨rfl, ?_, ?_⟩
        · rcases hsh k hk' with q | ⟨q, q1⟩ | ⟨q, q1, q2⟩
          · rw [kd_leaf q]; rfl
          · rw [exm _ (by omega)]
          · rw [exm _ (by omega)]
        · rcases hsh k hk' with q | ⟨q, q1⟩ | ⟨q, q1, q2⟩
          · rw [kd_leaf q]; rfl
          · rw [kd_pre q]; rfl
          · rw [exm _ (by omega)]
    · by_cases e : p = P
      · subst e
        rw [ex1_s, ex1_s]
        exact ⟨n4, n5⟩
      · rw [newW_old e (by decide), newW_old e (by decide), ex1_o e, ex1_o e]
        exact hD.2.2 p (by omega)
end XP
end
section
/-! a node more -/
def NodeIs (m cc lm rm bm em : Nat) (b e y : Nat → Nat) : Prop :=
  (isLeaf cc ∧ lm = 0 ∧ rm = 0 ∧ em = bm + 1 ∧ y bm = cc) ∨ (isPre cc ∧ lm < m ∧ rm = 0 ∧ em = e lm ∧ b lm = bm + 1 ∧ y bm = cc) ∨
  (isJn cc ∧ lm < m ∧ rm < m ∧ y bm = 40 ∧ b lm = bm + 1 ∧ y (e lm) = cc ∧ b rm = e lm + 1 ∧ em = e rm + 1 ∧ y (e rm) = 41)
section ND
variable {m P cc lm rm bm em P' : Nat} {c l r b e y ph pl dp ph' pl' dp' : Nat → Nat}
theorem NodeIs.kinds (h : NodeIs m cc lm rm bm em b e y) : isLeaf cc ∨ isPre cc ∨ isJn cc := by
  rcases h with h | h | h
  · exact Or.inl h.1
  · exact Or.inr (Or.inl h.1)
  · exact Or.inr (Or.inr h.1)
theorem tree_add (hT : TreeOK m c l r b e y) (hn : NodeIs m cc lm rm bm em b e y) : TreeOK (m + 1) (ex1 c m cc) (ex1 l m lm) (ex1 r m rm) (ex1 b m bm) (ex1 e m em) y := by
  intro k hk
  by_cases q : k = m
  · subst q
    simp only [ex1_s]
    rcases hn with g | ⟨g, g1, g2, g3, g4, g5⟩ | ⟨g, g1, g2, g3, g4, g5, g6, g7, g8⟩
    · exact Or.inl g
    · refine Or.inr (Or.inl ⟨g, g1, g2, ?_, ?_, g5⟩)
      · rw [ex1_lt g1]; exact g3
      · rw [ex1_lt g1]; exact g4
    · refine Or.inr (Or.inr ⟨g, g1, g2, g3, ?_, ?_, ?_, ?_, ?_⟩)
      · rw [ex1_lt g1]; exact g4
      · rw [ex1_lt g1]; exact g5
      · rw [ex1_lt g2, ex1_lt g1]; exact g6
      · rw [ex1_lt g2]; exact g7
      · rw [ex1_lt g2]; exact g8
  · have hk' : k < m := by omega
    simp only [ex1_o q]
    rcases hT k hk' with g | ⟨g, g1, g2, g3, g4, g5⟩ | ⟨g, g1, g2, g3, g4, g5, g6, g7, g8⟩
    · exact Or.inl g
    · have hl : l k < m := by omega
      refine Or.inr (Or.inl ⟨g, g1, g2, ?_, ?_, g5⟩)
      · rw [ex1_lt hl]; exact g3
      · rw [ex1_lt hl]; exact g4
    · have hl : l k < m := by omega
      have hr : r k < m := by omega
      refine Or.inr (Or.inr ⟨g, g1, g2, g3, ?_, ?_, ?_, ?_, ?_⟩)
      · rw [ex1_lt hl]; exact g4
      · rw [ex1_lt hl]; exact g5
      · rw [ex1_lt hr, ex1_lt hl]; exact g6
      · rw [ex1_lt hr]; exact g7
      · rw [ex1_lt hr]; exact g8
theorem part_add (hT : TreeOK m c l r b e y) (hP : PartOK m P c l r b ph pl dp) (hn : NodeIs m cc lm rm bm em b e y) (he : ∀ k, k < m → e k ≤ em) (hA : PartAdd m P cc lm rm bm c l r ph pl dp P' ph' pl' dp') :
    PartOK (m + 1) P' (ex1 c m cc) (ex1 l m lm) (ex1 r m rm) (ex1 b m bm) ph' pl' dp' ∧ ((∀ k, k < m → 1 ≤ b k) → bm = 0 → ph' m = P' - 1) := by
  obtain ⟨hc, hph, hpd, hor⟩ := hA
  have hT' := tree_add hT hn
  have hs := hT.shape
  have hs' := hT'.shape
  obtain ⟨p1, p2, p3, p4, p5, p6, p7⟩ := hP
  -- of an elder part: the same length, so an elder place
  have old : ∀ j, j < m → ph' m = ph j → b j ≤ bm ∧ em - bm = e j - b j ∧ b j < e j := by
    intro j hj hz
    have := (like_of hT' hc (m + 1) m j (Nat.lt_succ_self m) (Nat.lt_succ_self m) (by omega) (by rw [hz, hph j hj])).1
    rw [ex1_s, ex1_s, ex1_lt hj, ex1_lt hj] at this
    have h1 := len_pos hT m j hj hj
    have h2 := len_pos hT' (m + 1) m (Nat.lt_succ_self m) (Nat.lt_succ_self m)
    rw [ex1_s, ex1_s] at h2
    have h3 := he j hj
    omega
  refine ⟨⟨hc.1, fun p hp => ?_, fun k hk => ?_, hc.2.2.1, hc.2.2.2.1, hc.2.2.2.2, fun k hk => ?_⟩, fun hb1 hb0 => ?_⟩
  · rcases hor with ⟨z1, z2, z3, z4⟩ | ⟨z1, -⟩
    · by_cases q : p = P
      · subst q
        exact ⟨m, by omega, z2, by rw [ex1_s, z3]⟩
      · obtain ⟨k, k1, k2, k3⟩ := p2 p (by omega)
        exact ⟨k, by omega, by rw [hph k k1]; exact k2, by rw [ex1_lt k1, (hpd p (by omega)).1]; exact k3⟩
    · obtain ⟨k, k1, k2, k3⟩ := p2 p (by omega)
      exact ⟨k, by omega, by rw [hph k k1]; exact k2, by rw [ex1_lt k1, (hpd p (by omega)).1]; exact k3⟩
  · by_cases q : k = m
    · subst q
      rw [ex1_s]
      rcases hor with ⟨z1, z2, z3, z4⟩ | ⟨z1, j, z2, z3⟩
      · rw [z2, z3]; exact Nat.le_refl _
      · rw [z3, (hpd _ (p1 j z2)).1]
        exact Nat.le_trans (p3 j z2) (old j z2 z3).1
    · have hk' : k < m := by omega
      rw [hph k hk', (hpd _ (p1 k hk')).1, ex1_lt hk']
      exact p3 k hk'
  · by_cases q : k = m
    · subst q
      rw [ex1_s]
      rcases hor with ⟨z1, z2, z3, z4⟩ | ⟨z1, j, z2, z3⟩
      · rw [z2, z4, ex1_s, ex1_s]
        refine ⟨fun g => ?_, fun g => ?_, fun g => ?_⟩
        · rw [kd_leaf g]
          have : modB cc = false := decide_eq_false (by unfold isLeaf at g; omega)
          rw [this]
          rfl
        · rcases hn with q | ⟨-, q, -⟩ | ⟨q, -⟩
          · exact absurd (kd_leaf q.1) (by rw [kd_pre g]; decide)
          · rw [kd_pre g, hph lm q, (hpd _ (p1 lm q)).2]
            show max (dp (ph lm)) 0 + bN (modB cc) = _
            unfold isPre at g
            by_cases q2 : cc = 33
            · have : modB cc = false := decide_eq_false (by omega)
              rw [this, if_pos q2, bN_f]
              omega
            · have : modB cc = true := decide_eq_true (by omega)
              rw [this, if_neg q2, bN_t]
              omega
          · exact absurd (kd_jn q) (by rw [kd_pre g]; decide)
        · rcases hn with q | ⟨q, -⟩ | ⟨-, q1, q2, -⟩
          · exact absurd (kd_leaf q.1) (by rw [kd_jn g]; decide)
          · exact absurd (kd_pre q) (by rw [kd_jn g]; decide)
          · rw [kd_jn g, hph lm q1, hph rm q2, (hpd _ (p1 lm q1)).2, (hpd _ (p1 rm q2)).2]
            have : modB cc = false := decide_eq_false (by unfold isJn at g; omega)
            rw [this]
            rfl
      · obtain ⟨i1, i2, i3⟩ := (hc.2.2.2.2 k j (Nat.lt_succ_self k) (by omega)).mp (by rw [z3, hph j z2])
        rw [ex1_s, ex1_lt z2] at i1
        rw [ex1_s, ex1_s, ex1_lt z2] at i2
        rw [ex1_s, ex1_s, ex1_s, ex1_lt z2, ex1_lt z2] at i3
        obtain ⟨d1, d2, d3⟩ := p7 j z2
        rw [z3, ex1_s, ex1_s, (hpd _ (p1 j z2)).2]
        refine ⟨fun g => d1 (by rw [← i1]; exact g), fun g => ?_, fun g => ?_⟩
        · have hlj : l j < k := by
            rcases hs j z2 with q | ⟨q, q1⟩ | ⟨q, q1, q2⟩
            · exact absurd (kd_leaf q) (by rw [← i1, kd_pre g]; decide)
            · omega
            · omega
          rw [i2 g, hph _ hlj, (hpd _ (p1 _ hlj)).2, i1]
          exact d2 (by rw [← i1]; exact g)
        · have hlj : l j < k ∧ r j < k := by
            rcases hs j z2 with q | ⟨q, q1⟩ | ⟨q, q1, q2⟩
            · exact absurd (kd_leaf q) (by rw [← i1, kd_jn g]; decide)
            · exact absurd (kd_pre q) (by rw [← i1, kd_jn g]; decide)
            · omega
          rw [(i3 g).1, (i3 g).2, hph _ hlj.1, hph _ hlj.2, (hpd _ (p1 _ hlj.1)).2, (hpd _ (p1 _ hlj.2)).2]
          exact d3 (by rw [← i1]; exact g)
    · have hk' : k < m := by omega
      obtain ⟨d1, d2, d3⟩ := p7 k hk'
      rw [ex1_o q, ex1_o q, ex1_o q, hph k hk', (hpd _ (p1 k hk')).2]
      refine ⟨d1, fun g => ?_, fun g => ?_⟩
      · have hlk : l k < m := by
          rcases hs k hk' with q | ⟨q, q1⟩ | ⟨q, q1, q2⟩
          · exact absurd (kd_leaf q) (by rw [kd_pre g]; decide)
          · omega
          · omega
        rw [hph _ hlk, (hpd _ (p1 _ hlk)).2]
        exact d2 g
      · have hlk : l k < m ∧ r k < m := by
          rcases hs k hk' with q | ⟨q, q1⟩ | ⟨q, q1, q2⟩
          · exact absurd (kd_leaf q) (by rw [kd_jn g]; decide)
          · exact absurd (kd_pre q) (by rw [kd_jn g]; decide)
          · omega
        rw [hph _ hlk.1, hph _ hlk.2, (hpd _ (p1 _ hlk.1)).2, (hpd _ (p1 _ hlk.2)).2]
        exact d3 g
  · rcases hor with ⟨z1, z2, z3, z4⟩ | ⟨z1, j, z2, z3⟩
    · rw [z2, z1]
      omega
    · exfalso
      have h1 := old j z2 z3
      have h2 := hb1 j z2
      have h3 := he j z2
      omega
end ND
/-! the model's part() -/
def NdM (w : AW) (m : Nat) (c l r b e : Nat → Nat) : Prop := w.1 0 0 15 = nI m ∧ ∀ k, k < m → w.1 0 18 k = nI (c k) ∧ w.1 0 19 k = nI (l k) ∧ w.1 0 20 k = nI (r k) ∧ w.1 0 21 k = nI (b k) ∧ w.1 0 22 k = nI (e k)
def ndW (w : AW) (m cc lm rm bm em : Nat) : AW := am_set (am_set (am_set (am_set (am_set (am_set w 0 18 m (nI cc)) 0 19 m (nI lm)) 0 20 m (nI rm)) 0 21 m (nI bm)) 0 22 m (nI em)) 0 0 15 (nI (m + 1))
section MP
variable {w : AW} {m cc lm rm bm em : Nat} {c l r b e : Nat → Nat}
theorem ndW_row {a : Nat} (h : 22 < a ∨ (a < 18 ∧ a ≠ 0)) : (ndW w m cc lm rm bm em).1 0 a = w.1 0 a := by
  unfold ndW
  rw [am_get_row (by omega), am_get_row (by omega), am_get_row (by omega), am_get_row (by omega), am_get_row (by omega), am_get_row (by omega)]
theorem ndW_K : KM w (ndW w m cc lm rm bm em) := ((((((KM.rf w).set (Or.inl (by decide))).set (Or.inl (by decide))).set (Or.inl (by decide))).set (Or.inl (by decide))).set (Or.inl (by decide))).set (Or.inr ⟨rfl, by decide, by decide⟩)
theorem M_part (h : w.1 0 0 15 = nI m) (hm : m < 40) : mX6_part (nI cc) (nI lm) (nI rm) (nI bm) (nI em) w = some (nI m, ndW w m cc lm rm bm em) := by
  have hw := fun (a : Nat) (W : AW) (z : Int32) => wr_in (α := Int32 × AW) hm (show 40 < 2 ^ 31 by decide) W 0 a z
  unfold mX6_part
  rw [h, hw, rn 18 0 rfl, h, hw, rn 19 0 rfl, rn 18 0 rfl, h, hw, rn 20 0 rfl, rn 19 0 rfl, rn 18 0 rfl, h, hw, rn 21 0 rfl, rn 20 0 rfl, rn 19 0 rfl, rn 18 0 rfl, h, hw, pu_mk, rn 22 0 rfl, rn 21 0 rfl, rn 20 0 rfl, rn 19 0 rfl, rn 18 0 rfl, h, am_get_self, lit, nI_add, pk_sub (by omega), Nat.add_sub_cancel]
  rfl
theorem ndW_N (h : NdM w m c l r b e) : NdM (ndW w m cc lm rm bm em) (m + 1) (ex1 c m cc) (ex1 l m lm) (ex1 r m rm) (ex1 b m bm) (ex1 e m em) := by
  refine ⟨am_get_self _ _ _ _ _, fun k hk => ?_⟩
  by_cases q : k = m
  · subst q
    simp [ndW, am_get, ex1_s]
  · have g := h.2 k (by omega)
    rw [ex1_o q, ex1_o q, ex1_o q, ex1_o q, ex1_o q]
    have q2 : ¬ (k = m) := q
    simp only [ndW, am_get, q2, and_false, if_false, false_and, show (0 : Nat) = 0 from rfl, true_and]
    simpa using g
end MP
end
