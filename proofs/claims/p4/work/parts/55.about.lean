/-! about -/
def newB (ph : Nat → Nat) (k : Nat) : Bool := allT (fun j => !decide (ph j = ph k)) k
def newN (ph : Nat → Nat) : Nat → Nat
  | 0 => 0
  | k + 1 => newN ph k + bN (newB ph k)
def mkS (ph : Nat → Nat) (k : Nat) : Nat := orF (fun j => 2 ^ (ph j)) k
theorem tb_mkS {ph : Nat → Nat} {k i : Nat} : (mkS ph k).testBit i = true ↔ ∃ j, j < k ∧ ph j = i := by
  unfold mkS
  rw [tb_orF]
  constructor
  · rintro ⟨j, h1, h2⟩
    rw [tb_pow, decide_eq_true_eq] at h2
    exact ⟨j, h1, h2⟩
  · rintro ⟨j, h1, h2⟩
    exact ⟨j, h1, by rw [tb_pow, decide_eq_true_eq]; exact h2⟩
theorem cnt_set (m i : Nat) : ∀ n, cntB (m ||| 2 ^ i) n = cntB m n + (if i < n ∧ m.testBit i = false then 1 else 0)
  | 0 => by rw [if_neg (fun h => by omega)]; rfl
  | n + 1 => by
    have ih := cnt_set m i n
    show cntB (m ||| 2 ^ i) n + (if (m ||| 2 ^ i).testBit n = true then 1 else 0) = cntB m n + (if m.testBit n = true then 1 else 0) + _
    rw [ih, Nat.testBit_or, tb_pow]
    by_cases e : i = n
    · subst e
      cases q : m.testBit i <;> simp [q]
    · have e2 : (i < n + 1 ∧ m.testBit i = false) ↔ (i < n ∧ m.testBit i = false) := ⟨fun h => ⟨by omega, h.2⟩, fun h => ⟨by omega, h.2⟩⟩
      rw [decide_eq_false e, Bool.or_false]
      simp only [e2]
      omega
theorem cnt_all {m : Nat} : ∀ n, (∀ i, i < n → m.testBit i = true) → cntB m n = n
  | 0, _ => rfl
  | n + 1, h => by
    show cntB m n + (if m.testBit n = true then 1 else 0) = n + 1
    rw [cnt_all n (fun i hi => h i (by omega)), h n (by omega)]
    rfl
section AB
variable {m P : Nat} {c l r b e y ph pl dp : Nat → Nat}
theorem newB_eq (k : Nat) : newB ph k = !(mkS ph k).testBit (ph k) := by
  cases q : (mkS ph k).testBit (ph k)
  · unfold newB
    rw [Bool.not_false, allT_iff]
    intro j hj
    cases z : decide (ph j = ph k)
    · rfl
    · rw [decide_eq_true_eq] at z
      rw [tb_mkS.mpr ⟨j, hj, z⟩] at q
      cases q
  · obtain ⟨j, h1, h2⟩ := tb_mkS.mp q
    cases z : newB ph k
    · rfl
    · unfold newB at z
      rw [allT_iff] at z
      have := z j h1
      rw [decide_eq_true h2] at this
      cases this
theorem newN_cnt (hc : ClassOK m P c l r ph) : ∀ k, k ≤ m → cntB (mkS ph k) P = newN ph k := by
  intro k
  induction k with
  | zero =>
    intro _
    have : ∀ n, cntB (mkS ph 0) n = 0 := by
      intro n
      induction n with
      | zero => rfl
      | succ n ih =>
        show cntB (mkS ph 0) n + (if (mkS ph 0).testBit n = true then 1 else 0) = 0
        rw [ih]
        show 0 + (if Nat.testBit 0 n = true then 1 else 0) = 0
        rw [Nat.zero_testBit]
        rfl
    exact this P
  | succ k ih =>
    intro hk
    show cntB (mkS ph k ||| 2 ^ (ph k)) P = newN ph k + bN (newB ph k)
    rw [cnt_set, ih (by omega), newB_eq]
    have := hc.1 k (by omega)
    cases q : (mkS ph k).testBit (ph k)
    · rw [if_pos ⟨this, rfl⟩]; rfl
    · rw [if_neg (fun h => by cases h.2)]; rfl
theorem newN_P (hc : ClassOK m P c l r ph) : newN ph m = P := by
  rw [← newN_cnt hc m (Nat.le_refl m)]
  refine cnt_all P (fun i hi => ?_)
  obtain ⟨k, h1, h2⟩ := hc.2.1 i hi
  exact tb_mkS.mpr ⟨k, h1, h2⟩
theorem newN_le (ph : Nat → Nat) : ∀ k, newN ph k ≤ k
  | 0 => Nat.le_refl 0
  | k + 1 => by
    have := newN_le ph k
    have := bN_lt (newB ph k)
    show newN ph k + bN (newB ph k) ≤ k + 1
    omega
def opD (c a b : Nat) : Nat := max a b + bN (modB c)
theorem dp_ev (hs : ShapeOK m c l r) (hp : PartOK m P c l r b ph pl dp) : ∀ n k, k < n → k < m → evV (fun k => opD (c k)) c l r k = dp (ph k) := by
  intro n
  induction n with
  | zero => intro k h; omega
  | succ n ih =>
    intro k hkn hk
    obtain ⟨d1, d2, d3⟩ := hp.2.2.2.2.2.2 k hk
    rw [evV_eq hs hk]
    show max (argA c l (evV (fun k => opD (c k)) c l r) k) (argB c r (evV (fun k => opD (c k)) c l r) k) + bN (modB (c k)) = dp (ph k)
    unfold argA argB
    rcases hs k hk with g | ⟨g, g1⟩ | ⟨g, g1, g2⟩
    · have h3 : ¬ (c k = 91 ∨ c k = 123) := by unfold isLeaf at g; omega
      have h4 : modB (c k) = false := decide_eq_false h3
      rw [kd_leaf g, d1 g, h4]
      rfl
    · rw [kd_pre g, d2 g]
      simp only [Nat.one_ne_zero, if_false]
      rw [ih _ (by omega) (by omega)]
      unfold isPre at g
      by_cases q : c k = 33
      · have h3 : ¬ (c k = 91 ∨ c k = 123) := by omega
        have h4 : modB (c k) = false := decide_eq_false h3
        rw [h4, if_pos q]
        show max _ 0 + 0 = _ + 0
        omega
      · have h3 : c k = 91 ∨ c k = 123 := by omega
        have h4 : modB (c k) = true := decide_eq_true h3
        rw [h4, if_neg q]
        show max _ 0 + 1 = _ + 1
        omega
    · have h3 : ¬ (c k = 91 ∨ c k = 123) := by unfold isJn at g; omega
      have h4 : modB (c k) = false := decide_eq_false h3
      rw [kd_jn g, d3 g, h4, if_neg (by decide), if_pos rfl, ih _ (by omega) (by omega), ih _ (by omega) (by omega)]
      rfl
end AB
section AM
variable {w : AW}
noncomputable def dE (W : AW) (p : Nat) (K : Int32 → Int32 → AW → Option (Int32 × AW)) : Option (Int32 × AW) :=
  rd 90 (W.1 0 30) (nI p) fun x_1 => cl (mX6_isPrefix x_1 W) fun x_3 w_2 => if x_3 ≠ 0 then mX6_about_108 K (nI 1) (nI p) w_2 else cl (mX6_isTwo (nI p) w_2) fun x_5 w_4 => if x_5 = 0 then mX6_about_124 K (nI 1) (nI p) 0 w_4 else mX6_about_108 K (nI 1) (nI p) w_4
theorem M_dE {W : AW} {p cc x y lp rp : Nat} {K : Int32 → Int32 → AW → Option (Int32 × AW)} (hcc : isLeaf cc ∨ isPre cc ∨ isJn cc) (hp : p < 90) (hc : W.1 0 30 p = nI cc)
    (hx0 : kd cc = 0 → x = 0) (hx : kd cc ≠ 0 → lp < 90 ∧ W.1 0 31 p = nI lp ∧ W.1 0 38 lp = nI x) (hy0 : kd cc ≠ 2 → y = 0) (hy : kd cc = 2 → rp < 90 ∧ W.1 0 32 p = nI rp ∧ W.1 0 38 rp = nI y) :
    dE W p K = mX6_about_151 K (nI 1) (nI p) (nI x) (nI y) W := by
  have r30 : ∀ f : Int32 → Option (Int32 × AW), rd 90 (W.1 0 30) (nI p) f = f (nI cc) := fun f => by
    rw [rd_in (by omega) (by decide), hc]
  have r31 : kd cc ≠ 0 → (∀ f : Int32 → Option (Int32 × AW), rd 90 (W.1 0 31) (nI p) f = f (nI lp)) ∧ (∀ f : Int32 → Option (Int32 × AW), rd 90 (W.1 0 38) (nI lp) f = f (nI x)) := fun z => by
    obtain ⟨z1, z2, z3⟩ := hx z
    exact ⟨fun f => by rw [rd_in (by omega) (by decide), z2], fun f => by rw [rd_in z1 (by decide), z3]⟩
  have r32 : kd cc = 2 → (∀ f : Int32 → Option (Int32 × AW), rd 90 (W.1 0 32) (nI p) f = f (nI rp)) ∧ (∀ f : Int32 → Option (Int32 × AW), rd 90 (W.1 0 38) (nI rp) f = f (nI y)) := fun z => by
    obtain ⟨z1, z2, z3⟩ := hy z
    exact ⟨fun f => by rw [rd_in (by omega) (by decide), z2], fun f => by rw [rd_in z1 (by decide), z3]⟩
  have ePre : mX6_isPrefix (nI cc) W = some (nI (if kd cc = 1 then 1 else 0), W) := by
    rcases hcc with (rfl | rfl | rfl | rfl | rfl | rfl) | (rfl | rfl | rfl) | (rfl | rfl | rfl) <;> simp only [mX6_isPrefix, mX6_isPrefix_18, cl_mk, nm_mk, pu_mk, lit, if_true, if_false, ne_eq, not_false_eq_true, not_true_eq_false, nI_add, nI_or, nI_and, Bool.false_eq_true, ne01, ne10, nI_m1', Nat.or_zero, nI_eqD, nI_leD, nI_ltD, Nat.reduceLT, Nat.reduceLeDiff, Nat.reduceEqDiff, Nat.reduceSub, or_true, true_or, or_false, false_or, and_true, true_and, and_false, false_and] <;> rfl
  have eJoin : mX6_isJoin (nI cc) W = some (nI (if kd cc = 2 then 1 else 0), W) := by
    rcases hcc with (rfl | rfl | rfl | rfl | rfl | rfl) | (rfl | rfl | rfl) | (rfl | rfl | rfl) <;> simp only [mX6_isJoin, mX6_isJoin_18, cl_mk, nm_mk, pu_mk, lit, if_true, if_false, ne_eq, not_false_eq_true, not_true_eq_false, nI_add, nI_or, nI_and, Bool.false_eq_true, ne01, ne10, nI_m1', Nat.or_zero, nI_eqD, nI_leD, nI_ltD, Nat.reduceLT, Nat.reduceLeDiff, Nat.reduceEqDiff, Nat.reduceSub, or_true, true_or, or_false, false_or, and_true, true_and, and_false, false_and] <;> rfl
  have eTwo : mX6_isTwo (nI p) W = some (nI (if kd cc = 2 then 1 else 0), W) := by
    unfold mX6_isTwo
    rw [r30, eJoin, cl_mk]
    split
    · exact zr_1 W
    · exact zr_0 W
  have n10 : (nI 1 : Int32) ≠ 0 := by decide
  unfold dE
  rw [r30, ePre, cl_mk]
  rcases hcc with g | g | g
  · have k0 := kd_leaf g
    obtain rfl := hx0 k0
    obtain rfl := hy0 (by rw [k0]; decide)
    rw [k0] at eTwo ⊢
    rw [if_neg (show ¬ (nI (if 0 = 1 then 1 else 0) ≠ 0) from fun h => h rfl), eTwo, cl_mk, if_pos (show nI (if 0 = 2 then 1 else 0) = 0 from rfl)]
    unfold mX6_about_124
    rw [eTwo, cl_mk, if_pos (show nI (if 0 = 2 then 1 else 0) = 0 from rfl)]
    rfl
  · have k0 := kd_pre g
    obtain rfl := hy0 (by rw [k0]; decide)
    obtain ⟨r1, r2⟩ := r31 (by rw [k0]; decide)
    rw [k0] at eTwo ⊢
    rw [if_pos (show nI (if 1 = 1 then 1 else 0) ≠ 0 from n10)]
    unfold mX6_about_108
    rw [r1, r2]
    unfold mX6_about_124
    rw [eTwo, cl_mk, if_pos (show nI (if 1 = 2 then 1 else 0) = 0 from rfl)]
    rfl
  · have k0 := kd_jn g
    obtain ⟨r1, r2⟩ := r31 (by rw [k0]; decide)
    obtain ⟨r3, r4⟩ := r32 k0
    rw [k0] at eTwo ⊢
    rw [if_neg (show ¬ (nI (if 2 = 1 then 1 else 0) ≠ 0) from fun h => h rfl), eTwo, cl_mk, if_neg (show ¬ (nI (if 2 = 2 then 1 else 0) = 0) from n10)]
    unfold mX6_about_108
    rw [r1, r2]
    unfold mX6_about_124
    rw [eTwo, cl_mk, if_neg (show ¬ (nI (if 2 = 2 then 1 else 0) = 0) from n10), r3, r4]
theorem M_d151 {W : AW} {p cc x y : Nat} {K : Int32 → Int32 → AW → Option (Int32 × AW)} (hp : p < 90) (hcc : cc < 128) (hc : W.1 0 30 p = nI cc) (hxl : x < 1000) (hyl : y < 1000) : mX6_about_151 K (nI 1) (nI p) (nI x) (nI y) W = K (nI (opD cc x y)) (nI (p + 1)) (am_set W 0 38 p (nI (opD cc x y))) := by
  have emod := M_isModal (w := W) hp hcc hc
  have hw := fun z => wr_in (α := Int32 × AW) hp (show 90 < 2 ^ 31 by decide) W 0 38 z
  have r38 : ∀ (z : Int32) (f : Int32 → Option (Int32 × AW)), rd 90 ((am_set W 0 38 p z).1 0 38) (nI p) f = f z := fun z f => by
    rw [rd_in hp (by decide), am_get_self]
  have tail : ∀ (s0 : Nat), s0 = max x y → mX6_about_173 K (nI 1) (nI p) (nI s0) (nI p) W = K (nI (opD cc x y)) (nI (p + 1)) (am_set W 0 38 p (nI (opD cc x y))) := by
    intro s0 hs0
    subst hs0
    unfold opD
    cases q : modB cc
    · rw [q] at emod
      simp only [mX6_about_173, mX6_about_187, mX6_about_253, emod, hw, r38, bN_f, Nat.add_zero, cl_mk, nm_mk, pu_mk, lit, if_true, if_false, ne_eq, not_false_eq_true, not_true_eq_false, nI_add, nI_or, nI_and, Bool.false_eq_true, ne01, ne10, nI_m1', Nat.or_zero]
    · rw [q] at emod
      simp only [mX6_about_173, mX6_about_187, mX6_about_253, emod, hw, r38, bN_t, cl_mk, nm_mk, pu_mk, lit, if_true, if_false, ne_eq, not_false_eq_true, not_true_eq_false, nI_add, nI_or, nI_and, Bool.false_eq_true, ne01, ne10, nI_m1', Nat.or_zero]
  unfold mX6_about_151
  by_cases h : x ≤ y
  · rw [if_pos (nI_le h (by omega))]
    exact tail y (by omega)
  · rw [if_neg (nI_ge (by omega) (by omega))]
    exact tail x (by omega)
theorem M_dstep {W : AW} {n p M cc x y lp rp : Nat} {v : Int32} (hcc : isLeaf cc ∨ isPre cc ∨ isJn cc) (h26 : W.1 0 0 26 = nI M) (hp : p < M) (hMM : M ≤ 90) (hc : W.1 0 30 p = nI cc)
    (hx0 : kd cc = 0 → x = 0) (hx : kd cc ≠ 0 → lp < 90 ∧ W.1 0 31 p = nI lp ∧ W.1 0 38 lp = nI x) (hy0 : kd cc ≠ 2 → y = 0) (hy : kd cc = 2 → rp < 90 ∧ W.1 0 32 p = nI rp ∧ W.1 0 38 rp = nI y) (hxl : x < 1000) (hyl : y < 1000) :
    mX6_about_72 (nI 1) (n + 1) v (nI p) W = mX6_about_72 (nI 1) n (nI (opD cc x y)) (nI (p + 1)) (am_set W 0 38 p (nI (opD cc x y))) := by
  have c1 : ¬ nI M ≤ nI p := nI_ge hp (by omega)
  have e1 := M_dE (K := mX6_about_72 (nI 1) n) hcc (show p < 90 by omega) hc hx0 hx hy0 hy
  have e2 := M_d151 (K := mX6_about_72 (nI 1) n) (show p < 90 by omega) (kinds_lt hcc) hc hxl hyl
  rw [mX6_about_72, h26, if_neg c1, if_neg (fun h => h rfl)]
  exact e1.trans e2
theorem opD_le {m : Nat} {c l r : Nat → Nat} (hs : ShapeOK m c l r) : ∀ n k, k < n → k < m → evV (fun k => opD (c k)) c l r k ≤ k := by
  intro n
  induction n with
  | zero => intro k h; omega
  | succ n ih =>
    intro k hkn hk
    rw [evV_eq hs hk]
    show max (argA c l (evV (fun k => opD (c k)) c l r) k) (argB c r (evV (fun k => opD (c k)) c l r) k) + bN (modB (c k)) ≤ k
    unfold argA argB
    have hb := bN_lt (modB (c k))
    rcases hs k hk with g | ⟨g, g1⟩ | ⟨g, g1, g2⟩
    · have h3 : ¬ (c k = 91 ∨ c k = 123) := by unfold isLeaf at g; omega
      have e : modB (c k) = false := decide_eq_false h3
      rw [kd_leaf g, e]
      exact Nat.zero_le _
    · have := ih _ (show l k < n by omega) (by omega)
      rw [kd_pre g]
      simp only [Nat.one_ne_zero, if_false]
      show max (evV (fun k => opD (c k)) c l r (l k)) 0 + bN (modB (c k)) ≤ k
      omega
    · have h1 := ih _ (show l k < n by omega) (by omega)
      have h2 := ih _ (show r k < n by omega) (by omega)
      rw [kd_jn g]
      show max (evV (fun k => opD (c k)) c l r (l k)) (evV (fun k => opD (c k)) c l r (r k)) + bN (modB (c k)) ≤ k
      omega
variable {M Z P : Nat} {c l r b e y ph : Nat → Nat}
theorem M_about1 (hW : WorkM w M Z c l r b e y) (hs : ShapeOK M c l r) (hM1 : 1 ≤ M) (hM2 : M ≤ 90) : mX6_about_72 (nI 1) FU (nI 0) (nI 0) w = some (nI (evV (fun k => opD (c k)) c l r (M - 1)), hdW w (evV (fun k => opD (c k)) c l r) M) := by
  have hb : ∀ k, k < M → evV (fun k => opD (c k)) c l r k < 1000 := fun k hk => by
    have := opD_le hs (k + 1) k (Nat.lt_succ_self k) hk
    omega
  refine loopE (fun n (s : Int32 × Int32 × AW) => mX6_about_72 (nI 1) n s.1 s.2.1 s.2.2) M (fun k => (nI (if k = 0 then 0 else evV (fun k => opD (c k)) c l r (k - 1)), nI k, hdW w (evV (fun k => opD (c k)) c l r) k)) _ ?_ ?_ FU 0 (Nat.zero_le _) (FU_gt (by omega))
  · intro n k hk
    have hWk : WorkM (hdW w (evV (fun k => opD (c k)) c l r) k) M Z c l r b e y := hW.c (by rw [hdW_row k 0 (by decide)]) (by rw [hdW_row k 0 (by decide)]) (fun a h1 h2 => hdW_row k a (by omega))
    obtain ⟨a1, a2, a3, a4⟩ := M_args (op := fun k => opD (c k)) hWk hs hM2 hk (fun j hj => setRow_in k hj)
    have hA : argA c l (evV (fun k => opD (c k)) c l r) k < 1000 := by
      unfold argA
      rcases hs k hk with g | ⟨g, g1⟩ | ⟨g, g1, g2⟩
      · rw [kd_leaf g]; exact (show (0 : Nat) < 1000 by decide)
      · rw [kd_pre g]; exact hb _ (by omega)
      · rw [kd_jn g]; exact hb _ (by omega)
    have hB : argB c r (evV (fun k => opD (c k)) c l r) k < 1000 := by
      unfold argB
      rcases hs k hk with g | ⟨g, g1⟩ | ⟨g, g1, g2⟩
      · rw [kd_leaf g]; exact (show (0 : Nat) < 1000 by decide)
      · rw [kd_pre g]; exact (show (0 : Nat) < 1000 by decide)
      · rw [kd_jn g]; exact hb _ (by omega)
    have e := M_dstep (n := n) (v := nI (if k = 0 then 0 else evV (fun k => opD (c k)) c l r (k - 1))) (kinds_of hs hk) hWk.1 hk hM2 (hWk.2.2.1 k hk).1 a1 a2 a3 a4 hA hB
    refine e.trans ?_
    rw [← evV_eq (op := fun k => opD (c k)) hs hk]
    rfl
  · intro n
    have c1 : nI M ≤ nI M := nI_le (Nat.le_refl M) (by omega)
    have e26 : (hdW w (evV (fun k => opD (c k)) c l r) M).1 0 0 26 = nI M := by rw [hdW_row M 0 (by decide)]; exact hW.1
    simp only [mX6_about_72, e26, c1, cl_mk, nm_mk, pu_mk, lit, if_true, if_false, ne_eq, not_false_eq_true, not_true_eq_false, nI_add, nI_or, nI_and, Bool.false_eq_true, ne01, ne10, nI_m1', Nat.or_zero]
    rw [if_neg (by omega)]
theorem M_about2 (hW : WorkM w M Z c l r b e y) (hT : TreeOK M c l r b e y) (hc : ClassOK M P c l r ph) (hM : M ≤ 90) (hZ : Z ≤ 420) (he : ∀ k, k < M → e k ≤ Z) (hy : ∀ j, y j < 256) : mX6_about_72 (nI 2) FU (nI 0) (nI 0) w = some (nI P, w) := by
  rw [← newN_P hc]
  have q21 : (nI 2 = nI 1) = False := by
    rw [nI_eqD (by decide) (by decide)]
    exact eq_false (by decide)
  refine loopE (fun n (s : Int32 × Int32) => mX6_about_72 (nI 2) n s.1 s.2 w) M (fun k => (nI (newN ph k), nI k)) _ ?_ ?_ FU 0 (Nat.zero_le _) (FU_gt (by omega))
  · intro n k hk
    have c1 : ¬ nI M ≤ nI k := nI_ge hk (by omega)
    have inner : mX6_about_206 (mX6_about_72 (nI 2) n) (nI 2) (nI (newN ph k)) (nI k) FU (nI 1) (nI 0) w = mX6_about_72 (nI 2) n (nI (newN ph (k + 1))) (nI (k + 1)) w := by
      refine loopE (fun n2 (s : Int32 × Int32) => mX6_about_206 (mX6_about_72 (nI 2) n) (nI 2) (nI (newN ph k)) (nI k) n2 s.1 s.2 w) k (fun j => (nI (bN (allT (fun j => !decide (ph j = ph k)) j)), nI j)) _ ?_ ?_ FU 0 (Nat.zero_le _) (FU_gt (by omega))
      · intro n2 j hj
        have d1 : ¬ nI k ≤ nI j := nI_ge hj (by omega)
        have e1 := M_isLike hW hT hc hM hZ he hy (show j < M by omega) hk
        by_cases q : ph j = ph k
        · rw [decide_eq_true q, bN_t] at e1
          simp only [mX6_about_206, mX6_about_231, d1, e1, allT, decide_eq_true q, Bool.not_true, Bool.and_false, bN_f, Nat.and_zero, cl_mk, nm_mk, pu_mk, lit, if_true, if_false, ne_eq, not_false_eq_true, not_true_eq_false, nI_add, nI_or, nI_and, Bool.false_eq_true, ne01, ne10, nI_m1', Nat.or_zero]
        · rw [decide_eq_false q, bN_f] at e1
          have e2 : ∀ b : Bool, nI (bN b &&& 1) = nI (bN b) := fun b => by cases b <;> rfl
          simp only [mX6_about_206, mX6_about_231, d1, e1, allT, decide_eq_false q, Bool.not_false, Bool.and_true, e2, cl_mk, nm_mk, pu_mk, lit, if_true, if_false, ne_eq, not_false_eq_true, not_true_eq_false, nI_add, nI_or, nI_and, Bool.false_eq_true, ne01, ne10, nI_m1', Nat.or_zero]
      · intro n2
        have d1 : nI k ≤ nI k := nI_le (Nat.le_refl k) (by omega)
        have e3 : newN ph (k + 1) = newN ph k + bN (newB ph k) := rfl
        unfold newB at e3
        cases q : allT (fun j => !decide (ph j = ph k)) k
        · rw [q, bN_f] at e3
          simp only [mX6_about_206, mX6_about_251, mX6_about_253, d1, q, bN_f, e3, cl_mk, nm_mk, pu_mk, lit, if_true, if_false, ne_eq, not_false_eq_true, not_true_eq_false, nI_add, nI_or, nI_and, Bool.false_eq_true, ne01, ne10, nI_m1', Nat.or_zero]
        · rw [q, bN_t] at e3
          simp only [mX6_about_206, mX6_about_251, mX6_about_253, d1, q, bN_t, e3, cl_mk, nm_mk, pu_mk, lit, if_true, if_false, ne_eq, not_false_eq_true, not_true_eq_false, nI_add, nI_or, nI_and, Bool.false_eq_true, ne01, ne10, nI_m1', Nat.or_zero]
    simp only [mX6_about_72, hW.1, c1, q21, cl_mk, nm_mk, pu_mk, lit, if_true, if_false, ne_eq, not_false_eq_true, not_true_eq_false, nI_add, nI_or, nI_and, Bool.false_eq_true, ne01, ne10, nI_m1', Nat.or_zero]
    exact inner
  · intro n
    have c1 : nI M ≤ nI M := nI_le (Nat.le_refl M) (by omega)
    simp only [mX6_about_72, hW.1, c1, cl_mk, nm_mk, pu_mk, lit, if_true, if_false, ne_eq, not_false_eq_true, not_true_eq_false, nI_add, nI_or, nI_and, Bool.false_eq_true, ne01, ne10, nI_m1', Nat.or_zero]
end AM
theorem pub_about : Pub_about Rel := by
  rintro wX wM ⟨N, S, A, T, y, D, h⟩ v0 v1
  have hR := h
  obtain ⟨hN, hX, hM, hT, h2, hS, h12⟩ := h
  by_cases c0 : ∃ k, k < 6 ∧ v0 = nI k
  rotate_left
  · refine pub_same hR (-nI 1) ?_ ?_ (KX.rf _) (KM0 wM)
    · simp only [mX5_about, X_sen_f _ c0, nS_none, cl_mk, nm_mk, pu_mk, lit, if_true, if_false, ne_eq, not_false_eq_true, not_true_eq_false, nI_add, nI_or, nI_and, Bool.false_eq_true, ne01, ne10, nI_m1', Nat.or_zero]
    · simp only [mX6_about, M_sen_f _ c0, cl_mk, nm_mk, pu_mk, lit, if_true, if_false, ne_eq, not_false_eq_true, not_true_eq_false, nI_add, nI_or, nI_and, Bool.false_eq_true, ne01, ne10, nI_m1', Nat.or_zero]
  obtain ⟨i, hi, rfl⟩ := c0
  have hcl := cls_sen i hi
  by_cases c1 : ∃ k, k < 5 ∧ v1 = nI k
  rotate_left
  · have z : ∀ k, k < 5 → (v1 = nI k) = False := fun k hk => eq_false (fun e => c1 ⟨k, hk, e⟩)
    have e := M_in_f (n := 5) (am_set wM 0 0 0 (nI 0)) c1 (by decide) (by decide)
    have e' : mX6_in v1 (nI 0) (nI 4) (am_set wM 0 0 0 (nI 0)) = some (nI 0, am_set wM 0 0 0 (nI 0)) := e
    refine pub_same hR (-nI 1) ?_ ?_ (KX.rf _) (KM0 wM)
    · simp only [mX5_about, X_sen_t _ hi, nS_some hcl, z 0 (by decide), z 1 (by decide), z 2 (by decide), z 3 (by decide), z 4 (by decide), cl_mk, nm_mk, pu_mk, lit, if_true, if_false, ne_eq, not_false_eq_true, not_true_eq_false, nI_add, nI_or, nI_and, Bool.false_eq_true, ne01, ne10, nI_m1', Nat.or_zero]
    · simp only [mX6_about, M_sen_t _ hi, e', cl_mk, nm_mk, pu_mk, lit, if_true, if_false, ne_eq, not_false_eq_true, not_true_eq_false, nI_add, nI_or, nI_and, Bool.false_eq_true, ne01, ne10, nI_m1', Nat.or_zero]
  obtain ⟨k, hk, rfl⟩ := c1
  obtain ⟨hd, hSX, hSM⟩ := hS i hi
  generalize D i = d at hd hSX hSM
  have hP := hd.P40
  have hM40 := hd.2.1
  have hL := len_sen (i := i) hi hP
  have e1 := M_works (hSM.k (KM0 wM)) hi hd.2.1 hd.2.2.2.2.1
  have k1 := wkW_K (w := am_set wM 0 0 0 (nI 0)) (m := sdM d) (z := sdZ d) (c := sdc d) (l := sdl d) (r := sdr d) (b := sdb d) (e := sde d) (y := sdy d)
  have hW := wkW_W (w := am_set wM 0 0 0 (nI 0)) (m := sdM d) (z := sdZ d) (c := sdc d) (l := sdl d) (r := sdr d) (b := sdb d) (e := sde d) (y := sdy d)
  generalize wkW (am_set wM 0 0 0 (nI 0)) (sdM d) (sdZ d) (sdc d) (sdl d) (sdr d) (sdb d) (sde d) (sdy d) = w1 at e1 k1 hW
  have ein := M_inL (lo := 0) (hi := 4) (am_set wM 0 0 0 (nI 0)) (Nat.zero_le k) (show k ≤ 4 by omega) (by decide)
  match k, hk, ein with
  | 0, _, ein =>
    refine pub_same hR (nI (sdM d)) ?_ ?_ (KX.rf _) ((KM0 wM).tr k1)
    · simp only [mX5_about, X_sen_t _ hi, nS_some hcl, mX2_signs, hSX.2.1, cl_mk, nm_mk, pu_mk, lit, if_true, if_false, ne_eq, not_false_eq_true, not_true_eq_false, nI_add, nI_or, nI_and, Bool.false_eq_true, ne01, ne10, nI_m1', Nat.or_zero]
    · simp only [mX6_about, M_sen_t _ hi, ein, e1, hW.1, cl_mk, nm_mk, pu_mk, lit, if_true, if_false, ne_eq, not_false_eq_true, not_true_eq_false, nI_add, nI_or, nI_and, Bool.false_eq_true, ne01, ne10, nI_m1', Nat.or_zero]
  | 1, _, ein =>
    have f1 := X_depth hSX hL hd.2.2.1 (by omega) hd.2.2.2.2.2.2.2.1
    have g1 := M_about1 hW hd.sh hd.1 (by omega)
    rw [dp_ev hd.sh hd.2.2.2.2.2.2.1 (sdM d) _ (by have := hd.1; omega) (by have := hd.1; omega)] at g1
    refine pub_same hR (nI (sdd d (sdf d (sdM d - 1)))) ?_ ?_ (KX.rf _) ((KM0 wM).tr (k1.tr (hdW_K (v := evV (fun k => opD (sdc d k)) (sdc d) (sdl d) (sdr d)) (sdM d))))
    · simp only [mX5_about, X_sen_t _ hi, nS_some hcl, f1, cl_mk, nm_mk, pu_mk, lit, if_true, if_false, ne_eq, not_false_eq_true, not_true_eq_false, nI_add, nI_or, nI_and, Bool.false_eq_true, ne01, ne10, nI_m1', Nat.or_zero]
    · simp only [mX6_about, M_sen_t _ hi, ein, e1, cl_mk, nm_mk, pu_mk, lit, if_true, if_false, ne_eq, not_false_eq_true, not_true_eq_false, nI_add, nI_or, nI_and, Bool.false_eq_true, ne01, ne10, nI_m1', Nat.or_zero, nI_eqD, nI_leD, nI_ltD, Nat.reduceLT, Nat.reduceLeDiff, Nat.reduceEqDiff, Nat.reduceSub, or_true, true_or, or_false, false_or, and_true, true_and, and_false, false_and]
      exact g1
  | 2, _, ein =>
    have f1 : mX2_parts (6 + i) wX = some (nI (sdP d), wX) := by unfold mX2_parts; rw [hSX.1]
    have g1 := M_about2 hW hd.2.2.2.2.2.1 hd.cl (by omega) (by have := hd.2.2.2.2.1; omega) hd.2.2.2.2.2.2.2.2.2.2.2.1 hd.2.2.2.2.2.2.2.2.2.2.1
    refine pub_same hR (nI (sdP d)) ?_ ?_ (KX.rf _) ((KM0 wM).tr k1)
    · simp only [mX5_about, X_sen_t _ hi, nS_some hcl, f1, cl_mk, nm_mk, pu_mk, lit, if_true, if_false, ne_eq, not_false_eq_true, not_true_eq_false, nI_add, nI_or, nI_and, Bool.false_eq_true, ne01, ne10, nI_m1', Nat.or_zero, nI_eqD, nI_leD, nI_ltD, Nat.reduceLT, Nat.reduceLeDiff, Nat.reduceEqDiff, Nat.reduceSub, or_true, true_or, or_false, false_or, and_true, true_and, and_false, false_and]
    · simp only [mX6_about, M_sen_t _ hi, ein, e1, cl_mk, nm_mk, pu_mk, lit, if_true, if_false, ne_eq, not_false_eq_true, not_true_eq_false, nI_add, nI_or, nI_and, Bool.false_eq_true, ne01, ne10, nI_m1', Nat.or_zero, nI_eqD, nI_leD, nI_ltD, Nat.reduceLT, Nat.reduceLeDiff, Nat.reduceEqDiff, Nat.reduceSub, or_true, true_or, or_false, false_or, and_true, true_and, and_false, false_and]
      exact g1
  | 3, _, ein =>
    have f1 := X_atoms hSX hL hd.sh hd.cl (by omega)
    have g1 := M_atomsOf hW hd.sh (by omega)
    refine pub_same hR (nI (atomsN (sdM d) (sdc d))) ?_ ?_ (KX.rf _) ((KM0 wM).tr k1)
    · simp only [mX5_about, X_sen_t _ hi, nS_some hcl, f1, cl_mk, nm_mk, pu_mk, lit, if_true, if_false, ne_eq, not_false_eq_true, not_true_eq_false, nI_add, nI_or, nI_and, Bool.false_eq_true, ne01, ne10, nI_m1', Nat.or_zero, nI_eqD, nI_leD, nI_ltD, Nat.reduceLT, Nat.reduceLeDiff, Nat.reduceEqDiff, Nat.reduceSub, or_true, true_or, or_false, false_or, and_true, true_and, and_false, false_and]
    · simp only [mX6_about, M_sen_t _ hi, ein, e1, g1, cl_mk, nm_mk, pu_mk, lit, if_true, if_false, ne_eq, not_false_eq_true, not_true_eq_false, nI_add, nI_or, nI_and, Bool.false_eq_true, ne01, ne10, nI_m1', Nat.or_zero, nI_eqD, nI_leD, nI_ltD, Nat.reduceLT, Nat.reduceLeDiff, Nat.reduceEqDiff, Nat.reduceSub, or_true, true_or, or_false, false_or, and_true, true_and, and_false, false_and]
  | 4, _, ein =>
    have f1 := X_isPlain hSX hL hd.2.2.1 (by omega) hd.2.2.2.2.2.2.2.1 hd.dlt
    have g1 := M_isPlain hW hd.sh (by omega)
    rw [hd.plain] at g1
    cases q : decide (sdd d (sdf d (sdM d - 1)) = 0)
    · rw [q, bN_f] at f1 g1
      refine pub_same hR (nI 0) ?_ ?_ (KX.rf _) ((KM0 wM).tr k1)
      · simp only [mX5_about, X_sen_t _ hi, nS_some hcl, f1, mX5_whether, cl_mk, nm_mk, pu_mk, lit, if_true, if_false, ne_eq, not_false_eq_true, not_true_eq_false, nI_add, nI_or, nI_and, Bool.false_eq_true, ne01, ne10, nI_m1', Nat.or_zero, nI_eqD, nI_leD, nI_ltD, Nat.reduceLT, Nat.reduceLeDiff, Nat.reduceEqDiff, Nat.reduceSub, or_true, true_or, or_false, false_or, and_true, true_and, and_false, false_and]
      · simp only [mX6_about, M_sen_t _ hi, ein, e1, g1, cl_mk, nm_mk, pu_mk, lit, if_true, if_false, ne_eq, not_false_eq_true, not_true_eq_false, nI_add, nI_or, nI_and, Bool.false_eq_true, ne01, ne10, nI_m1', Nat.or_zero, nI_eqD, nI_leD, nI_ltD, Nat.reduceLT, Nat.reduceLeDiff, Nat.reduceEqDiff, Nat.reduceSub, or_true, true_or, or_false, false_or, and_true, true_and, and_false, false_and]
    · rw [q, bN_t] at f1 g1
      refine pub_same hR (nI 1) ?_ ?_ (KX.rf _) ((KM0 wM).tr k1)
      · simp only [mX5_about, X_sen_t _ hi, nS_some hcl, f1, mX5_whether, cl_mk, nm_mk, pu_mk, lit, if_true, if_false, ne_eq, not_false_eq_true, not_true_eq_false, nI_add, nI_or, nI_and, Bool.false_eq_true, ne01, ne10, nI_m1', Nat.or_zero, nI_eqD, nI_leD, nI_ltD, Nat.reduceLT, Nat.reduceLeDiff, Nat.reduceEqDiff, Nat.reduceSub, or_true, true_or, or_false, false_or, and_true, true_and, and_false, false_and]
      · simp only [mX6_about, M_sen_t _ hi, ein, e1, g1, cl_mk, nm_mk, pu_mk, lit, if_true, if_false, ne_eq, not_false_eq_true, not_true_eq_false, nI_add, nI_or, nI_and, Bool.false_eq_true, ne01, ne10, nI_m1', Nat.or_zero, nI_eqD, nI_leD, nI_ltD, Nat.reduceLT, Nat.reduceLeDiff, Nat.reduceEqDiff, Nat.reduceSub, or_true, true_or, or_false, false_or, and_true, true_and, and_false, false_and]
