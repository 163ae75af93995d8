/-! the class weighs a type -/
def joinF (c a b : Nat) : Nat := if c = 33 then sdiff 1 a else if c = 38 then a &&& b else if c = 62 then sdiff 1 a ||| b else if c = 84 then 1 else if c = 124 then a ||| b else 0
theorem joinF_lt {c a b : Nat} (ha : a < 2) (hb : b < 2) : joinF c a b < 2 := by
  have h1 : (1 : Nat) < 2 ^ 1 := by decide
  unfold joinF
  split
  · exact sdiff_lt (n := 1) h1
  split
  · exact Nat.lt_of_le_of_lt Nat.and_le_left ha
  split
  · exact or_lt (n := 1) (sdiff_lt (n := 1) h1) hb
  split
  · decide
  split
  · exact or_lt (n := 1) ha hb
  · decide
theorem X_joined {cc x y : Nat} (w : AW) (hc : cc < 128) (hy : y < 2) : mX5_joined (nI cc) (nI x) (nI y) 1 w = some (nI (joinF cc x y), w) := by
  have e1 : ∀ a : Nat, (1 : Int32) &&& (nI a ^^^ (-1)) = nI (sdiff 1 a) := fun a => nI_sdiff 1 a
  have e2 : (1 : Int32) &&& ((nI x ^^^ (-1)) ||| nI y) = nI (sdiff 1 x ||| y) := by
    have h1 : (nI x ^^^ (-1)) ||| nI y = nI ((x ^^^ 4294967295) ||| y) := by
      show (nI x ^^^ nI 4294967295) ||| nI y = _
      rw [nI_xor, nI_or]
    rw [h1]
    show nI 1 &&& _ = _
    rw [nI_and]
    exact congrArg nI (imp_full (N := 1) (a := x) (b := y) (by decide) hy)
  unfold mX5_joined joinF
  by_cases h1 : cc = 33
  · rw [if_pos (show nI cc = 33 by rw [h1]; rfl), if_pos h1, e1]
  rw [if_neg (show ¬ nI cc = 33 from ne_nI (b := 33) (by omega) (by decide) h1), if_neg h1]
  by_cases h2 : cc = 38
  · rw [if_pos (show nI cc = 38 by rw [h2]; rfl), if_pos h2, nI_and]
  rw [if_neg (show ¬ nI cc = 38 from ne_nI (b := 38) (by omega) (by decide) h2), if_neg h2]
  by_cases h3 : cc = 62
  · rw [if_pos (show nI cc = 62 by rw [h3]; rfl), if_pos h3, e2]
  rw [if_neg (show ¬ nI cc = 62 from ne_nI (b := 62) (by omega) (by decide) h3), if_neg h3]
  by_cases h4 : cc = 84
  · rw [if_pos (show nI cc = 84 by rw [h4]; rfl), if_pos h4]
    rfl
  rw [if_neg (show ¬ nI cc = 84 from ne_nI (b := 84) (by omega) (by decide) h4), if_neg h4]
  by_cases h5 : cc = 124
  · rw [if_pos (show nI cc = 124 by rw [h5]; rfl), if_pos h5, nI_or]
  rw [if_neg (show ¬ nI cc = 124 from ne_nI (b := 124) (by omega) (by decide) h5), if_neg h5]
  rfl
/-- the value of a node by a type, when bt gives the bits of the unlike parts -/
def opT (gr : Bool) (c ph bt : Nat → Nat) (t k a b : Nat) : Nat := if hbB gr (c k) = true then bN (t.testBit (bt (ph k))) else joinF (c k) a b
theorem opT_lt {gr : Bool} {c ph bt : Nat → Nat} {t k a b : Nat} (ha : a < 2) (hb : b < 2) : opT gr c ph bt t k a b < 2 := by
  unfold opT
  split
  · exact bN_lt _
  · exact joinF_lt ha hb
def brg (s x pn g : Nat) : Nat := if s = 91 then x else if s = 123 then 1 - x else if atmB s = true then g else pn
theorem X_bearing {s x pn g : Nat} (w : AW) (hs : s < 128) (hx : x < 2) : mX3_bearing (nI s) (nI x) (nI pn) (nI g) w = some (nI (brg s x pn g), w) := by
  unfold mX3_bearing brg
  by_cases h1 : s = 91
  · rw [if_neg (show ¬ (nI s ≠ 91) from fun z => z (by rw [h1]; rfl)), if_pos h1]
  rw [if_pos (show nI s ≠ 91 from ne_nI (b := 91) (by omega) (by decide) h1), if_neg h1]
  by_cases h2 : s = 123
  · rw [if_neg (show ¬ (nI s ≠ 123) from fun z => z (by rw [h2]; rfl)), if_pos h2, show (1 : Int32) - nI x = nI (1 - x) from pk_sub (a := 1) (b := x) (by omega)]
  rw [if_pos (show nI s ≠ 123 from ne_nI (b := 123) (by omega) (by decide) h2), if_neg h2, X_isAtom w (by omega), cl_mk]
  have ea : decide (112 ≤ s ∧ s ≤ 115) = atmB s := rfl
  rw [ea]
  cases ha : atmB s
  · rw [if_pos (show nI (bN false) = 0 from rfl)]
    rfl
  · rw [if_neg (show ¬ (nI (bN true) = 0) by decide)]
    rfl
def clN (CL TU t : Nat) : Nat := (t ^^^ TU) &&& CL
section WG
variable {w : AW} {o m P L : Nat} {c l r ph pl dp bt : Nat → Nat}
noncomputable def brP (L m : Nat) (c l r ph bt : Nat → Nat) (t q : Nat) : Nat := brg (c (rpF m ph q)) (argA c l (evV (opT (decide (L = 8)) c ph bt t) c l r) (rpF m ph q)) (joinF (c (rpF m ph q)) (argA c l (evV (opT (decide (L = 8)) c ph bt t) c l r) (rpF m ph q)) (argB c r (evV (opT (decide (L = 8)) c ph bt t) c l r) (rpF m ph q))) (bN (t.testBit (bt q)))
noncomputable def brF (L m : Nat) (c l r ph bt : Nat → Nat) (t p : Nat) : Nat := orF (fun q => if hq L m c ph q = true then brP L m c l r ph bt t q * 2 ^ (bt q) else 0) p
theorem brg_lt {s x pn g : Nat} (hx : x < 2) (hp : pn < 2) (hg : g < 2) : brg s x pn g < 2 := by
  unfold brg
  split
  · exact hx
  split
  · omega
  split
  · exact hg
  · exact hp
theorem args_lt (hs : ShapeOK m c l r) {gr : Bool} {t k : Nat} (hk : k < m) : argA c l (evV (opT gr c ph bt t) c l r) k < 2 ∧ argB c r (evV (opT gr c ph bt t) c l r) k < 2 := by
  have hb : ∀ k, k < m → evV (opT gr c ph bt t) c l r k < 2 := fun k hk => evV_lt hs (by decide) (fun k _ a b ha hb => opT_lt ha hb) (k + 1) k (Nat.lt_succ_self k) hk
  unfold argA argB
  rcases hs k hk with g | ⟨g, g1⟩ | ⟨g, g1, g2⟩
  · rw [kd_leaf g]; exact ⟨(show (0 : Nat) < 2 by decide), (show (0 : Nat) < 2 by decide)⟩
  · rw [kd_pre g]; exact ⟨hb _ (by omega), (show (0 : Nat) < 2 by decide)⟩
  · rw [kd_jn g]; exact ⟨hb _ (by omega), hb _ (by omega)⟩
theorem brP_lt (hs : ShapeOK m c l r) (hc : ClassOK m P c l r ph) {t q : Nat} (hq2 : q < P) : brP L m c l r ph bt t q < 2 := by
  obtain ⟨k1, k2⟩ := rpF_spec hc hq2
  obtain ⟨a1, a2⟩ := args_lt (ph := ph) (bt := bt) (gr := decide (L = 8)) (t := t) hs k1
  exact brg_lt a1 (joinF_lt a1 a2) (bN_lt _)
noncomputable def wgW (W : AW) (L m : Nat) (c l r ph bt : Nat → Nat) (t p : Nat) : AW := setRow W 4 2 (fun q => nI (pvF (opT (decide (L = 8)) c ph bt t) c l r ph m q)) p
theorem X_weigh (hX : SenP w o m P c l r ph pl dp) (hL : LenOK o P) (hc : ClassOK m P c l r ph) (hs : ShapeOK m c l r) (hP : P ≤ 81) (hm : 1 ≤ m) (hlast : ph (m - 1) = P - 1) (ho : o ≠ 4) (hbit : ∀ q, q < P → w.1 4 1 q = if hq L m c ph q = true then nI (bt q) else -9) (hbt : ∀ q, q < P → hq L m c ph q = true → bt q < 10) {CL TU : Nat} (h9 : w.1 4 0 9 = nI CL) (h10 : w.1 4 0 10 = nI TU) {t : Nat} (ht : t < 1024) :
    mX3_weigh o (nI t) w = some ((), am_set (am_set (am_set (wgW w L m c l r ph bt t P) 4 3 t (nI (clN CL TU t))) 4 4 t (nI (brF L m c l r ph bt t P))) 4 5 t (nI (evV (opT (decide (L = 8)) c ph bt t) c l r (m - 1)))) := by
  have hP0 : 1 ≤ P := by have := hc.1 0 (by omega); omega
  have hop : ∀ k j, k < m → j < m → ph k = ph j → opT (decide (L = 8)) c ph bt t k = opT (decide (L = 8)) c ph bt t j := fun k j hk hj he => by
    funext a b
    unfold opT
    rw [((hc.2.2.2.2 k j hk hj).mp he).1, he]
  unfold mX3_weigh
  refine loopE (fun n (s : Int32 × Int32 × AW) => mX3_weigh_5 o (nI t) n s.1 s.2.1 s.2.2) P (fun k => (nI (brF L m c l r ph bt t k), nI k, wgW w L m c l r ph bt t k)) _ ?_ ?_ FU 0 (Nat.zero_le _) (FU_gt (by omega))
  · intro n p hp
    obtain ⟨k1, k2⟩ := rpF_spec hc hp
    have hs128 := kinds_lt (kinds_of hs k1)
    have c1 : ¬ nI P ≤ nI p := nI_ge hp (by omega)
    have hWo : (wgW w L m c l r ph bt t p).1 o = w.1 o := by funext a; exact setRow_row (Or.inl ho) p
    have hXW : SenP (wgW w L m c l r ph bt t p) o m P c l r ph pl dp := hX.cg hWo
    have hpt : mX2_parts o (wgW w L m c l r ph bt t p) = some (nI P, wgW w L m c l r ph bt t p) := by unfold mX2_parts; rw [hWo, hX.1]
    obtain ⟨s1, s2, s3⟩ := hXW.at3 hL hc hs k1
    rw [k2] at s1 s2 s3
    obtain ⟨f1, f2⟩ := row_first (W := wgW w L m c l r ph bt t p) (o := 4) (a := 2) (op := opT (decide (L = 8)) c ph bt t) hs hc hop (show P ≤ 81 from hP) (by decide) k1 (fun q hq2 => by
      rw [k2] at hq2
      exact setRow_in p hq2)
    obtain ⟨xl, yl⟩ := args_lt (ph := ph) (bt := bt) (gr := decide (L = 8)) (t := t) hs k1
    have ej := X_joined (x := argA c l (evV (opT (decide (L = 8)) c ph bt t) c l r) (rpF m ph p)) (wgW w L m c l r ph bt t p) hs128 yl
    have e41 : mX5_at 4 1 (nI p) (wgW w L m c l r ph bt t p) = some (w.1 4 1 p, wgW w L m c l r ph bt t p) := by
      rw [at_in _ (show p < 81 by omega) (by decide)]
      unfold wgW
      rw [setRow_row (Or.inr (by decide))]
    have hput : ∀ x, mX5_put 4 2 (nI p) x (wgW w L m c l r ph bt t p) = some ((), am_set (wgW w L m c l r ph bt t p) 4 2 p x) := fun x => put_in _ (show p < 81 by omega) (by decide)
    have epv : pvF (opT (decide (L = 8)) c ph bt t) c l r ph m p = opT (decide (L = 8)) c ph bt t (rpF m ph p) (argA c l (evV (opT (decide (L = 8)) c ph bt t) c l r) (rpF m ph p)) (argB c r (evV (opT (decide (L = 8)) c ph bt t) c l r) (rpF m ph p)) := evV_eq hs k1
    have ehq : hbB (decide (L = 8)) (c (rpF m ph p)) = hq L m c ph p := rfl
    have ev : nI p + 1 = nI (p + 1) := nI_add p 1
    have ebr : brF L m c l r ph bt t (p + 1) = brF L m c l r ph bt t p ||| (if hq L m c ph p = true then brP L m c l r ph bt t p * 2 ^ (bt p) else 0) := rfl
    have ewg : ∀ x, nI (pvF (opT (decide (L = 8)) c ph bt t) c l r ph m p) = x → am_set (wgW w L m c l r ph bt t p) 4 2 p x = wgW w L m c l r ph bt t (p + 1) := fun x hx => by rw [← hx]; rfl
    dsimp only
    rw [mX3_weigh_5, hpt, cl_mk, if_neg c1, s1, cl_mk, e41, cl_mk, s2, cl_mk, f1, cl_mk, s3, cl_mk, f2, cl_mk, ej, cl_mk, hbit p hp]
    cases z : hq L m c ph p
    · rw [if_neg (show ¬ (false = true) by decide), if_neg (show ¬ ((-9 : Int32) ≠ -9) from fun y => y rfl)]
      unfold mX3_weigh_95
      rw [hput, cl_mk, if_pos rfl]
      unfold mX3_weigh_126
      rw [nm_mk, ev, ewg _ (by
        rw [epv]
        unfold opT
        rw [ehq, z, if_neg (by decide)]), ebr, z, if_neg (by decide), Nat.or_zero]
    · have hb10 := hbt p hp z
      have n9 : nI (bt p) ≠ -9 := fun y => by
        have := nI_pos (show bt p < 2 ^ 31 by omega)
        rw [y] at this
        exact this (by decide)
      have ebit : ∀ W : AW, mX5_bit (nI t) (nI (bt p)) W = some (nI (bN (t.testBit (bt p))), W) := fun W => bit_B W (by omega) (by omega)
      have ebp : brg (c (rpF m ph p)) (argA c l (evV (opT (decide (L = 8)) c ph bt t) c l r) (rpF m ph p)) (joinF (c (rpF m ph p)) (argA c l (evV (opT (decide (L = 8)) c ph bt t) c l r) (rpF m ph p)) (argB c r (evV (opT (decide (L = 8)) c ph bt t) c l r) (rpF m ph p))) (bN (t.testBit (bt p))) = brP L m c l r ph bt t p := rfl
      have hbl := brP_lt (L := L) (bt := bt) (t := t) hs hc hp
      have hpw : 2 ^ bt p ≤ 2 ^ 9 := Nat.pow_le_pow_right (by decide) (by omega)
      have esh : nI (brP L m c l r ph bt t p) <<< (nI (bt p) &&& 31) = nI (brP L m c l r ph bt t p * 2 ^ bt p) := by
        have : nI (bt p) &&& 31 = nI (bt p &&& 31) := nI_and _ 31
        rw [this]
        refine shlN (by omega) ?_
        rcases (show brP L m c l r ph bt t p = 0 ∨ brP L m c l r ph bt t p = 1 by omega) with y | y
        · rw [y]; omega
        · rw [y]; omega
      rw [if_pos rfl, if_pos n9, ebit, cl_mk]
      unfold mX3_weigh_95
      rw [hput, cl_mk, if_neg n9, ebit, cl_mk, X_bearing _ hs128 xl, ebp, cl_mk, esh, nI_or, nm_mk]
      unfold mX3_weigh_126
      rw [nm_mk, ev, ewg _ (by
        rw [epv]
        unfold opT
        rw [ehq, z, if_pos rfl, k2]), ebr, z, if_pos rfl]
  · intro n
    have c1 : nI P ≤ nI P := nI_le (Nat.le_refl P) (by omega)
    have hWo : (wgW w L m c l r ph bt t P).1 o = w.1 o := by funext a; exact setRow_row (Or.inl ho) P
    have hpt : mX2_parts o (wgW w L m c l r ph bt t P) = some (nI P, wgW w L m c l r ph bt t P) := by unfold mX2_parts; rw [hWo, hX.1]
    have g40 : ∀ j, (wgW w L m c l r ph bt t P).1 4 0 j = w.1 4 0 j := fun j => congrFun (setRow_row (Or.inr (by decide)) P) j
    have p3 : ∀ x, mX5_put 4 3 (nI t) x (wgW w L m c l r ph bt t P) = some ((), am_set (wgW w L m c l r ph bt t P) 4 3 t x) := fun x => put_in _ (show t < 1024 from ht) (by decide)
    have p4 : ∀ (x y : Int32), mX5_put 4 4 (nI t) y (am_set (wgW w L m c l r ph bt t P) 4 3 t x) = some ((), am_set (am_set (wgW w L m c l r ph bt t P) 4 3 t x) 4 4 t y) := fun x y => put_in _ (show t < 1024 from ht) (by decide)
    have hpt2 : ∀ x y, mX2_parts o (am_set (am_set (wgW w L m c l r ph bt t P) 4 3 t x) 4 4 t y) = some (nI P, am_set (am_set (wgW w L m c l r ph bt t P) 4 3 t x) 4 4 t y) := fun x y => by unfold mX2_parts; rw [am_row_ne ho, am_row_ne ho, hWo, hX.1]
    have e42 : ∀ x y, mX5_at 4 2 (nI (P - 1)) (am_set (am_set (wgW w L m c l r ph bt t P) 4 3 t x) 4 4 t y) = some (nI (evV (opT (decide (L = 8)) c ph bt t) c l r (m - 1)), am_set (am_set (wgW w L m c l r ph bt t P) 4 3 t x) 4 4 t y) := fun x y => by
      rw [at_in _ (show P - 1 < 81 by omega) (by decide), am_get_row (Or.inr (by decide)), am_get_row (Or.inr (by decide))]
      unfold wgW
      rw [setRow_in P (by omega), ← hlast, pvF_eq hs hc hop (by omega)]
    have p5 : ∀ (x y z : Int32), mX5_put 4 5 (nI t) z (am_set (am_set (wgW w L m c l r ph bt t P) 4 3 t x) 4 4 t y) = some ((), am_set (am_set (am_set (wgW w L m c l r ph bt t P) 4 3 t x) 4 4 t y) 4 5 t z) := fun x y z => put_in _ (show t < 1024 from ht) (by decide)
    have ecl : (nI t ^^^ nI TU) &&& nI CL = nI (clN CL TU t) := by
      rw [nI_xor, nI_and]
      rfl
    dsimp only
    rw [mX3_weigh_5, hpt, cl_mk, if_pos c1, g40, g40, h9, h10, ecl, p3, cl_mk, p4, cl_mk, hpt2, cl_mk, show nI P - 1 = nI (P - 1) from pk_sub (a := P) (b := 1) hP0, e42, cl_mk, p5, cl_mk]
end WG
