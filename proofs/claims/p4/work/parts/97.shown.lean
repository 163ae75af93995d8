/-! shown: both sides -/
def restN (c bp : Nat → Nat) (nb : Nat) : Nat := orF (fun j => if atmB (c (bp j)) = true then 0 else 2 ^ j) nb
section SH
variable {w0 w : AW} {M Z nb : Nat} {c l r b e y ph btq bp : Nat → Nat}
theorem M_s4 (hB : TB w true M Z nb c l r b e y ph btq bp) (hs : ShapeOK M c l r) (hM : M ≤ 90) (hnb : nb ≤ 10) : mX6_isShown_4 FU 0 0 w = mX6_isShown_47 (nI (restN c bp nb)) FU 0 w := by
  unfold restN
  refine loopE (fun n (s : Int32 × Int32) => mX6_isShown_4 n s.1 s.2 w) nb (fun k => (nI (orF (fun j => if atmB (c (bp j)) = true then 0 else 2 ^ j) k), nI k)) _ ?_ ?_ FU 0 (Nat.zero_le _) (FU_gt (by omega))
  · intro n j hj
    obtain ⟨p1, p2⟩ := hB.2.2.1 j hj
    have w30 := (hB.1.2.2.1 _ p1).1
    have hc := kinds_lt (kinds_of hs p1)
    have eA : orF (fun j => if atmB (c (bp j)) = true then 0 else 2 ^ j) (j + 1) = (orF (fun j => if atmB (c (bp j)) = true then 0 else 2 ^ j) j ||| (if atmB (c (bp j)) = true then 0 else 2 ^ j)) := rfl
    have e37 : ∀ x : Nat, mX6_isShown_37 (mX6_isShown_4 n) (nI j) (nI x) (nI (orF (fun j => if atmB (c (bp j)) = true then 0 else 2 ^ j) j)) w = mX6_isShown_4 n (nI (orF (fun j => if atmB (c (bp j)) = true then 0 else 2 ^ j) j ||| x)) (nI (j + 1)) w := fun x => by
      unfold mX6_isShown_37
      rw [nm_mk, nm_mk, nI_or, show nI j + 1 = nI (j + 1) from nI_add j 1]
    have e1 : (1 : Int32) <<< (nI j &&& 31) = nI (2 ^ j) := by
      have : nI j &&& 31 = nI (j &&& 31) := nI_and j 31
      rw [this]
      exact one_shl (by omega)
    have ea : decide (112 ≤ c (bp j) ∧ c (bp j) ≤ 115) = atmB (c (bp j)) := rfl
    dsimp only
    rw [mX6_isShown_4, hB.2.1, if_neg (nI_ge hj (by omega)), rd_in (by omega) (by decide), p2, rd_in (by omega) (by decide), w30, M_isAtom w (by omega), cl_mk, ea, e1, eA]
    cases q : atmB (c (bp j))
    · rw [if_pos (show nI (bN false) = 0 from rfl), if_neg (by decide)]
      exact e37 _
    · rw [if_neg (show ¬ (nI (bN true) = 0) by decide), if_pos rfl]
      exact e37 0
  · intro n
    dsimp only
    rw [mX6_isShown_4, hB.2.1, if_pos (nI_le (Nat.le_refl nb) (by omega))]
theorem M_s47 (hs : ShapeOK M c l r) (hM1 : 1 ≤ M) (hM2 : M ≤ 90) (hnb : nb ≤ 10) (hbt : ∀ k, k < M → btq (ph k) < 10) (hnm : ∀ k, k < M → modB (c k) = false) (hh : ∀ j, j < nb → hbB true (c (bp j)) = true) {rest : Int32} : ∀ (q t n : Nat) (W : AW), 2 ^ nb = t + q → q < n → KM w0 W → TB W true M Z nb c l r b e y ph btq bp → (∀ u, u < t → W.1 0 42 u = (if fitG c l r (evV (opT true c ph btq u) c l r) bp nb u = true then -9 else nI 0) ∧ W.1 0 40 u = nI (brkN c l r (evV (opT true c ph btq u) c l r) bp nb) ∧ W.1 0 41 u = nI (bN (decide (evV (opT true c ph btq u) c l r (M - 1) = 1)))) →
    ∃ W2, mX6_isShown_47 rest n (nI t) W = mX6_isShown_96 rest FU 1 W2 ∧ KM w0 W2 ∧ TB W2 true M Z nb c l r b e y ph btq bp ∧ (∀ u, u < 2 ^ nb → W2.1 0 42 u = (if fitG c l r (evV (opT true c ph btq u) c l r) bp nb u = true then -9 else nI 0) ∧ W2.1 0 40 u = nI (brkN c l r (evV (opT true c ph btq u) c l r) bp nb) ∧ W2.1 0 41 u = nI (bN (decide (evV (opT true c ph btq u) c l r (M - 1) = 1)))) := by
  have hpw := pow_nb hnb
  intro q
  induction q with
  | zero =>
    intro t n W hq2 hn hK hB hr
    obtain ⟨n, rfl⟩ : ∃ i, n = i + 1 := ⟨n - 1, by omega⟩
    have e2 : t = 2 ^ nb := by omega
    subst e2
    refine ⟨W, ?_, hK, hB, hr⟩
    rw [mX6_isShown_47, hB.2.1, sh_nb hnb, if_pos (nI_le (Nat.le_refl _) (by omega))]
  | succ q ih =>
    intro t n W hq2 hn hK hB hr
    obtain ⟨n, rfl⟩ : ∃ i, n = i + 1 := ⟨n - 1, by omega⟩
    have ht : t < 2 ^ nb := by omega
    obtain ⟨J, j1, j2, j3, j4, j5, j6⟩ := JW.of hB hs hM1 hM2 (show t < 1024 by omega) hbt hnm hh
    have ef := M_fit9 j3 hs hM2 hnb (show t < 1024 by omega)
    -- its place in the list of the fallen
    have step : ∀ s0 : Int32, s0 = (if fitG c l r (evV (opT true c ph btq t) c l r) bp nb t = true then -9 else nI 0) → ∃ W2, mX6_isShown_76 (mX6_isShown_47 rest n) rest (nI t) s0 (nI t) J = mX6_isShown_96 rest FU 1 W2 ∧ KM w0 W2 ∧ TB W2 true M Z nb c l r b e y ph btq bp ∧ (∀ u, u < 2 ^ nb → W2.1 0 42 u = (if fitG c l r (evV (opT true c ph btq u) c l r) bp nb u = true then -9 else nI 0) ∧ W2.1 0 40 u = nI (brkN c l r (evV (opT true c ph btq u) c l r) bp nb) ∧ W2.1 0 41 u = nI (bN (decide (evV (opT true c ph btq u) c l r (M - 1) = 1)))) := fun s0 hs0 => by
      have hB1 : TB (am_set J 0 42 t s0) true M Z nb c l r b e y ph btq bp := j3.1.keep (fun a h1 h2 => by rw [am_get_row (Or.inr (by omega))]) (fun i _ => by rw [am_get_row (by decide)])
      obtain ⟨J2, k1, k2, k3, k4, k5, k6⟩ := JW.of hB1 hs hM1 hM2 (show t < 1024 by omega) hbt hnm hh
      have eb := M_brk9 k3 hs hM2 hnb
      have hB2 : TB (am_set J2 0 40 t (nI (brkN c l r (evV (opT true c ph btq t) c l r) bp nb))) true M Z nb c l r b e y ph btq bp := k3.1.keep (fun a h1 h2 => by rw [am_get_row (Or.inr (by omega))]) (fun i _ => by rw [am_get_row (by decide)])
      obtain ⟨W2, f1, f2⟩ := ih (t + 1) n (am_set J2 0 40 t (nI (brkN c l r (evV (opT true c ph btq t) c l r) bp nb))) (by omega) (by omega) ((((hK.tr j2).set (Or.inl (by decide))).tr k2).set (Or.inl (by decide))) hB2 (fun u hu => by
        rw [am_get_row (show (0 : Nat) ≠ 0 ∨ 42 ≠ 40 from Or.inr (by decide)), am_get_row (show (0 : Nat) ≠ 0 ∨ 41 ≠ 40 from Or.inr (by decide)), k5 42 (by decide) (by decide)]
        by_cases x : u = t
        · subst x
          rw [am_get_self, am_get_self, k4]
          exact ⟨hs0, rfl, rfl⟩
        · have := hr u (by omega)
          rw [am_get_other x, am_get_other x, k5 40 (by decide) (by decide), k6 u x, am_get_row (show (0 : Nat) ≠ 0 ∨ 40 ≠ 42 from Or.inr (by decide)), am_get_row (show (0 : Nat) ≠ 0 ∨ 41 ≠ 42 from Or.inr (by decide)), j5 42 (by decide) (by decide), j5 40 (by decide) (by decide), j6 u x]
          exact this)
      refine ⟨W2, ?_, f2⟩
      have ebr : mX6_breaks (nI t) (am_set J 0 42 t s0) = some (nI (brkN c l r (evV (opT true c ph btq t) c l r) bp nb), J2) := by
        unfold mX6_breaks
        rw [k1, cl_mk]
        exact eb
      unfold mX6_isShown_76
      rw [wr_in (show t < 1024 by omega) (by decide), ebr, cl_mk, wr_in (show t < 1024 by omega) (by decide), nm_mk, show nI t + 1 = nI (t + 1) from nI_add t 1]
      exact f1
    have efit : mX6_isFit (nI t) W = some (nI (bN (fitG c l r (evV (opT true c ph btq t) c l r) bp nb t)), J) := by
      unfold mX6_isFit
      rw [j1, cl_mk]
      exact ef
    rw [mX6_isShown_47, hB.2.1, sh_nb hnb, if_neg (nI_ge ht (by omega)), efit, cl_mk]
    cases z : fitG c l r (evV (opT true c ph btq t) c l r) bp nb t
    · rw [if_pos (show nI (bN false) = 0 from rfl)]
      exact step 0 (by rw [z]; rfl)
    · rw [if_neg (show ¬ (nI (bN true) = 0) by decide)]
      exact step (-9) (by rw [z]; rfl)
end SH
section GC
variable {m P nb : Nat} {c l r ph pl bp : Nat → Nat}
/-- of growing nets: the class's words of a type, bit by bit -/
theorem gr_bits (hk : LQ (hq 8 m c ph) P nb (fun j => ph (bp j))) (hid : ∀ j, j < nb → rkF (hq 8 m c ph) pl P (ph (bp j)) = j) (hc : ClassOK m P c l r ph) (hbp : ∀ j, j < nb → bp j < m) (hnm : ∀ k, k < m → modB (c k) = false) :
    (∀ t, t < 2 ^ nb → clN (CLf 8 m P c ph pl) (TUf 8 m P c ph pl) t = t) ∧ OWf 8 m P c ph pl = restN c bp nb := by
  have g1 : ∀ p, clF 8 m c ph p = true → hq 8 m c ph p = true := fun p z => by unfold clF at z; rw [Bool.and_eq_true] at z; exact z.1
  have g2 : ∀ p, tuF 8 m c ph p = true → hq 8 m c ph p = true := fun p z => by unfold tuF at z; rw [Bool.and_eq_true] at z; exact z.1
  have g3 : ∀ p, owF 8 m c ph p = true → hq 8 m c ph p = true := fun p z => by unfold owF at z; rw [Bool.and_eq_true] at z; exact z.1
  have bits : ∀ j, j < nb → (CLf 8 m P c ph pl).testBit j = true ∧ (TUf 8 m P c ph pl).testBit j = false ∧ (OWf 8 m P c ph pl).testBit j = !atmB (c (bp j)) := fun j hj => by
    have e1 := msk_bit (pl := pl) hk g1 hj
    have e2 := msk_bit (pl := pl) hk g2 hj
    have e3 := msk_bit (pl := pl) hk g3 hj
    rw [hid j hj] at e1 e2 e3
    obtain ⟨k1, k2, k3⟩ := list_c hc (hbp j hj)
    have hh : hq 8 m c ph (ph (bp j)) = true := (hk.1 j hj).2
    unfold CLf TUf OWf
    rw [e1, e2, e3]
    refine ⟨?_, ?_, ?_⟩
    · unfold clF; rw [hh]; simp
    · unfold tuF
      rw [hh, k1, Bool.true_and]
      refine decide_eq_false (fun z => ?_)
      have := hnm _ (hbp j hj)
      unfold modB at this
      have := of_decide_eq_false this
      omega
    · unfold owF; rw [hh, k1, Bool.true_and]
  refine ⟨fun t ht => ?_, ?_⟩
  · have hl : clN (CLf 8 m P c ph pl) (TUf 8 m P c ph pl) t < 2 ^ nb := Nat.lt_of_le_of_lt Nat.and_le_right (msk_ltn hk g1)
    refine Nat.eq_of_testBit_eq (fun j => ?_)
    rcases Nat.lt_or_ge j nb with q | q
    · obtain ⟨b1, b2, -⟩ := bits j q
      unfold clN
      rw [Nat.testBit_and, Nat.testBit_xor, b1, b2]
      simp
    · rw [bits_of_lt hl q, bits_of_lt ht q]
  · have h1 : OWf 8 m P c ph pl < 2 ^ nb := msk_ltn hk g3
    have h2 : restN c bp nb < 2 ^ nb := orF_lt (fun j hj => by
      split
      · exact Nat.two_pow_pos nb
      · exact pow_lt_of hj)
    refine Nat.eq_of_testBit_eq (fun j => ?_)
    rcases Nat.lt_or_ge j nb with q | q
    · rw [(bits j q).2.2]
      apply bool_eq
      unfold restN
      rw [tb_orF]
      constructor
      · intro z
        refine ⟨j, q, ?_⟩
        rw [if_neg (by intro y; rw [y] at z; cases z), tb_pow, decide_eq_true rfl]
      · rintro ⟨i, i1, i2⟩
        split at i2
        · rw [Nat.zero_testBit] at i2; cases i2
        · rename_i y
          rw [tb_pow, decide_eq_true_eq] at i2
          rw [← i2]
          cases x : atmB (c (bp i))
          · rfl
          · exact absurd x y
    · rw [bits_of_lt h1 q, bits_of_lt h2 q]
theorem gr_brT (hk : LQ (hq 8 m c ph) P nb (fun j => ph (bp j))) (hid : ∀ j, j < nb → rkF (hq 8 m c ph) pl P (ph (bp j)) = j) (hs : ShapeOK m c l r) (hc : ClassOK m P c l r ph) (hbp : ∀ j, j < nb → bp j < m) {t j : Nat} (ht : t < 2 ^ nb) (hj : j < nb) : (brT 8 m P c l r ph pl t).testBit j = if atmB (c (bp j)) = true then t.testBit j else gdJ c l r (evV (opT true c ph (jqF nb (fun j => ph (bp j))) t) c l r) bp j := by
  obtain ⟨k1, k2, k3⟩ := list_c hc (hbp j hj)
  have hev := ev_same (L := 8) hk hs hc (id_ok hk hid) ht
  have hh : hq 8 m c ph (ph (bp j)) = true := (hk.1 j hj).2
  have ebit : (brT 8 m P c l r ph pl t).testBit j = decide (brP 8 m c l r ph (rkF (hq 8 m c ph) pl P) t (ph (bp j)) = 1) := by
    apply bool_eq
    unfold brT brF
    rw [tb_orF, decide_eq_true_eq]
    constructor
    · rintro ⟨p, p1, p2⟩
      split at p2
      · rename_i z
        rw [two_bit (brP_lt hs hc p1), Bool.and_eq_true, decide_eq_true_eq, decide_eq_true_eq] at p2
        have e2 : p = ph (bp j) := rk_inj p1 (hk.1 j hj).1 z hh (p2.2.trans (hid j hj).symm)
        rw [← e2]
        exact p2.1
      · rw [Nat.zero_testBit] at p2; cases p2
    · intro z
      exact ⟨ph (bp j), (hk.1 j hj).1, by rw [if_pos hh, z, two_bit (by decide), decide_eq_true rfl, decide_eq_true (hid j hj)]; rfl⟩
  have hcc : hbB true (c (bp j)) = true := by
    have : hq 8 m c ph (ph (bp j)) = hbB (decide (8 = 8)) (c (rpF m ph (ph (bp j)))) := rfl
    rw [this, k1] at hh
    exact hh
  rw [ebit]
  unfold brP brg
  rw [k1, hid j hj]
  cases ha : atmB (c (bp j))
  · have hop : ∀ k i, k < m → i < m → ph k = ph i → opT true c ph (jqF nb (fun j => ph (bp j))) t k = opT true c ph (jqF nb (fun j => ph (bp j))) t i := fun k i hk1 hi he => by
      funext x z
      unfold opT
      rw [((hc.2.2.2.2 k i hk1 hi).mp he).1, he]
    have cls := (hc.2.2.2.2 _ _ k2 (hbp j hj)).mp k3
    have hbj := hbp j hj
    have hlt : ∀ k, k < m → (kd (c k) ≠ 0 → l k < k) ∧ (kd (c k) = 2 → r k < k) := fun k hkm => by
      rcases hs k hkm with g | ⟨g, g1⟩ | ⟨g, g1, g2⟩
      · exact ⟨fun z => absurd (kd_leaf g) z, fun z => by rw [kd_leaf g] at z; cases z⟩
      · exact ⟨fun _ => g1, fun z => by rw [kd_pre g] at z; cases z⟩
      · exact ⟨fun _ => g1, fun _ => g2⟩
    have h1 := hlt _ k2
    have h2 := hlt _ hbj
    rw [k1] at h1
    rcases hb_grow hcc ha with z | z
    · have jn : isJn (c (rpF m ph (ph (bp j)))) := by rw [k1, z]; exact jn62
      have eA : argA c l (evV (opT (decide (8 = 8)) c ph (rkF (hq 8 m c ph) pl P) t) c l r) (rpF m ph (ph (bp j))) = evV (opT true c ph (jqF nb (fun j => ph (bp j))) t) c l r (l (bp j)) := by
        have l1 := h1.1 (by rw [z]; decide)
        have l2 := h2.1 (by rw [z]; decide)
        unfold argA
        rw [kd_jn jn, if_neg (by decide)]
        refine (hev _ (by omega)).trans ?_
        exact evV_ph hs hc hop _ _ _ (Nat.lt_succ_self _) (by omega) (by omega) (cls.2.2 jn).1
      have eB : argB c r (evV (opT (decide (8 = 8)) c ph (rkF (hq 8 m c ph) pl P) t) c l r) (rpF m ph (ph (bp j))) = evV (opT true c ph (jqF nb (fun j => ph (bp j))) t) c l r (r (bp j)) := by
        have l1 := h1.2 (by rw [z]; decide)
        have l2 := h2.2 (by rw [z]; decide)
        unfold argB
        rw [kd_jn jn, if_pos rfl]
        refine (hev _ (by omega)).trans ?_
        exact evV_ph hs hc hop _ _ _ (Nat.lt_succ_self _) (by omega) (by omega) (cls.2.2 jn).2
      rw [eA, eB, if_neg (show ¬ c (bp j) = 91 by omega), if_neg (show ¬ c (bp j) = 123 by omega), if_neg (by decide), if_neg (by decide)]
      unfold gdJ
      rw [ha, Bool.false_or]
    · have pre : isPre (c (rpF m ph (ph (bp j)))) := by rw [k1, z]; exact Or.inl rfl
      have eA : argA c l (evV (opT (decide (8 = 8)) c ph (rkF (hq 8 m c ph) pl P) t) c l r) (rpF m ph (ph (bp j))) = evV (opT true c ph (jqF nb (fun j => ph (bp j))) t) c l r (l (bp j)) := by
        have l1 := h1.1 (by rw [z]; decide)
        have l2 := h2.1 (by rw [z]; decide)
        unfold argA
        rw [kd_pre pre, if_neg (by decide)]
        refine (hev _ (by omega)).trans ?_
        exact evV_ph hs hc hop _ _ _ (Nat.lt_succ_self _) (by omega) (by omega) (cls.2.1 pre)
      have e33 : ∀ x y1 y2 : Nat, joinF 33 x y1 = joinF 33 x y2 := fun x y1 y2 => by
        unfold joinF
        rw [if_pos rfl, if_pos rfl]
      rw [eA, if_neg (show ¬ c (bp j) = 91 by omega), if_neg (show ¬ c (bp j) = 123 by omega), if_neg (by decide), if_neg (by decide)]
      unfold gdJ
      rw [ha, Bool.false_or, z, e33 _ _ (evV (opT true c ph (jqF nb (fun j => ph (bp j))) t) c l r (r (bp j)))]
  · obtain ⟨n1, n2⟩ := atm_ne ha
    have hat : 112 ≤ c (bp j) ∧ c (bp j) ≤ 115 := of_decide_eq_true ha
    rw [if_neg (show ¬ c (bp j) = 91 by omega), if_neg (show ¬ c (bp j) = 123 by omega), if_pos rfl, if_pos rfl]
    cases t.testBit j <;> rfl
/-- the class's growing types are the model's -/
theorem gr_same (hk : LQ (hq 8 m c ph) P nb (fun j => ph (bp j))) (hid : ∀ j, j < nb → rkF (hq 8 m c ph) pl P (ph (bp j)) = j) (hs : ShapeOK m c l r) (hc : ClassOK m P c l r ph) (hbp : ∀ j, j < nb → bp j < m) (hnm : ∀ k, k < m → modB (c k) = false) (hnb : nb ≤ 10) :
    (∀ t, t < 2 ^ nb → fitX 8 (CLf 8 m P c ph pl) (TUf 8 m P c ph pl) (brT 8 m P c l r ph pl) t = fitG c l r (evV (opT true c ph (jqF nb (fun j => ph (bp j))) t) c l r) bp nb t) ∧
    (∀ th : Nat → Bool, (∀ u, u < 2 ^ nb → th u = true → fitX 8 (CLf 8 m P c ph pl) (TUf 8 m P c ph pl) (brT 8 m P c l r ph pl) u = true) → ∀ t, t < 2 ^ nb → mfX 8 (2 ^ nb) (CLf 8 m P c ph pl) (TUf 8 m P c ph pl) (OWf 8 m P c ph pl) (brT 8 m P c l r ph pl) th t = mf8 (restN c bp nb) (fun u => brkN c l r (evV (opT true c ph (jqF nb (fun j => ph (bp j))) u) c l r) bp nb) (2 ^ nb) th t) := by
  obtain ⟨hcl, how⟩ := gr_bits hk hid hc hbp hnm
  have hbr := fun (t j : Nat) (ht : t < 2 ^ nb) (hj : j < nb) => gr_brT hk hid hs hc hbp ht hj
  have e8 : ∀ a b, a < 2 ^ nb → b < 2 ^ nb → (seeX 8 (CLf 8 m P c ph pl) (TUf 8 m P c ph pl) (brT 8 m P c l r ph pl) a b = true ↔ (sdiff a (brT 8 m P c l r ph pl b) = 0 ∧ sdiff a b = 0)) := fun a b ha hb => by
    unfold seeX
    rw [hcl a ha, hcl b hb, if_pos (by decide), Bool.and_eq_true, decide_eq_true_eq, decide_eq_true_eq]
  have self : ∀ a, a < 2 ^ nb → sdiff a a = 0 := fun a ha => (sdiff_zero ha (by omega)).mpr (fun _ _ h => h)
  have fite : ∀ t, t < 2 ^ nb → fitX 8 (CLf 8 m P c ph pl) (TUf 8 m P c ph pl) (brT 8 m P c l r ph pl) t = fitG c l r (evV (opT true c ph (jqF nb (fun j => ph (bp j))) t) c l r) bp nb t := fun t ht => by
    have ef : fitX 8 (CLf 8 m P c ph pl) (TUf 8 m P c ph pl) (brT 8 m P c l r ph pl) t = seeX 8 (CLf 8 m P c ph pl) (TUf 8 m P c ph pl) (brT 8 m P c l r ph pl) t t := if_pos (by decide)
    rw [ef]
    apply bool_eq
    rw [e8 t t ht ht, sdiff_zero ht (by omega)]
    unfold fitG
    rw [allT_iff]
    constructor
    · rintro ⟨h, -⟩ j hj
      cases z : t.testBit j
      · rfl
      · have := h j hj z
        rw [hbr t j ht hj] at this
        rw [Bool.not_true, Bool.false_or]
        by_cases x : atmB (c (bp j)) = true
        · unfold gdJ; rw [x]; rfl
        · rw [if_neg x] at this
          exact this
    · intro h
      refine ⟨fun j hj z => ?_, self t ht⟩
      have := h j hj
      rw [z, Bool.not_true, Bool.false_or] at this
      rw [hbr t j ht hj]
      by_cases x : atmB (c (bp j)) = true
      · rw [if_pos x]; exact z
      · rw [if_neg x]; exact this
  refine ⟨fite, fun th hth t ht => ?_⟩
  -- whom a type sees of those that fit
  have see : ∀ u, u < 2 ^ nb → th u = true → (seeX 8 (CLf 8 m P c ph pl) (TUf 8 m P c ph pl) (brT 8 m P c l r ph pl) t u = true ↔ sdiff t u = 0) := fun u hu z => by
    rw [e8 t u ht hu]
    refine ⟨fun h => h.2, fun h => ⟨?_, h⟩⟩
    have hf := hth u hu z
    have ef : fitX 8 (CLf 8 m P c ph pl) (TUf 8 m P c ph pl) (brT 8 m P c l r ph pl) u = seeX 8 (CLf 8 m P c ph pl) (TUf 8 m P c ph pl) (brT 8 m P c l r ph pl) u u := if_pos (by decide)
    rw [ef, e8 u u hu hu, sdiff_zero hu (by omega)] at hf
    rw [sdiff_zero ht (by omega)] at h ⊢
    exact fun j hj y => hf.1 j hj (h j hj y)
  have lo : sdiff (restN c bp nb) t < 2 ^ nb := by
    rw [← how]
    exact sdiff_lt (msk_ltn hk (fun p z => by unfold owF at z; rw [Bool.and_eq_true] at z; exact z.1))
  have rest_at : ∀ k, (sdiff (restN c bp nb) t).testBit k = true → k < nb ∧ atmB (c (bp k)) = false := fun k z => by
    have hk2 : k < nb := by
      rcases Nat.lt_or_ge k nb with q | q
      · exact q
      · rw [bits_of_lt lo q] at z; cases z
    refine ⟨hk2, ?_⟩
    have hr : restN c bp nb < 2 ^ 32 := by
      rw [← how]
      exact Nat.lt_of_lt_of_le (msk_ltn hk (fun p z => by unfold owF at z; rw [Bool.and_eq_true] at z; exact z.1)) (Nat.pow_le_pow_right (by decide) (by omega))
    rw [tb_sdiff hr, Bool.and_eq_true] at z
    have z1 := z.1
    unfold restN at z1
    rw [tb_orF] at z1
    obtain ⟨i, i1, i2⟩ := z1
    split at i2
    · rw [Nat.zero_testBit] at i2; cases i2
    · rename_i y
      rw [tb_pow, decide_eq_true_eq] at i2
      rw [← i2]
      cases x : atmB (c (bp i))
      · rfl
      · exact absurd x y
  have same : ∀ k, (sdiff (restN c bp nb) t).testBit k = true → ∀ u, u < 2 ^ nb → (brT 8 m P c l r ph pl u).testBit k = (brkN c l r (evV (opT true c ph (jqF nb (fun j => ph (bp j))) u) c l r) bp nb ^^^ 4294967295).testBit k := fun k z u hu => by
    obtain ⟨hk2, ha⟩ := rest_at k z
    rw [hbr u k hu hk2, ha, if_neg (by decide), Nat.testBit_xor, tb_all, decide_eq_true (show k < 32 by omega)]
    have : (brkN c l r (evV (opT true c ph (jqF nb (fun j => ph (bp j))) u) c l r) bp nb).testBit k = !gdJ c l r (evV (opT true c ph (jqF nb (fun j => ph (bp j))) u) c l r) bp k := by
      apply bool_eq
      unfold brkN
      rw [tb_orF]
      constructor
      · rintro ⟨i, i1, i2⟩
        split at i2
        · rw [Nat.zero_testBit] at i2; cases i2
        · rename_i y
          rw [tb_pow, decide_eq_true_eq] at i2
          rw [← i2]
          cases x : gdJ c l r (evV (opT true c ph (jqF nb (fun j => ph (bp j))) u) c l r) bp i
          · rfl
          · exact absurd x y
      · intro y
        exact ⟨k, hk2, by rw [if_neg (by intro x; rw [x] at y; cases y), tb_pow, decide_eq_true rfl]⟩
    rw [this]
    cases gdJ c l r (evV (opT true c ph (jqF nb (fun j => ph (bp j))) u) c l r) bp k <;> rfl
  apply bool_eq
  rw [mf8_iff]
  unfold mfX
  rw [mfB_iff, hcl t ht, how]
  constructor
  · rintro (⟨k, k1, k2⟩ | ⟨z, -⟩)
    · refine ⟨k, k1, fun u hu h1 h2 => ?_⟩
      rw [← same k k1 u hu]
      exact k2 u hu (by rw [h1, (see u hu h1).mpr h2]; rfl)
    · cases z
  · rintro ⟨k, k1, k2⟩
    refine Or.inl ⟨k, k1, fun u hu z => ?_⟩
    rw [Bool.and_eq_true] at z
    rw [same k k1 u hu]
    exact k2 u hu z.1 ((see u hu z.1).mp z.2)
/-- what never falls in rounds, and what is left when they fall one by one -/
theorem gr_end {fit fG : Nat → Bool} {mf : (Nat → Bool) → Nat → Bool} {rest Z rho : Nat} {brk : Nat → Nat} {th2 : Nat → Bool} (hf : ∀ t, t < Z → fit t = fG t) (hm : ∀ th : Nat → Bool, (∀ u, u < Z → th u = true → fit u = true) → ∀ t, t < Z → mf th t = mf8 rest brk Z th t) (hend : anyN fit mf Z rho = false) (hG : GoodG fG rest brk Z th2) (hS : StabG fG rest brk Z th2) : ∀ t, t < Z → thN fit mf rho t = th2 t := by
  have sub : ∀ r t, thN fit mf r t = true → fit t = true := fun r => by
    induction r with
    | zero => exact fun t h => h
    | succ r ih =>
      intro t h
      have : (thN fit mf r t && !mf (thN fit mf r) t) = true := h
      rw [Bool.and_eq_true] at this
      exact ih t this.1
  have c1 : StabG fG rest brk Z (thN fit mf rho) := fun u hu z => by
    refine ⟨by rw [← hf u hu]; exact sub rho u z, ?_⟩
    rw [← hm _ (fun v _ y => sub rho v y) u hu]
    cases e : mf (thN fit mf rho) u
    · rfl
    · have : anyN fit mf Z rho = true := exB_iff.mpr ⟨u, hu, by rw [z, e]; rfl⟩
      rw [hend] at this
      cases this
  have c2 : ∀ r t, t < Z → th2 t = true → thN fit mf r t = true := fun r => by
    induction r with
    | zero => exact fun t ht z => by show fit t = true; rw [hf t ht]; exact (hS t ht z).1
    | succ r ih =>
      intro t ht z
      show (thN fit mf r t && !mf (thN fit mf r) t) = true
      rw [ih t ht z, hm _ (fun v _ y => sub r v y) t ht]
      cases e : mf8 rest brk Z (thN fit mf r) t
      · rfl
      · have := mf8_anti (fun u hu y => ih u hu y) e
        rw [(hS t ht z).2] at this
        cases this
  intro t ht
  apply bool_eq
  exact ⟨fun h => hG.2 _ c1 t ht h, fun h => c2 rho t ht h⟩
end GC
