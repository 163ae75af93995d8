/-! the model: growing types fall one by one -/
def mf8 (rest : Nat) (brk : Nat → Nat) (Z : Nat) (th : Nat → Bool) (t : Nat) : Bool := mfB (fun u => th u && decide (sdiff t u = 0)) (fun u => brk u ^^^ 4294967295) (sdiff rest t) false Z
theorem mf8_iff {rest Z t : Nat} {brk : Nat → Nat} {th : Nat → Bool} : mf8 rest brk Z th t = true ↔ ∃ k, (sdiff rest t).testBit k = true ∧ ∀ u, u < Z → th u = true → sdiff t u = 0 → (brk u ^^^ 4294967295).testBit k = true := by
  unfold mf8
  rw [mfB_iff]
  constructor
  · rintro (⟨k, k1, k2⟩ | ⟨z, -⟩)
    · exact ⟨k, k1, fun u hu h1 h2 => k2 u hu (by rw [h1, decide_eq_true h2]; rfl)⟩
    · cases z
  · rintro ⟨k, k1, k2⟩
    refine Or.inl ⟨k, k1, fun u hu z => ?_⟩
    rw [Bool.and_eq_true, decide_eq_true_eq] at z
    exact k2 u hu z.1 z.2
theorem mf8_anti {rest Z t : Nat} {brk : Nat → Nat} {th S : Nat → Bool} (hs : ∀ u, u < Z → S u = true → th u = true) (h : mf8 rest brk Z th t = true) : mf8 rest brk Z S t = true := by
  obtain ⟨k, k1, k2⟩ := mf8_iff.mp h
  exact mf8_iff.mpr ⟨k, k1, fun u hu z1 z2 => k2 u hu (hs u hu z1) z2⟩
def StabG (fit : Nat → Bool) (rest : Nat) (brk : Nat → Nat) (Z : Nat) (S : Nat → Bool) : Prop := ∀ u, u < Z → S u = true → fit u = true ∧ mf8 rest brk Z S u = false
def GoodG (fit : Nat → Bool) (rest : Nat) (brk : Nat → Nat) (Z : Nat) (th : Nat → Bool) : Prop := (∀ u, u < Z → th u = true → fit u = true) ∧ ∀ S, StabG fit rest brk Z S → ∀ u, u < Z → S u = true → th u = true
theorem sd_le {t u : Nat} (ht : t < 2 ^ 32) (h : sdiff t u = 0) : t ≤ u := by
  have e : t &&& u = t := by
    refine Nat.eq_of_testBit_eq (fun k => ?_)
    rw [Nat.testBit_and]
    cases e : t.testBit k
    · rfl
    · have hk : k < 32 := by
        rcases Nat.lt_or_ge k 32 with q | q
        · exact q
        · rw [bits_of_lt ht q] at e; cases e
      rw [(sdiff_zero ht (Nat.le_refl 32)).mp h k hk e]
      rfl
  rw [← e]
  exact Nat.and_le_right
theorem and_m1 {x : Nat} (h : x < 2 ^ 31) : nI x &&& (-1) = nI x := by
  show nI x &&& nI 4294967295 = nI x
  rw [nI_and]
  congr 1
  refine Nat.eq_of_testBit_eq (fun k => ?_)
  rw [Nat.testBit_and, tb_all]
  by_cases q : k < 32
  · rw [decide_eq_true q, Bool.and_true]
  · rw [bits_of_lt h (by omega), Bool.false_and]
section SW
variable {W0 : AW} {nb rest : Nat} {brk : Nat → Nat} {hd fit : Nat → Bool}
/-- what stays as it is through the sweeps -/
def SwB (W0 : AW) (nb : Nat) (brk : Nat → Nat) (hd : Nat → Bool) : Prop := W0.1 0 0 35 = nI nb ∧ ∀ t, t < 2 ^ nb → W0.1 0 40 t = nI (brk t) ∧ W0.1 0 41 t = nI (bN (hd t))
def SwI (W0 W : AW) (nb : Nat) (th : Nat → Bool) : Prop := KM W0 W ∧ (∀ a, a ≠ 42 → W.1 0 a = W0.1 0 a) ∧ ∀ u, u < 2 ^ nb → decide (W.1 0 42 u = -9) = th u
theorem M_s190 {k96 : Int32 → AW → Option (Int32 × AW)} {k104 : Int32 → Int32 → AW → Option (Int32 × AW)} {W : AW} {v1 v2 : Int32} {t x : Nat} {th : Nat → Bool} (hI : SwI W0 W nb th) (hnb : nb ≤ 10) (ht : t < 2 ^ nb) (hx : x < 2 ^ 31) :
    mX6_isShown_190 k96 k104 v1 v2 (nI t) (nI x) W = if th t = true ∧ x ≠ 0 then k104 1 (nI (t + 1)) (am_set W 0 42 t 1) else k104 v2 (nI (t + 1)) W := by
  have hpw := pow_nb hnb
  have e212 : ∀ (v : Int32) (V : AW), mX6_isShown_212 k96 k104 v1 v (nI t) V = k104 v (nI (t + 1)) V := fun v V => by
    unfold mX6_isShown_212
    rw [nm_mk, show nI t + 1 = nI (t + 1) from nI_add t 1]
  have eis : mX6_isThere (nI t) W = some (nI (bN (th t)), W) := by rw [M_isThere (show t < 1024 by omega) rfl, hI.2.2 t ht]
  unfold mX6_isShown_190
  rw [eis, cl_mk]
  cases q : th t
  · rw [if_pos (show nI (bN false) = 0 from rfl), e212, if_neg (fun z => by cases z.1)]
  · rw [if_neg (show ¬ (nI (bN true) = 0) by decide)]
    by_cases z : x = 0
    · rw [if_pos (show nI x = 0 by rw [z]; rfl), e212, if_neg (fun y => y.2 z)]
    · rw [if_neg (show ¬ (nI x = 0) from ne_nI (b := 0) hx (by decide) z), wr_in (show t < 1024 by omega) (by decide), e212, if_pos ⟨rfl, z⟩]
theorem M_s124 (hB : SwB W0 nb brk hd) {k96 : Int32 → AW → Option (Int32 × AW)} {k104 : Int32 → Int32 → AW → Option (Int32 × AW)} {W : AW} {v2 : Int32} {t : Nat} {th : Nat → Bool} (hI : SwI W0 W nb th) (hnb : nb ≤ 10) (hrest : rest < 2 ^ 10) (ht : t < 2 ^ nb) :
    mX6_isShown_124 k96 k104 (nI rest) v2 (nI t) FU (nI (sdiff rest t)) (nI t) W = if th t = true ∧ mf8 rest brk (2 ^ nb) th t = true then k104 1 (nI (t + 1)) (am_set W 0 42 t 1) else k104 v2 (nI (t + 1)) W := by
  have hpw := pow_nb hnb
  have o0l : sdiff rest t < 2 ^ 10 := sdiff_lt hrest
  have eis : ∀ u, u < 2 ^ nb → mX6_isThere (nI u) W = some (nI (bN (th u)), W) := fun u hu => by rw [M_isThere (show u < 1024 by omega) rfl, hI.2.2 u hu]
  have h35 : W.1 0 0 35 = nI nb := by rw [hI.2.1 0 (by decide)]; exact hB.1
  cases q : th t
  · obtain ⟨n, hn⟩ : ∃ n, FU = n + 1 := ⟨FU - 1, by have := FU_le; omega⟩
    have e190 : ∀ x, x < 2 ^ 31 → mX6_isShown_190 k96 k104 (nI rest) v2 (nI t) (nI x) W = k104 v2 (nI (t + 1)) W := fun x hx => by
      rw [M_s190 hI hnb ht hx, if_neg (fun z => by rw [q] at z; cases z.1)]
    rw [if_neg (fun z => by cases z.1), hn, mX6_isShown_124, h35, sh_nb hnb, if_neg (nI_ge ht (by omega))]
    by_cases z : sdiff rest t = 0
    · rw [if_pos (show nI (sdiff rest t) = 0 by rw [z]; rfl), e190 _ (by omega)]
    · rw [if_neg (show ¬ (nI (sdiff rest t) = 0) from ne_nI (b := 0) (by omega) (by decide) z), eis t ht, cl_mk, q, if_pos (show nI (bN false) = 0 from rfl), e190 _ (by omega)]
  · -- it is there: the fold from t on
    have ol : ∀ n, owN (fun u => th u && decide (sdiff t u = 0)) (fun u => brk u ^^^ 4294967295) (sdiff rest t) n < 2 ^ 10 := fun n => Nat.lt_of_le_of_lt (owN_le n) o0l
    have hex : ∃ n, t ≤ n ∧ (n = 2 ^ nb ∨ owN (fun u => th u && decide (sdiff t u = 0)) (fun u => brk u ^^^ 4294967295) (sdiff rest t) n = 0) := ⟨2 ^ nb, by omega, Or.inl rfl⟩
    obtain ⟨E, ⟨hE1, hE⟩, hmin⟩ := pk_least _ hex
    have hEZ : E ≤ 2 ^ nb := by
      rcases Nat.lt_or_ge (2 ^ nb) E with y | y
      · exact absurd ⟨by omega, Or.inl rfl⟩ (hmin _ y)
      · exact y
    have ow0 : ∀ n, n ≤ t → owN (fun u => th u && decide (sdiff t u = 0)) (fun u => brk u ^^^ 4294967295) (sdiff rest t) n = sdiff rest t := by
      intro n
      induction n with
      | zero => intro _; rfl
      | succ n ih =>
        intro hn
        show (if (th n && decide (sdiff t n = 0)) = true then owN (fun u => th u && decide (sdiff t u = 0)) (fun u => brk u ^^^ 4294967295) (sdiff rest t) n &&& (brk n ^^^ 4294967295) else owN (fun u => th u && decide (sdiff t u = 0)) (fun u => brk u ^^^ 4294967295) (sdiff rest t) n) = _
        rw [if_neg (fun z => by
          rw [Bool.and_eq_true, decide_eq_true_eq] at z
          have := sd_le (by omega) z.2
          omega)]
        exact ih (by omega)
    have run : mX6_isShown_124 k96 k104 (nI rest) v2 (nI t) FU (nI (sdiff rest t)) (nI t) W = mX6_isShown_190 k96 k104 (nI rest) v2 (nI t) (nI (owN (fun u => th u && decide (sdiff t u = 0)) (fun u => brk u ^^^ 4294967295) (sdiff rest t) E)) W := by
      have := loopE (fun n (s : Int32 × Int32) => mX6_isShown_124 k96 k104 (nI rest) v2 (nI t) n s.1 s.2 W) (E - t) (fun k => (nI (owN (fun u => th u && decide (sdiff t u = 0)) (fun u => brk u ^^^ 4294967295) (sdiff rest t) (t + k)), nI (t + k))) (mX6_isShown_190 k96 k104 (nI rest) v2 (nI t) (nI (owN (fun u => th u && decide (sdiff t u = 0)) (fun u => brk u ^^^ 4294967295) (sdiff rest t) E)) W) ?_ ?_ FU 0 (Nat.zero_le _) (FU_gt (by omega))
      · dsimp only at this
        rw [Nat.add_zero, ow0 t (Nat.le_refl t)] at this
        exact this
      · intro n k hk
        have hu : t + k < 2 ^ nb := by omega
        have hno : owN (fun u => th u && decide (sdiff t u = 0)) (fun u => brk u ^^^ 4294967295) (sdiff rest t) (t + k) ≠ 0 := fun z => hmin (t + k) (by omega) ⟨by omega, Or.inr z⟩
        have es : owN (fun u => th u && decide (sdiff t u = 0)) (fun u => brk u ^^^ 4294967295) (sdiff rest t) (t + (k + 1)) = if (th (t + k) && decide (sdiff t (t + k) = 0)) = true then owN (fun u => th u && decide (sdiff t u = 0)) (fun u => brk u ^^^ 4294967295) (sdiff rest t) (t + k) &&& (brk (t + k) ^^^ 4294967295) else owN (fun u => th u && decide (sdiff t u = 0)) (fun u => brk u ^^^ 4294967295) (sdiff rest t) (t + k) := rfl
        have hl := ol (t + k)
        generalize owN (fun u => th u && decide (sdiff t u = 0)) (fun u => brk u ^^^ 4294967295) (sdiff rest t) (t + (k + 1)) = o2 at *
        generalize owN (fun u => th u && decide (sdiff t u = 0)) (fun u => brk u ^^^ 4294967295) (sdiff rest t) (t + k) = o1 at *
        have e181 : ∀ s0 : Int32, nI o1 &&& s0 = nI o2 → mX6_isShown_181 k96 k104 (mX6_isShown_124 k96 k104 (nI rest) v2 (nI t) n) (nI rest) v2 (nI t) (nI (t + k)) s0 (nI o1) W = mX6_isShown_124 k96 k104 (nI rest) v2 (nI t) n (nI o2) (nI (t + (k + 1))) W := fun s0 hs0 => by
          unfold mX6_isShown_181
          rw [nm_mk, nm_mk, hs0, show nI (t + k) + 1 = nI (t + (k + 1)) from nI_add (t + k) 1]
        dsimp only
        rw [mX6_isShown_124, h35, sh_nb hnb, if_neg (nI_ge hu (by omega)), if_neg (show ¬ (nI o1 = 0) from ne_nI (b := 0) (by omega) (by decide) hno), eis t ht, cl_mk, q, if_neg (show ¬ (nI (bN true) = 0) by decide), eis _ hu, cl_mk]
        unfold mX6_isShown_180
        cases y : th (t + k)
        · rw [if_pos (show nI (bN false) = 0 from rfl)]
          refine e181 _ ?_
          rw [y, Bool.false_and, if_neg (by decide)] at es
          rw [es, and_m1 (by omega)]
        · rw [if_neg (show ¬ (nI (bN true) = 0) by decide), show nI t &&& (nI (t + k) ^^^ (-1)) = nI (sdiff t (t + k)) from nI_sdiff _ _]
          have hsl : sdiff t (t + k) < 2 ^ 10 := sdiff_lt (show t < 2 ^ 10 by omega)
          by_cases x : sdiff t (t + k) = 0
          · rw [if_neg (show ¬ (nI (sdiff t (t + k)) ≠ 0) from fun z => z (by rw [x]; rfl)), rd_in (show t + k < 1024 by omega) (by decide), hI.2.1 40 (by decide), (hB.2 _ hu).1]
            refine e181 _ ?_
            rw [y, decide_eq_true x, if_pos (show (true && true) = true from rfl)] at es
            rw [es, show nI (brk (t + k)) ^^^ (-1) = nI (brk (t + k) ^^^ 4294967295) from nI_xor _ _, nI_and]
          · rw [if_pos (show nI (sdiff t (t + k)) ≠ 0 from ne_nI (b := 0) (by omega) (by decide) x)]
            refine e181 _ ?_
            rw [decide_eq_false x, Bool.and_false, if_neg (by decide)] at es
            rw [es, and_m1 (by omega)]
      · intro n
        dsimp only
        rw [show t + (E - t) = E by omega, mX6_isShown_124, h35, sh_nb hnb]
        by_cases y : nI (2 ^ nb) ≤ nI E
        · rw [if_pos y]
        · rw [if_neg y]
          have hz : owN (fun u => th u && decide (sdiff t u = 0)) (fun u => brk u ^^^ 4294967295) (sdiff rest t) E = 0 := by
            rcases hE with x | x
            · exact absurd (nI_le (by omega) (by omega)) y
            · exact x
          rw [hz, if_pos (show nI 0 = 0 from rfl)]
    rw [run, M_s190 hI hnb ht (by have := ol E; omega), q]
    have emf : mf8 rest brk (2 ^ nb) th t = true ↔ owN (fun u => th u && decide (sdiff t u = 0)) (fun u => brk u ^^^ 4294967295) (sdiff rest t) E ≠ 0 := by
      unfold mf8 mfB
      rw [msN_false (n := 0) rfl (Nat.zero_le _), Bool.or_false]
      constructor
      · intro h z
        rw [owN_zero z hEZ] at h
        cases h
      · intro h
        have : E = 2 ^ nb := by
          rcases hE with x | x
          · exact x
          · exact absurd x h
        rw [← this, decide_eq_false h]
        rfl
    by_cases z : mf8 rest brk (2 ^ nb) th t = true
    · rw [if_pos ⟨rfl, emf.mp z⟩, if_pos ⟨rfl, z⟩]
    · rw [if_neg (fun y => z (emf.mpr y.2)), if_neg (fun y => z y.2)]
theorem M_s104 (hB : SwB W0 nb brk hd) {k96 : Int32 → AW → Option (Int32 × AW)} (hnb : nb ≤ 10) (hrest : rest < 2 ^ 10) : ∀ (e t n n0 : Nat) (W : AW) (th : Nat → Bool) (more : Bool), 2 ^ nb = t + e → e < n → SwI W0 W nb th → GoodG fit rest brk (2 ^ nb) th → (more = false → ∀ u, u < t → th u = true → mf8 rest brk (2 ^ nb) th u = false) → cntF th (2 ^ nb) + bN more ≤ n0 →
    ∃ W2 th2 more2, mX6_isShown_104 k96 (nI rest) n (nI (bN more)) (nI t) W = k96 (nI (bN more2)) W2 ∧ SwI W0 W2 nb th2 ∧ GoodG fit rest brk (2 ^ nb) th2 ∧ (more2 = false → ∀ u, u < 2 ^ nb → th2 u = true → mf8 rest brk (2 ^ nb) th2 u = false) ∧ cntF th2 (2 ^ nb) + bN more2 ≤ n0 := by
  have hpw := pow_nb hnb
  intro e
  induction e with
  | zero =>
    intro t n n0 W th more he hn hI hG hm hc
    obtain ⟨n, rfl⟩ : ∃ k, n = k + 1 := ⟨n - 1, by omega⟩
    have e2 : t = 2 ^ nb := by omega
    subst e2
    refine ⟨W, th, more, ?_, hI, hG, hm, hc⟩
    rw [mX6_isShown_104, hI.2.1 0 (by decide), hB.1, sh_nb hnb, if_pos (nI_le (Nat.le_refl _) (by omega))]
  | succ e ih =>
    intro t n n0 W th more he hn hI hG hm hc
    obtain ⟨n, rfl⟩ : ∃ k, n = k + 1 := ⟨n - 1, by omega⟩
    have ht : t < 2 ^ nb := by omega
    have e124 := M_s124 (k96 := k96) (k104 := mX6_isShown_104 k96 (nI rest) n) (v2 := nI (bN more)) hB hI hnb hrest ht
    have head : mX6_isShown_104 k96 (nI rest) (n + 1) (nI (bN more)) (nI t) W = if th t = true ∧ mf8 rest brk (2 ^ nb) th t = true then mX6_isShown_104 k96 (nI rest) n 1 (nI (t + 1)) (am_set W 0 42 t 1) else mX6_isShown_104 k96 (nI rest) n (nI (bN more)) (nI (t + 1)) W := by
      rw [mX6_isShown_104, hI.2.1 0 (by decide), hB.1, sh_nb hnb, if_neg (nI_ge ht (by omega)), show nI rest &&& (nI t ^^^ (-1)) = nI (sdiff rest t) from nI_sdiff _ _, nm_mk, e124]
    rw [head]
    by_cases z : th t = true ∧ mf8 rest brk (2 ^ nb) th t = true
    · rw [if_pos z]
      have hsub : ∀ u, (th u && decide (u ≠ t)) = true → th u = true := fun u y => by rw [Bool.and_eq_true] at y; exact y.1
      refine ih (t + 1) n n0 (am_set W 0 42 t 1) (fun u => th u && decide (u ≠ t)) true (by omega) (by omega) ⟨hI.1.set (Or.inl (by decide)), fun a ha => by rw [am_get_row (Or.inr ha)]; exact hI.2.1 a ha, fun u hu => ?_⟩ ⟨fun u hu y => hG.1 u hu (hsub u y), fun S hS u hu y => ?_⟩ (fun y => by cases y) ?_
      · show decide ((am_set W 0 42 t 1).1 0 42 u = -9) = (th u && decide (u ≠ t))
        by_cases x : u = t
        · rw [x, am_get_self, decide_eq_false (show ¬ ((1 : Int32) = -9) by decide), decide_eq_false (show ¬ (t ≠ t) from fun y => y rfl), Bool.and_false]
        · rw [am_get_other x, hI.2.2 u hu, decide_eq_true x, Bool.and_true]
      · show (th u && decide (u ≠ t)) = true
        rw [hG.2 S hS u hu y, Bool.true_and]
        refine decide_eq_true (fun x => ?_)
        have h1 := (hS u hu y).2
        rw [x] at h1
        have h2 := mf8_anti (fun v hv w => hG.2 S hS v hv w) z.2
        rw [h1] at h2
        cases h2
      · have := cntF_strict (h := fun u => th u && decide (u ≠ t)) (g := th) ht (fun u _ y => hsub u y) (by show (th t && decide (t ≠ t)) = false; rw [decide_eq_false (show ¬ (t ≠ t) from fun y => y rfl), Bool.and_false]) z.1
        rw [bN_t]
        omega
    · rw [if_neg z]
      exact ih (t + 1) n n0 W th more (by omega) (by omega) hI hG (fun hm0 u hu hu2 => by
        by_cases x : u = t
        · rw [x] at hu2 ⊢
          cases y : mf8 rest brk (2 ^ nb) th t
          · rfl
          · exact absurd ⟨hu2, y⟩ z
        · exact hm hm0 u (by omega) hu2) hc
theorem M_s96 (hB : SwB W0 nb brk hd) (hnb : nb ≤ 10) (hrest : rest < 2 ^ 10) : ∀ (e n : Nat) (W : AW) (th : Nat → Bool), cntF th (2 ^ nb) ≤ e → e + 2 < n → SwI W0 W nb th → GoodG fit rest brk (2 ^ nb) th →
    ∃ W2 th2, mX6_isShown_96 (nI rest) n 1 W = some (nI (bN (lawM th2 hd (2 ^ nb))), W2) ∧ KM W0 W2 ∧ GoodG fit rest brk (2 ^ nb) th2 ∧ StabG fit rest brk (2 ^ nb) th2 := by
  have hpw := pow_nb hnb
  have last : ∀ (n : Nat) (W : AW) (th : Nat → Bool), SwI W0 W nb th → mX6_isShown_96 (nI rest) (n + 1) 0 W = some (nI (bN (lawM th hd (2 ^ nb))), W) := fun n W th hI => by
    have el := M_isLaw (hd := hd) (th := th) (W := W) (nb := nb) (by rw [hI.2.1 0 (by decide)]; exact hB.1) hnb (fun t ht => by rw [hI.2.1 41 (by decide)]; exact (hB.2 t ht).2) hI.2.2
    rw [mX6_isShown_96, if_pos rfl, el, cl_mk, zr_B]
  have one : ∀ (n : Nat) (W : AW) (th : Nat → Bool), SwI W0 W nb th → GoodG fit rest brk (2 ^ nb) th → ∃ W2 th2 more2, mX6_isShown_96 (nI rest) (n + 1) 1 W = mX6_isShown_96 (nI rest) n (nI (bN more2)) W2 ∧ SwI W0 W2 nb th2 ∧ GoodG fit rest brk (2 ^ nb) th2 ∧ (more2 = false → ∀ u, u < 2 ^ nb → th2 u = true → mf8 rest brk (2 ^ nb) th2 u = false) ∧ cntF th2 (2 ^ nb) + bN more2 ≤ cntF th (2 ^ nb) := fun n W th hI hG => by
    obtain ⟨W2, th2, more2, g⟩ := M_s104 (fit := fit) (k96 := mX6_isShown_96 (nI rest) n) hB hnb hrest (2 ^ nb) 0 FU (cntF th (2 ^ nb)) W th false (by omega) (FU_gt (by omega)) hI hG (fun _ u hu => absurd hu (Nat.not_lt_zero u)) (by rw [bN_f]; omega)
    refine ⟨W2, th2, more2, ?_, g.2⟩
    rw [mX6_isShown_96, if_neg (show ¬ ((1 : Int32) = 0) by decide)]
    exact g.1
  intro e
  induction e with
  | zero =>
    intro n W th hc hn hI hG
    obtain ⟨n, rfl⟩ : ∃ k, n = k + 2 := ⟨n - 2, by omega⟩
    obtain ⟨W2, th2, more2, g1, g2, g3, g4, g5⟩ := one (n + 1) W th hI hG
    cases more2
    · refine ⟨W2, th2, ?_, g2.1, g3, fun u hu z => ⟨g3.1 u hu z, g4 rfl u hu z⟩⟩
      rw [g1]
      exact last n W2 th2 g2
    · rw [bN_t] at g5
      omega
  | succ e ih =>
    intro n W th hc hn hI hG
    obtain ⟨n, rfl⟩ : ∃ k, n = k + 2 := ⟨n - 2, by omega⟩
    obtain ⟨W2, th2, more2, g1, g2, g3, g4, g5⟩ := one (n + 1) W th hI hG
    cases more2
    · refine ⟨W2, th2, ?_, g2.1, g3, fun u hu z => ⟨g3.1 u hu z, g4 rfl u hu z⟩⟩
      rw [g1]
      exact last n W2 th2 g2
    · rw [bN_t] at g5
      obtain ⟨W3, th3, f1, f2⟩ := ih (n + 1) W2 th2 (by omega) (by omega) g2 g3
      exact ⟨W3, th3, by rw [g1]; exact f1, f2⟩
end SW
