/-! shown: true whatever the atoms are -/
def opR (c : Nat → Nat) (row k a b : Nat) : Nat := if atmB (c k) = true then bN (row.testBit (c k - 112)) else joinF (c k) a b
theorem opR_lt {c : Nat → Nat} {row k a b : Nat} (ha : a < 2) (hb : b < 2) : opR c row k a b < 2 := by
  unfold opR
  split
  · exact bN_lt _
  · exact joinF_lt ha hb
theorem evV_cg {op op2 : Nat → Nat → Nat → Nat} {m : Nat} {c l r : Nat → Nat} (hs : ShapeOK m c l r) (h : ∀ k, k < m → op k = op2 k) : ∀ k, k < m → evV op c l r k = evV op2 c l r k := by
  have main : ∀ n k, k < n → k < m → evV op c l r k = evV op2 c l r k := by
    intro n
    induction n with
    | zero => intro k hk; omega
    | succ n ih =>
      intro k hkn hkm
      rw [evV_eq hs hkm, evV_eq hs hkm, h k hkm]
      unfold argA argB
      rcases hs k hkm with g | ⟨g, g1⟩ | ⟨g, g1, g2⟩
      · rw [kd_leaf g, if_pos rfl, if_pos rfl, if_neg (by decide), if_neg (by decide)]
      · rw [kd_pre g, ih (l k) (by omega) (by omega), if_neg (show ¬ (1 = 2) by decide), if_neg (show ¬ (1 = 2) by decide)]
      · rw [kd_jn g, ih (l k) (by omega) (by omega), ih (r k) (by omega) (by omega)]
  exact fun k hk => main (k + 1) k (Nat.lt_succ_self k) hk
section TR
variable {w : AW} {M Z : Nat} {c l r b e y : Nat → Nat}
theorem M_t91 {W : AW} {k4 k15 : Int32 → Int32 → AW → Option (Int32 × AW)} {v1 : Int32} {row p cc x z : Nat} (hp : p < 90) (hcc : isLeaf cc ∨ isPre cc ∨ isJn cc) (hx : x < 2) (hz : z < 2) (hrow : row < 16) (hnm : modB cc = false) :
    mX6_isTrue_91 k4 k15 v1 (nI row) (nI p) (nI cc) (nI x) (nI z) W = k15 (nI (if atmB cc = true then bN (row.testBit (cc - 112)) else joinF cc x z)) (nI (p + 1)) (am_set W 0 38 p (nI (if atmB cc = true then bN (row.testBit (cc - 112)) else joinF cc x z))) := by
  have hc := kinds_lt hcc
  have e186 : ∀ v : Int32, mX6_isTrue_186 k4 k15 v1 (nI row) (nI p) v W = k15 v (nI (p + 1)) (am_set W 0 38 p v) := fun v => by
    unfold mX6_isTrue_186
    rw [wr_in hp (by decide), nm_mk, show nI p + 1 = nI (p + 1) from nI_add p 1]
  have em : (1 : Int32) - nI x = nI (1 - x) := pk_sub (a := 1) (b := x) (by omega)
  have es : sdiff 1 x = 1 - x := by
    rcases (show x = 0 ∨ x = 1 by omega) with q | q
    · rw [q]; decide
    · rw [q]; decide
  have ea : decide (112 ≤ cc ∧ cc ≤ 115) = atmB cc := rfl
  unfold mX6_isTrue_91
  rw [M_isAtom W (by omega), cl_mk, ea]
  cases hh : atmB cc
  · rw [if_pos (show nI (bN false) = 0 from rfl), if_neg (show ¬ (false = true) by decide)]
    have hm2 : ¬ (cc = 91 ∨ cc = 123) := of_decide_eq_false hnm
    unfold joinF
    by_cases h1 : cc = 84
    · rw [if_neg (show ¬ (nI cc ≠ 84) from fun z => z (by rw [h1]; rfl)), e186, if_neg (by omega), if_neg (by omega), if_neg (by omega), if_pos h1]
      rfl
    rw [if_pos (show nI cc ≠ 84 from ne_nI (b := 84) (by omega) (by decide) h1)]
    by_cases h2 : cc = 70
    · rw [if_neg (show ¬ (nI cc ≠ 70) from fun z => z (by rw [h2]; rfl)), e186, if_neg (by omega), if_neg (by omega), if_neg (by omega), if_neg h1, if_neg (by omega)]
      rfl
    rw [if_pos (show nI cc ≠ 70 from ne_nI (b := 70) (by omega) (by decide) h2)]
    by_cases h3 : cc = 33
    · rw [if_neg (show ¬ (nI cc ≠ 33) from fun z => z (by rw [h3]; rfl)), em, e186, if_pos h3, es]
    rw [if_pos (show nI cc ≠ 33 from ne_nI (b := 33) (by omega) (by decide) h3)]
    by_cases h4 : cc = 38
    · rw [if_neg (show ¬ (nI cc ≠ 38) from fun z => z (by rw [h4]; rfl)), nI_and, e186, if_neg h3, if_pos h4]
    rw [if_pos (show nI cc ≠ 38 from ne_nI (b := 38) (by omega) (by decide) h4)]
    by_cases h5 : cc = 124
    · rw [if_neg (show ¬ (nI cc ≠ 124) from fun z => z (by rw [h5]; rfl)), nI_or, e186, if_neg h3, if_neg h4, if_neg (by omega), if_neg h1, if_pos h5]
    rw [if_pos (show nI cc ≠ 124 from ne_nI (b := 124) (by omega) (by decide) h5), em, nI_or, e186]
    have h6 : cc = 62 := by
      have ha2 : ¬ (112 ≤ cc ∧ cc ≤ 115) := of_decide_eq_false hh
      unfold isLeaf isPre isJn at hcc
      omega
    rw [if_neg h3, if_neg h4, if_pos h6, es]
  · have ha2 : 112 ≤ cc ∧ cc ≤ 115 := of_decide_eq_true hh
    have esh : nI row >>> nI ((cc - 112) &&& 31) &&& 1 = nI (bN (row.testBit (cc - 112))) := shr_B (by omega) (by omega)
    rw [if_neg (show ¬ (nI (bN true) = 0) by decide), if_pos rfl, show nI cc - 112 = nI (cc - 112) from pk_sub (a := cc) (b := 112) ha2.1, show nI (cc - 112) &&& 31 = nI ((cc - 112) &&& 31) from nI_and _ 31, esh, e186]
theorem M_t15 {k4 : Int32 → Int32 → AW → Option (Int32 × AW)} {v1 : Int32} {row : Nat} (hW : WorkM w M Z c l r b e y) (hs : ShapeOK M c l r) (hM1 : 1 ≤ M) (hM2 : M ≤ 90) (hrow : row < 16) (hnm : ∀ k, k < M → modB (c k) = false) :
    mX6_isTrue_15 k4 v1 (nI row) FU 0 0 w = mX6_isTrue_212 k4 (nI row) (nI (bN (decide (evV (opR c row) c l r (M - 1) = 1)))) v1 (hdW w (evV (opR c row) c l r) M) := by
  have hb : ∀ k, k < M → evV (opR c row) c l r k < 2 := fun k hk => evV_lt hs (by decide) (fun k _ a b ha hb => opR_lt ha hb) (k + 1) k (Nat.lt_succ_self k) hk
  refine loopE (fun n (s : Int32 × Int32 × AW) => mX6_isTrue_15 k4 v1 (nI row) n s.1 s.2.1 s.2.2) M (fun k => (nI (if k = 0 then 0 else evV (opR c row) c l r (k - 1)), nI k, hdW w (evV (opR c row) c l r) k)) _ ?_ ?_ FU 0 (Nat.zero_le _) (FU_gt (by omega))
  · intro n k hk
    have hWk : WorkM (hdW w (evV (opR c row) c l r) k) M Z c l r b e y := hW.c (by rw [hdW_row k 0 (by decide)]) (by rw [hdW_row k 0 (by decide)]) (fun a h1 h2 => hdW_row k a (by omega))
    obtain ⟨a1, a2, a3, a4⟩ := M_args (op := opR c row) hWk hs hM2 hk (fun j hj => setRow_in k hj)
    have hcc := kinds_of hs hk
    have hc128 := kinds_lt hcc
    obtain ⟨kp, kj⟩ := pre_kd hcc
    have ab : argA c l (evV (opR c row) c l r) k < 2 ∧ argB c r (evV (opR c row) c l r) k < 2 := by
      unfold argA argB
      rcases hs k hk with g | ⟨g, g1⟩ | ⟨g, g1, g2⟩
      · rw [kd_leaf g]; exact ⟨(show (0 : Nat) < 2 by decide), (show (0 : Nat) < 2 by decide)⟩
      · rw [kd_pre g]; exact ⟨hb _ (by omega), (show (0 : Nat) < 2 by decide)⟩
      · rw [kd_jn g]; exact ⟨hb _ (by omega), hb _ (by omega)⟩
    have e2 := evV_eq (op := opR c row) hs hk
    have w30 := (hWk.2.2.1 k hk).1
    generalize hWd : hdW w (evV (opR c row) c l r) k = W at *
    generalize hx : argA c l (evV (opR c row) c l r) k = x at *
    generalize hz : argB c r (evV (opR c row) c l r) k = z at *
    have r30 : ∀ f : Int32 → Option (Int32 × AW), rd 90 (W.1 0 30) (nI k) f = f (nI (c k)) := fun f => by rw [rd_in (by omega) (by decide), w30]
    have e91 := M_t91 (W := W) (k4 := k4) (k15 := mX6_isTrue_15 k4 v1 (nI row) n) (v1 := v1) (show k < 90 by omega) hcc ab.1 ab.2 hrow (hnm k hk)
    have e65 : mX6_isTrue_65 k4 (mX6_isTrue_15 k4 v1 (nI row) n) v1 (nI row) (nI k) (nI (c k)) (nI x) W = mX6_isTrue_91 k4 (mX6_isTrue_15 k4 v1 (nI row) n) v1 (nI row) (nI k) (nI (c k)) (nI x) (nI z) W := by
      unfold mX6_isTrue_65
      rw [M_isJn W (by omega), cl_mk, kj]
      by_cases q : kd (c k) = 2
      · obtain ⟨z1, z2, z3⟩ := a4 q
        rw [decide_eq_true q, if_neg (show ¬ (nI (bN true) = 0) by decide), rd_in (by omega) (by decide), z2, rd_in z1 (by decide), z3]
      · rw [decide_eq_false q, if_pos (show nI (bN false) = 0 from rfl), a3 q]
        rfl
    have e49 : kd (c k) ≠ 0 → mX6_isTrue_49 k4 (mX6_isTrue_15 k4 v1 (nI row) n) v1 (nI row) (nI k) (nI (c k)) W = mX6_isTrue_65 k4 (mX6_isTrue_15 k4 v1 (nI row) n) v1 (nI row) (nI k) (nI (c k)) (nI x) W := fun q => by
      obtain ⟨z1, z2, z3⟩ := a2 q
      unfold mX6_isTrue_49
      rw [rd_in (by omega) (by decide), z2, rd_in z1 (by decide), z3]
    have efin : mX6_isTrue_91 k4 (mX6_isTrue_15 k4 v1 (nI row) n) v1 (nI row) (nI k) (nI (c k)) (nI x) (nI z) W = mX6_isTrue_15 k4 v1 (nI row) n (nI (evV (opR c row) c l r k)) (nI (k + 1)) (am_set W 0 38 k (nI (evV (opR c row) c l r k))) := by
      rw [e91, e2]
      rfl
    have ehd : am_set W 0 38 k (nI (evV (opR c row) c l r k)) = hdW w (evV (opR c row) c l r) (k + 1) := by rw [← hWd]; rfl
    have es0 : (if k + 1 = 0 then 0 else evV (opR c row) c l r (k + 1 - 1)) = evV (opR c row) c l r k := by rw [if_neg (by omega), Nat.add_sub_cancel]
    dsimp only
    rw [es0, ← ehd, mX6_isTrue_15, hWk.1, if_neg (nI_ge hk (by omega)), r30, M_isPre W (by omega), cl_mk, kp]
    by_cases q1 : kd (c k) = 1
    · rw [decide_eq_true q1, if_pos (show nI (bN true) ≠ 0 by decide), e49 (by omega), e65, efin]
    · rw [decide_eq_false q1, if_neg (show ¬ (nI (bN false) ≠ 0) from fun z => z rfl), M_isJn W (by omega), cl_mk, kj]
      by_cases q2 : kd (c k) = 2
      · rw [decide_eq_true q2, if_neg (show ¬ (nI (bN true) = 0) by decide), e49 (by omega), e65, efin]
      · have q0 : kd (c k) = 0 := by
          rcases hcc with g | g | g
          · exact kd_leaf g
          · exact absurd (kd_pre g) q1
          · exact absurd (kd_jn g) q2
        rw [decide_eq_false q2, if_pos (show nI (bN false) = 0 from rfl)]
        have e65' : mX6_isTrue_65 k4 (mX6_isTrue_15 k4 v1 (nI row) n) v1 (nI row) (nI k) (nI (c k)) 0 W = mX6_isTrue_65 k4 (mX6_isTrue_15 k4 v1 (nI row) n) v1 (nI row) (nI k) (nI (c k)) (nI x) W := by
          rw [a1 q0]
          rfl
        rw [e65', e65, efin]
  · intro n
    have e26 : (hdW w (evV (opR c row) c l r) M).1 0 0 26 = nI M := by rw [hdW_row M 0 (by decide)]; exact hW.1
    have hlt := hb (M - 1) (by omega)
    dsimp only
    rw [mX6_isTrue_15, e26, if_pos (nI_le (Nat.le_refl M) (by omega)), if_neg (show ¬ M = 0 by omega)]
    by_cases q : evV (opR c row) c l r (M - 1) = 1
    · rw [q, if_neg (show ¬ (nI 1 ≠ 1) from fun z => z rfl), decide_eq_true rfl]
      rfl
    · rw [if_pos (show nI (evV (opR c row) c l r (M - 1)) ≠ 1 from ne_nI (b := 1) (by omega) (by decide) q), decide_eq_false q]
      rfl
noncomputable def trW (w : AW) (c l r : Nat → Nat) (M : Nat) : Nat → AW
  | 0 => w
  | k + 1 => hdW (trW w c l r M k) (evV (opR c k) c l r) M
theorem trW_row {a : Nat} (h : a ≠ 38) : ∀ k, (trW w c l r M k).1 0 a = w.1 0 a
  | 0 => rfl
  | k + 1 => (hdW_row M a h).trans (trW_row h k)
theorem trW_K : ∀ k, KM w (trW w c l r M k)
  | 0 => KM.rf w
  | k + 1 => (trW_K k).tr (hdW_K M)
/-- whether it holds whatever its atoms are -/
noncomputable def truB (M : Nat) (c l r : Nat → Nat) : Bool := allT (fun row => decide (evV (opR c row) c l r (M - 1) = 1)) 16
theorem M_isTrue (hW : WorkM w M Z c l r b e y) (hs : ShapeOK M c l r) (hM1 : 1 ≤ M) (hM2 : M ≤ 90) (hnm : ∀ k, k < M → modB (c k) = false) : mX6_isTrue w = some (nI (bN (truB M c l r)), trW w c l r M 16) := by
  unfold mX6_isTrue truB
  refine loopE (fun n (s : Int32 × Int32 × AW) => mX6_isTrue_4 n s.1 s.2.1 s.2.2) 16 (fun k => (nI (bN (allT (fun row => decide (evV (opR c row) c l r (M - 1) = 1)) k)), nI k, trW w c l r M k)) _ ?_ ?_ FU 0 (Nat.zero_le _) (FU_gt (by omega))
  · intro n k hk
    have hWk : WorkM (trW w c l r M k) M Z c l r b e y := hW.c (by rw [trW_row (by decide)]) (by rw [trW_row (by decide)]) (fun a h1 h2 => trW_row (by omega) k)
    dsimp only
    rw [mX6_isTrue_4, if_neg (show ¬ (16 : Int32) ≤ nI k from nI_ge (b := 16) hk (by decide)), M_t15 hWk hs hM1 hM2 hk hnm]
    unfold mX6_isTrue_212
    rw [nm_mk, nm_mk, nbN_and, show nI k + 1 = nI (k + 1) from nI_add k 1]
    rfl
  · intro n
    dsimp only
    rw [mX6_isTrue_4, if_pos (show (16 : Int32) ≤ nI 16 by decide), zr_B]
end TR
section CT
variable {m P : Nat} {c l r ph pl : Nat → Nat}
theorem msk_bit2 {h g : Nat → Bool} {p : Nat} (hp : p < P) (hh : h p = true) (hg : ∀ q, g q = true → h q = true) : (mskF g (rkF h pl P) P).testBit (rkF h pl P p) = g p := by
  apply bool_eq
  unfold mskF
  rw [tb_orF]
  constructor
  · rintro ⟨q, q1, q2⟩
    split at q2
    · rename_i z
      rw [tb_pow, decide_eq_true_eq] at q2
      rw [← rk_inj q1 hp (hg q z) hh q2]
      exact z
    · rw [Nat.zero_testBit] at q2; cases q2
  · intro z
    exact ⟨p, hp, by rw [if_pos z, tb_pow, decide_eq_true rfl]⟩
/-- of a plain sentence the bits by K are the atoms -/
theorem hq_plain (hnm : ∀ k, k < m → modB (c k) = false) (hc : ClassOK m P c l r ph) {p : Nat} (hp : p < P) : hq 0 m c ph p = atmB (c (rpF m ph p)) := by
  unfold hq hbB
  rw [if_neg (show ¬ (decide (0 = 8) = true) by decide), hnm _ (rpF_spec hc hp).1, Bool.or_false]
theorem atom_same (hs : ShapeOK m c l r) (hc : ClassOK m P c l r ph) {k j : Nat} (hk : k < m) (hj : j < m) (ha : atmB (c k) = true) (he : c k = c j) : ph k = ph j := by
  have h1 : 112 ≤ c k ∧ c k ≤ 115 := of_decide_eq_true ha
  refine (hc.2.2.2.2 k j hk hj).mpr ⟨he, fun z => ?_, fun z => ?_⟩
  · unfold isPre at z; omega
  · unfold isJn at z; omega
theorem plain_cnt (hnm : ∀ k, k < m → modB (c k) = false) (hs : ShapeOK m c l r) (hc : ClassOK m P c l r ph) : cntF (hq 0 m c ph) P ≤ 4 := by
  refine cnt_surj (q := fun a => Classical.epsilon (fun p => p < P ∧ c (rpF m ph p) = 112 + a)) (fun p hp z => ?_)
  rw [hq_plain hnm hc hp] at z
  have h1 : 112 ≤ c (rpF m ph p) ∧ c (rpF m ph p) ≤ 115 := of_decide_eq_true z
  refine ⟨c (rpF m ph p) - 112, by omega, ?_⟩
  have sp : (Classical.epsilon (fun q => q < P ∧ c (rpF m ph q) = 112 + (c (rpF m ph p) - 112))) < P ∧ c (rpF m ph (Classical.epsilon (fun q => q < P ∧ c (rpF m ph q) = 112 + (c (rpF m ph p) - 112)))) = 112 + (c (rpF m ph p) - 112) := Classical.epsilon_spec (p := fun q => q < P ∧ c (rpF m ph q) = 112 + (c (rpF m ph p) - 112)) ⟨p, hp, by omega⟩
  show (Classical.epsilon (fun q => q < P ∧ c (rpF m ph q) = 112 + (c (rpF m ph p) - 112))) = p
  generalize Classical.epsilon (fun q => q < P ∧ c (rpF m ph q) = 112 + (c (rpF m ph p) - 112)) = q at sp
  obtain ⟨y1, y2⟩ := rpF_spec hc hp
  obtain ⟨x1, x2⟩ := rpF_spec hc sp.1
  rw [← y2, ← x2]
  exact (atom_same hs hc y1 x1 z (by omega)).symm
/-- by K nothing falls -/
theorem plain_th (hnm : ∀ k, k < m → modB (c k) = false) (hc : ClassOK m P c l r ph) {Zn CL TU : Nat} {br : Nat → Nat} : (∀ th t, mfX 0 Zn CL TU (OWf 0 m P c ph pl) br th t = false) ∧ ∀ t, fitX 0 CL TU br t = true := by
  have hO : OWf 0 m P c ph pl = 0 := by
    refine zero_iff_bits.mpr (fun k => ?_)
    cases e : (OWf 0 m P c ph pl).testBit k
    · rfl
    · unfold OWf mskF at e
      rw [tb_orF] at e
      obtain ⟨p, p1, p2⟩ := e
      split at p2
      · rename_i z
        unfold owF at z
        rw [Bool.and_eq_true, hq_plain hnm hc p1] at z
        rw [z.1] at z
        cases z.2
      · rw [Nat.zero_testBit] at p2; cases p2
  refine ⟨fun th t => ?_, fun t => rfl⟩
  cases e : mfX 0 Zn CL TU (OWf 0 m P c ph pl) br th t
  · rfl
  · unfold mfX at e
    rw [mfB_iff, hO] at e
    rcases e with ⟨k, k1, -⟩ | ⟨z, -⟩
    · have : sdiff 0 (clN CL TU t) = 0 := by unfold sdiff; exact Nat.zero_and _
      rw [this, Nat.zero_testBit] at k1
      cases k1
    · cases z
/-- the types of a plain sentence by K are the rows of its atoms -/
theorem plain_law (hnm : ∀ k, k < m → modB (c k) = false) (hs : ShapeOK m c l r) (hc : ClassOK m P c l r ph) (hm : 1 ≤ m) : (∀ t, t < 2 ^ cntF (hq 0 m c ph) P → whT 0 m P c l r ph pl t = 1) ↔ truB m c l r = true := by
  have hh : ∀ k, k < m → atmB (c k) = true → ph k < P ∧ hq 0 m c ph (ph k) = true ∧ c (rpF m ph (ph k)) = c k := fun k hk z => by
    have h1 := hc.1 k hk
    obtain ⟨y1, y2⟩ := rpF_spec hc h1
    have e : c (rpF m ph (ph k)) = c k := ((hc.2.2.2.2 _ _ y1 hk).mp y2).1
    exact ⟨h1, by rw [hq_plain hnm hc h1, e]; exact z, e⟩
  have opsame : ∀ t row, (∀ k, k < m → atmB (c k) = true → t.testBit (rkF (hq 0 m c ph) pl P (ph k)) = row.testBit (c k - 112)) → whT 0 m P c l r ph pl t = evV (opR c row) c l r (m - 1) := fun t row h => by
    unfold whT
    refine evV_cg hs (fun k hk => ?_) (m - 1) (by omega)
    funext a b
    unfold opT opR
    have eh : hbB (decide (0 = 8)) (c k) = atmB (c k) := by
      unfold hbB
      rw [if_neg (show ¬ (decide (0 = 8) = true) by decide), hnm k hk, Bool.or_false]
    rw [eh]
    by_cases z : atmB (c k) = true
    · rw [if_pos z, if_pos z, h k hk z]
    · rw [if_neg z, if_neg z]
  constructor
  · intro H
    refine allT_iff.mpr (fun row _ => decide_eq_true ?_)
    have e := opsame (mskF (fun p => hq 0 m c ph p && row.testBit (c (rpF m ph p) - 112)) (rkF (hq 0 m c ph) pl P) P) row (fun k hk z => by
      obtain ⟨h1, h2, h3⟩ := hh k hk z
      rw [msk_bit2 h1 h2 (fun q y => by rw [Bool.and_eq_true] at y; exact y.1), h2, h3, Bool.true_and])
    rw [← e]
    exact H _ (msk_lt (fun q y => by rw [Bool.and_eq_true] at y; exact y.1) (Nat.le_refl _))
  · intro H t _
    have hrow : orF (fun a => if (exB (fun p => hq 0 m c ph p && (decide (c (rpF m ph p) = 112 + a) && t.testBit (rkF (hq 0 m c ph) pl P p))) P) = true then 2 ^ a else 0) 4 < 2 ^ 4 := orF_lt (fun a ha => by
      split
      · exact pow_lt_of ha
      · exact Nat.two_pow_pos 4)
    rw [opsame t (orF (fun a => if (exB (fun p => hq 0 m c ph p && (decide (c (rpF m ph p) = 112 + a) && t.testBit (rkF (hq 0 m c ph) pl P p))) P) = true then 2 ^ a else 0) 4) (fun k hk z => by
      obtain ⟨h1, h2, h3⟩ := hh k hk z
      have h4 : 112 ≤ c k ∧ c k ≤ 115 := of_decide_eq_true z
      apply bool_eq
      rw [tb_orF]
      constructor
      · intro y
        refine ⟨c k - 112, by omega, ?_⟩
        rw [if_pos (exB_iff.mpr ⟨ph k, h1, by rw [h2, h3, decide_eq_true (by omega), y]; rfl⟩), tb_pow, decide_eq_true rfl]
      · rintro ⟨a, a1, a2⟩
        split at a2
        · rename_i y
          rw [tb_pow, decide_eq_true_eq] at a2
          obtain ⟨p, p1, p2⟩ := exB_iff.mp y
          rw [Bool.and_eq_true, Bool.and_eq_true, decide_eq_true_eq] at p2
          obtain ⟨p3, p4, p5⟩ := p2
          obtain ⟨y1, y2⟩ := rpF_spec hc p1
          have : ph k = p := by
            rw [← y2]
            exact atom_same hs hc hk y1 z (by omega)
          rw [this]
          exact p5
        · rw [Nat.zero_testBit] at a2; cases a2)]
    exact of_decide_eq_true (allT_iff.mp H _ hrow)
end CT
