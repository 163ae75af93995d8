/-! the types of one sentence, both sides -/
section TL
variable {w0 W : AW} {M Z P nb : Nat} {c l r b e y ph pl dp bp : Nat → Nat} {gr : Bool}
theorem TI.lq {L : Nat} (hI : TI w0 W (decide (L = 8)) M c b ph nb bp Z 0) (hc : ClassOK M P c l r ph) (hb : ∀ k, k < M → b k < Z) : LQ (hq L M c ph) P nb (fun j => ph (bp j)) := by
  obtain ⟨t1, t2, t3, t4, t5, t6, t7, t8, t9⟩ := hI
  refine ⟨fun j hj => ?_, fun i j hi hj z => ?_, fun p hp z => ?_⟩
  · obtain ⟨z1, z2, z3⟩ := t6 j hj
    refine ⟨hc.1 _ z1, ?_⟩
    unfold hq
    obtain ⟨y1, y2⟩ := rpF_spec hc (hc.1 _ z1)
    rw [hb_same hc y1 z1 y2]
    exact z3.1
  · rcases Nat.lt_trichotomy i j with q | q | q
    · exact absurd z (t7 i j q hj).1
    · exact q
    · exact absurd z.symm (t7 j i q hi).1
  · obtain ⟨y1, y2⟩ := rpF_spec hc hp
    obtain ⟨j, j1, j2, -⟩ := (t9 _ y1).1 ⟨z, Or.inl (hb _ y1)⟩
    exact ⟨j, j1, j2.trans y2⟩
theorem TI.tb {L : Nat} (hI : TI w0 W (decide (L = 8)) M c b ph nb bp Z 0) (hc : ClassOK M P c l r ph) (hb : ∀ k, k < M → b k < Z) (hW : WorkM w0 M Z c l r b e y) : TB W (decide (L = 8)) M Z nb c l r b e y ph (jqF nb (fun j => ph (bp j))) bp := by
  have hk := hI.lq hc hb
  have hWW := hI.work hW
  obtain ⟨t1, t2, t3, t4, t5, t6, t7, t8, t9⟩ := hI
  refine ⟨hWW, t4, fun j hj => ⟨(t6 j hj).1, (t6 j hj).2.1⟩, fun k hkM => ?_⟩
  by_cases z : hbB (decide (L = 8)) (c k) = true
  · obtain ⟨j, j1, j2, j3⟩ := (t9 k hkM).1 ⟨z, Or.inl (hb k hkM)⟩
    have e1 : jqF nb (fun j => ph (bp j)) (ph k) = j := by rw [← j2]; exact jq_at hk j1
    rw [if_pos z, e1]
    exact j3
  · rw [if_neg z]
    exact (t9 k hkM).2 (fun y => z y.1)
/-- in one sentence the class's bit is the number in the model's list -/
theorem TI.rank {L : Nat} (hI : TI w0 W (decide (L = 8)) M c b ph nb bp Z 0) (hT : TreeOK M c l r b e y) (hp : PartOK M P c l r b ph pl dp) (hb : ∀ k, k < M → b k < Z) : ∀ j, j < nb → rkF (hq L M c ph) pl P (ph (bp j)) = j := by
  have hc := hp.cls
  have hk := hI.lq hc hb
  obtain ⟨t1, t2, t3, t4, t5, t6, t7, t8, t9⟩ := hI
  have hpl : ∀ j, j < nb → pl (ph (bp j)) = b (bp j) := fun j hj => by
    obtain ⟨z1, z2, z3⟩ := t6 j hj
    obtain ⟨k, k1, k2, k3⟩ := hp.2.1 (ph (bp j)) (hc.1 _ z1)
    have h1 := t8 j hj k k1 k2
    have h2 := hp.2.2.1 (bp j) z1
    omega
  have hlist : ListOK (hq L M c ph) P nb (fun j => ph (bp j)) pl := by
    refine ⟨hk.1, fun i j hij hj => ?_, hk.2.2⟩
    have hi : i < nb := by omega
    show pl (ph (bp i)) < pl (ph (bp j))
    rw [hpl i hi, hpl j hj]
    obtain ⟨h1, h2⟩ := t7 i j hij hj
    rcases Nat.lt_or_ge (b (bp i)) (b (bp j)) with q | q
    · exact q
    · have e1 : b (bp i) = b (bp j) := by omega
      exact absurd (read_uniq hT hc _ (bp i) (bp j) (Nat.lt_succ_self _) (t6 i hi).1 (t6 j hj).1 (fun t _ => by rw [e1])).1 h1
  exact fun j hj => list_rank hlist hj
end TL
section LG
theorem X_log_t {k : Nat} (w : AW) (hk : k < 8) : mX5_isLogic (nI k) w = some (nI 1, w) := by
  have c1 : ¬ nI k < nI 0 := nI_nlt (Nat.zero_le k) (by omega)
  have c2 : ¬ nI 8 ≤ nI k := nI_ge hk (by decide)
  simp only [mX5_isLogic, c1, c2, cl_mk, nm_mk, pu_mk, lit, if_true, if_false, ne_eq, not_false_eq_true, not_true_eq_false, nI_add, nI_or, nI_and, Bool.false_eq_true, ne01, ne10, nI_m1', Nat.or_zero]
theorem X_log_f {v : Int32} (w : AW) (hv : ¬ ∃ k, k < 8 ∧ v = nI k) : mX5_isLogic v w = some (nI 0, w) := by
  rcases pk_ix v (n := 8) (by decide) with q | q | ⟨k, hk, rfl⟩
  · have c1 : v < nI 0 := q
    simp only [mX5_isLogic, c1, cl_mk, nm_mk, pu_mk, lit, if_true, if_false, ne_eq, not_false_eq_true, not_true_eq_false, nI_add, nI_or, nI_and, Bool.false_eq_true, ne01, ne10, nI_m1', Nat.or_zero]
  · by_cases c1 : v < nI 0
    · simp only [mX5_isLogic, c1, cl_mk, nm_mk, pu_mk, lit, if_true, if_false, ne_eq, not_false_eq_true, not_true_eq_false, nI_add, nI_or, nI_and, Bool.false_eq_true, ne01, ne10, nI_m1', Nat.or_zero]
    · simp only [mX5_isLogic, c1, q, cl_mk, nm_mk, pu_mk, lit, if_true, if_false, ne_eq, not_false_eq_true, not_true_eq_false, nI_add, nI_or, nI_and, Bool.false_eq_true, ne01, ne10, nI_m1', Nat.or_zero]
  · exact absurd ⟨k, hk, rfl⟩ hv
theorem M_log_t {k : Nat} (w : AW) (hk : k < 8) : mX6_isLogic (nI k) w = some (nI 1, w) := by
  have e := M_in_t w (show k < 7 + 1 from hk) (by decide)
  simp only [Nat.add_sub_cancel] at e
  simp only [mX6_isLogic, e, zr_1, cl_mk, nm_mk, pu_mk, lit, if_true, if_false, ne_eq, not_false_eq_true, not_true_eq_false, nI_add, nI_or, nI_and, Bool.false_eq_true, ne01, ne10, nI_m1', Nat.or_zero]
theorem M_log_f {v : Int32} (w : AW) (hv : ¬ ∃ k, k < 8 ∧ v = nI k) : mX6_isLogic v w = some (nI 0, w) := by
  have e := M_in_f (n := 7 + 1) w hv (by decide) (by decide)
  simp only [Nat.add_sub_cancel] at e
  simp only [mX6_isLogic, e, zr_0, cl_mk, nm_mk, pu_mk, lit, if_true, if_false, ne_eq, not_false_eq_true, not_true_eq_false, nI_add, nI_or, nI_and, Bool.false_eq_true, ne01, ne10, nI_m1', Nat.or_zero]
end LG
section BT
variable {wX w1 : AW} {i L : Nat} {d : SD}
theorem SDok.bZ (hd : SDok d) {k : Nat} (hk : k < sdM d) : sdb d k < sdZ d := by
  have h1 := len_pos hd.2.2.2.2.2.1 (k + 1) k (Nat.lt_succ_self k) hk
  have h2 := hd.2.2.2.2.2.2.2.2.2.2.2.1 k hk
  omega
theorem SDok.plZ (hd : SDok d) {p : Nat} (hp : p < sdP d) : sdp d p < 1000 := by
  obtain ⟨k, k1, k2, k3⟩ := hd.2.2.2.2.2.2.1.2.1 p hp
  have h1 := hd.bZ k1
  have h2 := hd.2.2.2.2.1
  omega
/-- too many bits, on both sides -/
def BothNo (wX w1 : AW) (o L : Nat) (gr : Bool) : Prop := mX3_sortOut o (nI L) wX = some (nI 0, wX) ∧ ∃ W2, mX6_tells (nI (bN gr)) w1 = some (nI 0, W2) ∧ KM w1 W2
/-- both sorted out: f turns the model's types to the class's -/
def BothYes (wX w1 : AW) (o L : Nat) (f : Nat → Nat) : Prop := ∃ (wX2 W2 W3 W4 : AW) (nb rho CL TU OW mu my : Nat) (pi br wh inn : Nat → Nat) (hd : Nat → Bool),
  nb ≤ 10 ∧ rho ≤ 2 ^ nb ∧ BitOK nb pi f ∧ MskOK nb pi CL TU OW mu my ∧ BrOK nb pi f mu my br inn ∧ (∀ t, wh t < 2) ∧ (∀ t, t < 2 ^ nb → decide (wh (f t) = 1) = hd t) ∧
  mX3_countBits o (nI L) wX = some (nI nb, wX) ∧
  mX3_sortOut o (nI L) wX = some (nI 1, wX2) ∧ KX wX wX2 ∧ SO wX2 L (2 ^ nb) CL TU OW br wh rho ∧
  mX6_tells (nI (bN false)) w1 = some (nI 1, W2) ∧ KM w1 W2 ∧ W2.1 0 0 35 = nI nb ∧ mX6_types W2 = some ((), W3) ∧ mX6_rounds (nI L) W3 = some (nI rho, W4) ∧ KM w1 W4 ∧
  TYM W4 nb mu my inn hd (2 ^ nb) ∧ (∀ u, u < 2 ^ nb → W4.1 0 42 u = flV (fitM L mu my inn) (mfM L mu my inn (2 ^ nb)) rho u)
theorem nm_false {gr : Bool} {cc : Nat} (h0 : gr = false) (h : hbB gr cc = false) : modB cc = false := by
  subst h0
  unfold hbB at h
  rw [Bool.or_eq_false_iff] at h
  exact h.2
/-- the common core: given the class's data and the model's work area of the same nodes -/
theorem both_core {Q : (Nat → Nat) → Prop} {o m P Z : Nat} {c l r l0 r0 b e y ph pl dp : Nat → Nat} (hX : SenP wX o m P c l r ph pl dp) (hLn : LenOK o P) (hT : TreeOK m c l0 r0 b e y) (hc0 : ClassOK m P c l0 r0 ph) (hs : ShapeOK m c l r) (hc : ClassOK m P c l r ph) (hP : P ≤ 81) (hm : 1 ≤ m) (hm2 : m ≤ 90) (hlast : ph (m - 1) = P - 1) (ho : o ≠ 4) (hpl : ∀ p, p < P → pl p < 1000) (hW : WorkM w1 m Z c l r b e y) (hZ : Z ≤ 420) (he : ∀ k, k < m → e k ≤ Z) (hy : ∀ j, y j < 256) (hL : L < 8)
    (hf : ∀ nb bp W, TI w1 W (decide (L = 8)) m c b ph nb bp Z 0 → ∃ f, BitOK nb (fun j => rkF (hq L m c ph) pl P (ph (bp j))) f ∧ Q f) : BothNo wX w1 o L false ∨ ∃ f, Q f ∧ BothYes wX w1 o L f := by
  have d8 : decide (L = 8) = false := decide_eq_false (by omega)
  have hb : ∀ k, k < m → b k < Z := fun k hk => by
    have h1 := len_pos hT (k + 1) k (Nat.lt_succ_self k) hk
    have h2 := he k hk
    omega
  obtain ⟨s1, s2⟩ := X_sortOut hX hLn hc hs hP hm hlast ho (show L < 9 by omega) hpl
  have hte := M_tells (gr := decide (L = 8)) hW hT hc0 hm2 hZ he hy
  have ecn : cntF (fun q => hbB (decide (L = 8)) (c (rpF m ph q))) P = cntF (hq L m c ph) P := rfl
  rcases hte with ⟨W2, nb, bp, t1, hI⟩ | ⟨W2, t1, t2, t3⟩
  · refine Or.inr ?_
    obtain ⟨f, hbit, hQ⟩ := hf nb bp W2 hI
    have hk := hI.lq hc hb
    have hcn := hk.cnt
    have hnb := hI.2.2.2.2.1
    have hbp : ∀ j, j < nb → bp j < m := fun j hj => (hI.2.2.2.2.2.1 j hj).1
    have hpw := pow_nb hnb
    have hmk := msk_same (pl := pl) hk hc hbp hL
    have hbr := br_same hk hs hc hbit hbp hL
    have hTB := hI.tb hc hb hW
    have hbt : ∀ k, k < m → jqF nb (fun j => ph (bp j)) (ph k) < 10 := fun k _ => jq_lt hnb
    have hmu : muN c bp nb < 2 ^ 10 := mask_lt hnb
    have hmy : myN c bp nb < 2 ^ 10 := mask_lt hnb
    obtain ⟨W3, y1, y2, y3⟩ := M_types hs hm hm2 hnb hbt (fun k _ z => nm_false d8 z) hTB
    obtain ⟨rho, r1, r2, r3⟩ := any_end (fit := fitM L (muN c bp nb) (myN c bp nb) (fun u => inN c l bp (evV (opT (decide (L = 8)) c ph (jqF nb (fun j => ph (bp j))) u) c l r) nb)) (mf := mfM L (muN c bp nb) (myN c bp nb) (fun u => inN c l bp (evV (opT (decide (L = 8)) c ph (jqF nb (fun j => ph (bp j))) u) c l r) nb) (2 ^ nb)) (2 ^ nb)
    obtain ⟨W4, v1, v2, v3, v4⟩ := M_rounds y3 hnb hmu hmy hL r1 r2 r3
    rw [d8] at r2 r3 v3 v4
    obtain ⟨wX2, x1, x2, x3⟩ := s2 (by omega) rho (by rw [hcn]; exact r1) (by rw [hcn, any_eq hbit hmk hbr hnb hL]; exact r2) (fun s hs2 => by rw [hcn, any_eq hbit hmk hbr hnb hL]; exact r3 s hs2)
    rw [hcn] at x3
    have ecb := X_countBits hX hLn hc hs hP (show L < 9 by omega)
    rw [hcn] at ecb
    have hwl : ∀ t, whT L m P c l r ph pl t < 2 := fun t => evV_lt hs (by decide) (fun k _ a b ha hb => opT_lt ha hb) _ _ (Nat.lt_succ_self _) (by omega)
    refine ⟨f, hQ, wX2, W2, W3, W4, nb, rho, CLf L m P c ph pl, TUf L m P c ph pl, OWf L m P c ph pl, muN c bp nb, myN c bp nb, _, brT L m P c l r ph pl, whT L m P c l r ph pl, _, _, hnb, r1, hbit, hmk, hbr, hwl, fun t ht => ?_, ecb, x1, x2, x3, ?_, hI.1, hI.2.2.2.1, y1, v1, (hI.1.tr y2).tr v2, v3, v4⟩
    · unfold whT
      rw [ev_same hk hs hc hbit ht (m - 1) (by omega), d8]
    · rw [d8] at t1
      exact t1
  · refine Or.inl ⟨s1 (by omega), W2, ?_, t2⟩
    rw [d8] at t1
    exact t1
theorem both_one (hd : SDok d) (hi : i < 6) (hSX : SenX wX (6 + i) (sdM d) (sdP d) (sdc d) (sdl d) (sdr d) (sdf d) (sdp d) (sdd d)) (hW : WorkM w1 (sdM d) (sdZ d) (sdc d) (sdl d) (sdr d) (sdb d) (sde d) (sdy d)) (hL : L < 8) : BothNo wX w1 (6 + i) L false ∨ BothYes wX w1 (6 + i) L id := by
  have hM := hd.2.1
  have hZ := hd.2.2.2.2.1
  have hP := hd.P40
  have hc := hd.cl
  have := both_core (Q := fun f => f = id) hSX.p (len_sen hi hP) hd.2.2.2.2.2.1 hc hd.sh hc (by omega) hd.1 (by omega) hd.2.2.2.2.2.2.2.1 (by omega) (fun p hp => hd.plZ hp) hW (by omega) hd.2.2.2.2.2.2.2.2.2.2.2.1 hd.2.2.2.2.2.2.2.2.2.2.1 hL (fun nb bp W hI => ⟨id, id_ok (hI.lq hc (fun k hk => hd.bZ hk)) (hI.rank hd.2.2.2.2.2.1 hd.2.2.2.2.2.2.1 (fun k hk => hd.bZ hk)), rfl⟩)
  rcases this with h | ⟨f, rfl, h⟩
  · exact Or.inl h
  · exact Or.inr h
end BT
