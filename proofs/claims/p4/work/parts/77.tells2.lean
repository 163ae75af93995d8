/-! the model gives bits: all nodes, all bytes -/
section T2
variable {w0 : AW} {M Z P : Nat} {c l r b e y ph : Nat → Nat} {gr : Bool}
theorem M_thead {k31 : Int32 → AW → Option (Int32 × AW)} {W : AW} {k n : Nat} {v2 : Int32} (hk : k < M) (hM : M ≤ 90) (h26 : W.1 0 0 26 = nI M) (h30 : W.1 0 30 k = nI (c k)) (hc : c k < 128) : mX6_tells_41 k31 (nI (bN gr)) v2 (n + 1) (nI k) W = mX6_tells_99 k31 (mX6_tells_41 k31 (nI (bN gr)) v2 n) (nI (bN gr)) v2 (nI k) (nI (bN (hbB gr (c k)))) W := by
  have r30 : ∀ f : Int32 → Option (Int32 × AW), rd 90 (W.1 0 30) (nI k) f = f (nI (c k)) := fun f => by rw [rd_in (by omega) (by decide), h30]
  have ea : decide (112 ≤ c k ∧ c k ≤ 115) = atmB (c k) := rfl
  rw [mX6_tells_41, h26, if_neg (nI_ge hk (by omega)), r30, M_isAtom W (by omega), cl_mk, ea]
  unfold hbB
  cases ha : atmB (c k)
  · rw [if_neg (show ¬ (nI (bN false) ≠ 0) from fun z => z rfl), Bool.false_or]
    cases gr
    · rw [if_pos (show nI (bN false) = 0 from rfl), M_isModal (by omega) hc h30, cl_mk, if_neg (show ¬ (false = true) by decide)]
      cases modB (c k)
      · rw [if_pos (show nI (bN false) = 0 from rfl)]
        rfl
      · rw [if_neg (show ¬ (nI (bN true) = 0) by decide)]
        rfl
    · rw [if_neg (show ¬ (nI (bN true) = 0) by decide), if_pos rfl]
      by_cases h1 : c k = 62
      · rw [if_pos (show nI (c k) = 62 by rw [h1]; rfl), decide_eq_true (Or.inl h1)]
        rfl
      · rw [if_neg (show ¬ nI (c k) = 62 from ne_nI (b := 62) (by omega) (by decide) h1)]
        by_cases h2 : c k = 33
        · rw [if_neg (show ¬ (nI (c k) ≠ 33) from fun z => z (by rw [h2]; rfl)), decide_eq_true (Or.inr h2)]
          rfl
        · rw [if_pos (show nI (c k) ≠ 33 from ne_nI (b := 33) (by omega) (by decide) h2), decide_eq_false (by omega)]
          rfl
  · rw [if_pos (show nI (bN true) ≠ 0 by decide), Bool.true_or]
    rfl
theorem M_tbyte {l1 r1 : Nat → Nat} (hW : WorkM w0 M Z c l1 r1 b e y) (hT : TreeOK M c l r b e y) (hc : ClassOK M P c l r ph) (hM : M ≤ 90) (hZ : Z ≤ 420) (he : ∀ k, k < M → e k ≤ Z) (hy : ∀ j, y j < 256) {k31 : Int32 → AW → Option (Int32 × AW)} {a : Nat} (ha : a < 1000) : ∀ (q k n : Nat) (W : AW) (nb : Nat) (bp : Nat → Nat), M = k + q → q < n → TI w0 W gr M c b ph nb bp a k →
    (∃ W2 nb2 bp2, mX6_tells_41 k31 (nI (bN gr)) (nI a) n (nI k) W = k31 (nI (a + 1)) W2 ∧ TI w0 W2 gr M c b ph nb2 bp2 (a + 1) 0) ∨ (∃ W2, mX6_tells_41 k31 (nI (bN gr)) (nI a) n (nI k) W = some (nI 0, W2) ∧ KM w0 W2 ∧ 11 ≤ cntF (fun q => hbB gr (c (rpF M ph q))) P) := by
  have hsh := hT.shape
  intro q
  induction q with
  | zero =>
    intro k n W nb bp hq2 hn hI
    obtain ⟨n, rfl⟩ : ∃ i, n = i + 1 := ⟨n - 1, by omega⟩
    have e2 : k = M := by omega
    subst e2
    refine Or.inl ⟨W, nb, bp, ?_, hI.next⟩
    rw [mX6_tells_41, (hI.work hW).1, if_pos (nI_le (Nat.le_refl k) (by omega)), nm_mk, show nI a + 1 = nI (a + 1) from nI_add a 1]
  | succ q ih =>
    intro k n W nb bp hq2 hn hI
    obtain ⟨n, rfl⟩ : ∃ i, n = i + 1 := ⟨n - 1, by omega⟩
    have hk : k < M := by omega
    have hWW := hI.work hW
    obtain ⟨w30, w31, w32, w33, w34⟩ := hWW.2.2.1 k hk
    have hck := kinds_lt (kinds_of hsh hk)
    have hbk : b k < 1000 := by
      have := len_pos hT M k hk hk
      have := he k hk
      omega
    have hd := M_thead (k31 := k31) (gr := gr) (n := n) (v2 := nI a) hk hM hWW.1 w30 hck
    have ev : nI k + 1 = nI (k + 1) := nI_add k 1
    have e225 : ∀ V : AW, mX6_tells_225 k31 (mX6_tells_41 k31 (nI (bN gr)) (nI a) n) (nI (bN gr)) (nI a) (nI k) V = mX6_tells_41 k31 (nI (bN gr)) (nI a) n (nI (k + 1)) V := fun V => by
      unfold mX6_tells_225
      rw [nm_mk, ev]
    rw [hd]
    unfold mX6_tells_99
    cases hh : hbB gr (c k)
    · rw [if_pos (show nI (bN false) = 0 from rfl), e225]
      exact ih (k + 1) n W nb bp (by omega) (by omega) (hI.skip (fun z => by rw [hh] at z; cases z.1))
    · rw [if_neg (show ¬ (nI (bN true) = 0) by decide), rd_in (by omega) (by decide), w33]
      by_cases hb : b k = a
      · rw [if_neg (show ¬ (nI (b k) ≠ nI a) from fun z => z (by rw [hb]))]
        rcases M_tnode (k31 := k31) (k41 := mX6_tells_41 k31 (nI (bN gr)) (nI a) n) (v1 := nI (bN gr)) hW hT hc hM hZ he hy hI hk hh hb with ⟨W2, nb2, bp2, g1, g2⟩ | ⟨W2, g1, g2, g3⟩
        · have g1' : mX6_tells_119 k31 (mX6_tells_41 k31 (nI (bN gr)) (nI a) n) (nI (bN gr)) (nI a) (nI k) FU 0 W = mX6_tells_41 k31 (nI (bN gr)) (nI a) n (nI (k + 1)) W2 := g1
          rw [g1']
          exact ih (k + 1) n W2 nb2 bp2 (by omega) (by omega) g2
        · exact Or.inr ⟨W2, g1, g2, g3⟩
      · rw [if_pos (ne_nI (by omega) (by omega) hb), e225]
        exact ih (k + 1) n W nb bp (by omega) (by omega) (hI.skip (fun z => hb z.2))
theorem M_tells31 {l1 r1 : Nat → Nat} (hW : WorkM w0 M Z c l1 r1 b e y) (hT : TreeOK M c l r b e y) (hc : ClassOK M P c l r ph) (hM : M ≤ 90) (hZ : Z ≤ 420) (he : ∀ k, k < M → e k ≤ Z) (hy : ∀ j, y j < 256) : ∀ (q a n : Nat) (W : AW) (nb : Nat) (bp : Nat → Nat), Z = a + q → q < n → TI w0 W gr M c b ph nb bp a 0 →
    (∃ W2 nb2 bp2, mX6_tells_31 (nI (bN gr)) n (nI a) W = some (nI 1, W2) ∧ TI w0 W2 gr M c b ph nb2 bp2 Z 0) ∨ (∃ W2, mX6_tells_31 (nI (bN gr)) n (nI a) W = some (nI 0, W2) ∧ KM w0 W2 ∧ 11 ≤ cntF (fun q => hbB gr (c (rpF M ph q))) P) := by
  intro q
  induction q with
  | zero =>
    intro a n W nb bp hq2 hn hI
    obtain ⟨n, rfl⟩ : ∃ i, n = i + 1 := ⟨n - 1, by omega⟩
    have e2 : a = Z := by omega
    subst e2
    refine Or.inl ⟨W, nb, bp, ?_, hI⟩
    rw [mX6_tells_31, (hI.work hW).2.1, if_pos (nI_le (Nat.le_refl a) (by omega))]
    rfl
  | succ q ih =>
    intro a n W nb bp hq2 hn hI
    obtain ⟨n, rfl⟩ : ∃ i, n = i + 1 := ⟨n - 1, by omega⟩
    rw [mX6_tells_31, (hI.work hW).2.1, if_neg (nI_ge (show a < Z by omega) (by omega))]
    rcases M_tbyte (gr := gr) (k31 := mX6_tells_31 (nI (bN gr)) n) (a := a) hW hT hc hM hZ he hy (by omega) M 0 FU W nb bp (by omega) (FU_gt (by omega)) hI with ⟨W2, nb2, bp2, g1, g2⟩ | ⟨W2, g1, g2, g3⟩
    · have g1' : mX6_tells_41 (mX6_tells_31 (nI (bN gr)) n) (nI (bN gr)) (nI a) FU 0 W = mX6_tells_31 (nI (bN gr)) n (nI (a + 1)) W2 := g1
      rw [g1']
      exact ih (a + 1) n W2 nb2 bp2 (by omega) (by omega) g2
    · exact Or.inr ⟨W2, g1, g2, g3⟩
/-- tells: the list of the parts with a bit, or too many -/
theorem M_tells {l1 r1 : Nat → Nat} {w : AW} (hW : WorkM w M Z c l1 r1 b e y) (hT : TreeOK M c l r b e y) (hc : ClassOK M P c l r ph) (hM : M ≤ 90) (hZ : Z ≤ 420) (he : ∀ k, k < M → e k ≤ Z) (hy : ∀ j, y j < 256) :
    (∃ W2 nb bp, mX6_tells (nI (bN gr)) w = some (nI 1, W2) ∧ TI w W2 gr M c b ph nb bp Z 0) ∨ (∃ W2, mX6_tells (nI (bN gr)) w = some (nI 0, W2) ∧ KM w W2 ∧ 11 ≤ cntF (fun q => hbB gr (c (rpF M ph q))) P) := by
  have k7 : ∀ W : AW, W.1 0 0 26 = nI M → mX6_tells_7 (nI (bN gr)) FU (nI 0) W = mX6_tells_31 (nI (bN gr)) FU (nI 0) (setRow W 0 35 (fun _ => -9) M) := by
    intro W h26
    refine loopE (fun n (s : Int32 × AW) => mX6_tells_7 (nI (bN gr)) n s.1 s.2) M (fun k => (nI k, setRow W 0 35 (fun _ => -9) k)) _ ?_ ?_ FU 0 (Nat.zero_le _) (FU_gt (by omega))
    · intro n k hk
      dsimp only
      rw [mX6_tells_7, setRow_row (Or.inr (by decide)), h26, if_neg (nI_ge hk (by omega)), wr_in (by omega) (by decide), nm_mk, show nI k + 1 = nI (k + 1) from nI_add k 1]
      rfl
    · intro n
      dsimp only
      rw [mX6_tells_7, setRow_row (Or.inr (by decide)), h26, if_pos (nI_le (Nat.le_refl M) (by omega))]
      rfl
  have hK : ∀ k, KM w (setRow (am_set w 0 0 35 0) 0 35 (fun _ => -9) k) := by
    intro k
    induction k with
    | zero => exact (KM.rf w).set (Or.inr ⟨rfl, by decide, by decide⟩)
    | succ k ih => exact ih.set (Or.inl (by decide))
  have hI : TI w (setRow (am_set w 0 0 35 0) 0 35 (fun _ => -9) M) gr M c b ph 0 (fun _ => 0) 0 0 := by
    refine ⟨hK M, fun a' h1 h2 h3 => by rw [setRow_row (Or.inr h1), am_get_row (Or.inr h3)], fun j hj => by rw [setRow_row (Or.inr (by decide)), am_get_other hj], by rw [setRow_row (Or.inr (by decide)), am_get_self]; rfl, by decide, fun j hj => absurd hj (Nat.not_lt_zero j), fun i j _ hj => absurd hj (Nat.not_lt_zero j), fun j hj => absurd hj (Nat.not_lt_zero j), fun k hk => ⟨fun z => ?_, fun _ => setRow_in M hk⟩⟩
    rcases z.2 with z | ⟨-, z⟩
    · exact absurd z (Nat.not_lt_zero _)
    · exact absurd z (Nat.not_lt_zero _)
  have := M_tells31 (gr := gr) hW hT hc hM hZ he hy Z 0 FU (setRow (am_set w 0 0 35 0) 0 35 (fun _ => -9) M) 0 (fun _ => 0) (by omega) (FU_gt (by omega)) hI
  have e0 : mX6_tells (nI (bN gr)) w = mX6_tells_31 (nI (bN gr)) FU (nI 0) (setRow (am_set w 0 0 35 0) 0 35 (fun _ => -9) M) := by
    unfold mX6_tells
    rw [pu_mk]
    exact k7 (am_set w 0 0 35 0) (by rw [am_get_other (by decide)]; exact hW.1)
  rw [e0]
  exact this
end T2
