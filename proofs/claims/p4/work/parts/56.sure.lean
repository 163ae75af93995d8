/-! sure -/
def dlF (N at_ ch i : Nat) : Nat := ch / 2 ^ (N * cntB at_ i) &&& (2 ^ N - 1)
theorem dlF_lt (N at_ ch i : Nat) : dlF N at_ ch i < 2 ^ N := Nat.lt_of_le_of_lt Nat.and_le_right (full_lt N)
def dlW (W : AW) (o a N at_ ch : Nat) : Nat → AW
  | 0 => W
  | i + 1 => if at_.testBit i = true then am_set (dlW W o a N at_ ch i) o a i (nI (dlF N at_ ch i)) else dlW W o a N at_ ch i
section DL
variable {W : AW} {o a N at_ ch : Nat}
theorem dlW_row {o' a' : Nat} (h : o' ≠ o ∨ a' ≠ a) : ∀ n, (dlW W o a N at_ ch n).1 o' a' = W.1 o' a'
  | 0 => rfl
  | n + 1 => by
    unfold dlW
    split
    · exact (am_get_row h).trans (dlW_row h n)
    · exact dlW_row h n
theorem dlW_2 : ∀ n, (dlW W o a N at_ ch n).2 = W.2
  | 0 => rfl
  | n + 1 => by
    unfold dlW
    split
    · exact dlW_2 n
    · exact dlW_2 n
theorem dlW_in : ∀ n i, (dlW W o a N at_ ch n).1 o a i = if i < n ∧ at_.testBit i = true then nI (dlF N at_ ch i) else W.1 o a i := by
  intro n
  induction n with
  | zero => intro i; rw [if_neg (fun h => by omega)]; rfl
  | succ n ih =>
    intro i
    unfold dlW
    by_cases q : at_.testBit n = true
    · rw [if_pos q]
      by_cases e : i = n
      · subst e
        rw [am_get_self, if_pos ⟨by omega, q⟩]
      · rw [am_get_other e, ih i]
        by_cases z : i < n ∧ at_.testBit i = true
        · rw [if_pos z, if_pos ⟨by omega, z.2⟩]
        · rw [if_neg z, if_neg (fun h => z ⟨by omega, h.2⟩)]
    · rw [if_neg q, ih i]
      by_cases z : i < n ∧ at_.testBit i = true
      · rw [if_pos z, if_pos ⟨by omega, z.2⟩]
      · rw [if_neg z, if_neg (fun h => z ⟨by
          have : i ≠ n := fun e => q (by rw [← e]; exact h.2)
          omega, h.2⟩)]
end DL
theorem dl_next {N ch at_ k : Nat} (q : at_.testBit k = true) : ch / 2 ^ (N * cntB at_ k) / 2 ^ N = ch / 2 ^ (N * cntB at_ (k + 1)) := by
  show _ = ch / 2 ^ (N * (cntB at_ k + (if at_.testBit k = true then 1 else 0)))
  rw [q, if_pos rfl, Nat.div_div_eq_div_mul, ← Nat.pow_add, Nat.mul_add, Nat.mul_one]
theorem cnt_skip {at_ k : Nat} (q : at_.testBit k = false) : cntB at_ (k + 1) = cntB at_ k := by
  show cntB at_ k + (if at_.testBit k = true then 1 else 0) = _
  rw [q]
  rfl
section DX
variable {w : AW} {N : Nat} {S A : Nat → Nat}
theorem X_deal (h : NetX w N S A) (hN : NetOK N S A) {at_ ch : Nat} (ha : at_ < 2 ^ 4) (hch : ch < 2 ^ 31) : mX5_deal (nI at_) (nI ch) w = some ((), dlW w 0 8 N at_ ch 4) := by
  have h8 := hN.2.1
  unfold mX5_deal
  have e0 : ch / 2 ^ (N * cntB at_ 0) = ch := by
    show ch / 2 ^ (N * 0) = ch
    rw [Nat.mul_zero]
    exact Nat.div_one ch
  have := loopE (fun n (s : Int32 × Int32 × AW) => mX5_deal_5 (nI at_) n s.1 s.2.1 s.2.2) 4 (fun k => (nI (ch / 2 ^ (N * cntB at_ k)), nI k, dlW w 0 8 N at_ ch k)) (some ((), dlW w 0 8 N at_ ch 4)) ?_ ?_ FU 0 (Nat.zero_le _) (FU_gt (by omega))
  · dsimp only at this
    rw [e0] at this
    exact this
  · intro n k hk
    have c1 : ¬ nI 4 ≤ nI k := nI_ge hk (by omega)
    have hXk : NetX (dlW w 0 8 N at_ ch k) N S A := h.c (by rw [dlW_row (by decide)]) (by rw [dlW_row (by decide)]) (by rw [dlW_row (by decide)])
    have hlt : ch / 2 ^ (N * cntB at_ k) < 2 ^ 31 := Nat.lt_of_le_of_lt (Nat.div_le_self _ _) hch
    cases q : at_.testBit k
    · have e5 : dlW w 0 8 N at_ ch (k + 1) = dlW w 0 8 N at_ ch k := by
        show (if at_.testBit k = true then _ else _) = _
        rw [q]
        rfl
      simp only [mX5_deal_5, mX5_deal_51, c1, bit_f _ (show at_ < 2 ^ 32 by omega) (show k < 32 by omega) q, e5, cnt_skip q, cl_mk, nm_mk, pu_mk, lit, if_true, if_false, ne_eq, not_false_eq_true, not_true_eq_false, nI_add, nI_or, nI_and, Bool.false_eq_true, ne01, ne10, nI_m1', Nat.or_zero]
    · have e5 : dlW w 0 8 N at_ ch (k + 1) = am_set (dlW w 0 8 N at_ ch k) 0 8 k (nI (dlF N at_ ch k)) := by
        show (if at_.testBit k = true then _ else _) = _
        rw [q]
        rfl
      have e4 : ∀ x, mX5_put 0 8 (nI k) x (dlW w 0 8 N at_ ch k) = some ((), am_set (dlW w 0 8 N at_ ch k) 0 8 k x) := fun x => put_in _ (show k < 4 from hk) (by decide)
      have e6 : mX0_size (am_set (dlW w 0 8 N at_ ch k) 0 8 k (nI (dlF N at_ ch k))) = some (nI N, am_set (dlW w 0 8 N at_ ch k) 0 8 k (nI (dlF N at_ ch k))) := by
        unfold mX0_size
        rw [am_get_row (by decide), hXk.1]
      have e7 : nI (ch / 2 ^ (N * cntB at_ k)) &&& nI (2 ^ N - 1) = nI (dlF N at_ ch k) := nI_and _ _
      have e8 := nI_ushr (a := ch / 2 ^ (N * cntB at_ k)) (k := N) (by omega) (by omega)
      rw [dl_next q] at e8
      simp only [mX5_deal_5, mX5_deal_51, c1, bit_t _ (show at_ < 2 ^ 32 by omega) (show k < 32 by omega) q, X_all hXk hN, e4, cl_mk, nm_mk, lit, ne_eq, ne10, not_false_eq_true, if_true, if_false]
      rw [e7, e6, cl_mk, e8, e5, nI_add]
  · intro n
    have c1 : nI 4 ≤ nI 4 := by decide
    simp only [mX5_deal_5, c1, cl_mk, nm_mk, pu_mk, lit, if_true, if_false, ne_eq, not_false_eq_true, not_true_eq_false, nI_add, nI_or, nI_and, Bool.false_eq_true, ne01, ne10, nI_m1', Nat.or_zero]
/-- what the atoms in a sentence are true at decides all -/
theorem ev_atoms {m : Nat} {c l r : Nat → Nat} {Fr A A2 : Nat → Nat} (hs : ShapeOK m c l r) (h : ∀ i, i < 4 → (atomsN m c).testBit i = true → A i = A2 i) : ∀ n k, k < n → k < m → evV (fun k => opH N A Fr (c k)) c l r k = evV (fun k => opH N A2 Fr (c k)) c l r k := by
  intro n
  induction n with
  | zero => intro k hk; omega
  | succ n ih =>
    intro k hkn hk
    rw [evV_eq hs hk, evV_eq hs hk]
    have ea : argA c l (evV (fun k => opH N A Fr (c k)) c l r) k = argA c l (evV (fun k => opH N A2 Fr (c k)) c l r) k := by
      unfold argA
      rcases hs k hk with g | ⟨g, g1⟩ | ⟨g, g1, g2⟩
      · rw [kd_leaf g]; rfl
      · rw [ih _ (by omega) (by omega)]
      · rw [ih _ (by omega) (by omega)]
    have eb : argB c r (evV (fun k => opH N A Fr (c k)) c l r) k = argB c r (evV (fun k => opH N A2 Fr (c k)) c l r) k := by
      unfold argB
      rcases hs k hk with g | ⟨g, g1⟩ | ⟨g, g1, g2⟩
      · rw [kd_leaf g]; rfl
      · rw [kd_pre g]; rfl
      · rw [ih _ (by omega) (by omega)]
    rw [ea, eb]
    have eA : ∀ i, i < 4 → c k = 112 + i → A i = A2 i := fun i hi e => h i hi (tb_orF.mpr ⟨k, hk, by
      unfold atB
      rw [if_pos (by omega), tb_pow, decide_eq_true_eq]
      omega⟩)
    unfold opH
    rcases kinds_of hs hk with (g | g | g | g | g | g) | (g | g | g) | (g | g | g)
    · rw [g]; exact eA 0 (by decide) g
    · rw [g]; exact eA 1 (by decide) g
    · rw [g]; exact eA 2 (by decide) g
    · rw [g]; exact eA 3 (by decide) g
    all_goals (rw [g]; rfl)
def sureB (N : Nat) (Fr : Nat → Nat) (d : SD) (ch : Nat) : Bool := decide (holdV N (dlF N (atomsN (sdM d) (sdc d)) ch) Fr d = 2 ^ N - 1)
theorem X_sure61 {Fr : Nat → Nat} {i : Nat} {d : SD} (hN : NetOK N S A) (hi : i < 6) (hd : SDok d) (hF : ∀ k, k < N → Fr k < 2 ^ N) {B : Nat} (hB : N * B ≤ 12) : ∀ (e k n : Nat) (w : AW), 2 ^ (N * B) = k + e → e < n → NetX w N S A → ViewX w N Fr → SenX w (6 + i) (sdM d) (sdP d) (sdc d) (sdl d) (sdr d) (sdf d) (sdp d) (sdd d) → allT (sureB N Fr d) k = true →
    ∃ w2, mX5_sure_61 (6 + i) (nI (N * B)) n (nI k) w = some (nI (bN (allT (sureB N Fr d) (2 ^ (N * B)))), w2) ∧ KX w w2 := by
  have h8 := hN.2.1
  have h256 := two_le h8
  have hpw : 2 ^ (N * B) ≤ 2 ^ 12 := Nat.pow_le_pow_right (by decide) hB
  have hone : nI 1 <<< nI (N * B &&& 31) = nI (2 ^ (N * B)) := one_shl (by omega)
  intro e
  induction e with
  | zero =>
    intro k n w he hn hX hV hS hall
    obtain ⟨n, rfl⟩ : ∃ m, n = m + 1 := ⟨n - 1, by omega⟩
    have e2 : k = 2 ^ (N * B) := by omega
    subst e2
    have c1 : nI (2 ^ (N * B)) ≤ nI (2 ^ (N * B)) := nI_le (Nat.le_refl _) (by omega)
    refine ⟨w, ?_, KX.rf w⟩
    simp only [mX5_sure_61, hone, c1, hall, bN_t, cl_mk, nm_mk, pu_mk, lit, if_true, if_false, ne_eq, not_false_eq_true, not_true_eq_false, nI_add, nI_or, nI_and, Bool.false_eq_true, ne01, ne10, nI_m1', Nat.or_zero]
  | succ e ih =>
    intro k n w he hn hX hV hS hall
    obtain ⟨n, rfl⟩ : ∃ m, n = m + 1 := ⟨n - 1, by omega⟩
    have c1 : ¬ nI (2 ^ (N * B)) ≤ nI k := nI_ge (by omega) (by omega)
    have hP := hd.P40
    have hL := len_sen (i := i) hi hP
    have a1 := X_atoms hS hL hd.sh hd.cl (by omega)
    have hat := atomsN_lt (sdM d) (sdc d)
    have a2 := X_deal hX hN (ch := k) hat (by omega)
    have hK : KX w (dlW w 0 8 N (atomsN (sdM d) (sdc d)) k 4) := by
      have : ∀ j, KX w (dlW w 0 8 N (atomsN (sdM d) (sdc d)) k j) := by
        intro j
        induction j with
        | zero => exact KX.rf w
        | succ j ihj =>
          unfold dlW
          split
          · exact ihj.set (Or.inr ⟨rfl, Or.inr rfl⟩)
          · exact ihj
      exact this 4
    have hV1 : ViewX (dlW w 0 8 N (atomsN (sdM d) (sdc d)) k 4) N Fr := ⟨by rw [dlW_row (by decide)]; exact hV.1, fun j hj => by rw [dlW_row (by decide)]; exact hV.2 j hj⟩
    have hS1 := hS.k hi hK
    obtain ⟨w2, f1, f2, f3⟩ := X_judge false (A := dlF N (atomsN (sdM d) (sdc d)) k) (o := 6 + i) (ro := 0) (ra := 8) hV1 h8 hF (fun j hj q hq he2 => by
      rw [dlW_in, if_pos ⟨hj, tb_orF.mpr ⟨q, hq, by
        unfold atB
        rw [if_pos (by omega), tb_pow, decide_eq_true_eq]
        omega⟩⟩]) (fun j => dlF_lt _ _ _ _) (by decide) (by decide) hS1 hL hd.sh hd.cl hP hd.1 hd.2.2.2.2.2.2.2.1 (by omega)
    rw [opJ_f] at f1
    have f1' : mX4_judge (6 + i) 0 8 (nI 0) (dlW w 0 8 N (atomsN (sdM d) (sdc d)) k 4) = some (nI (holdV N (dlF N (atomsN (sdM d) (sdc d)) k) Fr d), w2) := f1
    have hK2 := hK.tr f2
    have hX2 := hX.k hK2
    have hv : holdV N (dlF N (atomsN (sdM d) (sdc d)) k) Fr d < 2 ^ N := holdV_lt (fun j => dlF_lt _ _ _ _) hd
    have hfl := full_lt N
    have hall1 : allT (sureB N Fr d) (k + 1) = sureB N Fr d k := by
      show (allT (sureB N Fr d) k && sureB N Fr d k) = _
      rw [hall, Bool.true_and]
    by_cases q : holdV N (dlF N (atomsN (sdM d) (sdc d)) k) Fr d = 2 ^ N - 1
    · have hV2 : ViewX w2 N Fr := ⟨by rw [f3 2 0 (by decide)]; exact hV1.1, fun j hj => by rw [f3 2 1 (by decide)]; exact hV1.2 j hj⟩
      obtain ⟨w3, g1, g2⟩ := ih (k + 1) n w2 (by omega) (by omega) hX2 hV2 (hS.k hi hK2) (by rw [hall1]; exact decide_eq_true q)
      refine ⟨w3, ?_, hK2.tr g2⟩
      simp only [mX5_sure_61, hone, c1, a1, a2, f1', X_all hX2 hN, q, cl_mk, nm_mk, pu_mk, lit, if_true, if_false, ne_eq, not_false_eq_true, not_true_eq_false, nI_add, nI_or, nI_and, Bool.false_eq_true, ne01, ne10, nI_m1', Nat.or_zero]
      exact g1
    · have q2 : (nI (holdV N (dlF N (atomsN (sdM d) (sdc d)) k) Fr d) = nI (2 ^ N - 1)) = False := eq_false (fun z => q ((nI_eq (by omega) (by omega)).mp z))
      have hf : allT (sureB N Fr d) (2 ^ (N * B)) = false := by
        cases z : allT (sureB N Fr d) (2 ^ (N * B))
        · rfl
        · rw [allT_iff] at z
          have := z k (by omega)
          unfold sureB at this
          rw [decide_eq_true_eq] at this
          exact absurd this q
      refine ⟨w2, ?_, hK2⟩
      simp only [mX5_sure_61, hone, c1, a1, a2, f1', X_all hX2 hN, q2, hf, bN_f, cl_mk, nm_mk, pu_mk, lit, if_true, if_false, ne_eq, not_false_eq_true, not_true_eq_false, nI_add, nI_or, nI_and, Bool.false_eq_true, ne01, ne10, nI_m1', Nat.or_zero]
end DX
