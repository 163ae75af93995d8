section
/-! the model's heaps: a naming in row 48 -/
def HeapM (w : AW) (N : Nat) (g : Nat → Nat) : Prop := ∀ k, k < N → w.1 0 48 k = nI (g k)
section HM
variable {w : AW} {N : Nat} {Fr g : Nat → Nat}
theorem M_heapsOf (hz : w.1 0 0 2 = nI N) (hV : ViewM w N Fr) (hH : HeapM w N g) (h8 : N ≤ 8) (hF : ∀ k, k < N → Fr k < 2 ^ N) (hg : ∀ a, a < N → g a < 31) {a : Nat} (ha : a < N) : mX6_heapsOf (nI a) w = some (nI (hseen N Fr g a), w) := by
  have h256 := two_le h8
  have hfa := hF a ha
  unfold mX6_heapsOf
  refine loopE (fun n (s : Int32 × Int32) => mX6_heapsOf_4 (nI a) n s.1 s.2 w) N (fun k => (nI (orF (fun k => if (Fr a).testBit k then 2 ^ (g k) else 0) k), nI k)) _ ?_ ?_ FU 0 (Nat.zero_le _) (FU_gt (by omega))
  · intro n k hk
    have c1 : ¬ nI N ≤ nI k := nI_ge hk (by omega)
    have r1 : ∀ f : Int32 → Option (Int32 × AW), rd 8 (w.1 0 47) (nI a) f = f (nI (Fr a)) := fun f => by
      rw [rd_in (by omega) (by decide), hV a ha]
    have r2 : ∀ f : Int32 → Option (Int32 × AW), rd 8 (w.1 0 48) (nI k) f = f (nI (g k)) := fun f => by
      rw [rd_in (by omega) (by decide), hH k hk]
    cases q : (Fr a).testBit k
    · simp only [mX6_heapsOf_4, mX6_heapsOf_39, hz, c1, r1, shr_f (show k < 32 by omega) (show Fr a < 2 ^ 31 by omega) q, orF, q, cl_mk, nm_mk, pu_mk, lit, if_true, if_false, ne_eq, not_false_eq_true, not_true_eq_false, nI_add, nI_or, nI_and, Bool.false_eq_true, ne01, ne10, nI_m1', Nat.or_zero]
    · simp only [mX6_heapsOf_4, mX6_heapsOf_39, hz, c1, r1, shr_t (show k < 32 by omega) (show Fr a < 2 ^ 31 by omega) q, r2, one_shl (hg k hk), orF, q, cl_mk, nm_mk, pu_mk, lit, if_true, if_false, ne_eq, not_false_eq_true, not_true_eq_false, nI_add, nI_or, nI_and, Bool.false_eq_true, ne01, ne10, nI_m1', Nat.or_zero]
  · intro n
    have c1 : nI N ≤ nI N := nI_le (Nat.le_refl N) (by omega)
    simp only [mX6_heapsOf_4, hz, c1, cl_mk, nm_mk, pu_mk, lit, if_true, if_false, ne_eq, not_false_eq_true, not_true_eq_false, nI_add, nI_or, nI_and, Bool.false_eq_true, ne01, ne10, nI_m1', Nat.or_zero]
    rfl
theorem M_isAlike {E : Nat → Nat → Bool} (hz : w.1 0 0 2 = nI N) (hV : ViewM w N Fr) (hH : HeapM w N g) (h8 : N ≤ 8) (hF : ∀ k, k < N → Fr k < 2 ^ N) (hn : Nm N E g) {a b : Nat} (ha : a < N) (hb : b < N) : mX6_isAlike (nI a) (nI b) w = some (nI (bN (E a b && (goB N Fr E a b && goB N Fr E b a))), w) := by
  have e1 := M_heapsOf hz hV hH h8 hF hn.2 ha
  have e2 := M_heapsOf hz hV hH h8 hF hn.2 hb
  have l1 := hseen_lt (N := N) (Fr := Fr) (a := a) hn.2
  have l2 := hseen_lt (N := N) (Fr := Fr) (a := b) hn.2
  have r1 : ∀ f : Int32 → Option (Int32 × AW), rd 8 (w.1 0 48) (nI a) f = f (nI (g a)) := fun f => by
    rw [rd_in (by omega) (by decide), hH a ha]
  have r2 : ∀ f : Int32 → Option (Int32 × AW), rd 8 (w.1 0 48) (nI b) f = f (nI (g b)) := fun f => by
    rw [rd_in (by omega) (by decide), hH b hb]
  cases q : E a b
  · have q1 : (nI (g a) = nI (g b)) = False := eq_false (fun z => by
      have := (hn.1 a b ha hb).mp ((nI_eq (by have := hn.2 a ha; omega) (by have := hn.2 b hb; omega)).mp z)
      rw [q] at this; cases this)
    simp only [mX6_isAlike, r1, r2, q1, Bool.false_and, bN_f, cl_mk, nm_mk, pu_mk, lit, if_true, if_false, ne_eq, not_false_eq_true, not_true_eq_false, nI_add, nI_or, nI_and, Bool.false_eq_true, ne01, ne10, nI_m1', Nat.or_zero]
  · have q1 : g a = g b := (hn.1 a b ha hb).mpr q
    by_cases z : hseen N Fr g a = hseen N Fr g b
    · have z2 := (hseen_eq hn).mp z
      rw [z2.1, z2.2]
      simp only [mX6_isAlike, r1, r2, q1, e1, e2, z, Bool.and_self, bN_t, cl_mk, nm_mk, pu_mk, lit, if_true, if_false, ne_eq, not_false_eq_true, not_true_eq_false, nI_add, nI_or, nI_and, Bool.false_eq_true, ne01, ne10, nI_m1', Nat.or_zero]
    · have z2 : (goB N Fr E a b && goB N Fr E b a) = false := by
        cases y : (goB N Fr E a b && goB N Fr E b a)
        · rfl
        · rw [Bool.and_eq_true] at y
          exact absurd ((hseen_eq hn).mpr y) z
      have z3 : (nI (hseen N Fr g a) = nI (hseen N Fr g b)) = False := eq_false (fun y => z ((nI_eq l1 l2).mp y))
      rw [z2]
      simp only [mX6_isAlike, r1, r2, q1, e1, e2, z3, Bool.and_false, bN_f, cl_mk, nm_mk, pu_mk, lit, if_true, if_false, ne_eq, not_false_eq_true, not_true_eq_false, nI_add, nI_or, nI_and, Bool.false_eq_true, ne01, ne10, nI_m1', Nat.or_zero]
end HM
end
section
/-! the model's names -/
def sA (A : Nat → Nat) (a : Nat) : Nat → Nat
  | 0 => 0
  | i + 1 => sA A a i + bN ((A i).testBit a) * 2 ^ i
theorem sA_lt (A : Nat → Nat) (a : Nat) : ∀ i, sA A a i < 2 ^ i
  | 0 => Nat.one_pos
  | i + 1 => by
    have h := sA_lt A a i
    have e : 2 ^ (i + 1) = 2 * 2 ^ i := Nat.pow_succ'
    simp only [sA, e]
    cases (A i).testBit a
    · rw [bN_f, Nat.zero_mul]; omega
    · rw [bN_t, Nat.one_mul]; omega
theorem sA_eq (A : Nat → Nat) (a b : Nat) : ∀ i, sA A a i = sA A b i ↔ ∀ k, k < i → (A k).testBit a = (A k).testBit b
  | 0 => ⟨fun _ k hk => by omega, fun _ => rfl⟩
  | i + 1 => by
    have h1 := sA_lt A a i
    have h2 := sA_lt A b i
    have ih := sA_eq A a b i
    constructor
    · intro h
      have key : (A i).testBit a = (A i).testBit b ∧ sA A a i = sA A b i := by
        simp only [sA] at h
        cases qa : (A i).testBit a <;> cases qb : (A i).testBit b <;> rw [qa, qb] at h <;> simp only [bN_t, bN_f, Nat.zero_mul, Nat.one_mul, Nat.add_zero] at h
        · exact ⟨rfl, h⟩
        · omega
        · omega
        · exact ⟨rfl, by omega⟩
      intro k hk
      by_cases z : k = i
      · subst z; exact key.1
      · exact ih.mp key.2 k (by omega)
    · intro h
      simp only [sA]
      rw [ih.mpr (fun k hk => h k (by omega)), h i (by omega)]
noncomputable def gM (N : Nat) (Fr A : Nat → Nat) : Nat → Nat → Nat
  | 0 => fun a => sA A a 4
  | r + 1 => fun a => repC N Fr A (r + 1) (lst (er N Fr A (r + 1)) a)
section GM
variable {N : Nat} {Fr A : Nat → Nat}
theorem repC_up (r : Nat) {u v : Nat} (h : u ≤ v) : repC N Fr A r u ≤ repC N Fr A r v := by
  obtain ⟨d, rfl⟩ := Nat.exists_eq_add_of_le h
  clear h
  induction d with
  | zero => exact Nat.le_refl _
  | succ d ih => exact Nat.le_trans ih (Nat.le_add_right _ _)
theorem repC_rep (r : Nat) {u v : Nat} (h : u < v) (hu : isRep N Fr A r u = true) : repC N Fr A r u < repC N Fr A r v := by
  have h1 := repC_up (N := N) (Fr := Fr) (A := A) r (show u + 1 ≤ v from h)
  have h2 : repC N Fr A r (u + 1) = repC N Fr A r u + 1 := by
    show repC N Fr A r u + bN (isRep N Fr A r u) = _
    rw [hu, bN_t]
  omega
theorem gM_Nm (h8 : N ≤ 8) : ∀ r, Nm N (er N Fr A r) (gM N Fr A r)
  | 0 => ⟨fun a b _ _ => by
      show sA A a 4 = sA A b 4 ↔ e0 A a b = true
      rw [sA_eq]
      unfold e0
      rw [allT_iff]
      simp only [beq_iff_eq], fun a _ => by
      have := sA_lt A a 4
      show sA A a 4 < 31
      omega⟩
  | r + 1 => by
    have hn := lst_Nm (N := N) (Fr := Fr) (A := A) (r + 1) h8
    refine ⟨fun a b ha hb => ?_, fun a ha => ?_⟩
    · rw [← hn.1 a b ha hb]
      show repC N Fr A (r + 1) (lst (er N Fr A (r + 1)) a) = repC N Fr A (r + 1) (lst (er N Fr A (r + 1)) b) ↔ _
      constructor
      · intro h
        rcases Nat.lt_trichotomy (lst (er N Fr A (r + 1)) a) (lst (er N Fr A (r + 1)) b) with q | q | q
        · have := repC_rep (r + 1) q lst_rep; omega
        · exact q
        · have := repC_rep (r + 1) q lst_rep; omega
      · intro h
        rw [h]
    · have h1 := (lst_spec ((er_eqv (N := N) (Fr := Fr) (A := A) (r + 1)).1 a)).1
      have h2 := repC_le (N := N) (Fr := Fr) (A := A) (r + 1) (lst (er N Fr A (r + 1)) a)
      show repC N Fr A (r + 1) (lst (er N Fr A (r + 1)) a) < 31
      omega
end GM
end
section
/-! the model's heaps: the first round -/
theorem am_set_set {w : AW} {o a i : Nat} {x y : Int32} : am_set (am_set w o a i x) o a i y = am_set w o a i y := by
  unfold am_set
  refine Prod.ext ?_ rfl
  funext o' a' i'
  by_cases h : o' = o ∧ a' = a ∧ i' = i
  · show (if _ then _ else _) = (if _ then _ else _)
    rw [if_pos h, if_pos h]
  · show (if _ then _ else (if _ then _ else _)) = (if _ then _ else _)
    rw [if_neg h, if_neg h, if_neg h]
def h0M (w : AW) (A : Nat → Nat) (k : Nat) : AW := setRow w 0 48 (fun a => nI (sA A a 4)) k
theorem h0M_K (w : AW) (A : Nat → Nat) : ∀ k, KM w (h0M w A k)
  | 0 => KM.rf w
  | k + 1 => (h0M_K w A k).set (Or.inl (by decide))
section H0
variable {w : AW} {N : Nat} {S A Fr : Nat → Nat}
theorem M_splits24 (h : NetM w N S A) (hN : NetOK N S A) {k : Nat} (hk : k < N) (k7 : Int32 → AW → Option (Int32 × AW)) : mX6_splits_24 k7 (nI k) FU (nI 0) (am_set w 0 48 k (nI 0)) = k7 (nI (k + 1)) (am_set w 0 48 k (nI (sA A k 4))) := by
  have h8 := hN.2.1
  have h256 := two_le h8
  refine loopE (fun n (s : Int32 × AW) => mX6_splits_24 k7 (nI k) n s.1 s.2) 4 (fun i => (nI i, am_set w 0 48 k (nI (sA A k i)))) _ ?_ ?_ FU 0 (Nat.zero_le _) (FU_gt (by omega))
  · intro n i hi
    have c1 : ¬ nI 4 ≤ nI i := nI_ge hi (by decide)
    have hA := hN.2.2.2.2 i
    have hM : NetM (am_set w 0 48 k (nI (sA A k i))) N S A := h.k ((KM.rf w).set (Or.inl (by decide)))
    have hs := sA_lt A k i
    have hp : (2 : Nat) ^ i ≤ 8 := Nat.le_trans (Nat.pow_le_pow_right (by decide) (show i ≤ 3 by omega)) (by decide)
    have r1 : ∀ f : Int32 → Option (Int32 × AW), rd 8 ((am_set w 0 48 k (nI (sA A k i))).1 0 48) (nI k) f = f (nI (sA A k i)) := fun f => by
      rw [rd_in (by omega) (by decide), am_get_self]
    cases q : (A i).testBit k
    · have e1 : nI 0 <<< nI (i &&& 31) = nI 0 := by rw [shlN (by omega) (by omega), Nat.zero_mul]
      simp only [mX6_splits_24, c1, r1, M_atom hM hi, shr_f (show k < 32 by omega) (show A i < 2 ^ 31 by omega) q, e1, wr_in (show k < 8 by omega) (show 8 < 2 ^ 31 by decide), am_set_set, sA, q, bN_f, Nat.zero_mul, Nat.add_zero, cl_mk, nm_mk, pu_mk, lit, if_true, if_false, ne_eq, not_false_eq_true, not_true_eq_false, nI_add, nI_or, nI_and, Bool.false_eq_true, ne01, ne10, nI_m1', Nat.or_zero]
    · have e1 : nI 1 <<< nI (i &&& 31) = nI (2 ^ i) := by rw [shlN (by omega) (by omega), Nat.one_mul]
      simp only [mX6_splits_24, c1, r1, M_atom hM hi, shr_t (show k < 32 by omega) (show A i < 2 ^ 31 by omega) q, e1, wr_in (show k < 8 by omega) (show 8 < 2 ^ 31 by decide), am_set_set, sA, q, bN_t, Nat.one_mul, cl_mk, nm_mk, pu_mk, lit, if_true, if_false, ne_eq, not_false_eq_true, not_true_eq_false, nI_add, nI_or, nI_and, Bool.false_eq_true, ne01, ne10, nI_m1', Nat.or_zero]
  · intro n
    have c1 : nI 4 ≤ nI 4 := by decide
    simp only [mX6_splits_24, c1, cl_mk, nm_mk, pu_mk, lit, if_true, if_false, ne_eq, not_false_eq_true, not_true_eq_false, nI_add, nI_or, nI_and, Bool.false_eq_true, ne01, ne10, nI_m1', Nat.or_zero]
theorem M_splits7 (h : NetM w N S A) (hN : NetOK N S A) : mX6_splits_7 FU (nI 0) w = mX6_splits_64 FU (nI 0) (h0M w A N) := by
  have h8 := hN.2.1
  refine loopE (fun n (s : Int32 × AW) => mX6_splits_7 n s.1 s.2) N (fun k => (nI k, h0M w A k)) _ ?_ ?_ FU 0 (Nat.zero_le _) (FU_gt (by omega))
  · intro n k hk
    have c1 : ¬ nI N ≤ nI k := nI_ge hk (by omega)
    have hM : NetM (h0M w A k) N S A := h.k (h0M_K w A k)
    have e1 := M_splits24 hM hN hk (mX6_splits_7 n)
    simp only [mX6_splits_7, hM.1, c1, wr_in (show k < 8 by omega) (show 8 < 2 ^ 31 by decide), e1, cl_mk, nm_mk, pu_mk, lit, if_true, if_false, ne_eq, not_false_eq_true, not_true_eq_false, nI_add, nI_or, nI_and, Bool.false_eq_true, ne01, ne10, nI_m1', Nat.or_zero]
    rfl
  · intro n
    have hM : NetM (h0M w A N) N S A := h.k (h0M_K w A N)
    have c1 : nI N ≤ nI N := nI_le (Nat.le_refl N) (by omega)
    simp only [mX6_splits_7, hM.1, c1, cl_mk, nm_mk, pu_mk, lit, if_true, if_false, ne_eq, not_false_eq_true, not_true_eq_false, nI_add, nI_or, nI_and, Bool.false_eq_true, ne01, ne10, nI_m1', Nat.or_zero]
end H0
end
section
/-! the model's levels -/
theorem dv_1 : ∀ v, v < 64 → nI v / nI 8 = nI (v / 8) ∧ nI v - nI v / nI 8 * nI 8 = nI (v % 8) := by decide +kernel
def lvF (N : Nat) (Fr A : Nat → Nat) (a b : Nat) : Nat → Int32
  | 0 => if e0 A a b then -9 else 0
  | r + 1 => if lvF N Fr A a b r = -9 then (if er N Fr A (r + 1) a b then -9 else nI (r + 1)) else lvF N Fr A a b r
def lvC (N : Nat) (Fr A : Nat → Nat) (r v : Nat) : Int32 := if v / 8 < N ∧ v % 8 < N then lvF N Fr A (v / 8) (v % 8) r else -9
def LevM (w : AW) (N : Nat) (Fr A : Nat → Nat) (r : Nat) : Prop := ∀ v, v < 64 → w.1 0 50 v = lvC N Fr A r v
section L0
variable {w : AW} {N : Nat} {S A Fr : Nat → Nat}
def l0M (w : AW) (N : Nat) (Fr A : Nat → Nat) (k : Nat) : AW := setRow w 0 50 (lvC N Fr A 0) k
theorem l0M_K (w : AW) (N : Nat) (Fr A : Nat → Nat) : ∀ k, KM w (l0M w N Fr A k)
  | 0 => KM.rf w
  | k + 1 => (l0M_K w N Fr A k).set (Or.inl (by decide))
theorem M_splits64 (h : NetM w N S A) (hN : NetOK N S A) (hH : HeapM w N (gM N Fr A 0)) : mX6_splits_64 FU (nI 0) w = mX6_splits_135 FU (nI 0) (nI 1) (l0M w N Fr A 64) := by
  have h8 := hN.2.1
  refine loopE (fun n (s : Int32 × AW) => mX6_splits_64 n s.1 s.2) 64 (fun k => (nI k, l0M w N Fr A k)) _ ?_ ?_ FU 0 (Nat.zero_le _) (FU_gt (by omega))
  · intro n v hv
    have c1 : ¬ nI 64 ≤ nI v := nI_ge hv (by decide)
    have hM : NetM (l0M w N Fr A v) N S A := h.k (l0M_K w N Fr A v)
    obtain ⟨d1, d2⟩ := dv_1 v hv
    have hr : ∀ x, (l0M w N Fr A v).1 0 48 x = w.1 0 48 x := fun x => by
      unfold l0M
      rw [setRow_row (by decide)]
    have fin : ∀ x, lvC N Fr A 0 v = x → am_set (l0M w N Fr A v) 0 50 v x = l0M w N Fr A (v + 1) := fun x hx => by
      rw [← hx]; rfl
    rw [d1] at d2
    by_cases qa : v / 8 < N
    · have c2 : ¬ nI N ≤ nI (v / 8) := nI_ge qa (by omega)
      by_cases qb : v % 8 < N
      · have c3 : ¬ nI N ≤ nI (v % 8) := nI_ge qb (by omega)
        have r1 : ∀ f : Int32 → Option (Int32 × AW), rd 8 ((l0M w N Fr A v).1 0 48) (nI (v / 8)) f = f (nI (gM N Fr A 0 (v / 8))) := fun f => by
          rw [rd_in (by omega) (by decide), hr, hH _ qa]
        have r2 : ∀ f : Int32 → Option (Int32 × AW), rd 8 ((l0M w N Fr A v).1 0 48) (nI (v % 8)) f = f (nI (gM N Fr A 0 (v % 8))) := fun f => by
          rw [rd_in (by omega) (by decide), hr, hH _ qb]
        have hn := gM_Nm (N := N) (Fr := Fr) (A := A) h8 0
        cases q : e0 A (v / 8) (v % 8)
        · have e1 : (nI (gM N Fr A 0 (v / 8)) = nI (gM N Fr A 0 (v % 8))) = False := eq_false (fun z => by
            have := (hn.1 _ _ qa qb).mp ((nI_eq (by have := hn.2 _ qa; omega) (by have := hn.2 _ qb; omega)).mp z)
            rw [show er N Fr A 0 = e0 A from rfl, q] at this; cases this)
          have f1 := fin (nI 0) (by unfold lvC; rw [if_pos ⟨qa, qb⟩]; unfold lvF; rw [q]; rfl)
          simp only [mX6_splits_64, mX6_splits_124, mX6_splits_122, hM.1, c1, d1, d2, c2, c3, r1, r2, e1, wr_in (show v < 64 by omega) (show 64 < 2 ^ 31 by decide), f1, cl_mk, nm_mk, pu_mk, lit, if_true, if_false, ne_eq, not_false_eq_true, not_true_eq_false, nI_add, nI_or, nI_and, Bool.false_eq_true, ne01, ne10, nI_m1', Nat.or_zero]
        · have e1 : gM N Fr A 0 (v / 8) = gM N Fr A 0 (v % 8) := (hn.1 _ _ qa qb).mpr q
          have f1 := fin (-nI 9) (by unfold lvC; rw [if_pos ⟨qa, qb⟩]; unfold lvF; rw [q]; rfl)
          simp only [mX6_splits_64, mX6_splits_124, mX6_splits_122, hM.1, c1, d1, d2, c2, c3, r1, r2, e1, wr_in (show v < 64 by omega) (show 64 < 2 ^ 31 by decide), f1, cl_mk, nm_mk, pu_mk, lit, if_true, if_false, ne_eq, not_false_eq_true, not_true_eq_false, nI_add, nI_or, nI_and, Bool.false_eq_true, ne01, ne10, nI_m1', Nat.or_zero]
      · have c3 : nI N ≤ nI (v % 8) := nI_le (by omega) (by omega)
        have f1 := fin (-nI 9) (by unfold lvC; rw [if_neg (fun z => qb z.2)]; rfl)
        simp only [mX6_splits_64, mX6_splits_124, mX6_splits_122, hM.1, c1, d1, d2, c2, c3, wr_in (show v < 64 by omega) (show 64 < 2 ^ 31 by decide), f1, cl_mk, nm_mk, pu_mk, lit, if_true, if_false, ne_eq, not_false_eq_true, not_true_eq_false, nI_add, nI_or, nI_and, Bool.false_eq_true, ne01, ne10, nI_m1', Nat.or_zero]
    · have c2 : nI N ≤ nI (v / 8) := nI_le (by omega) (by omega)
      have f1 := fin (-nI 9) (by unfold lvC; rw [if_neg (fun z => qa z.1)]; rfl)
      simp only [mX6_splits_64, mX6_splits_124, mX6_splits_122, hM.1, c1, d1, d2, c2, wr_in (show v < 64 by omega) (show 64 < 2 ^ 31 by decide), f1, cl_mk, nm_mk, pu_mk, lit, if_true, if_false, ne_eq, not_false_eq_true, not_true_eq_false, nI_add, nI_or, nI_and, Bool.false_eq_true, ne01, ne10, nI_m1', Nat.or_zero]
  · intro n
    have c1 : nI 64 ≤ nI 64 := by decide
    simp only [mX6_splits_64, c1, cl_mk, nm_mk, pu_mk, lit, if_true, if_false, ne_eq, not_false_eq_true, not_true_eq_false, nI_add, nI_or, nI_and, Bool.false_eq_true, ne01, ne10, nI_m1', Nat.or_zero]
end L0
end
section
/-! the model's heaps: a round's names -/
theorem lst_lst {N : Nat} {Fr A : Nat → Nat} (r k : Nat) : lst (er N Fr A r) (lst (er N Fr A r) k) = lst (er N Fr A r) k := (lst_iff ((er_eqv r).1 _)).mpr (isRep_iff.mp lst_rep)
noncomputable def n1M (w : AW) (N : Nat) (Fr A : Nat → Nat) (r k : Nat) : AW := setRow w 0 49 (fun a => nI (gM N Fr A (r + 1) a)) k
theorem n1M_K (w : AW) (N : Nat) (Fr A : Nat → Nat) (r : Nat) : ∀ k, KM w (n1M w N Fr A r k)
  | 0 => KM.rf w
  | k + 1 => (n1M_K w N Fr A r k).set (Or.inl (by decide))
section N1
variable {w : AW} {N : Nat} {S A Fr : Nat → Nat}
theorem M_splits146 {r : Nat} (h : NetM w N S A) (hN : NetOK N S A) (hV : ViewM w N Fr) (hF : ∀ k, k < N → Fr k < 2 ^ N) (hH : HeapM w N (gM N Fr A r)) (k135 : Int32 → Int32 → AW → Option (Int32 × AW)) : mX6_splits_146 k135 (nI (r + 1)) FU (nI 0) (nI 0) w = mX6_splits_231 k135 (nI (repC N Fr A (r + 1) N)) (nI (r + 1)) FU (nI 0) (n1M w N Fr A r N) := by
  have h8 := hN.2.1
  refine loopE (fun n (s : Int32 × Int32 × AW) => mX6_splits_146 k135 (nI (r + 1)) n s.1 s.2.1 s.2.2) N (fun k => (nI (repC N Fr A (r + 1) k), nI k, n1M w N Fr A r k)) _ ?_ ?_ FU 0 (Nat.zero_le _) (FU_gt (by omega))
  · intro n k hk
    have c1 : ¬ nI N ≤ nI k := nI_ge hk (by omega)
    have hM : NetM (n1M w N Fr A r k) N S A := h.k (n1M_K w N Fr A r k)
    have hVk : ViewM (n1M w N Fr A r k) N Fr := fun j hj => by
      unfold n1M
      rw [setRow_row (by decide)]
      exact hV j hj
    have hHk : HeapM (n1M w N Fr A r k) N (gM N Fr A r) := fun j hj => by
      unfold n1M
      rw [setRow_row (by decide)]
      exact hH j hj
    have hr := (er_eqv (N := N) (Fr := Fr) (A := A) (r + 1)).1 k
    obtain ⟨l1, l2, l3⟩ := lst_spec hr
    have hn := gM_Nm (N := N) (Fr := Fr) (A := A) h8 r
    have inner : mX6_splits_158 k135 (mX6_splits_146 k135 (nI (r + 1)) n) (nI (repC N Fr A (r + 1) k)) (nI (r + 1)) (nI k) FU (nI 0) (n1M w N Fr A r k) = mX6_splits_146 k135 (nI (r + 1)) n (nI (repC N Fr A (r + 1) (k + 1))) (nI (k + 1)) (n1M w N Fr A r (k + 1)) := by
      refine loopE (fun n2 v => mX6_splits_158 k135 (mX6_splits_146 k135 (nI (r + 1)) n) (nI (repC N Fr A (r + 1) k)) (nI (r + 1)) (nI k) n2 v (n1M w N Fr A r k)) (lst (er N Fr A (r + 1)) k) nI _ ?_ ?_ FU 0 (Nat.zero_le _) (FU_gt (by omega))
      · intro n2 v hv
        have d1 : ¬ nI k ≤ nI v := nI_ge (by omega) (by omega)
        have e1 := M_isAlike hM.1 hVk hHk h8 hF hn (a := v) (b := k) (by omega) hk
        have e2 : (er N Fr A r v k && (goB N Fr (er N Fr A r) v k && goB N Fr (er N Fr A r) k v)) = false := l3 v hv
        rw [e2] at e1
        simp only [mX6_splits_158, d1, e1, bN_f, cl_mk, nm_mk, pu_mk, lit, if_true, if_false, ne_eq, not_false_eq_true, not_true_eq_false, nI_add, nI_or, nI_and, Bool.false_eq_true, ne01, ne10, nI_m1', Nat.or_zero]
      · intro n2
        by_cases q : lst (er N Fr A (r + 1)) k = k
        · have d1 : nI k ≤ nI k := nI_le (Nat.le_refl k) (by omega)
          have e3 : isRep N Fr A (r + 1) k = true := isRep_iff.mpr ((lst_iff hr).mp q)
          have e4 : am_set (n1M w N Fr A r k) 0 49 k (nI (repC N Fr A (r + 1) k)) = n1M w N Fr A r (k + 1) := by
            show _ = am_set (n1M w N Fr A r k) 0 49 k (nI (repC N Fr A (r + 1) (lst (er N Fr A (r + 1)) k)))
            rw [q]
          rw [q]
          simp only [mX6_splits_158, mX6_splits_182, mX6_splits_206, mX6_splits_220, d1, wr_in (show k < 8 by omega) (show 8 < 2 ^ 31 by decide), e4, repC, e3, bN_t, cl_mk, nm_mk, pu_mk, lit, if_true, if_false, ne_eq, not_false_eq_true, not_true_eq_false, nI_add, nI_or, nI_and, Bool.false_eq_true, ne01, ne10, nI_m1', Nat.or_zero]
        · have d1 : ¬ nI k ≤ nI (lst (er N Fr A (r + 1)) k) := nI_ge (by omega) (by omega)
          have e1 := M_isAlike hM.1 hVk hHk h8 hF hn (a := lst (er N Fr A (r + 1)) k) (b := k) (by omega) hk
          have e2 : (er N Fr A r (lst (er N Fr A (r + 1)) k) k && (goB N Fr (er N Fr A r) (lst (er N Fr A (r + 1)) k) k && goB N Fr (er N Fr A r) k (lst (er N Fr A (r + 1)) k))) = true := l2
          rw [e2] at e1
          have e3 : isRep N Fr A (r + 1) k = false := by
            cases z : isRep N Fr A (r + 1) k
            · rfl
            · exact absurd ((lst_iff hr).mpr (isRep_iff.mp z)) q
          have r1 : ∀ f : Int32 → Option (Int32 × AW), rd 8 ((n1M w N Fr A r k).1 0 49) (nI (lst (er N Fr A (r + 1)) k)) f = f (nI (gM N Fr A (r + 1) k)) := fun f => by
            rw [rd_in (by omega) (by decide)]
            unfold n1M
            rw [setRow_in k (by omega)]
            show f (nI (repC N Fr A (r + 1) (lst (er N Fr A (r + 1)) (lst (er N Fr A (r + 1)) k)))) = f (nI (repC N Fr A (r + 1) (lst (er N Fr A (r + 1)) k)))
            rw [lst_lst]
          have e4 : am_set (n1M w N Fr A r k) 0 49 k (nI (gM N Fr A (r + 1) k)) = n1M w N Fr A r (k + 1) := rfl
          simp only [mX6_splits_158, mX6_splits_182, mX6_splits_206, mX6_splits_220, d1, e1, r1, bN_t, wr_in (show k < 8 by omega) (show 8 < 2 ^ 31 by decide), e4, repC, e3, bN_f, Nat.add_zero, cl_mk, nm_mk, pu_mk, lit, if_true, if_false, ne_eq, not_false_eq_true, not_true_eq_false, nI_add, nI_or, nI_and, Bool.false_eq_true, ne01, ne10, nI_m1', Nat.or_zero]
    simp only [mX6_splits_146, hM.1, c1, cl_mk, nm_mk, pu_mk, lit, if_true, if_false, ne_eq, not_false_eq_true, not_true_eq_false, nI_add, nI_or, nI_and, Bool.false_eq_true, ne01, ne10, nI_m1', Nat.or_zero]
    exact inner
  · intro n
    have hM : NetM (n1M w N Fr A r N) N S A := h.k (n1M_K w N Fr A r N)
    have c1 : nI N ≤ nI N := nI_le (Nat.le_refl N) (by omega)
    simp only [mX6_splits_146, hM.1, c1, cl_mk, nm_mk, pu_mk, lit, if_true, if_false, ne_eq, not_false_eq_true, not_true_eq_false, nI_add, nI_or, nI_and, Bool.false_eq_true, ne01, ne10, nI_m1', Nat.or_zero]
end N1
end
section
/-! the model's heaps: a round's end -/
noncomputable def n2M (w : AW) (N : Nat) (Fr A : Nat → Nat) (r k : Nat) : AW := setRow w 0 48 (fun a => nI (gM N Fr A r a)) k
theorem n2M_K (w : AW) (N : Nat) (Fr A : Nat → Nat) (r : Nat) : ∀ k, KM w (n2M w N Fr A r k)
  | 0 => KM.rf w
  | k + 1 => (n2M_K w N Fr A r k).set (Or.inl (by decide))
def l1M (w : AW) (N : Nat) (Fr A : Nat → Nat) (r k : Nat) : AW := setRow w 0 50 (lvC N Fr A r) k
theorem l1M_K (w : AW) (N : Nat) (Fr A : Nat → Nat) (r : Nat) : ∀ k, KM w (l1M w N Fr A r k)
  | 0 => KM.rf w
  | k + 1 => (l1M_K w N Fr A r k).set (Or.inl (by decide))
section N2
variable {w : AW} {N : Nat} {S A Fr : Nat → Nat}
theorem M_splits231 {r : Nat} {v2 v3 : Int32} (h : NetM w N S A) (hN : NetOK N S A) (h49 : ∀ k, k < N → w.1 0 49 k = nI (gM N Fr A r k)) (k135 : Int32 → Int32 → AW → Option (Int32 × AW)) : mX6_splits_231 k135 v2 v3 FU (nI 0) w = mX6_splits_263 k135 v2 v3 FU (nI 0) (n2M w N Fr A r N) := by
  have h8 := hN.2.1
  refine loopE (fun n (s : Int32 × AW) => mX6_splits_231 k135 v2 v3 n s.1 s.2) N (fun k => (nI k, n2M w N Fr A r k)) _ ?_ ?_ FU 0 (Nat.zero_le _) (FU_gt (by omega))
  · intro n k hk
    have c1 : ¬ nI N ≤ nI k := nI_ge hk (by omega)
    have hM : NetM (n2M w N Fr A r k) N S A := h.k (n2M_K w N Fr A r k)
    have r1 : ∀ f : Int32 → Option (Int32 × AW), rd 8 ((n2M w N Fr A r k).1 0 49) (nI k) f = f (nI (gM N Fr A r k)) := fun f => by
      rw [rd_in (by omega) (by decide)]
      unfold n2M
      rw [setRow_row (by decide), h49 k hk]
    simp only [mX6_splits_231, hM.1, c1, r1, wr_in (show k < 8 by omega) (show 8 < 2 ^ 31 by decide), cl_mk, nm_mk, pu_mk, lit, if_true, if_false, ne_eq, not_false_eq_true, not_true_eq_false, nI_add, nI_or, nI_and, Bool.false_eq_true, ne01, ne10, nI_m1', Nat.or_zero]
    rfl
  · intro n
    have hM : NetM (n2M w N Fr A r N) N S A := h.k (n2M_K w N Fr A r N)
    have c1 : nI N ≤ nI N := nI_le (Nat.le_refl N) (by omega)
    simp only [mX6_splits_231, hM.1, c1, cl_mk, nm_mk, pu_mk, lit, if_true, if_false, ne_eq, not_false_eq_true, not_true_eq_false, nI_add, nI_or, nI_and, Bool.false_eq_true, ne01, ne10, nI_m1', Nat.or_zero]
end N2
end
section
/-! the model's heaps: a round's levels -/
section N3
variable {w : AW} {N : Nat} {S A Fr : Nat → Nat}
theorem M_splits263 {r : Nat} {v2 : Int32} (h : NetM w N S A) (hN : NetOK N S A) (hH : HeapM w N (gM N Fr A (r + 1))) (hL : LevM w N Fr A r) (k135 : Int32 → Int32 → AW → Option (Int32 × AW)) : mX6_splits_263 k135 v2 (nI (r + 1)) FU (nI 0) w = k135 v2 (nI (r + 1 + 1)) (l1M w N Fr A (r + 1) 64) := by
  have h8 := hN.2.1
  have hn := gM_Nm (N := N) (Fr := Fr) (A := A) h8 (r + 1)
  refine loopE (fun n (s : Int32 × AW) => mX6_splits_263 k135 v2 (nI (r + 1)) n s.1 s.2) 64 (fun k => (nI k, l1M w N Fr A (r + 1) k)) _ ?_ ?_ FU 0 (Nat.zero_le _) (FU_gt (by omega))
  · intro n v hv
    have c1 : ¬ nI 64 ≤ nI v := nI_ge hv (by decide)
    have hM : NetM (l1M w N Fr A (r + 1) v) N S A := h.k (l1M_K w N Fr A (r + 1) v)
    obtain ⟨d1, d2⟩ := dv_1 v hv
    rw [d1] at d2
    have hr : ∀ x, (l1M w N Fr A (r + 1) v).1 0 48 x = w.1 0 48 x := fun x => by
      unfold l1M
      rw [setRow_row (by decide)]
    have r0 : ∀ f : Int32 → Option (Int32 × AW), rd 64 ((l1M w N Fr A (r + 1) v).1 0 50) (nI v) f = f (lvC N Fr A r v) := fun f => by
      rw [rd_in (by omega) (by decide)]
      unfold l1M
      rw [setRow_out v (Nat.le_refl v), hL v hv]
    have fin : ∀ x, lvC N Fr A (r + 1) v = x → am_set (l1M w N Fr A (r + 1) v) 0 50 v x = l1M w N Fr A (r + 1) (v + 1) := fun x hx => by
      rw [← hx]; rfl
    have stay : lvC N Fr A (r + 1) v = lvC N Fr A r v → mX6_splits_333 k135 (mX6_splits_263 k135 v2 (nI (r + 1)) n) v2 (nI (r + 1)) (nI v) (l1M w N Fr A (r + 1) v) = mX6_splits_263 k135 v2 (nI (r + 1)) n (nI (v + 1)) (l1M w N Fr A (r + 1) (v + 1)) := fun z => by
      simp only [mX6_splits_333, mX6_splits_334, mX6_splits_358, r0, wr_in (show v < 64 by omega) (show 64 < 2 ^ 31 by decide), fin _ z, cl_mk, nm_mk, pu_mk, lit, if_true, if_false, ne_eq, not_false_eq_true, not_true_eq_false, nI_add, nI_or, nI_and, Bool.false_eq_true, ne01, ne10, nI_m1', Nat.or_zero]
    by_cases qa : v / 8 < N
    · have c2 : ¬ nI N ≤ nI (v / 8) := nI_ge qa (by omega)
      by_cases qb : v % 8 < N
      · have c3 : ¬ nI N ≤ nI (v % 8) := nI_ge qb (by omega)
        have r1 : ∀ f : Int32 → Option (Int32 × AW), rd 8 ((l1M w N Fr A (r + 1) v).1 0 48) (nI (v / 8)) f = f (nI (gM N Fr A (r + 1) (v / 8))) := fun f => by
          rw [rd_in (by omega) (by decide), hr, hH _ qa]
        have r2 : ∀ f : Int32 → Option (Int32 × AW), rd 8 ((l1M w N Fr A (r + 1) v).1 0 48) (nI (v % 8)) f = f (nI (gM N Fr A (r + 1) (v % 8))) := fun f => by
          rw [rd_in (by omega) (by decide), hr, hH _ qb]
        have ec : ∀ s, lvC N Fr A s v = lvF N Fr A (v / 8) (v % 8) s := fun s => if_pos ⟨qa, qb⟩
        by_cases z9 : lvC N Fr A r v = -nI 9
        · have z8 : lvF N Fr A (v / 8) (v % 8) r = -9 := (ec r).symm.trans z9
          cases q : er N Fr A (r + 1) (v / 8) (v % 8)
          · have e1 : (nI (gM N Fr A (r + 1) (v / 8)) = nI (gM N Fr A (r + 1) (v % 8))) = False := eq_false (fun z => by
              have := (hn.1 _ _ qa qb).mp ((nI_eq (by have := hn.2 _ qa; omega) (by have := hn.2 _ qb; omega)).mp z)
              rw [q] at this; cases this)
            have f1 := fin (nI (r + 1)) (by rw [ec]; unfold lvF; rw [if_pos z8, q]; rfl)
            simp only [mX6_splits_263, mX6_splits_334, mX6_splits_358, hM.1, c1, d1, d2, c2, c3, r0, r1, r2, e1, z9, wr_in (show v < 64 by omega) (show 64 < 2 ^ 31 by decide), f1, cl_mk, nm_mk, pu_mk, lit, if_true, if_false, ne_eq, not_false_eq_true, not_true_eq_false, nI_add, nI_or, nI_and, Bool.false_eq_true, ne01, ne10, nI_m1', Nat.or_zero]
          · have e1 : gM N Fr A (r + 1) (v / 8) = gM N Fr A (r + 1) (v % 8) := (hn.1 _ _ qa qb).mpr q
            have f1 := stay (by rw [ec, ec]; show (if _ then _ else _) = _; rw [if_pos z8, q, z8]; rfl)
            simp only [mX6_splits_263, hM.1, c1, d1, d2, c2, c3, r0, r1, r2, e1, z9, f1, cl_mk, nm_mk, pu_mk, lit, if_true, if_false, ne_eq, not_false_eq_true, not_true_eq_false, nI_add, nI_or, nI_and, Bool.false_eq_true, ne01, ne10, nI_m1', Nat.or_zero]
        · have z8 : ¬ lvF N Fr A (v / 8) (v % 8) r = -9 := fun y => z9 ((ec r).trans y)
          have f1 := stay (by rw [ec, ec]; show (if _ then _ else _) = _; rw [if_neg z8])
          simp only [mX6_splits_263, hM.1, c1, d1, d2, c2, c3, r0, z9, f1, cl_mk, nm_mk, pu_mk, lit, if_true, if_false, ne_eq, not_false_eq_true, not_true_eq_false, nI_add, nI_or, nI_and, Bool.false_eq_true, ne01, ne10, nI_m1', Nat.or_zero]
      · have c3 : nI N ≤ nI (v % 8) := nI_le (by omega) (by omega)
        have f1 := stay (by unfold lvC; rw [if_neg (fun z => qb z.2), if_neg (fun z => qb z.2)])
        simp only [mX6_splits_263, hM.1, c1, d1, d2, c2, c3, f1, cl_mk, nm_mk, pu_mk, lit, if_true, if_false, ne_eq, not_false_eq_true, not_true_eq_false, nI_add, nI_or, nI_and, Bool.false_eq_true, ne01, ne10, nI_m1', Nat.or_zero]
    · have c2 : nI N ≤ nI (v / 8) := nI_le (by omega) (by omega)
      have f1 := stay (by unfold lvC; rw [if_neg (fun z => qa z.1), if_neg (fun z => qa z.1)])
      simp only [mX6_splits_263, hM.1, c1, d1, d2, c2, f1, cl_mk, nm_mk, pu_mk, lit, if_true, if_false, ne_eq, not_false_eq_true, not_true_eq_false, nI_add, nI_or, nI_and, Bool.false_eq_true, ne01, ne10, nI_m1', Nat.or_zero]
  · intro n
    have c1 : nI 64 ≤ nI 64 := by decide
    simp only [mX6_splits_263, c1, cl_mk, nm_mk, pu_mk, lit, if_true, if_false, ne_eq, not_false_eq_true, not_true_eq_false, nI_add, nI_or, nI_and, Bool.false_eq_true, ne01, ne10, nI_m1', Nat.or_zero]
end N3
end
section
/-! the model's heaps: all rounds -/
section N4
variable {N : Nat} {S A Fr : Nat → Nat}
theorem M_splits135 (hN : NetOK N S A) (hF : ∀ k, k < N → Fr k < 2 ^ N) : ∀ (d r n : Nat) (v2 : Int32) (w : AW), r + d = 9 → d < n → (r = 9 → v2 = nI (repC N Fr A 9 N)) → NetM w N S A → ViewM w N Fr → HeapM w N (gM N Fr A r) → LevM w N Fr A r → ∃ w2, mX6_splits_135 n v2 (nI (r + 1)) w = some (nI (repC N Fr A 9 N), w2) ∧ KM w w2 ∧ LevM w2 N Fr A 9 := by
  intro d
  induction d with
  | zero =>
    intro r n v2 w e hn hv h hV hH hL
    obtain ⟨n, rfl⟩ : ∃ m, n = m + 1 := ⟨n - 1, by omega⟩
    have e2 : r = 9 := by omega
    subst e2
    have c1 : nI 9 < nI (9 + 1) := by decide
    refine ⟨w, ?_, KM.rf w, hL⟩
    simp only [mX6_splits_135, c1, hv rfl, cl_mk, nm_mk, pu_mk, lit, if_true, if_false, ne_eq, not_false_eq_true, not_true_eq_false, nI_add, nI_or, nI_and, Bool.false_eq_true, ne01, ne10, nI_m1', Nat.or_zero]
  | succ d ih =>
    intro r n v2 w e hn hv h hV hH hL
    obtain ⟨n, rfl⟩ : ∃ m, n = m + 1 := ⟨n - 1, by omega⟩
    have c1 : ¬ nI 9 < nI (r + 1) := nI_nlt (by omega) (by omega)
    have k1 := n1M_K w N Fr A r N
    have g1 := M_splits146 h hN hV hF hH (mX6_splits_135 n)
    have g2 := M_splits231 (r := r + 1) (Fr := Fr) (v2 := nI (repC N Fr A (r + 1) N)) (v3 := nI (r + 1)) (h.k k1) hN (fun k hk => setRow_in N hk) (mX6_splits_135 n)
    have k2 := k1.tr (n2M_K (n1M w N Fr A r N) N Fr A (r + 1) N)
    have g3 := M_splits263 (r := r) (v2 := nI (repC N Fr A (r + 1) N)) (h.k k2) hN (fun k hk => setRow_in N hk) (fun v hv => by
      unfold n2M n1M
      rw [setRow_row (by decide), setRow_row (by decide)]
      exact hL v hv) (mX6_splits_135 n)
    have k3 := k2.tr (l1M_K (n2M (n1M w N Fr A r N) N Fr A (r + 1) N) N Fr A (r + 1) 64)
    obtain ⟨w2, f1, f2, f3⟩ := ih (r + 1) n (nI (repC N Fr A (r + 1) N)) (l1M (n2M (n1M w N Fr A r N) N Fr A (r + 1) N) N Fr A (r + 1) 64) (by omega) (by omega) (fun z => by rw [z]) (h.k k3) (fun k hk => by
      unfold l1M n2M n1M
      rw [setRow_row (by decide), setRow_row (by decide), setRow_row (by decide)]
      exact hV k hk) (fun k hk => by
      unfold l1M n2M
      rw [setRow_row (by decide), setRow_in N hk]) (fun v hv => setRow_in 64 hv)
    refine ⟨w2, ?_, k3.tr f2, f3⟩
    simp only [mX6_splits_135, c1, cl_mk, nm_mk, pu_mk, lit, if_true, if_false, ne_eq, not_false_eq_true, not_true_eq_false, nI_add, nI_or, nI_and, Bool.false_eq_true, ne01, ne10, nI_m1', Nat.or_zero]
    rw [g1, g2, g3]
    exact f1
theorem M_splits {w : AW} (h : NetM w N S A) (hN : NetOK N S A) {sort : Nat} (hs : sort < 4) : ∃ w2, mX6_splits (nI sort) w = some (nI (repC N (seenS N S sort) A 9 N), w2) ∧ KM w w2 ∧ LevM w2 N (seenS N S sort) A 9 := by
  have hF : ∀ k, k < N → seenS N S sort k < 2 ^ N := fun k hk => seenS_lt hN hk
  have k1 := lookM_K w N S sort N
  have hM1 := h.k k1
  have k2 := k1.tr (h0M_K (lookM w N S sort N) A N)
  have k3 := k2.tr (l0M_K (h0M (lookM w N S sort N) A N) N (seenS N S sort) A 64)
  obtain ⟨w2, f1, f2, f3⟩ := M_splits135 hN hF 9 0 FU (nI 0) (l0M (h0M (lookM w N S sort N) A N) N (seenS N S sort) A 64) (by omega) (FU_gt (by omega)) (fun z => by omega) (h.k k3) (fun k hk => by
    unfold l0M h0M
    rw [setRow_row (by decide), setRow_row (by decide)]
    exact lookM_V w N S sort k hk) (fun k hk => by
    unfold l0M h0M
    rw [setRow_row (by decide), setRow_in N hk]
    rfl) (fun v hv => setRow_in 64 hv)
  have g1 := M_splits7 hM1 hN
  have g2 := M_splits64 (Fr := seenS N S sort) (h.k k2) hN (fun k hk => by
    unfold h0M
    rw [setRow_in N hk]
    rfl)
  refine ⟨w2, ?_, k3.tr f2, f3⟩
  simp only [mX6_splits, M_looks h hN hs, cl_mk, nm_mk, pu_mk, lit, if_true, if_false, ne_eq, not_false_eq_true, not_true_eq_false, nI_add, nI_or, nI_and, Bool.false_eq_true, ne01, ne10, nI_m1', Nat.or_zero]
  rw [g1, g2]
  exact f1
theorem repC_end (h1 : 1 ≤ N) (h8 : N ≤ 8) : ∀ w, w ≤ N → repC N Fr A N w = repC N Fr A 9 w := by
  intro w
  induction w with
  | zero => intro _; rfl
  | succ w ih =>
    intro hw
    have e : isRep N Fr A N w = isRep N Fr A 9 w := by
      rw [Bool.eq_iff_iff, isRep_iff, isRep_iff]
      constructor
      · intro h v hv
        cases q : er N Fr A 9 v w
        · rfl
        · rw [← h v hv]; exact (er_le (by omega) q).symm
      · intro h v hv
        cases q : er N Fr A N v w
        · rfl
        · rw [← h v hv]; exact (er_end h1 (by omega) (by omega) (by omega) (by omega) q).symm
    simp only [repC]
    rw [ih (by omega), e]
theorem lvF_true {a b : Nat} : ∀ r, (∀ s, s ≤ r → er N Fr A s a b = true) → lvF N Fr A a b r = -9
  | 0 => fun h => if_pos (h 0 (Nat.le_refl 0))
  | r + 1 => fun h => by
    show (if lvF N Fr A a b r = -9 then (if er N Fr A (r + 1) a b = true then -9 else nI (r + 1)) else lvF N Fr A a b r) = -9
    rw [if_pos (lvF_true r (fun s hs => h s (by omega))), if_pos (h (r + 1) (Nat.le_refl _))]
theorem lvF_first {a b r0 : Nat} (h0 : er N Fr A r0 a b = false) (hlt : ∀ s, s < r0 → er N Fr A s a b = true) : ∀ r, r0 ≤ r → r ≤ 9 → lvF N Fr A a b r = nI r0 := by
  have nz : ∀ k, k < 10 → nI k ≠ -9 := by decide +kernel
  intro r
  induction r with
  | zero =>
    intro hr _
    have e : r0 = 0 := by omega
    subst e
    show (if er N Fr A 0 a b = true then (-9 : Int32) else 0) = nI 0
    rw [h0]
    rfl
  | succ r ih =>
    intro hr h9
    show (if lvF N Fr A a b r = -9 then (if er N Fr A (r + 1) a b = true then -9 else nI (r + 1)) else lvF N Fr A a b r) = nI r0
    by_cases e : r0 = r + 1
    · subst e
      rw [if_pos (lvF_true r (fun s hs => hlt s (by omega))), h0]
      rfl
    · have g := ih (by omega) (by omega)
      rw [g, if_neg (nz r0 (by omega))]
theorem lvF_dep (h1 : 1 ≤ N) (h8 : N ≤ 8) {a b : Nat} (ha : a < N) (hb : b < N) {x : Int32} (h : DepIs N Fr A a b x) : lvF N Fr A a b 9 = x := by
  rcases h with ⟨r, hr, g1, g2, rfl⟩ | ⟨g, rfl⟩
  · exact lvF_first g1 g2 9 (by omega) (by omega)
  · refine lvF_true 9 (fun s hs => ?_)
    rcases Nat.lt_or_ge N s with q | q
    · exact er_end h1 (by omega) (by omega) ha hb (g N (Nat.le_refl N))
    · exact g s q
end N4
end
section
/-! heaps, alike, apart -/
theorem pub_heaps : Pub_heaps Rel := by
  rintro wX wM ⟨N, S, A, T, y, D, h⟩ v0
  have hR := h
  obtain ⟨hN, hX, hM, hT, h2, hS, h12⟩ := h
  have hM0 : NetM (am_set wM 0 0 0 (nI 0)) N S A := hM.k (KM0 wM)
  have h8 := hN.2.1
  by_cases c0 : ∃ k, k < 4 ∧ v0 = nI k
  rotate_left
  · refine pub_same hR (-nI 1) ?_ ?_ (KX.rf _) (KM0 wM)
    · simp only [mX5_heaps, X_sort_f _ c0, cl_mk, nm_mk, pu_mk, lit, if_true, if_false, ne_eq, not_false_eq_true, not_true_eq_false, nI_add, nI_or, nI_and, Bool.false_eq_true, ne01, ne10, nI_m1', Nat.or_zero]
    · simp only [mX6_heaps, M_sort_f _ c0, cl_mk, nm_mk, pu_mk, lit, if_true, if_false, ne_eq, not_false_eq_true, not_true_eq_false, nI_add, nI_or, nI_and, Bool.false_eq_true, ne01, ne10, nI_m1', Nat.or_zero]
  obtain ⟨s, hs, rfl⟩ := c0
  have hF : ∀ k, k < N → seenS N S s k < 2 ^ N := fun k hk => seenS_lt hN hk
  obtain ⟨w2, f1, f2, f3⟩ := M_splits hM0 hN hs
  have k1 := lookX_K wX N S s N
  obtain ⟨w3, g1, g2, g3⟩ := X_heapUp (hX.k k1) hN (lookX_V wX N S s) hF
  have g4 := X_howManyHeaps h8 g3
  rw [repC_end hN.1 h8 N (Nat.le_refl N)] at g4
  refine pub_same hR (nI (repC N (seenS N S s) A 9 N)) ?_ ?_ (k1.tr g2) ((KM0 wM).tr f2)
  · simp only [mX5_heaps, X_sort_t _ hs, X_look hX hN hs, g1, g4, cl_mk, nm_mk, pu_mk, lit, if_true, if_false, ne_eq, not_false_eq_true, not_true_eq_false, nI_add, nI_or, nI_and, Bool.false_eq_true, ne01, ne10, nI_m1', Nat.or_zero]
  · simp only [mX6_heaps, M_sort_t _ hs, f1, cl_mk, nm_mk, pu_mk, lit, if_true, if_false, ne_eq, not_false_eq_true, not_true_eq_false, nI_add, nI_or, nI_and, Bool.false_eq_true, ne01, ne10, nI_m1', Nat.or_zero]
section AL
variable {wX wM : AW} {N : Nat} {S A : Nat → Nat}
theorem apart_both (hX : NetX wX N S A) (hM : NetM wM N S A) (hN : NetOK N S A) {s a b : Nat} (hs : s < 4) (ha : a < N) (hb : b < N) : ∃ x wX2 wM2, mX5_depthApart (nI a) (nI b) (nI s) wX = some (x, wX2) ∧ KX wX wX2 ∧ (∃ z, mX6_splits (nI s) wM = some (z, wM2)) ∧ KM wM wM2 ∧ (∀ f : Int32 → Option (Int32 × AW), rd 64 (wM2.1 0 50) (nI (8 * a + b)) f = f x) := by
  have h8 := hN.2.1
  have hF : ∀ k, k < N → seenS N S s k < 2 ^ N := fun k hk => seenS_lt hN hk
  obtain ⟨w2, f1, f2, f3⟩ := M_splits hM hN hs
  have k1 := lookX_K wX N S s N
  obtain ⟨x, w3, g1, g2, g3⟩ := X_depthApart (hX.k k1) hN (lookX_V wX N S s) hF ha hb
  refine ⟨x, w3, w2, ?_, k1.tr g2, ⟨_, f1⟩, f2, fun f => ?_⟩
  · simp only [mX5_depthApart, X_look hX hN hs, g1, cl_mk, nm_mk, pu_mk, lit, if_true, if_false, ne_eq, not_false_eq_true, not_true_eq_false, nI_add, nI_or, nI_and, Bool.false_eq_true, ne01, ne10, nI_m1', Nat.or_zero]
  · rw [rd_in (by omega) (by decide), f3 _ (by omega)]
    unfold lvC
    rw [show (8 * a + b) / 8 = a by omega, show (8 * a + b) % 8 = b by omega, if_pos ⟨ha, hb⟩, lvF_dep hN.1 h8 ha hb g3]
end AL
theorem pub_apart : Pub_apart Rel := by
  rintro wX wM ⟨N, S, A, T, y, D, h⟩ v0 v1 v2
  have hR := h
  obtain ⟨hN, hX, hM, hT, h2, hS, h12⟩ := h
  have hM0 : NetM (am_set wM 0 0 0 (nI 0)) N S A := hM.k (KM0 wM)
  by_cases c0 : ∃ k, k < N ∧ v0 = nI k
  rotate_left
  · refine pub_same hR (-nI 1) ?_ ?_ (KX.rf _) (KM0 wM)
    · simp only [mX5_apart, X_has_f hX hN c0, cl_mk, nm_mk, pu_mk, lit, if_true, if_false, ne_eq, not_false_eq_true, not_true_eq_false, nI_add, nI_or, nI_and, Bool.false_eq_true, ne01, ne10, nI_m1', Nat.or_zero]
    · simp only [mX6_apart, M_world_f hM0 hN c0, cl_mk, nm_mk, pu_mk, lit, if_true, if_false, ne_eq, not_false_eq_true, not_true_eq_false, nI_add, nI_or, nI_and, Bool.false_eq_true, ne01, ne10, nI_m1', Nat.or_zero]
  obtain ⟨a, ha, rfl⟩ := c0
  by_cases c1 : ∃ k, k < N ∧ v1 = nI k
  rotate_left
  · refine pub_same hR (-nI 1) ?_ ?_ (KX.rf _) (KM0 wM)
    · simp only [mX5_apart, X_has_t hX hN ha, X_has_f hX hN c1, cl_mk, nm_mk, pu_mk, lit, if_true, if_false, ne_eq, not_false_eq_true, not_true_eq_false, nI_add, nI_or, nI_and, Bool.false_eq_true, ne01, ne10, nI_m1', Nat.or_zero]
    · simp only [mX6_apart, M_world_t hM0 hN ha, M_world_f hM0 hN c1, cl_mk, nm_mk, pu_mk, lit, if_true, if_false, ne_eq, not_false_eq_true, not_true_eq_false, nI_add, nI_or, nI_and, Bool.false_eq_true, ne01, ne10, nI_m1', Nat.or_zero]
  obtain ⟨b, hb, rfl⟩ := c1
  by_cases c2 : ∃ k, k < 4 ∧ v2 = nI k
  rotate_left
  · refine pub_same hR (-nI 1) ?_ ?_ (KX.rf _) (KM0 wM)
    · simp only [mX5_apart, X_has_t hX hN ha, X_has_t hX hN hb, X_sort_f _ c2, cl_mk, nm_mk, pu_mk, lit, if_true, if_false, ne_eq, not_false_eq_true, not_true_eq_false, nI_add, nI_or, nI_and, Bool.false_eq_true, ne01, ne10, nI_m1', Nat.or_zero]
    · simp only [mX6_apart, M_world_t hM0 hN ha, M_world_t hM0 hN hb, M_sort_f _ c2, cl_mk, nm_mk, pu_mk, lit, if_true, if_false, ne_eq, not_false_eq_true, not_true_eq_false, nI_add, nI_or, nI_and, Bool.false_eq_true, ne01, ne10, nI_m1', Nat.or_zero]
  obtain ⟨s, hs, rfl⟩ := c2
  obtain ⟨x, wX2, wM2, g1, g2, ⟨z, g3⟩, g4, g5⟩ := apart_both hX hM0 hN hs ha hb
  refine pub_same hR x ?_ ?_ g2 ((KM0 wM).tr g4)
  · simp only [mX5_apart, X_has_t hX hN ha, X_has_t hX hN hb, X_sort_t _ hs, g1, cl_mk, nm_mk, pu_mk, lit, if_true, if_false, ne_eq, not_false_eq_true, not_true_eq_false, nI_add, nI_or, nI_and, Bool.false_eq_true, ne01, ne10, nI_m1', Nat.or_zero]
  · simp only [mX6_apart, M_world_t hM0 hN ha, M_world_t hM0 hN hb, M_sort_t _ hs, g3, pk_mul, g5, cl_mk, nm_mk, pu_mk, lit, if_true, if_false, ne_eq, not_false_eq_true, not_true_eq_false, nI_add, nI_or, nI_and, Bool.false_eq_true, ne01, ne10, nI_m1', Nat.or_zero]
theorem pub_alike : Pub_alike Rel := by
  rintro wX wM ⟨N, S, A, T, y, D, h⟩ v0 v1 v2
  have hR := h
  obtain ⟨hN, hX, hM, hT, h2, hS, h12⟩ := h
  have hM0 : NetM (am_set wM 0 0 0 (nI 0)) N S A := hM.k (KM0 wM)
  by_cases c0 : ∃ k, k < N ∧ v0 = nI k
  rotate_left
  · refine pub_same hR (-nI 1) ?_ ?_ (KX.rf _) (KM0 wM)
    · simp only [mX5_alike, X_has_f hX hN c0, cl_mk, nm_mk, pu_mk, lit, if_true, if_false, ne_eq, not_false_eq_true, not_true_eq_false, nI_add, nI_or, nI_and, Bool.false_eq_true, ne01, ne10, nI_m1', Nat.or_zero]
    · simp only [mX6_alike, M_world_f hM0 hN c0, cl_mk, nm_mk, pu_mk, lit, if_true, if_false, ne_eq, not_false_eq_true, not_true_eq_false, nI_add, nI_or, nI_and, Bool.false_eq_true, ne01, ne10, nI_m1', Nat.or_zero]
  obtain ⟨a, ha, rfl⟩ := c0
  by_cases c1 : ∃ k, k < N ∧ v1 = nI k
  rotate_left
  · refine pub_same hR (-nI 1) ?_ ?_ (KX.rf _) (KM0 wM)
    · simp only [mX5_alike, X_has_t hX hN ha, X_has_f hX hN c1, cl_mk, nm_mk, pu_mk, lit, if_true, if_false, ne_eq, not_false_eq_true, not_true_eq_false, nI_add, nI_or, nI_and, Bool.false_eq_true, ne01, ne10, nI_m1', Nat.or_zero]
    · simp only [mX6_alike, M_world_t hM0 hN ha, M_world_f hM0 hN c1, cl_mk, nm_mk, pu_mk, lit, if_true, if_false, ne_eq, not_false_eq_true, not_true_eq_false, nI_add, nI_or, nI_and, Bool.false_eq_true, ne01, ne10, nI_m1', Nat.or_zero]
  obtain ⟨b, hb, rfl⟩ := c1
  by_cases c2 : ∃ k, k < 4 ∧ v2 = nI k
  rotate_left
  · refine pub_same hR (-nI 1) ?_ ?_ (KX.rf _) (KM0 wM)
    · simp only [mX5_alike, X_has_t hX hN ha, X_has_t hX hN hb, X_sort_f _ c2, cl_mk, nm_mk, pu_mk, lit, if_true, if_false, ne_eq, not_false_eq_true, not_true_eq_false, nI_add, nI_or, nI_and, Bool.false_eq_true, ne01, ne10, nI_m1', Nat.or_zero]
    · simp only [mX6_alike, M_world_t hM0 hN ha, M_world_t hM0 hN hb, M_sort_f _ c2, cl_mk, nm_mk, pu_mk, lit, if_true, if_false, ne_eq, not_false_eq_true, not_true_eq_false, nI_add, nI_or, nI_and, Bool.false_eq_true, ne01, ne10, nI_m1', Nat.or_zero]
  obtain ⟨s, hs, rfl⟩ := c2
  obtain ⟨x, wX2, wM2, g1, g2, ⟨z, g3⟩, g4, g5⟩ := apart_both hX hM0 hN hs ha hb
  by_cases q : x = -nI 9
  · refine pub_same hR (nI 1) ?_ ?_ g2 ((KM0 wM).tr g4)
    · simp only [mX5_alike, mX5_alike_48, mX5_whether, X_has_t hX hN ha, X_has_t hX hN hb, X_sort_t _ hs, g1, q, cl_mk, nm_mk, pu_mk, lit, if_true, if_false, ne_eq, not_false_eq_true, not_true_eq_false, nI_add, nI_or, nI_and, Bool.false_eq_true, ne01, ne10, nI_m1', Nat.or_zero]
    · simp only [mX6_alike, M_world_t hM0 hN ha, M_world_t hM0 hN hb, M_sort_t _ hs, g3, pk_mul, g5, q, cl_mk, nm_mk, pu_mk, lit, if_true, if_false, ne_eq, not_false_eq_true, not_true_eq_false, nI_add, nI_or, nI_and, Bool.false_eq_true, ne01, ne10, nI_m1', Nat.or_zero]
  · refine pub_same hR (nI 0) ?_ ?_ g2 ((KM0 wM).tr g4)
    · simp only [mX5_alike, mX5_alike_48, mX5_whether, X_has_t hX hN ha, X_has_t hX hN hb, X_sort_t _ hs, g1, q, cl_mk, nm_mk, pu_mk, lit, if_true, if_false, ne_eq, not_false_eq_true, not_true_eq_false, nI_add, nI_or, nI_and, Bool.false_eq_true, ne01, ne10, nI_m1', Nat.or_zero]
    · simp only [mX6_alike, M_world_t hM0 hN ha, M_world_t hM0 hN hb, M_sort_t _ hs, g3, pk_mul, g5, q, cl_mk, nm_mk, pu_mk, lit, if_true, if_false, ne_eq, not_false_eq_true, not_true_eq_false, nI_add, nI_or, nI_and, Bool.false_eq_true, ne01, ne10, nI_m1', Nat.or_zero]
end
section
/-! the model's work area -/
theorem rn {w : AW} {i : Nat} {x : Int32} (a a' : Nat) (h : (a' == a) = false) : (am_set w 0 a i x).1 0 a' = w.1 0 a' := am_get_row (Or.inr (by simpa using h))
def setAt (w : AW) (o a z0 : Nat) (f : Nat → Int32) : Nat → AW
  | 0 => w
  | n + 1 => am_set (setAt w o a z0 f n) o a (z0 + n) (f n)
theorem setAt_row {w : AW} {o a z0 o' a' : Nat} {f : Nat → Int32} (h : o' ≠ o ∨ a' ≠ a) : ∀ n, (setAt w o a z0 f n).1 o' a' = w.1 o' a'
  | 0 => rfl
  | n + 1 => (am_get_row h).trans (setAt_row h n)
theorem setAt_in {w : AW} {o a z0 i : Nat} {f : Nat → Int32} : ∀ n, i < n → (setAt w o a z0 f n).1 o a (z0 + i) = f i := by
  intro n
  induction n with
  | zero => intro h; omega
  | succ n ih =>
    intro h
    by_cases e : i = n
    · subst e
      exact am_get_self _ _ _ _ _
    · exact (am_get_other (by omega)).trans (ih (by omega))
theorem setAt_out {w : AW} {o a z0 i : Nat} {f : Nat → Int32} (h : i < z0) : ∀ n, (setAt w o a z0 f n).1 o a i = w.1 o a i
  | 0 => rfl
  | n + 1 => (am_get_other (by omega)).trans (setAt_out h n)
def tk5 (w : AW) (M0 Z0 : Nat) (c l r b e : Nat → Nat) : Nat → AW
  | 0 => w
  | k + 1 => am_set (am_set (am_set (am_set (am_set (tk5 w M0 Z0 c l r b e k) 0 30 (M0 + k) (nI (c k))) 0 31 (M0 + k) (nI (l k + M0))) 0 32 (M0 + k) (nI (r k + M0))) 0 33 (M0 + k) (nI (b k + Z0))) 0 34 (M0 + k) (nI (e k + Z0))
section TK
variable {w : AW} {M0 Z0 : Nat} {c l r b e : Nat → Nat}
theorem tk5_K : ∀ k, KM w (tk5 w M0 Z0 c l r b e k)
  | 0 => KM.rf w
  | k + 1 => (((((tk5_K k).set (Or.inl (by decide))).set (Or.inl (by decide))).set (Or.inl (by decide))).set (Or.inl (by decide))).set (Or.inl (by decide))
theorem tk5_row {a : Nat} (h : a < 30 ∨ 34 < a) : ∀ k, (tk5 w M0 Z0 c l r b e k).1 0 a = w.1 0 a
  | 0 => rfl
  | k + 1 => by
    unfold tk5
    rw [am_get_row (by omega), am_get_row (by omega), am_get_row (by omega), am_get_row (by omega), am_get_row (by omega)]
    exact tk5_row h k
theorem tk5_out {a j : Nat} (h : j < M0) : ∀ k, (tk5 w M0 Z0 c l r b e k).1 0 a j = w.1 0 a j
  | 0 => rfl
  | k + 1 => by
    unfold tk5
    rw [am_get, if_neg (by omega), am_get, if_neg (by omega), am_get, if_neg (by omega), am_get, if_neg (by omega), am_get, if_neg (by omega)]
    exact tk5_out h k
theorem tk5_in {j : Nat} : ∀ k, j < k → (tk5 w M0 Z0 c l r b e k).1 0 30 (M0 + j) = nI (c j) ∧ (tk5 w M0 Z0 c l r b e k).1 0 31 (M0 + j) = nI (l j + M0) ∧ (tk5 w M0 Z0 c l r b e k).1 0 32 (M0 + j) = nI (r j + M0) ∧ (tk5 w M0 Z0 c l r b e k).1 0 33 (M0 + j) = nI (b j + Z0) ∧ (tk5 w M0 Z0 c l r b e k).1 0 34 (M0 + j) = nI (e j + Z0) := by
  intro k
  induction k with
  | zero => intro h; omega
  | succ k ih =>
    intro h
    by_cases q : j = k
    · subst q
      simp [tk5, am_get]
    · have g := ih (by omega)
      have q2 : ¬ M0 + j = M0 + k := by omega
      simp only [tk5, am_get, q2, and_false, if_false]
      exact g
end TK
/-- the work area holds nodes and bytes -/
def WorkM (w : AW) (M Z : Nat) (c l r b e y : Nat → Nat) : Prop := w.1 0 0 26 = nI M ∧ w.1 0 0 27 = nI Z ∧ (∀ k, k < M → w.1 0 30 k = nI (c k) ∧ w.1 0 31 k = nI (l k) ∧ w.1 0 32 k = nI (r k) ∧ w.1 0 33 k = nI (b k) ∧ w.1 0 34 k = nI (e k)) ∧ (∀ j, j < Z → w.1 0 29 j = nI (y j))
theorem WorkM.c {w w2 : AW} {M Z : Nat} {c l r b e y : Nat → Nat} (h : WorkM w M Z c l r b e y) (e1 : w2.1 0 0 26 = w.1 0 0 26) (e2 : w2.1 0 0 27 = w.1 0 0 27) (e3 : ∀ a, 29 ≤ a → a ≤ 34 → w2.1 0 a = w.1 0 a) : WorkM w2 M Z c l r b e y := by
  unfold WorkM
  rw [e1, e2, e3 29 (by decide) (by decide), e3 30 (by decide) (by decide), e3 31 (by decide) (by decide), e3 32 (by decide) (by decide), e3 33 (by decide) (by decide), e3 34 (by decide) (by decide)]
  exact h
def takesW (w : AW) (M0 Z0 m z : Nat) (c l r b e y : Nat → Nat) : AW := am_set (am_set (setAt (tk5 w M0 Z0 c l r b e m) 0 29 Z0 (fun j => nI (y j)) z) 0 0 26 (nI (M0 + m))) 0 0 27 (nI (Z0 + z))
theorem setAt_K {w w0 : AW} {a z0 : Nat} {f : Nat → Int32} (h : KM w0 w) (ha : 16 ≤ a) : ∀ k, KM w0 (setAt w 0 a z0 f k)
  | 0 => h
  | k + 1 => (setAt_K h ha k).set (Or.inl ha)
theorem takesW_K {w : AW} {M0 Z0 m z : Nat} {c l r b e y : Nat → Nat} : KM w (takesW w M0 Z0 m z c l r b e y) := ((setAt_K (tk5_K m) (by decide) z).set (Or.inr ⟨rfl, by decide, by decide⟩)).set (Or.inr ⟨rfl, by decide, by decide⟩)
section TW
variable {w : AW} {i M0 Z0 m z : Nat} {c l r b e y : Nat → Nat}
theorem M_takes120 (hS : SenM w i m z c l r b e y) (hi : i < 6) (h26 : w.1 0 0 26 = nI M0) (h27 : w.1 0 0 27 = nI Z0) (hz : z ≤ 200) (hZ : Z0 + z ≤ 402) : mX6_takes_120 (nI i) FU (nI 0) w = some ((), am_set (am_set (setAt w 0 29 Z0 (fun j => nI (y j)) z) 0 0 26 (nI (M0 + m))) 0 0 27 (nI (Z0 + z))) := by
  refine loopE (fun n (s : Int32 × AW) => mX6_takes_120 (nI i) n s.1 s.2) z (fun k => (nI k, setAt w 0 29 Z0 (fun j => nI (y j)) k)) _ ?_ ?_ FU 0 (Nat.zero_le _) (FU_gt (by omega))
  · intro n k hk
    have c1 : ¬ nI z ≤ nI k := nI_ge hk (by omega)
    have r1 : ∀ f : Int32 → Option (Unit × AW), rd 6 ((setAt w 0 29 Z0 (fun j => nI (y j)) k).1 0 9) (nI i) f = f (nI z) := fun f => by
      rw [rd_in hi (by decide), setAt_row (by decide), hS.1]
    have r2 : ∀ f : Int32 → Option (Unit × AW), rd 1200 ((setAt w 0 29 Z0 (fun j => nI (y j)) k).1 0 8) (nI (200 * i + k)) f = f (nI (y k)) := fun f => by
      rw [rd_in (by omega) (by decide), setAt_row (by decide), hS.2.2.2 k hk]
    have r3 : (setAt w 0 29 Z0 (fun j => nI (y j)) k).1 0 0 27 = nI Z0 := by rw [setAt_row (by decide), h27]
    simp only [mX6_takes_120, r1, c1, pk_mul, r2, r3, wr_in (show Z0 + k < 420 by omega) (show 420 < 2 ^ 31 by decide), cl_mk, nm_mk, pu_mk, lit, if_true, if_false, ne_eq, not_false_eq_true, not_true_eq_false, nI_add, nI_or, nI_and, Bool.false_eq_true, ne01, ne10, nI_m1', Nat.or_zero]
    rfl
  · intro n
    have c1 : nI z ≤ nI z := nI_le (Nat.le_refl z) (by omega)
    have r1 : ∀ f : Int32 → Option (Unit × AW), rd 6 ((setAt w 0 29 Z0 (fun j => nI (y j)) z).1 0 9) (nI i) f = f (nI z) := fun f => by
      rw [rd_in hi (by decide), setAt_row (by decide), hS.1]
    have r2 : ∀ f : Int32 → Option (Unit × AW), rd 6 ((setAt w 0 29 Z0 (fun j => nI (y j)) z).1 0 10) (nI i) f = f (nI m) := fun f => by
      rw [rd_in hi (by decide), setAt_row (by decide), hS.2.1]
    have r3 : (setAt w 0 29 Z0 (fun j => nI (y j)) z).1 0 0 26 = nI M0 := by rw [setAt_row (by decide), h26]
    have r4 : ∀ f : Int32 → Option (Unit × AW), rd 6 ((am_set (setAt w 0 29 Z0 (fun j => nI (y j)) z) 0 0 26 (nI (M0 + m))).1 0 9) (nI i) f = f (nI z) := fun f => by
      rw [rd_in hi (by decide), am_get_row (by decide), setAt_row (by decide), hS.1]
    have r5 : (am_set (setAt w 0 29 Z0 (fun j => nI (y j)) z) 0 0 26 (nI (M0 + m))).1 0 0 27 = nI Z0 := by rw [am_get_other (by decide), setAt_row (by decide), h27]
    simp only [mX6_takes_120, r1, r2, r3, r4, r5, c1, cl_mk, nm_mk, pu_mk, lit, if_true, if_false, ne_eq, not_false_eq_true, not_true_eq_false, nI_add, nI_or, nI_and, Bool.false_eq_true, ne01, ne10, nI_m1', Nat.or_zero]
theorem M_takes (hS : SenM w i m z c l r b e y) (hi : i < 6) (h26 : w.1 0 0 26 = nI M0) (h27 : w.1 0 0 27 = nI Z0) (hm : m ≤ 40) (hM : M0 + m ≤ 81) (hz : z ≤ 200) (hZ : Z0 + z ≤ 402) : mX6_takes (nI i) w = some ((), takesW w M0 Z0 m z c l r b e y) := by
  unfold mX6_takes
  refine loopE (fun n (s : Int32 × AW) => mX6_takes_2 (nI i) n s.1 s.2) m (fun k => (nI k, tk5 w M0 Z0 c l r b e k)) _ ?_ ?_ FU 0 (Nat.zero_le _) (FU_gt (by omega))
  · intro n k hk
    have c1 : ¬ nI m ≤ nI k := nI_ge hk (by omega)
    obtain ⟨g1, g2, g3, g4, g5⟩ := hS.2.2.1 k hk
    have hq : 40 * i + k < 240 := by omega
    have r0 : ∀ f : Int32 → Option (Unit × AW), rd 6 ((tk5 w M0 Z0 c l r b e k).1 0 10) (nI i) f = f (nI m) := fun f => by
      rw [rd_in hi (by decide), tk5_row (by decide), hS.2.1]
    have r1 : ∀ f : Int32 → Option (Unit × AW), rd 240 ((tk5 w M0 Z0 c l r b e k).1 0 11) (nI (40 * i + k)) f = f (nI (c k)) := fun f => by
      rw [rd_in hq (by decide), tk5_row (by decide), g1]
    have r2 : ∀ f : Int32 → Option (Unit × AW), rd 240 ((tk5 w M0 Z0 c l r b e k).1 0 12) (nI (40 * i + k)) f = f (nI (l k)) := fun f => by
      rw [rd_in hq (by decide), tk5_row (by decide), g2]
    have r3 : ∀ f : Int32 → Option (Unit × AW), rd 240 ((tk5 w M0 Z0 c l r b e k).1 0 13) (nI (40 * i + k)) f = f (nI (r k)) := fun f => by
      rw [rd_in hq (by decide), tk5_row (by decide), g3]
    have r4 : ∀ f : Int32 → Option (Unit × AW), rd 240 ((tk5 w M0 Z0 c l r b e k).1 0 14) (nI (40 * i + k)) f = f (nI (b k)) := fun f => by
      rw [rd_in hq (by decide), tk5_row (by decide), g4]
    have r5 : ∀ f : Int32 → Option (Unit × AW), rd 240 ((tk5 w M0 Z0 c l r b e k).1 0 15) (nI (40 * i + k)) f = f (nI (e k)) := fun f => by
      rw [rd_in hq (by decide), tk5_row (by decide), g5]
    have r6 : (tk5 w M0 Z0 c l r b e k).1 0 0 26 = nI M0 := by rw [tk5_row (by decide), h26]
    have r7 : (tk5 w M0 Z0 c l r b e k).1 0 0 27 = nI Z0 := by rw [tk5_row (by decide), h27]
    simp only [mX6_takes_2, r0, c1, pk_mul, r1, r2, r3, r4, r5, r6, r7, wr_in (show M0 + k < 90 by omega) (show 90 < 2 ^ 31 by decide), rn 30 12 rfl, rn 30 13 rfl, rn 30 14 rfl, rn 30 15 rfl, rn 30 0 rfl, rn 31 13 rfl, rn 31 14 rfl, rn 31 15 rfl, rn 31 0 rfl, rn 32 14 rfl, rn 32 15 rfl, rn 32 0 rfl, rn 33 15 rfl, rn 33 0 rfl, cl_mk, nm_mk, pu_mk, lit, if_true, if_false, ne_eq, not_false_eq_true, not_true_eq_false, nI_add, nI_or, nI_and, Bool.false_eq_true, ne01, ne10, nI_m1', Nat.or_zero]
    rfl
  · intro n
    have c1 : nI m ≤ nI m := nI_le (Nat.le_refl m) (by omega)
    have r0 : ∀ f : Int32 → Option (Unit × AW), rd 6 ((tk5 w M0 Z0 c l r b e m).1 0 10) (nI i) f = f (nI m) := fun f => by
      rw [rd_in hi (by decide), tk5_row (by decide), hS.2.1]
    have e1 := M_takes120 (w := tk5 w M0 Z0 c l r b e m) (M0 := M0) (Z0 := Z0) (hS.k (tk5_K m)) hi (by rw [tk5_row (by decide), h26]) (by rw [tk5_row (by decide), h27]) hz hZ
    simp only [mX6_takes_2, r0, c1, cl_mk, nm_mk, pu_mk, lit, if_true, if_false, ne_eq, not_false_eq_true, not_true_eq_false, nI_add, nI_or, nI_and, Bool.false_eq_true, ne01, ne10, nI_m1', Nat.or_zero]
    exact e1
end TW
def wkW (w : AW) (m z : Nat) (c l r b e y : Nat → Nat) : AW := takesW (am_set (am_set w 0 0 26 (nI 0)) 0 0 27 (nI 0)) 0 0 m z c l r b e y
section WK
variable {w : AW} {i m z : Nat} {c l r b e y : Nat → Nat}
theorem wkW_K : KM w (wkW w m z c l r b e y) := (((KM.rf w).set (Or.inr ⟨rfl, by decide, by decide⟩)).set (Or.inr ⟨rfl, by decide, by decide⟩)).tr takesW_K
theorem M_works (hS : SenM w i m z c l r b e y) (hi : i < 6) (hm : m ≤ 40) (hz : z ≤ 200) : mX6_works (nI i) w = some ((), wkW w m z c l r b e y) := by
  have k1 : KM w (am_set (am_set w 0 0 26 (nI 0)) 0 0 27 (nI 0)) := ((KM.rf w).set (Or.inr ⟨rfl, by decide, by decide⟩)).set (Or.inr ⟨rfl, by decide, by decide⟩)
  have e1 := M_takes (w := am_set (am_set w 0 0 26 (nI 0)) 0 0 27 (nI 0)) (M0 := 0) (Z0 := 0) (hS.k k1) hi rfl rfl hm (by omega) hz (by omega)
  simp only [mX6_works, e1, cl_mk, nm_mk, pu_mk, lit, if_true, if_false, ne_eq, not_false_eq_true, not_true_eq_false, nI_add, nI_or, nI_and, Bool.false_eq_true, ne01, ne10, nI_m1', Nat.or_zero]
  rfl
theorem wkW_W : WorkM (wkW w m z c l r b e y) m z c l r b e y := by
  refine ⟨?_, ?_, fun k hk => ?_, fun j hj => ?_⟩
  · unfold wkW takesW
    rw [am_get_other (by decide), am_get_self, Nat.zero_add]
  · unfold wkW takesW
    rw [am_get_self, Nat.zero_add]
  · have g := tk5_in (w := am_set (am_set w 0 0 26 (nI 0)) 0 0 27 (nI 0)) (M0 := 0) (Z0 := 0) (c := c) (l := l) (r := r) (b := b) (e := e) m hk
    simp only [Nat.zero_add, Nat.add_zero] at g
    unfold wkW takesW
    rw [am_get_row (by decide), am_get_row (by decide), am_get_row (by decide), am_get_row (by decide), am_get_row (by decide), am_get_row (by decide), am_get_row (by decide), am_get_row (by decide), am_get_row (by decide), am_get_row (by decide), setAt_row (by decide), setAt_row (by decide), setAt_row (by decide), setAt_row (by decide), setAt_row (by decide)]
    exact g
  · have g := setAt_in (w := tk5 (am_set (am_set w 0 0 26 (nI 0)) 0 0 27 (nI 0)) 0 0 c l r b e m) (o := 0) (a := 29) (z0 := 0) (f := fun j => nI (y j)) z hj
    rw [Nat.zero_add] at g
    unfold wkW takesW
    rw [am_get_row (by decide), am_get_row (by decide)]
    exact g
end WK
end
section
/-! values of the nodes, and of the unlike parts -/
theorem nI_eqD {a b : Nat} (ha : a < 2147483648) (hb : b < 2147483648) : (nI a = nI b) = (a = b) := propext (nI_eq ha hb)
theorem nI_leD {a b : Nat} (ha : a < 2147483648) (hb : b < 2147483648) : (nI a ≤ nI b) = (a ≤ b) := propext (nI_leI ha hb)
theorem nI_ltD {a b : Nat} (ha : a < 2147483648) (hb : b < 2147483648) : (nI a < nI b) = (a < b) := by
  rw [eq_iff_iff]
  constructor
  · intro h
    rcases Nat.lt_or_ge a b with q | q
    · exact q
    · exact absurd h (nI_nlt q ha)
  · intro h
    exact nI_lt h hb
def kd (c : Nat) : Nat := if c = 33 ∨ c = 91 ∨ c = 123 then 1 else if c = 38 ∨ c = 124 ∨ c = 62 then 2 else 0
theorem kd_leaf {c : Nat} (h : isLeaf c) : kd c = 0 := by
  unfold isLeaf at h
  unfold kd
  rw [if_neg (by omega), if_neg (by omega)]
theorem kd_pre {c : Nat} (h : isPre c) : kd c = 1 := if_pos h
theorem kd_jn {c : Nat} (h : isJn c) : kd c = 2 := by
  unfold isJn at h
  unfold kd
  rw [if_neg (by omega), if_pos h]
def ShapeOK (m : Nat) (c l r : Nat → Nat) : Prop := ∀ k, k < m → isLeaf (c k) ∨ (isPre (c k) ∧ l k < k) ∨ (isJn (c k) ∧ l k < k ∧ r k < k)
def ClassOK (m P : Nat) (c l r ph : Nat → Nat) : Prop :=
  (∀ k, k < m → ph k < P) ∧ (∀ p, p < P → ∃ k, k < m ∧ ph k = p) ∧ (∀ k, k < m → isPre (c k) → ph (l k) < ph k) ∧ (∀ k, k < m → isJn (c k) → ph (l k) < ph k ∧ ph (r k) < ph k) ∧
  (∀ k j, k < m → j < m → (ph k = ph j ↔ c k = c j ∧ (isPre (c k) → ph (l k) = ph (l j)) ∧ (isJn (c k) → ph (l k) = ph (l j) ∧ ph (r k) = ph (r j))))
theorem TreeOK.shape {m : Nat} {c l r b e y : Nat → Nat} (h : TreeOK m c l r b e y) : ShapeOK m c l r := by
  intro k hk
  rcases h k hk with g | g | g
  · exact Or.inl g.1
  · exact Or.inr (Or.inl ⟨g.1, g.2.1⟩)
  · exact Or.inr (Or.inr ⟨g.1, g.2.1, g.2.2.1⟩)
theorem PartOK.cls {m P : Nat} {c l r b ph pl dp : Nat → Nat} (h : PartOK m P c l r b ph pl dp) : ClassOK m P c l r ph := by
  obtain ⟨h1, h2, h3, h4, h5, h6, h7⟩ := h
  exact ⟨h1, fun p hp => by obtain ⟨k, q1, q2, q3⟩ := h2 p hp; exact ⟨k, q1, q2⟩, h4, h5, h6⟩
def argA (c l v : Nat → Nat) (k : Nat) : Nat := if kd (c k) = 0 then 0 else v (l k)
def argB (c r v : Nat → Nat) (k : Nat) : Nat := if kd (c k) = 2 then v (r k) else 0
def evR (op : Nat → Nat → Nat → Nat) (c l r : Nat → Nat) : Nat → Nat → Nat
  | 0 => fun _ => 0
  | n + 1 => fun j => if j = n then op n (argA c l (evR op c l r n) n) (argB c r (evR op c l r n) n) else evR op c l r n j
def evV (op : Nat → Nat → Nat → Nat) (c l r : Nat → Nat) (k : Nat) : Nat := evR op c l r (k + 1) k
noncomputable def rpF (m : Nat) (ph : Nat → Nat) (p : Nat) : Nat := if h : ∃ k, k < m ∧ ph k = p then Classical.choose h else 0
noncomputable def pvF (op : Nat → Nat → Nat → Nat) (c l r ph : Nat → Nat) (m p : Nat) : Nat := evV op c l r (rpF m ph p)
section EV
variable {op : Nat → Nat → Nat → Nat} {m P : Nat} {c l r ph : Nat → Nat}
theorem evR_eq : ∀ n k, k < n → evR op c l r n k = evV op c l r k := by
  intro n
  induction n with
  | zero => intro k hk; omega
  | succ n ih =>
    intro k hk
    by_cases e : k = n
    · subst e; rfl
    · show (if k = n then _ else evR op c l r n k) = _
      rw [if_neg e, ih k (by omega)]
theorem evV_eq (hs : ShapeOK m c l r) {k : Nat} (hk : k < m) : evV op c l r k = op k (argA c l (evV op c l r) k) (argB c r (evV op c l r) k) := by
  have e : evV op c l r k = op k (argA c l (evR op c l r k) k) (argB c r (evR op c l r k) k) := by
    show (if k = k then _ else _) = _
    rw [if_pos rfl]
  rw [e]
  unfold argA argB
  rcases hs k hk with g | ⟨g, g1⟩ | ⟨g, g1, g2⟩
  · rw [kd_leaf g]; rfl
  · rw [kd_pre g]
    simp only [Nat.one_ne_zero, if_false]
    rw [evR_eq k _ g1]
    rfl
  · rw [kd_jn g, evR_eq k _ g1, evR_eq k _ g2]
theorem evV_lt {B : Nat} (hs : ShapeOK m c l r) (h0 : 0 < B) (hb : ∀ k, k < m → ∀ a b, a < B → b < B → op k a b < B) : ∀ n k, k < n → k < m → evV op c l r k < B := by
  intro n
  induction n with
  | zero => intro k h; omega
  | succ n ih =>
    intro k hkn hk
    rw [evV_eq hs hk]
    refine hb k hk _ _ ?_ ?_
    · unfold argA
      rcases hs k hk with g | ⟨g, g1⟩ | ⟨g, g1, g2⟩
      · rw [kd_leaf g]; exact h0
      · rw [kd_pre g]; exact ih _ (by omega) (by omega)
      · rw [kd_jn g]; exact ih _ (by omega) (by omega)
    · unfold argB
      rcases hs k hk with g | ⟨g, g1⟩ | ⟨g, g1, g2⟩
      · rw [kd_leaf g]; exact h0
      · rw [kd_pre g]; exact h0
      · rw [kd_jn g]; exact ih _ (by omega) (by omega)
theorem evV_ph (hs : ShapeOK m c l r) (hc : ClassOK m P c l r ph) (hop : ∀ k j, k < m → j < m → ph k = ph j → op k = op j) : ∀ n k j, k < n → k < m → j < m → ph k = ph j → evV op c l r k = evV op c l r j := by
  intro n
  induction n with
  | zero => intro k j h; omega
  | succ n ih =>
    intro k j hkn hk hj he
    obtain ⟨q1, q2, q3⟩ := (hc.2.2.2.2 k j hk hj).mp he
    rw [evV_eq hs hk, evV_eq hs hj, hop k j hk hj he]
    unfold argA argB
    rw [← q1]
    have hsj := hs j hj
    rw [← q1] at hsj
    rcases hs k hk with g | ⟨g, g1⟩ | ⟨g, g1, g2⟩
    · rw [kd_leaf g]; rfl
    · have gj : l j < j := by
        rcases hsj with z | ⟨z, z1⟩ | ⟨z, z1, z2⟩
        · have := kd_leaf z; rw [kd_pre g] at this; cases this
        · exact z1
        · exact z1
      rw [kd_pre g]
      simp only [Nat.one_ne_zero, if_false]
      rw [ih _ _ (by omega) (by omega) (by omega) (q2 g)]
      rfl
    · have gj : l j < j ∧ r j < j := by
        rcases hsj with z | ⟨z, z1⟩ | ⟨z, z1, z2⟩
        · have := kd_leaf z; rw [kd_jn g] at this; cases this
        · have := kd_pre z; rw [kd_jn g] at this; cases this
        · exact ⟨z1, z2⟩
      rw [kd_jn g]
      simp only [if_true]
      rw [ih _ _ (by omega) (by omega) (by omega) (q3 g).1, ih _ _ (by omega) (by omega) (by omega) (q3 g).2]
theorem rpF_spec (hc : ClassOK m P c l r ph) {p : Nat} (hp : p < P) : rpF m ph p < m ∧ ph (rpF m ph p) = p := by
  have h := hc.2.1 p hp
  unfold rpF
  rw [dif_pos h]
  exact Classical.choose_spec h
theorem pvF_eq (hs : ShapeOK m c l r) (hc : ClassOK m P c l r ph) (hop : ∀ k j, k < m → j < m → ph k = ph j → op k = op j) {k : Nat} (hk : k < m) : pvF op c l r ph m (ph k) = evV op c l r k := by
  obtain ⟨g1, g2⟩ := rpF_spec hc (hc.1 k hk)
  exact evV_ph hs hc hop _ _ _ (Nat.lt_succ_self _) g1 hk g2
end EV
end
section
/-! where a sentence holds: one node -/
def mustF (N : Nat) (Fr : Nat → Nat) (v : Nat) : Nat := orF (fun k => if sdiff (Fr k) v = 0 then 2 ^ k else 0) N
theorem mustF_lt {N : Nat} {Fr : Nat → Nat} {v : Nat} : mustF N Fr v < 2 ^ N := orF_lt (fun k hk => by
  split
  · exact pow_lt_of hk
  · exact Nat.two_pow_pos N)
def opH (N : Nat) (A Fr : Nat → Nat) (c a b : Nat) : Nat := if c = 33 then sdiff (2 ^ N - 1) a else if c = 38 then a &&& b else if c = 62 then sdiff (2 ^ N - 1) a ||| b else if c = 84 then 2 ^ N - 1 else if c = 70 then 0 else if c = 124 then a ||| b else if c = 91 then mustF N Fr a else if c = 123 then sdiff (2 ^ N - 1) (mustF N Fr (sdiff (2 ^ N - 1) a)) else A (c - 112)
def opJ (g : Bool) (N : Nat) (A Fr : Nat → Nat) (c a b : Nat) : Nat := if g = true ∧ (c = 33 ∨ c = 62) then mustF N Fr (opH N A Fr c a b) else opH N A Fr c a b
theorem full_lt (N : Nat) : 2 ^ N - 1 < 2 ^ N := by have := Nat.two_pow_pos N; omega
theorem opH_lt {N : Nat} {A Fr : Nat → Nat} (hA : ∀ i, A i < 2 ^ N) {c a b : Nat} (ha : a < 2 ^ N) (hb : b < 2 ^ N) : opH N A Fr c a b < 2 ^ N := by
  have h0 := Nat.two_pow_pos N
  have hf := full_lt N
  unfold opH
  split
  · exact sdiff_lt hf
  split
  · exact Nat.lt_of_le_of_lt Nat.and_le_left ha
  split
  · exact or_lt (sdiff_lt hf) hb
  split
  · exact hf
  split
  · exact h0
  split
  · exact or_lt ha hb
  split
  · exact mustF_lt
  split
  · exact sdiff_lt hf
  · exact hA _
theorem opJ_lt {g : Bool} {N : Nat} {A Fr : Nat → Nat} (hA : ∀ i, A i < 2 ^ N) {c a b : Nat} (ha : a < 2 ^ N) (hb : b < 2 ^ N) : opJ g N A Fr c a b < 2 ^ N := by
  unfold opJ
  split
  · exact mustF_lt
  · exact opH_lt hA ha hb
/-- what of v lies in the net counts alone -/
theorem mustF_not {N : Nat} {Fr : Nat → Nat} (h8 : N ≤ 8) (hF : ∀ k, k < N → Fr k < 2 ^ N) (v : Nat) : mustF N Fr (v ^^^ 4294967295) = mustF N Fr (sdiff (2 ^ N - 1) v) := by
  have h256 := two_le h8
  have hf := full_lt N
  have key : ∀ n, n ≤ N → orF (fun k => if sdiff (Fr k) (v ^^^ 4294967295) = 0 then 2 ^ k else 0) n = orF (fun k => if sdiff (Fr k) (sdiff (2 ^ N - 1) v) = 0 then 2 ^ k else 0) n := by
    intro n
    induction n with
    | zero => intro _; rfl
    | succ n ih =>
      intro hn
      have e : sdiff (Fr n) (v ^^^ 4294967295) = sdiff (Fr n) (sdiff (2 ^ N - 1) v) := by
        have h1 := hF n (by omega)
        apply Nat.eq_of_testBit_eq
        intro j
        rw [tb_sdiff (by omega), tb_sdiff (by omega), tb_sdiff (by omega), Nat.testBit_xor, tb_all, tb_full]
        by_cases hj : j < N
        · have h32 : j < 32 := by omega
          simp [hj, h32]
        · rw [bits_of_lt h1 (by omega)]
          rfl
      simp only [orF]
      rw [ih (by omega), e]
  exact key N (Nat.le_refl N)
theorem imp_full {N a b : Nat} (h8 : N ≤ 8) (hb : b < 2 ^ N) : (2 ^ N - 1) &&& ((a ^^^ 4294967295) ||| b) = sdiff (2 ^ N - 1) a ||| b := by
  have h256 := two_le h8
  have hf := full_lt N
  apply Nat.eq_of_testBit_eq
  intro j
  rw [Nat.testBit_and, Nat.testBit_or, Nat.testBit_or, tb_sdiff (by omega), Nat.testBit_xor, tb_all, tb_full]
  by_cases hj : j < N
  · have h32 : j < 32 := by omega
    simp [hj, h32]
  · rw [bits_of_lt hb (by omega)]
    simp [hj]
theorem at_m1 {o a : Nat} (w : AW) : mX5_at o a (-nI 1) w = some (nI 0, w) := at_neg w (by decide)
section HD
variable {w : AW} {N : Nat} {S A Fr : Nat → Nat}
theorem X_must (hV : ViewX w N Fr) (h8 : N ≤ 8) (hF : ∀ k, k < N → Fr k < 2 ^ N) (v : Nat) : mX4_must (nI v) w = some (nI (mustF N Fr v), w) := by
  unfold mX4_must
  refine loopE (fun n (s : Int32 × Int32) => mX4_must_4 (nI v) n s.1 s.2 w) N (fun k => (nI (orF (fun k => if sdiff (Fr k) v = 0 then 2 ^ k else 0) k), nI k)) _ ?_ ?_ FU 0 (Nat.zero_le _) (FU_gt (by omega))
  · intro n k hk
    have c1 : ¬ nI N ≤ nI k := nI_ge hk (by omega)
    have e1 := within_B (b := v) w (hF k hk) (by omega)
    by_cases q : sdiff (Fr k) v = 0
    · simp only [mX4_must_4, mX4_must_33, hV.1, c1, from_at hV h8 hk, e1, q, decide_true, bN_t, one_shl (show k < 31 by omega), orF, cl_mk, nm_mk, pu_mk, lit, if_true, if_false, ne_eq, not_false_eq_true, not_true_eq_false, nI_add, nI_or, nI_and, Bool.false_eq_true, ne01, ne10, nI_m1', Nat.or_zero]
    · simp only [mX4_must_4, mX4_must_33, hV.1, c1, from_at hV h8 hk, e1, q, decide_false, bN_f, orF, cl_mk, nm_mk, pu_mk, lit, if_true, if_false, ne_eq, not_false_eq_true, not_true_eq_false, nI_add, nI_or, nI_and, Bool.false_eq_true, ne01, ne10, nI_m1', Nat.or_zero]
  · intro n
    have c1 : nI N ≤ nI N := nI_le (Nat.le_refl N) (by omega)
    simp only [mX4_must_4, hV.1, c1, cl_mk, nm_mk, pu_mk, lit, if_true, if_false, ne_eq, not_false_eq_true, not_true_eq_false, nI_add, nI_or, nI_and, Bool.false_eq_true, ne01, ne10, nI_m1', Nat.or_zero]
    rfl
theorem M_allIn (hz : w.1 0 0 2 = nI N) (hV : ViewM w N Fr) (h8 : N ≤ 8) (hF : ∀ k, k < N → Fr k < 2 ^ N) (v : Nat) : mX6_allIn (nI v) w = some (nI (mustF N Fr v), w) := by
  have h256 := two_le h8
  unfold mX6_allIn
  refine loopE (fun n (s : Int32 × Int32) => mX6_allIn_4 (nI v) n s.1 s.2 w) N (fun k => (nI (orF (fun k => if sdiff (Fr k) v = 0 then 2 ^ k else 0) k), nI k)) _ ?_ ?_ FU 0 (Nat.zero_le _) (FU_gt (by omega))
  · intro n k hk
    have c1 : ¬ nI N ≤ nI k := nI_ge hk (by omega)
    have hfk := hF k hk
    have hsd : sdiff (Fr k) v < 2 ^ N := sdiff_lt hfk
    have r1 : ∀ f : Int32 → Option (Int32 × AW), rd 8 (w.1 0 47) (nI k) f = f (nI (Fr k)) := fun f => by
      rw [rd_in (by omega) (by decide), hV k hk]
    by_cases q : sdiff (Fr k) v = 0
    · simp only [mX6_allIn_4, mX6_allIn_33, hz, c1, r1, nI_sdiff, q, one_shl (show k < 31 by omega), orF, cl_mk, nm_mk, pu_mk, lit, if_true, if_false, ne_eq, not_false_eq_true, not_true_eq_false, nI_add, nI_or, nI_and, Bool.false_eq_true, ne01, ne10, nI_m1', Nat.or_zero]
    · have q2 : (nI (sdiff (Fr k) v) = nI 0) = False := eq_false (fun z => q ((nI_eq (by omega) (by decide)).mp z))
      simp only [mX6_allIn_4, mX6_allIn_33, hz, c1, r1, nI_sdiff, q, q2, orF, cl_mk, nm_mk, pu_mk, lit, if_true, if_false, ne_eq, not_false_eq_true, not_true_eq_false, nI_add, nI_or, nI_and, Bool.false_eq_true, ne01, ne10, nI_m1', Nat.or_zero]
  · intro n
    have c1 : nI N ≤ nI N := nI_le (Nat.le_refl N) (by omega)
    simp only [mX6_allIn_4, hz, c1, cl_mk, nm_mk, pu_mk, lit, if_true, if_false, ne_eq, not_false_eq_true, not_true_eq_false, nI_add, nI_or, nI_and, Bool.false_eq_true, ne01, ne10, nI_m1', Nat.or_zero]
    rfl
/-- the class's step over one unlike part -/
theorem X_jstep {g : Bool} {W : AW} {o ro ra n p P cc x y : Nat} {f1 f2 : Int32} (hcc : isLeaf cc ∨ isPre cc ∨ isJn cc) (hV : ViewX W N Fr) (h8 : N ≤ 8) (hF : ∀ k, k < N → Fr k < 2 ^ N) (hA : ∀ i, i < 4 → cc = 112 + i → W.1 ro ra i = nI (A i)) (hra : am_aL false ro ra = 4) (hpa : W.1 o 0 5 = nI P) (hp : p < P) (hP : P ≤ 40)
    (hs : mX2_sign o (nI p) W = some (nI cc, W)) (h1 : mX2_first o (nI p) W = some (f1, W)) (h2 : mX2_second o (nI p) W = some (f2, W)) (hx : mX5_at 2 2 f1 W = some (nI x, W)) (hy : mX5_at 2 2 f2 W = some (nI y, W)) (hyl : y < 2 ^ N) :
    mX4_judge_13 o ro ra (nI (bN g)) (nI (2 ^ N - 1)) (n + 1) (nI p) W = mX4_judge_13 o ro ra (nI (bN g)) (nI (2 ^ N - 1)) n (nI (p + 1)) (am_set W 2 2 p (nI (opJ g N A Fr cc x y))) := by
  have c1 : ¬ nI P ≤ nI p := nI_ge hp (by omega)
  have hpt : mX2_parts o W = some (nI P, W) := by unfold mX2_parts; rw [hpa]
  have hput : ∀ z, mX5_put 2 2 (nI p) z W = some ((), am_set W 2 2 p z) := fun z => put_in W (by show p < 40; omega) (by decide)
  have hat : ∀ i, i < 4 → cc = 112 + i → mX5_at ro ra (nI i) W = some (nI (A i), W) := fun i hi hz => by
    rw [at_in W (by rw [hra]; exact hi) (by rw [hra]; decide), hA i hi hz]
  have hmu := X_must hV h8 hF
  rcases hcc with (rfl | rfl | rfl | rfl | rfl | rfl) | (rfl | rfl | rfl) | (rfl | rfl | rfl)
  · cases g <;> simp only [mX4_judge_13, mX4_judge_91, mX4_judge_108, mX4_judge_130, mX4_judge_148, mX4_judge_156, hpt, c1, hs, h1, h2, hx, hy, mX5_isAtom, mX5_joined, hput, hat 0 (by decide) rfl, bN_t, bN_f, opJ, opH, pk_sub (show 112 ≤ 112 by decide), cl_mk, nm_mk, pu_mk, lit, if_true, if_false, ne_eq, not_false_eq_true, not_true_eq_false, nI_add, nI_or, nI_and, Bool.false_eq_true, ne01, ne10, nI_m1', Nat.or_zero, nI_eqD, nI_leD, nI_ltD, Nat.reduceLT, Nat.reduceLeDiff, Nat.reduceEqDiff, Nat.reduceSub, or_true, true_or, or_false, false_or, and_true, true_and, and_false, false_and]
  · cases g <;> simp only [mX4_judge_13, mX4_judge_91, mX4_judge_108, mX4_judge_130, mX4_judge_148, mX4_judge_156, hpt, c1, hs, h1, h2, hx, hy, mX5_isAtom, mX5_joined, hput, hat 1 (by decide) rfl, bN_t, bN_f, opJ, opH, pk_sub (show 112 ≤ 113 by decide), cl_mk, nm_mk, pu_mk, lit, if_true, if_false, ne_eq, not_false_eq_true, not_true_eq_false, nI_add, nI_or, nI_and, Bool.false_eq_true, ne01, ne10, nI_m1', Nat.or_zero, nI_eqD, nI_leD, nI_ltD, Nat.reduceLT, Nat.reduceLeDiff, Nat.reduceEqDiff, Nat.reduceSub, or_true, true_or, or_false, false_or, and_true, true_and, and_false, false_and]
  · cases g <;> simp only [mX4_judge_13, mX4_judge_91, mX4_judge_108, mX4_judge_130, mX4_judge_148, mX4_judge_156, hpt, c1, hs, h1, h2, hx, hy, mX5_isAtom, mX5_joined, hput, hat 2 (by decide) rfl, bN_t, bN_f, opJ, opH, pk_sub (show 112 ≤ 114 by decide), cl_mk, nm_mk, pu_mk, lit, if_true, if_false, ne_eq, not_false_eq_true, not_true_eq_false, nI_add, nI_or, nI_and, Bool.false_eq_true, ne01, ne10, nI_m1', Nat.or_zero, nI_eqD, nI_leD, nI_ltD, Nat.reduceLT, Nat.reduceLeDiff, Nat.reduceEqDiff, Nat.reduceSub, or_true, true_or, or_false, false_or, and_true, true_and, and_false, false_and]
  · cases g <;> simp only [mX4_judge_13, mX4_judge_91, mX4_judge_108, mX4_judge_130, mX4_judge_148, mX4_judge_156, hpt, c1, hs, h1, h2, hx, hy, mX5_isAtom, mX5_joined, hput, hat 3 (by decide) rfl, bN_t, bN_f, opJ, opH, pk_sub (show 112 ≤ 115 by decide), cl_mk, nm_mk, pu_mk, lit, if_true, if_false, ne_eq, not_false_eq_true, not_true_eq_false, nI_add, nI_or, nI_and, Bool.false_eq_true, ne01, ne10, nI_m1', Nat.or_zero, nI_eqD, nI_leD, nI_ltD, Nat.reduceLT, Nat.reduceLeDiff, Nat.reduceEqDiff, Nat.reduceSub, or_true, true_or, or_false, false_or, and_true, true_and, and_false, false_and]
  · cases g <;> simp only [mX4_judge_13, mX4_judge_91, mX4_judge_108, mX4_judge_130, mX4_judge_148, mX4_judge_156, hpt, c1, hs, h1, h2, hx, hy, mX5_isAtom, mX5_joined, hput, bN_t, bN_f, opJ, opH, cl_mk, nm_mk, pu_mk, lit, if_true, if_false, ne_eq, not_false_eq_true, not_true_eq_false, nI_add, nI_or, nI_and, Bool.false_eq_true, ne01, ne10, nI_m1', Nat.or_zero, nI_eqD, nI_leD, nI_ltD, Nat.reduceLT, Nat.reduceLeDiff, Nat.reduceEqDiff, Nat.reduceSub, or_true, true_or, or_false, false_or, and_true, true_and, and_false, false_and]
  · cases g <;> simp only [mX4_judge_13, mX4_judge_91, mX4_judge_108, mX4_judge_130, mX4_judge_148, mX4_judge_156, hpt, c1, hs, h1, h2, hx, hy, mX5_isAtom, mX5_joined, hput, bN_t, bN_f, opJ, opH, cl_mk, nm_mk, pu_mk, lit, if_true, if_false, ne_eq, not_false_eq_true, not_true_eq_false, nI_add, nI_or, nI_and, Bool.false_eq_true, ne01, ne10, nI_m1', Nat.or_zero, nI_eqD, nI_leD, nI_ltD, Nat.reduceLT, Nat.reduceLeDiff, Nat.reduceEqDiff, Nat.reduceSub, or_true, true_or, or_false, false_or, and_true, true_and, and_false, false_and]
  · cases g <;> simp only [mX4_judge_13, mX4_judge_91, mX4_judge_108, mX4_judge_130, mX4_judge_148, mX4_judge_156, hpt, c1, hs, h1, h2, hx, hy, mX5_isAtom, mX5_joined, hput, bN_t, bN_f, opJ, opH, nI_sdiff, hmu, cl_mk, nm_mk, pu_mk, lit, if_true, if_false, ne_eq, not_false_eq_true, not_true_eq_false, nI_add, nI_or, nI_and, Bool.false_eq_true, ne01, ne10, nI_m1', Nat.or_zero, nI_eqD, nI_leD, nI_ltD, Nat.reduceLT, Nat.reduceLeDiff, Nat.reduceEqDiff, Nat.reduceSub, or_true, true_or, or_false, false_or, and_true, true_and, and_false, false_and]
  · cases g <;> simp only [mX4_judge_13, mX4_judge_91, mX4_judge_108, mX4_judge_130, mX4_judge_148, mX4_judge_156, hpt, c1, hs, h1, h2, hx, hy, mX5_isAtom, mX5_joined, hput, bN_t, bN_f, opJ, opH, nI_sdiff, hmu, cl_mk, nm_mk, pu_mk, lit, if_true, if_false, ne_eq, not_false_eq_true, not_true_eq_false, nI_add, nI_or, nI_and, Bool.false_eq_true, ne01, ne10, nI_m1', Nat.or_zero, nI_eqD, nI_leD, nI_ltD, Nat.reduceLT, Nat.reduceLeDiff, Nat.reduceEqDiff, Nat.reduceSub, or_true, true_or, or_false, false_or, and_true, true_and, and_false, false_and]
  · cases g <;> simp only [mX4_judge_13, mX4_judge_91, mX4_judge_108, mX4_judge_130, mX4_judge_148, mX4_judge_156, hpt, c1, hs, h1, h2, hx, hy, mX5_isAtom, mX5_joined, hput, bN_t, bN_f, opJ, opH, nI_sdiff, nI_xor, hmu, mustF_not h8 hF, ← sdiff.eq_1, cl_mk, nm_mk, pu_mk, lit, if_true, if_false, ne_eq, not_false_eq_true, not_true_eq_false, nI_add, nI_or, nI_and, Bool.false_eq_true, ne01, ne10, nI_m1', Nat.or_zero, nI_eqD, nI_leD, nI_ltD, Nat.reduceLT, Nat.reduceLeDiff, Nat.reduceEqDiff, Nat.reduceSub, or_true, true_or, or_false, false_or, and_true, true_and, and_false, false_and]
  · cases g <;> simp only [mX4_judge_13, mX4_judge_91, mX4_judge_108, mX4_judge_130, mX4_judge_148, mX4_judge_156, hpt, c1, hs, h1, h2, hx, hy, mX5_isAtom, mX5_joined, hput, bN_t, bN_f, opJ, opH, cl_mk, nm_mk, pu_mk, lit, if_true, if_false, ne_eq, not_false_eq_true, not_true_eq_false, nI_add, nI_or, nI_and, Bool.false_eq_true, ne01, ne10, nI_m1', Nat.or_zero, nI_eqD, nI_leD, nI_ltD, Nat.reduceLT, Nat.reduceLeDiff, Nat.reduceEqDiff, Nat.reduceSub, or_true, true_or, or_false, false_or, and_true, true_and, and_false, false_and]
  · cases g <;> simp only [mX4_judge_13, mX4_judge_91, mX4_judge_108, mX4_judge_130, mX4_judge_148, mX4_judge_156, hpt, c1, hs, h1, h2, hx, hy, mX5_isAtom, mX5_joined, hput, bN_t, bN_f, opJ, opH, cl_mk, nm_mk, pu_mk, lit, if_true, if_false, ne_eq, not_false_eq_true, not_true_eq_false, nI_add, nI_or, nI_and, Bool.false_eq_true, ne01, ne10, nI_m1', Nat.or_zero, nI_eqD, nI_leD, nI_ltD, Nat.reduceLT, Nat.reduceLeDiff, Nat.reduceEqDiff, Nat.reduceSub, or_true, true_or, or_false, false_or, and_true, true_and, and_false, false_and]
  · cases g <;> simp only [mX4_judge_13, mX4_judge_91, mX4_judge_108, mX4_judge_130, mX4_judge_148, mX4_judge_156, hpt, c1, hs, h1, h2, hx, hy, mX5_isAtom, mX5_joined, hput, bN_t, bN_f, opJ, opH, nI_xor, hmu, imp_full h8 hyl, cl_mk, nm_mk, pu_mk, lit, if_true, if_false, ne_eq, not_false_eq_true, not_true_eq_false, nI_add, nI_or, nI_and, Bool.false_eq_true, ne01, ne10, nI_m1', Nat.or_zero, nI_eqD, nI_leD, nI_ltD, Nat.reduceLT, Nat.reduceLeDiff, Nat.reduceEqDiff, Nat.reduceSub, or_true, true_or, or_false, false_or, and_true, true_and, and_false, false_and]
/-- the model's step over one node -/
theorem M_hstep {W : AW} {n p M cc x y lp rp : Nat} {v : Int32} (hcc : isLeaf cc ∨ isPre cc ∨ isJn cc) (hM : NetM W N S A) (hN : NetOK N S A) (hV : ViewM W N Fr) (hF : ∀ k, k < N → Fr k < 2 ^ N) (h26 : W.1 0 0 26 = nI M) (hp : p < M) (hMM : M ≤ 90) (hc : W.1 0 30 p = nI cc)
    (hx0 : kd cc = 0 → x = 0) (hx : kd cc ≠ 0 → lp < 90 ∧ W.1 0 31 p = nI lp ∧ W.1 0 38 lp = nI x) (hy0 : kd cc ≠ 2 → y = 0) (hy : kd cc = 2 → rp < 90 ∧ W.1 0 32 p = nI rp ∧ W.1 0 38 rp = nI y) :
    mX6_holding_4 (n + 1) v (nI p) W = mX6_holding_4 n (nI (opH N A Fr cc x y)) (nI (p + 1)) (am_set W 0 38 p (nI (opH N A Fr cc x y))) := by
  have h8 := hN.2.1
  have c1 : ¬ nI M ≤ nI p := nI_ge hp (by omega)
  have r30 : ∀ f : Int32 → Option (Int32 × AW), rd 90 (W.1 0 30) (nI p) f = f (nI cc) := fun f => by
    rw [rd_in (by omega) (by decide), hc]
  have r31 : kd cc ≠ 0 → (∀ f : Int32 → Option (Int32 × AW), rd 90 (W.1 0 31) (nI p) f = f (nI lp)) ∧ (∀ f : Int32 → Option (Int32 × AW), rd 90 (W.1 0 38) (nI lp) f = f (nI x)) := fun z => by
    obtain ⟨z1, z2, z3⟩ := hx z
    exact ⟨fun f => by rw [rd_in (by omega) (by decide), z2], fun f => by rw [rd_in z1 (by decide), z3]⟩
  have r32 : kd cc = 2 → (∀ f : Int32 → Option (Int32 × AW), rd 90 (W.1 0 32) (nI p) f = f (nI rp)) ∧ (∀ f : Int32 → Option (Int32 × AW), rd 90 (W.1 0 38) (nI rp) f = f (nI y)) := fun z => by
    obtain ⟨z1, z2, z3⟩ := hy z
    exact ⟨fun f => by rw [rd_in (by omega) (by decide), z2], fun f => by rw [rd_in z1 (by decide), z3]⟩
  have hall := X_all' hM hN
  have hmu := M_allIn hM.1 hV h8 hF
  have hw := fun z => wr_in (α := Int32 × AW) (show p < 90 by omega) (show 90 < 2 ^ 31 by decide) W 0 38 z
  have hat := fun (i : Nat) (hi : i < 4) => M_atom hM hi (α := Int32 × AW)
  clear hx hy hM hN hV hF hc
  rcases hcc with (rfl | rfl | rfl | rfl | rfl | rfl) | (rfl | rfl | rfl) | (rfl | rfl | rfl)
  · simp only [mX6_holding_4, mX6_holding_33, mX6_holding_48, mX6_holding_72, mX6_holding_218, h26, c1, r30, mX6_isPrefix, mX6_isPrefix_18, mX6_isJoin, mX6_isJoin_18, mX6_isAtom, mX6_in, zr_0, zr_1, hat 0 (by decide), hw, opH, pk_sub (show 112 ≤ 112 by decide), cl_mk, nm_mk, pu_mk, lit, if_true, if_false, ne_eq, not_false_eq_true, not_true_eq_false, nI_add, nI_or, nI_and, Bool.false_eq_true, ne01, ne10, nI_m1', Nat.or_zero, nI_eqD, nI_leD, nI_ltD, Nat.reduceLT, Nat.reduceLeDiff, Nat.reduceEqDiff, Nat.reduceSub, or_true, true_or, or_false, false_or, and_true, true_and, and_false, false_and]
  · simp only [mX6_holding_4, mX6_holding_33, mX6_holding_48, mX6_holding_72, mX6_holding_218, h26, c1, r30, mX6_isPrefix, mX6_isPrefix_18, mX6_isJoin, mX6_isJoin_18, mX6_isAtom, mX6_in, zr_0, zr_1, hat 1 (by decide), hw, opH, pk_sub (show 112 ≤ 113 by decide), cl_mk, nm_mk, pu_mk, lit, if_true, if_false, ne_eq, not_false_eq_true, not_true_eq_false, nI_add, nI_or, nI_and, Bool.false_eq_true, ne01, ne10, nI_m1', Nat.or_zero, nI_eqD, nI_leD, nI_ltD, Nat.reduceLT, Nat.reduceLeDiff, Nat.reduceEqDiff, Nat.reduceSub, or_true, true_or, or_false, false_or, and_true, true_and, and_false, false_and]
  · simp only [mX6_holding_4, mX6_holding_33, mX6_holding_48, mX6_holding_72, mX6_holding_218, h26, c1, r30, mX6_isPrefix, mX6_isPrefix_18, mX6_isJoin, mX6_isJoin_18, mX6_isAtom, mX6_in, zr_0, zr_1, hat 2 (by decide), hw, opH, pk_sub (show 112 ≤ 114 by decide), cl_mk, nm_mk, pu_mk, lit, if_true, if_false, ne_eq, not_false_eq_true, not_true_eq_false, nI_add, nI_or, nI_and, Bool.false_eq_true, ne01, ne10, nI_m1', Nat.or_zero, nI_eqD, nI_leD, nI_ltD, Nat.reduceLT, Nat.reduceLeDiff, Nat.reduceEqDiff, Nat.reduceSub, or_true, true_or, or_false, false_or, and_true, true_and, and_false, false_and]
  · simp only [mX6_holding_4, mX6_holding_33, mX6_holding_48, mX6_holding_72, mX6_holding_218, h26, c1, r30, mX6_isPrefix, mX6_isPrefix_18, mX6_isJoin, mX6_isJoin_18, mX6_isAtom, mX6_in, zr_0, zr_1, hat 3 (by decide), hw, opH, pk_sub (show 112 ≤ 115 by decide), cl_mk, nm_mk, pu_mk, lit, if_true, if_false, ne_eq, not_false_eq_true, not_true_eq_false, nI_add, nI_or, nI_and, Bool.false_eq_true, ne01, ne10, nI_m1', Nat.or_zero, nI_eqD, nI_leD, nI_ltD, Nat.reduceLT, Nat.reduceLeDiff, Nat.reduceEqDiff, Nat.reduceSub, or_true, true_or, or_false, false_or, and_true, true_and, and_false, false_and]
  · simp only [mX6_holding_4, mX6_holding_33, mX6_holding_48, mX6_holding_72, mX6_holding_218, h26, c1, r30, mX6_isPrefix, mX6_isPrefix_18, mX6_isJoin, mX6_isJoin_18, mX6_isAtom, mX6_in, zr_0, zr_1, hall, hw, opH, cl_mk, nm_mk, pu_mk, lit, if_true, if_false, ne_eq, not_false_eq_true, not_true_eq_false, nI_add, nI_or, nI_and, Bool.false_eq_true, ne01, ne10, nI_m1', Nat.or_zero, nI_eqD, nI_leD, nI_ltD, Nat.reduceLT, Nat.reduceLeDiff, Nat.reduceEqDiff, Nat.reduceSub, or_true, true_or, or_false, false_or, and_true, true_and, and_false, false_and]
  · simp only [mX6_holding_4, mX6_holding_33, mX6_holding_48, mX6_holding_72, mX6_holding_218, h26, c1, r30, mX6_isPrefix, mX6_isPrefix_18, mX6_isJoin, mX6_isJoin_18, mX6_isAtom, mX6_in, zr_0, zr_1, hw, opH, cl_mk, nm_mk, pu_mk, lit, if_true, if_false, ne_eq, not_false_eq_true, not_true_eq_false, nI_add, nI_or, nI_and, Bool.false_eq_true, ne01, ne10, nI_m1', Nat.or_zero, nI_eqD, nI_leD, nI_ltD, Nat.reduceLT, Nat.reduceLeDiff, Nat.reduceEqDiff, Nat.reduceSub, or_true, true_or, or_false, false_or, and_true, true_and, and_false, false_and]
  · obtain ⟨r1, r2⟩ := r31 (by decide)
    simp only [mX6_holding_4, mX6_holding_33, mX6_holding_48, mX6_holding_72, mX6_holding_218, h26, c1, r30, r1, r2, mX6_isPrefix, mX6_isPrefix_18, mX6_isJoin, mX6_isJoin_18, mX6_isAtom, mX6_in, zr_0, zr_1, hall, nI_sdiff, hw, opH, cl_mk, nm_mk, pu_mk, lit, if_true, if_false, ne_eq, not_false_eq_true, not_true_eq_false, nI_add, nI_or, nI_and, Bool.false_eq_true, ne01, ne10, nI_m1', Nat.or_zero, nI_eqD, nI_leD, nI_ltD, Nat.reduceLT, Nat.reduceLeDiff, Nat.reduceEqDiff, Nat.reduceSub, or_true, true_or, or_false, false_or, and_true, true_and, and_false, false_and]
  · obtain ⟨r1, r2⟩ := r31 (by decide)
    simp only [mX6_holding_4, mX6_holding_33, mX6_holding_48, mX6_holding_72, mX6_holding_218, h26, c1, r30, r1, r2, mX6_isPrefix, mX6_isPrefix_18, mX6_isJoin, mX6_isJoin_18, mX6_isAtom, mX6_in, zr_0, zr_1, hmu, hw, opH, cl_mk, nm_mk, pu_mk, lit, if_true, if_false, ne_eq, not_false_eq_true, not_true_eq_false, nI_add, nI_or, nI_and, Bool.false_eq_true, ne01, ne10, nI_m1', Nat.or_zero, nI_eqD, nI_leD, nI_ltD, Nat.reduceLT, Nat.reduceLeDiff, Nat.reduceEqDiff, Nat.reduceSub, or_true, true_or, or_false, false_or, and_true, true_and, and_false, false_and]
  · obtain ⟨r1, r2⟩ := r31 (by decide)
    simp only [mX6_holding_4, mX6_holding_33, mX6_holding_48, mX6_holding_72, mX6_holding_218, h26, c1, r30, r1, r2, mX6_isPrefix, mX6_isPrefix_18, mX6_isJoin, mX6_isJoin_18, mX6_isAtom, mX6_in, zr_0, zr_1, hall, nI_sdiff, hmu, hw, opH, cl_mk, nm_mk, pu_mk, lit, if_true, if_false, ne_eq, not_false_eq_true, not_true_eq_false, nI_add, nI_or, nI_and, Bool.false_eq_true, ne01, ne10, nI_m1', Nat.or_zero, nI_eqD, nI_leD, nI_ltD, Nat.reduceLT, Nat.reduceLeDiff, Nat.reduceEqDiff, Nat.reduceSub, or_true, true_or, or_false, false_or, and_true, true_and, and_false, false_and]
  · obtain ⟨r1, r2⟩ := r31 (by decide)
    obtain ⟨r3, r4⟩ := r32 (by decide)
    simp only [mX6_holding_4, mX6_holding_33, mX6_holding_48, mX6_holding_72, mX6_holding_218, h26, c1, r30, r1, r2, r3, r4, mX6_isPrefix, mX6_isPrefix_18, mX6_isJoin, mX6_isJoin_18, mX6_isAtom, mX6_in, zr_0, zr_1, hw, opH, cl_mk, nm_mk, pu_mk, lit, if_true, if_false, ne_eq, not_false_eq_true, not_true_eq_false, nI_add, nI_or, nI_and, Bool.false_eq_true, ne01, ne10, nI_m1', Nat.or_zero, nI_eqD, nI_leD, nI_ltD, Nat.reduceLT, Nat.reduceLeDiff, Nat.reduceEqDiff, Nat.reduceSub, or_true, true_or, or_false, false_or, and_true, true_and, and_false, false_and]
  · obtain ⟨r1, r2⟩ := r31 (by decide)
    obtain ⟨r3, r4⟩ := r32 (by decide)
    simp only [mX6_holding_4, mX6_holding_33, mX6_holding_48, mX6_holding_72, mX6_holding_218, h26, c1, r30, r1, r2, r3, r4, mX6_isPrefix, mX6_isPrefix_18, mX6_isJoin, mX6_isJoin_18, mX6_isAtom, mX6_in, zr_0, zr_1, hw, opH, cl_mk, nm_mk, pu_mk, lit, if_true, if_false, ne_eq, not_false_eq_true, not_true_eq_false, nI_add, nI_or, nI_and, Bool.false_eq_true, ne01, ne10, nI_m1', Nat.or_zero, nI_eqD, nI_leD, nI_ltD, Nat.reduceLT, Nat.reduceLeDiff, Nat.reduceEqDiff, Nat.reduceSub, or_true, true_or, or_false, false_or, and_true, true_and, and_false, false_and]
  · obtain ⟨r1, r2⟩ := r31 (by decide)
    obtain ⟨r3, r4⟩ := r32 (by decide)
    simp only [mX6_holding_4, mX6_holding_33, mX6_holding_48, mX6_holding_72, mX6_holding_218, h26, c1, r30, r1, r2, r3, r4, mX6_isPrefix, mX6_isPrefix_18, mX6_isJoin, mX6_isJoin_18, mX6_isAtom, mX6_in, zr_0, zr_1, hall, nI_sdiff, hw, opH, cl_mk, nm_mk, pu_mk, lit, if_true, if_false, ne_eq, not_false_eq_true, not_true_eq_false, nI_add, nI_or, nI_and, Bool.false_eq_true, ne01, ne10, nI_m1', Nat.or_zero, nI_eqD, nI_leD, nI_ltD, Nat.reduceLT, Nat.reduceLeDiff, Nat.reduceEqDiff, Nat.reduceSub, or_true, true_or, or_false, false_or, and_true, true_and, and_false, false_and]
end HD
end
section
/-! where a sentence holds: all nodes -/
def LenOK (o P : Nat) : Prop := ∀ a, 1 ≤ a → a ≤ 5 → P ≤ am_aL false o a ∧ am_aL false o a < 2 ^ 31
theorem len_sen {i P : Nat} (hi : i < 6) (hP : P ≤ 40) : LenOK (6 + i) P := by
  have e : ∀ i, i < 6 → ∀ a, a < 6 → 1 ≤ a → am_aL false (6 + i) a = 40 := by decide
  intro a h1 h2
  rw [e i hi a (by omega) h1]
  omega
def fsX (c l ph : Nat → Nat) (k : Nat) : Int32 := if kd (c k) = 0 then -nI 1 else nI (ph (l k))
def ssX (c r ph : Nat → Nat) (k : Nat) : Int32 := if kd (c k) = 2 then nI (ph (r k)) else -nI 1
section SX
variable {w : AW} {o m P : Nat} {c l r ph pl dp : Nat → Nat}
theorem SenX.at3 (h : SenX w o m P c l r ph pl dp) (hL : LenOK o P) (hc : ClassOK m P c l r ph) (hs : ShapeOK m c l r) {k : Nat} (hk : k < m) : mX2_sign o (nI (ph k)) w = some (nI (c k), w) ∧ mX2_first o (nI (ph k)) w = some (fsX c l ph k, w) ∧ mX2_second o (nI (ph k)) w = some (ssX c r ph k, w) := by
  have hp := hc.1 k hk
  obtain ⟨g1, g2, g3, g4⟩ := h.2.2.1 k hk
  have a1 := at_in (o := o) (a := 1) (i := ph k) w (by have := (hL 1 (by decide) (by decide)).1; omega) (hL 1 (by decide) (by decide)).2
  have a2 := at_in (o := o) (a := 2) (i := ph k) w (by have := (hL 2 (by decide) (by decide)).1; omega) (hL 2 (by decide) (by decide)).2
  have a3 := at_in (o := o) (a := 3) (i := ph k) w (by have := (hL 3 (by decide) (by decide)).1; omega) (hL 3 (by decide) (by decide)).2
  unfold mX2_sign mX2_first mX2_second
  rw [a1, a2, a3, g1]
  refine ⟨rfl, ?_, ?_⟩
  · rw [cl_mk]
    unfold fsX
    rcases hs k hk with q | ⟨q, -⟩ | ⟨q, -, -⟩
    · rw [(g2 q).1, kd_leaf q]; rfl
    · rw [(g3 q).1, kd_pre q]; rfl
    · rw [(g4 q).1, kd_jn q]; rfl
  · rw [cl_mk]
    unfold ssX
    rcases hs k hk with q | ⟨q, -⟩ | ⟨q, -, -⟩
    · rw [(g2 q).2, kd_leaf q]; rfl
    · rw [(g3 q).2, kd_pre q]; rfl
    · rw [(g4 q).2, kd_jn q]; rfl
theorem SenX.cg {w2 : AW} (h : SenX w o m P c l r ph pl dp) (e : w2.1 o = w.1 o) : SenX w2 o m P c l r ph pl dp := by
  unfold SenX
  rw [e]
  exact h
end SX
section RA
variable {op : Nat → Nat → Nat → Nat} {m P : Nat} {c l r ph : Nat → Nat}
/-- a class's row of values of the unlike parts before p: what stands at the first, at the second -/
theorem row_first {W : AW} {o a : Nat} (hs : ShapeOK m c l r) (hc : ClassOK m P c l r ph) (hop : ∀ k j, k < m → j < m → ph k = ph j → op k = op j) (hla : P ≤ am_aL false o a) (hl2 : am_aL false o a < 2 ^ 31) {k : Nat} (hk : k < m) (hrow : ∀ q, q < ph k → W.1 o a q = nI (pvF op c l r ph m q)) :
    mX5_at o a (fsX c l ph k) W = some (nI (argA c l (evV op c l r) k), W) ∧ mX5_at o a (ssX c r ph k) W = some (nI (argB c r (evV op c l r) k), W) := by
  have hp := hc.1 k hk
  unfold fsX ssX argA argB
  rcases hs k hk with g | ⟨g, g1⟩ | ⟨g, g1, g2⟩
  · rw [kd_leaf g]
    exact ⟨at_m1 W, at_m1 W⟩
  · have h1 := hc.2.2.1 k hk g
    rw [kd_pre g]
    refine ⟨?_, at_m1 W⟩
    simp only [Nat.one_ne_zero, if_false]
    rw [at_in W (by omega) hl2, hrow _ h1, pvF_eq hs hc hop (by omega)]
  · have h1 := hc.2.2.2.1 k hk g
    rw [kd_jn g]
    refine ⟨?_, ?_⟩
    · show mX5_at o a (nI (ph (l k))) W = some (nI (evV op c l r (l k)), W)
      rw [at_in W (by omega) hl2, hrow _ h1.1, pvF_eq hs hc hop (by omega)]
    · show mX5_at o a (nI (ph (r k))) W = some (nI (evV op c l r (r k)), W)
      rw [at_in W (by omega) hl2, hrow _ h1.2, pvF_eq hs hc hop (by omega)]
end RA
section JG
variable {w : AW} {N : Nat} {S A Fr : Nat → Nat}
theorem kinds_of {m : Nat} {c l r : Nat → Nat} (hs : ShapeOK m c l r) {k : Nat} (hk : k < m) : isLeaf (c k) ∨ isPre (c k) ∨ isJn (c k) := by
  rcases hs k hk with g | ⟨g, -⟩ | ⟨g, -, -⟩
  · exact Or.inl g
  · exact Or.inr (Or.inl g)
  · exact Or.inr (Or.inr g)
theorem opJ_ph {g : Bool} {m P : Nat} {c l r ph : Nat → Nat} (hc : ClassOK m P c l r ph) : ∀ k j, k < m → j < m → ph k = ph j → (fun k => opJ g N A Fr (c k)) k = (fun k => opJ g N A Fr (c k)) j := fun k j hk hj he => by
  show opJ g N A Fr (c k) = opJ g N A Fr (c j)
  rw [((hc.2.2.2.2 k j hk hj).mp he).1]
noncomputable def jgW (w : AW) (pv : Nat → Nat) (k : Nat) : AW := setRow w 2 2 (fun p => nI (pv p)) k
theorem X_judge (g : Bool) {o ro ra m P : Nat} {c l r ph pl dp : Nat → Nat} (hV : ViewX w N Fr) (h8 : N ≤ 8) (hF : ∀ k, k < N → Fr k < 2 ^ N) (hA : ∀ i, i < 4 → ∀ k, k < m → c k = 112 + i → w.1 ro ra i = nI (A i)) (hA2 : ∀ i, A i < 2 ^ N) (hra : am_aL false ro ra = 4) (hro : ro ≠ 2 ∨ ra ≠ 2)
    (hX : SenX w o m P c l r ph pl dp) (hL : LenOK o P) (hs : ShapeOK m c l r) (hc : ClassOK m P c l r ph) (hP : P ≤ 40) (hm : 1 ≤ m) (hlast : ph (m - 1) = P - 1) (ho : o ≠ 2) :
    ∃ w2, mX4_judge o ro ra (nI (bN g)) w = some (nI (evV (fun k => opJ g N A Fr (c k)) c l r (m - 1)), w2) ∧ KX w w2 ∧ ∀ o' a', (o' ≠ 2 ∨ a' ≠ 2) → w2.1 o' a' = w.1 o' a' := by
  have hop := opJ_ph (g := g) (N := N) (A := A) (Fr := Fr) hc
  have hrow : ∀ k o' a', (o' ≠ 2 ∨ a' ≠ 2) → (jgW w (pvF (fun k => opJ g N A Fr (c k)) c l r ph m) k).1 o' a' = w.1 o' a' := fun k o' a' h => setRow_row h k
  have hP0 : 1 ≤ P := by have := hc.1 0 (by omega); omega
  refine ⟨jgW w (pvF (fun k => opJ g N A Fr (c k)) c l r ph m) P, ?_, ?_, hrow P⟩
  · have e0 : nI 1 <<< nI (N &&& 31) - nI 1 = nI (2 ^ N - 1) := by
      rw [one_shl (by omega)]
      exact pk_sub (Nat.two_pow_pos N)
    simp only [mX4_judge, hV.1, cl_mk, nm_mk, pu_mk, lit, if_true, if_false, ne_eq, not_false_eq_true, not_true_eq_false, nI_add, nI_or, nI_and, Bool.false_eq_true, ne01, ne10, nI_m1', Nat.or_zero]
    rw [e0]
    refine loopE (fun n (s : Int32 × AW) => mX4_judge_13 o ro ra (nI (bN g)) (nI (2 ^ N - 1)) n s.1 s.2) P (fun k => (nI k, jgW w (pvF (fun k => opJ g N A Fr (c k)) c l r ph m) k)) _ ?_ ?_ FU 0 (Nat.zero_le _) (FU_gt (by omega))
    · intro n p hp
      obtain ⟨k1, k2⟩ := rpF_spec hc hp
      have hVp : ViewX (jgW w (pvF (fun k => opJ g N A Fr (c k)) c l r ph m) p) N Fr := ⟨by rw [hrow p 2 0 (by decide)]; exact hV.1, fun j hj => by rw [hrow p 2 1 (by decide)]; exact hV.2 j hj⟩
      have hXp : SenX (jgW w (pvF (fun k => opJ g N A Fr (c k)) c l r ph m) p) o m P c l r ph pl dp := hX.cg (by funext a'; exact hrow p o a' (Or.inl ho))
      obtain ⟨s1, s2, s3⟩ := hXp.at3 hL hc hs k1
      obtain ⟨f1, f2⟩ := row_first (W := jgW w (pvF (fun k => opJ g N A Fr (c k)) c l r ph m) p) (o := 2) (a := 2) hs hc hop (by show P ≤ 40; exact hP) (by decide) k1 (fun q hq => by
        rw [k2] at hq
        exact setRow_in p hq)
      rw [k2] at s1 s2 s3
      have hb : ∀ k, k < m → evV (fun k => opJ g N A Fr (c k)) c l r k < 2 ^ N := fun k hk => evV_lt hs (Nat.two_pow_pos N) (fun k hk a b ha hb => opJ_lt hA2 ha hb) (k + 1) k (Nat.lt_succ_self k) hk
      have hyl : argB c r (evV (fun k => opJ g N A Fr (c k)) c l r) (rpF m ph p) < 2 ^ N := by
        unfold argB
        rcases hs _ k1 with q | ⟨q, -⟩ | ⟨q, -, q2⟩
        · rw [kd_leaf q]; exact Nat.two_pow_pos N
        · rw [kd_pre q]; exact Nat.two_pow_pos N
        · rw [kd_jn q]; exact hb _ (by omega)
      have e := X_jstep (g := g) (n := n) (A := A) (kinds_of hs k1) hVp h8 hF (fun i hi hz => by rw [hrow p ro ra hro]; exact hA i hi _ k1 hz) hra (by rw [hrow p o 0 (Or.inl ho)]; exact hX.1) hp hP s1 s2 s3 f1 f2 hyl
      have e3 : pvF (fun k => opJ g N A Fr (c k)) c l r ph m p = opJ g N A Fr (c (rpF m ph p)) (argA c l (evV (fun k => opJ g N A Fr (c k)) c l r) (rpF m ph p)) (argB c r (evV (fun k => opJ g N A Fr (c k)) c l r) (rpF m ph p)) := evV_eq hs k1
      refine e.trans ?_
      rw [← e3]
      rfl
    · intro n
      have c1 : nI P ≤ nI P := nI_le (Nat.le_refl P) (by omega)
      have hpt : mX2_parts o (jgW w (pvF (fun k => opJ g N A Fr (c k)) c l r ph m) P) = some (nI P, jgW w (pvF (fun k => opJ g N A Fr (c k)) c l r ph m) P) := by
        unfold mX2_parts
        rw [hrow P o 0 (Or.inl ho), hX.1]
      have e1 : mX5_at 2 2 (nI (P - 1)) (jgW w (pvF (fun k => opJ g N A Fr (c k)) c l r ph m) P) = some (nI (evV (fun k => opJ g N A Fr (c k)) c l r (m - 1)), jgW w (pvF (fun k => opJ g N A Fr (c k)) c l r ph m) P) := by
        rw [at_in _ (by show P - 1 < 40; omega) (by decide)]
        unfold jgW
        rw [setRow_in P (by omega), ← hlast, pvF_eq hs hc hop (by omega)]
      simp only [mX4_judge_13, hpt, c1, pk_sub hP0, e1, cl_mk, nm_mk, pu_mk, lit, if_true, if_false, ne_eq, not_false_eq_true, not_true_eq_false, nI_add, nI_or, nI_and, Bool.false_eq_true, ne01, ne10, nI_m1', Nat.or_zero]
  · have : ∀ k, KX w (jgW w (pvF (fun k => opJ g N A Fr (c k)) c l r ph m) k) := by
      intro k
      induction k with
      | zero => exact KX.rf w
      | succ k ih => exact ih.set (Or.inl ⟨by decide, by decide⟩)
    exact this P
/-- the model's arguments of node k, where the nodes before are judged -/
theorem M_args {W : AW} {M Z : Nat} {op : Nat → Nat → Nat → Nat} {c l r b e y : Nat → Nat} (hW : WorkM W M Z c l r b e y) (hs : ShapeOK M c l r) (hM : M ≤ 90) {k : Nat} (hk : k < M) (hrow : ∀ j, j < k → W.1 0 38 j = nI (evV op c l r j)) :
    (kd (c k) = 0 → argA c l (evV op c l r) k = 0) ∧ (kd (c k) ≠ 0 → l k < 90 ∧ W.1 0 31 k = nI (l k) ∧ W.1 0 38 (l k) = nI (argA c l (evV op c l r) k)) ∧ (kd (c k) ≠ 2 → argB c r (evV op c l r) k = 0) ∧ (kd (c k) = 2 → r k < 90 ∧ W.1 0 32 k = nI (r k) ∧ W.1 0 38 (r k) = nI (argB c r (evV op c l r) k)) := by
  obtain ⟨w1, w2, w3, w4, w5⟩ := hW.2.2.1 k hk
  unfold argA argB
  refine ⟨fun z => by rw [if_pos z], fun z => ?_, fun z => by rw [if_neg z], fun z => ?_⟩
  · rw [if_neg z]
    rcases hs k hk with g | ⟨g, g1⟩ | ⟨g, g1, g2⟩
    · exact absurd (kd_leaf g) z
    · exact ⟨by omega, w2, hrow _ g1⟩
    · exact ⟨by omega, w2, hrow _ g1⟩
  · rw [if_pos z]
    rcases hs k hk with g | ⟨g, g1⟩ | ⟨g, g1, g2⟩
    · rw [kd_leaf g] at z; cases z
    · rw [kd_pre g] at z; cases z
    · exact ⟨by omega, w3, hrow _ g2⟩
noncomputable def hdW (w : AW) (v : Nat → Nat) (k : Nat) : AW := setRow w 0 38 (fun p => nI (v p)) k
theorem hdW_row {w : AW} {v : Nat → Nat} (k a : Nat) (h : a ≠ 38) : (hdW w v k).1 0 a = w.1 0 a := setRow_row (Or.inr h) k
theorem hdW_K {w : AW} {v : Nat → Nat} : ∀ k, KM w (hdW w v k)
  | 0 => KM.rf w
  | k + 1 => (hdW_K k).set (Or.inl (by decide))
theorem M_holding {M Z : Nat} {c l r b e y : Nat → Nat} (hM : NetM w N S A) (hN : NetOK N S A) (hV : ViewM w N Fr) (hF : ∀ k, k < N → Fr k < 2 ^ N) (hW : WorkM w M Z c l r b e y) (hs : ShapeOK M c l r) (hM1 : 1 ≤ M) (hM2 : M ≤ 90) :
    mX6_holding w = some (nI (evV (fun k => opH N A Fr (c k)) c l r (M - 1)), hdW w (evV (fun k => opH N A Fr (c k)) c l r) M) := by
  unfold mX6_holding
  refine loopE (fun n (s : Int32 × Int32 × AW) => mX6_holding_4 n s.1 s.2.1 s.2.2) M (fun k => (nI (if k = 0 then 0 else evV (fun k => opH N A Fr (c k)) c l r (k - 1)), nI k, hdW w (evV (fun k => opH N A Fr (c k)) c l r) k)) _ ?_ ?_ FU 0 (Nat.zero_le _) (FU_gt (by omega))
  · intro n k hk
    have hMk := hM.k (hdW_K (v := evV (fun k => opH N A Fr (c k)) c l r) k)
    have hWk : WorkM (hdW w (evV (fun k => opH N A Fr (c k)) c l r) k) M Z c l r b e y := hW.c (by rw [hdW_row k 0 (by decide)]) (by rw [hdW_row k 0 (by decide)]) (fun a h1 h2 => hdW_row k a (by omega))
    have hVk : ViewM (hdW w (evV (fun k => opH N A Fr (c k)) c l r) k) N Fr := fun j hj => by rw [hdW_row k 47 (by decide)]; exact hV j hj
    obtain ⟨a1, a2, a3, a4⟩ := M_args (op := fun k => opH N A Fr (c k)) hWk hs hM2 hk (fun j hj => setRow_in k hj)
    have e := M_hstep (n := n) (v := nI (if k = 0 then 0 else evV (fun k => opH N A Fr (c k)) c l r (k - 1))) (kinds_of hs hk) hMk hN hVk hF hWk.1 hk hM2 (hWk.2.2.1 k hk).1 a1 a2 a3 a4
    refine e.trans ?_
    rw [← evV_eq (op := fun k => opH N A Fr (c k)) hs hk]
    rfl
  · intro n
    have c1 : nI M ≤ nI M := nI_le (Nat.le_refl M) (by omega)
    have e26 : (hdW w (evV (fun k => opH N A Fr (c k)) c l r) M).1 0 0 26 = nI M := by rw [hdW_row M 0 (by decide)]; exact hW.1
    simp only [mX6_holding_4, e26, c1, cl_mk, nm_mk, pu_mk, lit, if_true, if_false, ne_eq, not_false_eq_true, not_true_eq_false, nI_add, nI_or, nI_and, Bool.false_eq_true, ne01, ne10, nI_m1', Nat.or_zero]
    rw [if_neg (by omega)]
end JG
end
