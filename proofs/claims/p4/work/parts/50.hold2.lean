/-! where a sentence holds: all nodes -/
def LenOK (o P : Nat) : Prop := ∀ a, 1 ≤ a → a ≤ 5 → P ≤ am_aL false o a ∧ am_aL false o a < 2 ^ 31
theorem len_sen {i P : Nat} (hi : i < 6) (hP : P ≤ 40) : LenOK (6 + i) P := by
  have e : ∀ i, i < 6 → ∀ a, a < 6 → 1 ≤ a → am_aL false (6 + i) a = 40 := by decide
  intro a h1 h2
  rw [e i hi a (by omega) h1]
  omega
def fsX (c l ph : Nat → Nat) (k : Nat) : Int32 := if kd (c k) = 0 then -nI 1 else nI (ph (l k))
def ssX (c r ph : Nat → Nat) (k : Nat) : Int32 := if kd (c k) = 2 then nI (ph (r k)) else -nI 1
section SX
variable {w : AW} {o m P : Nat} {c l r ph pl dp : Nat → Nat}
theorem SenX.at3 (h : SenX w o m P c l r ph pl dp) (hL : LenOK o P) (hc : ClassOK m P c l r ph) (hs : ShapeOK m c l r) {k : Nat} (hk : k < m) : mX2_sign o (nI (ph k)) w = some (nI (c k), w) ∧ mX2_first o (nI (ph k)) w = some (fsX c l ph k, w) ∧ mX2_second o (nI (ph k)) w = some (ssX c r ph k, w) := by
  have hp := hc.1 k hk
  obtain ⟨g1, g2, g3, g4⟩ := h.2.2.1 k hk
  have a1 := at_in (o := o) (a := 1) (i := ph k) w (by have := (hL 1 (by decide) (by decide)).1; omega) (hL 1 (by decide) (by decide)).2
  have a2 := at_in (o := o) (a := 2) (i := ph k) w (by have := (hL 2 (by decide) (by decide)).1; omega) (hL 2 (by decide) (by decide)).2
  have a3 := at_in (o := o) (a := 3) (i := ph k) w (by have := (hL 3 (by decide) (by decide)).1; omega) (hL 3 (by decide) (by decide)).2
  unfold mX2_sign mX2_first mX2_second
  rw [a1, a2, a3, g1]
  refine ⟨rfl, ?_, ?_⟩
  · rw [cl_mk]
    unfold fsX
    rcases hs k hk with q | ⟨q, -⟩ | ⟨q, -, -⟩
    · rw [(g2 q).1, kd_leaf q]; rfl
    · rw [(g3 q).1, kd_pre q]; rfl
    · rw [(g4 q).1, kd_jn q]; rfl
  · rw [cl_mk]
    unfold ssX
    rcases hs k hk with q | ⟨q, -⟩ | ⟨q, -, -⟩
    · rw [(g2 q).2, kd_leaf q]; rfl
    · rw [(g3 q).2, kd_pre q]; rfl
    · rw [(g4 q).2, kd_jn q]; rfl
theorem SenX.cg {w2 : AW} (h : SenX w o m P c l r ph pl dp) (e : w2.1 o = w.1 o) : SenX w2 o m P c l r ph pl dp := by
  unfold SenX
  rw [e]
  exact h
end SX
section RA
variable {op : Nat → Nat → Nat → Nat} {m P : Nat} {c l r ph : Nat → Nat}
/-- a class's row of values of the unlike parts before p: what stands at the first, at the second -/
theorem row_first {W : AW} {o a : Nat} (hs : ShapeOK m c l r) (hc : ClassOK m P c l r ph) (hop : ∀ k j, k < m → j < m → ph k = ph j → op k = op j) (hla : P ≤ am_aL false o a) (hl2 : am_aL false o a < 2 ^ 31) {k : Nat} (hk : k < m) (hrow : ∀ q, q < ph k → W.1 o a q = nI (pvF op c l r ph m q)) :
    mX5_at o a (fsX c l ph k) W = some (nI (argA c l (evV op c l r) k), W) ∧ mX5_at o a (ssX c r ph k) W = some (nI (argB c r (evV op c l r) k), W) := by
  have hp := hc.1 k hk
  unfold fsX ssX argA argB
  rcases hs k hk with g | ⟨g, g1⟩ | ⟨g, g1, g2⟩
  · rw [kd_leaf g]
    exact ⟨at_m1 W, at_m1 W⟩
  · have h1 := hc.2.2.1 k hk g
    rw [kd_pre g]
    refine ⟨?_, at_m1 W⟩
    simp only [Nat.one_ne_zero, if_false]
    rw [at_in W (by omega) hl2, hrow _ h1, pvF_eq hs hc hop (by omega)]
  · have h1 := hc.2.2.2.1 k hk g
    rw [kd_jn g]
    refine ⟨?_, ?_⟩
    · show mX5_at o a (nI (ph (l k))) W = some (nI (evV op c l r (l k)), W)
      rw [at_in W (by omega) hl2, hrow _ h1.1, pvF_eq hs hc hop (by omega)]
    · show mX5_at o a (nI (ph (r k))) W = some (nI (evV op c l r (r k)), W)
      rw [at_in W (by omega) hl2, hrow _ h1.2, pvF_eq hs hc hop (by omega)]
end RA
section JG
variable {w : AW} {N : Nat} {S A Fr : Nat → Nat}
theorem kinds_of {m : Nat} {c l r : Nat → Nat} (hs : ShapeOK m c l r) {k : Nat} (hk : k < m) : isLeaf (c k) ∨ isPre (c k) ∨ isJn (c k) := by
  rcases hs k hk with g | ⟨g, -⟩ | ⟨g, -, -⟩
  · exact Or.inl g
  · exact Or.inr (Or.inl g)
  · exact Or.inr (Or.inr g)
theorem opJ_ph {g : Bool} {m P : Nat} {c l r ph : Nat → Nat} (hc : ClassOK m P c l r ph) : ∀ k j, k < m → j < m → ph k = ph j → (fun k => opJ g N A Fr (c k)) k = (fun k => opJ g N A Fr (c k)) j := fun k j hk hj he => by
  show opJ g N A Fr (c k) = opJ g N A Fr (c j)
  rw [((hc.2.2.2.2 k j hk hj).mp he).1]
noncomputable def jgW (w : AW) (pv : Nat → Nat) (k : Nat) : AW := setRow w 2 2 (fun p => nI (pv p)) k
theorem X_judge (g : Bool) {o ro ra m P : Nat} {c l r ph pl dp : Nat → Nat} (hV : ViewX w N Fr) (h8 : N ≤ 8) (hF : ∀ k, k < N → Fr k < 2 ^ N) (hA : ∀ i, i < 4 → ∀ k, k < m → c k = 112 + i → w.1 ro ra i = nI (A i)) (hA2 : ∀ i, A i < 2 ^ N) (hra : am_aL false ro ra = 4) (hro : ro ≠ 2 ∨ ra ≠ 2)
    (hX : SenX w o m P c l r ph pl dp) (hL : LenOK o P) (hs : ShapeOK m c l r) (hc : ClassOK m P c l r ph) (hP : P ≤ 40) (hm : 1 ≤ m) (hlast : ph (m - 1) = P - 1) (ho : o ≠ 2) :
    ∃ w2, mX4_judge o ro ra (nI (bN g)) w = some (nI (evV (fun k => opJ g N A Fr (c k)) c l r (m - 1)), w2) ∧ KX w w2 ∧ ∀ o' a', (o' ≠ 2 ∨ a' ≠ 2) → w2.1 o' a' = w.1 o' a' := by
  have hop := opJ_ph (g := g) (N := N) (A := A) (Fr := Fr) hc
  have hrow : ∀ k o' a', (o' ≠ 2 ∨ a' ≠ 2) → (jgW w (pvF (fun k => opJ g N A Fr (c k)) c l r ph m) k).1 o' a' = w.1 o' a' := fun k o' a' h => setRow_row h k
  have hP0 : 1 ≤ P := by have := hc.1 0 (by omega); omega
  refine ⟨jgW w (pvF (fun k => opJ g N A Fr (c k)) c l r ph m) P, ?_, ?_, hrow P⟩
  · have e0 : nI 1 <<< nI (N &&& 31) - nI 1 = nI (2 ^ N - 1) := by
      rw [one_shl (by omega)]
      exact pk_sub (Nat.two_pow_pos N)
    simp only [mX4_judge, hV.1, cl_mk, nm_mk, pu_mk, lit, if_true, if_false, ne_eq, not_false_eq_true, not_true_eq_false, nI_add, nI_or, nI_and, Bool.false_eq_true, ne01, ne10, nI_m1', Nat.or_zero]
    rw [e0]
    refine loopE (fun n (s : Int32 × AW) => mX4_judge_13 o ro ra (nI (bN g)) (nI (2 ^ N - 1)) n s.1 s.2) P (fun k => (nI k, jgW w (pvF (fun k => opJ g N A Fr (c k)) c l r ph m) k)) _ ?_ ?_ FU 0 (Nat.zero_le _) (FU_gt (by omega))
    · intro n p hp
      obtain ⟨k1, k2⟩ := rpF_spec hc hp
      have hVp : ViewX (jgW w (pvF (fun k => opJ g N A Fr (c k)) c l r ph m) p) N Fr := ⟨by rw [hrow p 2 0 (by decide)]; exact hV.1, fun j hj => by rw [hrow p 2 1 (by decide)]; exact hV.2 j hj⟩
      have hXp : SenX (jgW w (pvF (fun k => opJ g N A Fr (c k)) c l r ph m) p) o m P c l r ph pl dp := hX.cg (by funext a'; exact hrow p o a' (Or.inl ho))
      obtain ⟨s1, s2, s3⟩ := hXp.at3 hL hc hs k1
      obtain ⟨f1, f2⟩ := row_first (W := jgW w (pvF (fun k => opJ g N A Fr (c k)) c l r ph m) p) (o := 2) (a := 2) hs hc hop (by show P ≤ 40; exact hP) (by decide) k1 (fun q hq => by
        rw [k2] at hq
        exact setRow_in p hq)
      rw [k2] at s1 s2 s3
      have hb : ∀ k, k < m → evV (fun k => opJ g N A Fr (c k)) c l r k < 2 ^ N := fun k hk => evV_lt hs (Nat.two_pow_pos N) (fun k hk a b ha hb => opJ_lt hA2 ha hb) (k + 1) k (Nat.lt_succ_self k) hk
      have hyl : argB c r (evV (fun k => opJ g N A Fr (c k)) c l r) (rpF m ph p) < 2 ^ N := by
        unfold argB
        rcases hs _ k1 with q | ⟨q, -⟩ | ⟨q, -, q2⟩
        · rw [kd_leaf q]; exact Nat.two_pow_pos N
        · rw [kd_pre q]; exact Nat.two_pow_pos N
        · rw [kd_jn q]; exact hb _ (by omega)
      have e := X_jstep (g := g) (n := n) (A := A) (kinds_of hs k1) hVp h8 hF (fun i hi hz => by rw [hrow p ro ra hro]; exact hA i hi _ k1 hz) hra (by rw [hrow p o 0 (Or.inl ho)]; exact hX.1) hp hP s1 s2 s3 f1 f2 hyl
      have e3 : pvF (fun k => opJ g N A Fr (c k)) c l r ph m p = opJ g N A Fr (c (rpF m ph p)) (argA c l (evV (fun k => opJ g N A Fr (c k)) c l r) (rpF m ph p)) (argB c r (evV (fun k => opJ g N A Fr (c k)) c l r) (rpF m ph p)) := evV_eq hs k1
      refine e.trans ?_
      rw [← e3]
      rfl
    · intro n
      have c1 : nI P ≤ nI P := nI_le (Nat.le_refl P) (by omega)
      have hpt : mX2_parts o (jgW w (pvF (fun k => opJ g N A Fr (c k)) c l r ph m) P) = some (nI P, jgW w (pvF (fun k => opJ g N A Fr (c k)) c l r ph m) P) := by
        unfold mX2_parts
        rw [hrow P o 0 (Or.inl ho), hX.1]
      have e1 : mX5_at 2 2 (nI (P - 1)) (jgW w (pvF (fun k => opJ g N A Fr (c k)) c l r ph m) P) = some (nI (evV (fun k => opJ g N A Fr (c k)) c l r (m - 1)), jgW w (pvF (fun k => opJ g N A Fr (c k)) c l r ph m) P) := by
        rw [at_in _ (by show P - 1 < 40; omega) (by decide)]
        unfold jgW
        rw [setRow_in P (by omega), ← hlast, pvF_eq hs hc hop (by omega)]
      simp only [mX4_judge_13, hpt, c1, pk_sub hP0, e1, cl_mk, nm_mk, pu_mk, lit, if_true, if_false, ne_eq, not_false_eq_true, not_true_eq_false, nI_add, nI_or, nI_and, Bool.false_eq_true, ne01, ne10, nI_m1', Nat.or_zero]
  · have : ∀ k, KX w (jgW w (pvF (fun k => opJ g N A Fr (c k)) c l r ph m) k) := by
      intro k
      induction k with
      | zero => exact KX.rf w
      | succ k ih => exact ih.set (Or.inl ⟨by decide, by decide⟩)
    exact this P
/-- the model's arguments of node k, where the nodes before are judged -/
theorem M_args {W : AW} {M Z : Nat} {op : Nat → Nat → Nat → Nat} {c l r b e y : Nat → Nat} (hW : WorkM W M Z c l r b e y) (hs : ShapeOK M c l r) (hM : M ≤ 90) {k : Nat} (hk : k < M) (hrow : ∀ j, j < k → W.1 0 38 j = nI (evV op c l r j)) :
    (kd (c k) = 0 → argA c l (evV op c l r) k = 0) ∧ (kd (c k) ≠ 0 → l k < 90 ∧ W.1 0 31 k = nI (l k) ∧ W.1 0 38 (l k) = nI (argA c l (evV op c l r) k)) ∧ (kd (c k) ≠ 2 → argB c r (evV op c l r) k = 0) ∧ (kd (c k) = 2 → r k < 90 ∧ W.1 0 32 k = nI (r k) ∧ W.1 0 38 (r k) = nI (argB c r (evV op c l r) k)) := by
  obtain ⟨w1, w2, w3, w4, w5⟩ := hW.2.2.1 k hk
  unfold argA argB
  refine ⟨fun z => by rw [if_pos z], fun z => ?_, fun z => by rw [if_neg z], fun z => ?_⟩
  · rw [if_neg z]
    rcases hs k hk with g | ⟨g, g1⟩ | ⟨g, g1, g2⟩
    · exact absurd (kd_leaf g) z
    · exact ⟨by omega, w2, hrow _ g1⟩
    · exact ⟨by omega, w2, hrow _ g1⟩
  · rw [if_pos z]
    rcases hs k hk with g | ⟨g, g1⟩ | ⟨g, g1, g2⟩
    · rw [kd_leaf g] at z; cases z
    · rw [kd_pre g] at z; cases z
    · exact ⟨by omega, w3, hrow _ g2⟩
noncomputable def hdW (w : AW) (v : Nat → Nat) (k : Nat) : AW := setRow w 0 38 (fun p => nI (v p)) k
theorem hdW_row {w : AW} {v : Nat → Nat} (k a : Nat) (h : a ≠ 38) : (hdW w v k).1 0 a = w.1 0 a := setRow_row (Or.inr h) k
theorem hdW_K {w : AW} {v : Nat → Nat} : ∀ k, KM w (hdW w v k)
  | 0 => KM.rf w
  | k + 1 => (hdW_K k).set (Or.inl (by decide))
theorem M_holding {M Z : Nat} {c l r b e y : Nat → Nat} (hM : NetM w N S A) (hN : NetOK N S A) (hV : ViewM w N Fr) (hF : ∀ k, k < N → Fr k < 2 ^ N) (hW : WorkM w M Z c l r b e y) (hs : ShapeOK M c l r) (hM1 : 1 ≤ M) (hM2 : M ≤ 90) :
    mX6_holding w = some (nI (evV (fun k => opH N A Fr (c k)) c l r (M - 1)), hdW w (evV (fun k => opH N A Fr (c k)) c l r) M) := by
  unfold mX6_holding
  refine loopE (fun n (s : Int32 × Int32 × AW) => mX6_holding_4 n s.1 s.2.1 s.2.2) M (fun k => (nI (if k = 0 then 0 else evV (fun k => opH N A Fr (c k)) c l r (k - 1)), nI k, hdW w (evV (fun k => opH N A Fr (c k)) c l r) k)) _ ?_ ?_ FU 0 (Nat.zero_le _) (FU_gt (by omega))
  · intro n k hk
    have hMk := hM.k (hdW_K (v := evV (fun k => opH N A Fr (c k)) c l r) k)
    have hWk : WorkM (hdW w (evV (fun k => opH N A Fr (c k)) c l r) k) M Z c l r b e y := hW.c (by rw [hdW_row k 0 (by decide)]) (by rw [hdW_row k 0 (by decide)]) (fun a h1 h2 => hdW_row k a (by omega))
    have hVk : ViewM (hdW w (evV (fun k => opH N A Fr (c k)) c l r) k) N Fr := fun j hj => by rw [hdW_row k 47 (by decide)]; exact hV j hj
    obtain ⟨a1, a2, a3, a4⟩ := M_args (op := fun k => opH N A Fr (c k)) hWk hs hM2 hk (fun j hj => setRow_in k hj)
    have e := M_hstep (n := n) (v := nI (if k = 0 then 0 else evV (fun k => opH N A Fr (c k)) c l r (k - 1))) (kinds_of hs hk) hMk hN hVk hF hWk.1 hk hM2 (hWk.2.2.1 k hk).1 a1 a2 a3 a4
    refine e.trans ?_
    rw [← evV_eq (op := fun k => opH N A Fr (c k)) hs hk]
    rfl
  · intro n
    have c1 : nI M ≤ nI M := nI_le (Nat.le_refl M) (by omega)
    have e26 : (hdW w (evV (fun k => opH N A Fr (c k)) c l r) M).1 0 0 26 = nI M := by rw [hdW_row M 0 (by decide)]; exact hW.1
    simp only [mX6_holding_4, e26, c1, cl_mk, nm_mk, pu_mk, lit, if_true, if_false, ne_eq, not_false_eq_true, not_true_eq_false, nI_add, nI_or, nI_and, Bool.false_eq_true, ne01, ne10, nI_m1', Nat.or_zero]
    rw [if_neg (by omega)]
end JG
