/-! the class takes a sentence's parts in -/
theorem ex1_id {f : Nat → Nat} {m : Nat} : ex1 f m (f m) = f := by
  funext k
  unfold ex1
  split
  · rename_i h
    rw [h]
  · rfl
section TK2
variable {w w0 : AW} {o m P i m0 : Nat} {c l r ph pl dp cT lT rT : Nat → Nat}
theorem SenP.at5 (h : SenP w o m P c l r ph pl dp) (hL : LenOK o P) (hc : ClassOK m P c l r ph) (hs : ShapeOK m c l r) {k : Nat} (hk : k < m) : mX5_at o 1 (nI (ph k)) w = some (nI (c k), w) ∧ mX5_at o 2 (nI (ph k)) w = some (fsX c l ph k, w) ∧ mX5_at o 3 (nI (ph k)) w = some (ssX c r ph k, w) ∧ mX5_at o 4 (nI (ph k)) w = some (nI (pl (ph k)), w) := by
  have hp := hc.1 k hk
  obtain ⟨g1, g2, g3, g4⟩ := h.2.1 k hk
  have a1 := at_in (o := o) (a := 1) (i := ph k) w (by have := (hL 1 (by decide) (by decide)).1; omega) (hL 1 (by decide) (by decide)).2
  have a2 := at_in (o := o) (a := 2) (i := ph k) w (by have := (hL 2 (by decide) (by decide)).1; omega) (hL 2 (by decide) (by decide)).2
  have a3 := at_in (o := o) (a := 3) (i := ph k) w (by have := (hL 3 (by decide) (by decide)).1; omega) (hL 3 (by decide) (by decide)).2
  have a4 := at_in (o := o) (a := 4) (i := ph k) w (by have := (hL 4 (by decide) (by decide)).1; omega) (hL 4 (by decide) (by decide)).2
  rw [a1, a2, a3, a4, g1, (h.2.2 _ hp).1]
  refine ⟨rfl, ?_, ?_, rfl⟩
  · unfold fsX
    rcases hs k hk with q | ⟨q, -⟩ | ⟨q, -, -⟩
    · rw [(g2 q).1, kd_leaf q]; rfl
    · rw [(g3 q).1, kd_pre q]; rfl
    · rw [(g4 q).1, kd_jn q]; rfl
  · unfold ssX
    rcases hs k hk with q | ⟨q, -⟩ | ⟨q, -, -⟩
    · rw [(g2 q).2, kd_leaf q]; rfl
    · rw [(g3 q).2, kd_pre q]; rfl
    · rw [(g4 q).2, kd_jn q]; rfl
theorem X_moved {q : Nat} {ph' : Nat → Nat} (hrow : ∀ p, p < q → w.1 0 7 p = nI (ph' (m0 + p))) (hq : q ≤ 40) {p : Nat} (hp : p < q) (hlt : p < 2 ^ 31) : mX2_movedTo 0 7 (nI p) w = some (nI (ph' (m0 + p)), w) := by
  have ne : nI p ≠ -1 := fun z => by
    have := nI_pos hlt
    rw [z] at this
    exact this (by decide)
  unfold mX2_movedTo
  rw [if_pos ne, at_in w (show p < 40 by omega) (by decide), hrow p hp, cl_mk]
theorem X_moved0 : mX2_movedTo 0 7 (-nI 1) w = some (-nI 1, w) := by
  unfold mX2_movedTo
  rw [if_neg (show ¬ ((-nI 1 : Int32) ≠ -1) from fun z => z rfl)]
  rfl
/-- what a draft holds, of the first n nodes -/
def DrOK (W : AW) (n : Nat) (cT lT rT : Nat → Nat) (P' : Nat) (ph' pl' dp' : Nat → Nat) : Prop := DraftX W n P' cT lT rT ph' pl' dp' ∧ ClassOK n P' cT lT rT ph' ∧ ShapeOK n cT lT rT ∧ ∀ p, p < P' → dp' p ≤ n ∧ pl' p < 1000
theorem cls_le {n P' : Nat} {ph' : Nat → Nat} (h : ClassOK n P' cT lT rT ph') : P' ≤ n := by
  have h1 : cntF (fun _ => true) P' = P' := by
    have : ∀ k, cntF (fun _ => true) k = k := by
      intro k
      induction k with
      | zero => rfl
      | succ k ih =>
        show cntF (fun _ => true) k + bN true = k + 1
        rw [ih]
        rfl
    exact this P'
  have h2 := cnt_surj (h := fun _ => true) (P := P') (n := n) (q := ph') (fun p hp _ => h.2.1 p hp)
  omega
/-- one node more -/
theorem X_addT {W : AW} {n P' : Nat} {ph' pl' dp' : Nat → Nat} {f s : Int32} {pb : Nat} (hD : DrOK W n cT lT rT P' ph' pl' dp') (hn : n ≤ 80) (hk : isLeaf (cT n) ∨ isPre (cT n) ∨ isJn (cT n)) (hl : kd (cT n) ≠ 0 → lT n < n) (hr : kd (cT n) = 2 → rT n < n) (hpb : pb < 1000) (hq : asks (cT n) (lT n) (rT n) ph' f s) :
    ∃ P2 ph2 pl2 dp2 W2, mX2_part 5 (nI (cT n)) f s (nI pb) W = some (nI (ph2 n), W2) ∧ DrOK W2 (n + 1) cT lT rT P2 ph2 pl2 dp2 ∧ (∀ k, k < n → ph2 k = ph' k) ∧ KX W W2 ∧ (∀ o a, (o ≠ 5 ∨ 5 < a) → W2.1 o a = W.1 o a) ∧ ((P2 = P' + 1 ∧ ph2 n = P') ∨ (P2 = P' ∧ ∃ k, k < n ∧ ph2 n = ph2 k)) := by
  obtain ⟨d1, d2, d3, d4⟩ := hD
  have hPn := cls_le d2
  obtain ⟨P2, ph2, pl2, dp2, W2, g1, g2, ⟨a1, a2, a3, a4⟩, g4, g5, -⟩ := X_part (pb := pb) d1 d2 d3 (show P' < 81 by omega) hk hl hr (fun p hp => by have := (d4 p hp).1; omega) hq
  rw [ex1_id, ex1_id, ex1_id] at g2 a1
  refine ⟨P2, ph2, pl2, dp2, W2, g1, ⟨g2, a1, fun k hk2 => ?_, fun p hp => ?_⟩, a2, g4, g5, ?_⟩
  · by_cases e : k = n
    · subst e
      rcases hk with q | q | q
      · exact Or.inl q
      · exact Or.inr (Or.inl ⟨q, hl (by rw [kd_pre q]; decide)⟩)
      · exact Or.inr (Or.inr ⟨q, hl (by rw [kd_jn q]; decide), hr (kd_jn q)⟩)
    · exact d3 k (by omega)
  · rcases a4 with ⟨b1, b2, b3, b4⟩ | ⟨b1, -⟩
    · by_cases e : p < P'
      · have := d4 p e
        obtain ⟨c1, c2⟩ := a3 p e
        rw [c1, c2]
        omega
      · have e2 : p = P' := by omega
        subst e2
        rw [b3, b4]
        refine ⟨?_, hpb⟩
        have hb := bN_lt (modB (cT n))
        have h1 : (if kd (cT n) = 0 then 0 else dp' (ph' (lT n))) ≤ n := by
          split
          · omega
          · rename_i z
            exact (d4 _ (d2.1 _ (hl z))).1
        have h2 : (if kd (cT n) = 2 then dp' (ph' (rT n)) else 0) ≤ n := by
          split
          · rename_i z
            exact (d4 _ (d2.1 _ (hr z))).1
          · omega
        omega
    · rw [b1] at hp
      have := d4 p hp
      obtain ⟨c1, c2⟩ := a3 p hp
      rw [c1, c2]
      omega
  · rcases a4 with ⟨b1, b2, b3, b4⟩ | ⟨b1, k, k1, k2⟩
    · exact Or.inl ⟨b1, b2⟩
    · exact Or.inr ⟨b1, k, k1, by rw [k2, a2 k k1]⟩
theorem X_take2 (hS : SenP w0 (6 + i) m P c l r ph pl dp) (hLn : LenOK (6 + i) P) (hc : ClassOK m P c l r ph) (hs : ShapeOK m c l r) (hi : i < 6) (hP1 : 1 ≤ P) (hP : P ≤ 40) (hm0 : m0 + P ≤ 80) (hpl : ∀ p, p < P → pl p < 1000) (hcT : ∀ q, q < P → cT (m0 + q) = c (rpF m ph q)) (hlT : ∀ q, q < P → kd (c (rpF m ph q)) ≠ 0 → lT (m0 + q) = m0 + ph (l (rpF m ph q))) (hrT : ∀ q, q < P → kd (c (rpF m ph q)) = 2 → rT (m0 + q) = m0 + ph (r (rpF m ph q))) :
    ∀ (e q n : Nat) (W : AW) (P' : Nat) (ph' pl' dp' : Nat → Nat), P = q + e → e < n → KX w0 W → DrOK W (m0 + q) cT lT rT P' ph' pl' dp' → (∀ p, p < q → W.1 0 7 p = nI (ph' (m0 + p))) →
    ∃ W2 P2 ph2 pl2 dp2, mX2_takeIn_2 5 (6 + i) 0 7 n (nI q) W = some (nI (ph2 (m0 + P - 1)), W2) ∧ KX w0 W2 ∧ DrOK W2 (m0 + P) cT lT rT P2 ph2 pl2 dp2 ∧ (∀ k, k < m0 + q → ph2 k = ph' k) := by
  intro e
  induction e with
  | zero =>
    intro q n W P' ph' pl' dp' he hn hK hD hrow
    obtain ⟨n, rfl⟩ : ∃ k, n = k + 1 := ⟨n - 1, by omega⟩
    have e2 : q = P := by omega
    subst e2
    have h5 : W.1 (6 + i) 0 5 = nI q := by rw [hK.2.2.2.2.2 (6 + i) (by omega) (by omega)]; exact hS.1
    refine ⟨W, P', ph', pl', dp', ?_, hK, hD, fun _ _ => rfl⟩
    rw [mX2_takeIn_2, h5, if_pos (nI_le (Nat.le_refl q) (by omega)), show nI q - 1 = nI (q - 1) from pk_sub (a := q) (b := 1) hP1, at_in W (show q - 1 < 40 by omega) (by decide), hrow (q - 1) (by omega), cl_mk, show m0 + (q - 1) = m0 + q - 1 by omega]
  | succ e ih =>
    intro q n W P' ph' pl' dp' he hn hK hD hrow
    obtain ⟨n, rfl⟩ : ∃ k, n = k + 1 := ⟨n - 1, by omega⟩
    have hq : q < P := by omega
    have hWo := hK.2.2.2.2.2 (6 + i) (by omega) (by omega)
    have hSW : SenP W (6 + i) m P c l r ph pl dp := hS.cg hWo
    obtain ⟨k1, k2⟩ := rpF_spec hc hq
    obtain ⟨s1, s2, s3, s4⟩ := hSW.at5 hLn hc hs k1
    rw [k2] at s1 s2 s3 s4
    have hkd := kinds_of hs k1
    -- its first and second, where they now are
    have m1 : mX2_movedTo 0 7 (fsX c l ph (rpF m ph q)) W = some ((if kd (cT (m0 + q)) = 0 then -nI 1 else nI (ph' (lT (m0 + q)))), W) := by
      unfold fsX
      rw [hcT q hq]
      by_cases z : kd (c (rpF m ph q)) = 0
      · rw [if_pos z, if_pos z]
        exact X_moved0
      · have hlt : ph (l (rpF m ph q)) < q := by
          rcases hkd with y | y | y
          · exact absurd (kd_leaf y) z
          · have := hc.2.2.1 _ k1 y; rw [k2] at this; exact this
          · have := (hc.2.2.2.1 _ k1 y).1; rw [k2] at this; exact this
        rw [if_neg z, if_neg z, hlT q hq z]
        exact X_moved hrow (by omega) hlt (by omega)
    have m2 : mX2_movedTo 0 7 (ssX c r ph (rpF m ph q)) W = some ((if kd (cT (m0 + q)) = 2 then nI (ph' (rT (m0 + q))) else -nI 1), W) := by
      unfold ssX
      rw [hcT q hq]
      by_cases z : kd (c (rpF m ph q)) = 2
      · have hlt : ph (r (rpF m ph q)) < q := by
          rcases hkd with y | y | y
          · rw [kd_leaf y] at z; cases z
          · rw [kd_pre y] at z; cases z
          · have := (hc.2.2.2.1 _ k1 y).2; rw [k2] at this; exact this
        rw [if_pos z, if_pos z, hrT q hq z]
        exact X_moved hrow (by omega) hlt (by omega)
      · rw [if_neg z, if_neg z]
        exact X_moved0
    obtain ⟨P2, ph2, pl2, dp2, W2, g1, g2, g3, g4, g5, -⟩ := X_addT (pb := pl q) hD (by omega) (by rw [hcT q hq]; exact hkd) (fun z => by
      rw [hcT q hq] at z
      rw [hlT q hq z]
      rcases hkd with y | y | y
      · exact absurd (kd_leaf y) z
      · have := hc.2.2.1 _ k1 y; rw [k2] at this; omega
      · have := (hc.2.2.2.1 _ k1 y).1; rw [k2] at this; omega) (fun z => by
      rw [hcT q hq] at z
      rw [hrT q hq z]
      rcases hkd with y | y | y
      · rw [kd_leaf y] at z; cases z
      · rw [kd_pre y] at z; cases z
      · have := (hc.2.2.2.1 _ k1 y).2; rw [k2] at this; omega) (hpl q hq) (show asks (cT (m0 + q)) (lT (m0 + q)) (rT (m0 + q)) ph' _ _ from ⟨rfl, rfl⟩)
    have hput : mX5_put 0 7 (nI q) (nI (ph2 (m0 + q))) W2 = some ((), am_set W2 0 7 q (nI (ph2 (m0 + q)))) := put_in W2 (show q < 40 by omega) (by decide)
    obtain ⟨W3, P3, ph3, pl3, dp3, f1, f2, f3, f4⟩ := ih (q + 1) n (am_set W2 0 7 q (nI (ph2 (m0 + q)))) P2 ph2 pl2 dp2 (by omega) (by omega) ((hK.tr g4).set (Or.inr ⟨rfl, Or.inl rfl⟩)) (by
      obtain ⟨d1, d2, d3, d4⟩ := g2
      refine ⟨?_, d2, d3, d4⟩
      unfold DraftX
      rw [am_row_ne (by decide)]
      exact d1) (fun p hp => by
      by_cases z : p = q
      · rw [z, am_get_self]
      · rw [am_get_other z, g5 0 7 (Or.inl (by decide)), hrow p (by omega), g3 (m0 + p) (by omega)])
    refine ⟨W3, P3, ph3, pl3, dp3, ?_, f2, f3, fun k hk => (f4 k (by omega)).trans (g3 k (by omega))⟩
    have h5 : W.1 (6 + i) 0 5 = nI P := by rw [hWo]; exact hS.1
    rw [mX2_takeIn_2, h5, if_neg (nI_ge hq (by omega)), s2, cl_mk, m1, cl_mk, s3, cl_mk, m2, cl_mk, s1, cl_mk, s4, cl_mk, ← hcT q hq, g1, cl_mk, hput, cl_mk, nm_mk, show nI q + 1 = nI (q + 1) from nI_add q 1]
    exact f1
end TK2
