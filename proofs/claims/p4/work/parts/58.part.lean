/-! the class's part(): the unlike part that stands already, or a new one -/
def DraftX (w : AW) (m P : Nat) (c l r ph pl dp : Nat → Nat) : Prop := w.1 5 0 5 = nI P ∧ (∀ k, k < m → w.1 5 1 (ph k) = nI (c k) ∧ w.1 5 2 (ph k) = fsX c l ph k ∧ w.1 5 3 (ph k) = ssX c r ph k) ∧ ∀ p, p < P → w.1 5 4 p = nI (pl p) ∧ w.1 5 5 p = nI (dp p)
def ex1 (f : Nat → Nat) (m x : Nat) (k : Nat) : Nat := if k = m then x else f k
theorem ex1_s {f : Nat → Nat} {m x : Nat} : ex1 f m x m = x := if_pos rfl
theorem ex1_o {f : Nat → Nat} {m x k : Nat} (h : k ≠ m) : ex1 f m x k = f k := if_neg h
theorem ex1_lt {f : Nat → Nat} {m x k : Nat} (h : k < m) : ex1 f m x k = f k := if_neg (by omega)
theorem rn5 {w : AW} {i : Nat} {x : Int32} (a a' : Nat) (h : (a' == a) = false) : (am_set w 5 a i x).1 5 a' = w.1 5 a' := am_get_row (Or.inr (by simpa using h))
theorem X_isModal {c : Nat} (w : AW) (hc : c < 128) : mX5_isModal (nI c) w = some (nI (bN (modB c)), w) := by
  unfold modB
  by_cases q : c = 91
  · subst q
    simp only [mX5_isModal, mX5_isModal_12, true_or, decide_true, bN_t, cl_mk, nm_mk, pu_mk, lit, if_true, if_false, ne_eq, not_false_eq_true, not_true_eq_false, nI_add, nI_or, nI_and, Bool.false_eq_true, ne01, ne10, nI_m1', Nat.or_zero]
  · have q1 : (nI c = nI 91) = False := eq_false (fun z => q ((nI_eq (by omega) (by decide)).mp z))
    by_cases q2 : c = 123
    · subst q2
      simp only [mX5_isModal, mX5_isModal_12, q1, or_true, decide_true, bN_t, cl_mk, nm_mk, pu_mk, lit, if_true, if_false, ne_eq, not_false_eq_true, not_true_eq_false, nI_add, nI_or, nI_and, Bool.false_eq_true, ne01, ne10, nI_m1', Nat.or_zero]
    · have q3 : (nI c = nI 123) = False := eq_false (fun z => q2 ((nI_eq (by omega) (by decide)).mp z))
      have q4 : ¬ (c = 91 ∨ c = 123) := by omega
      simp only [mX5_isModal, mX5_isModal_12, q1, q3, q4, decide_false, bN_f, cl_mk, nm_mk, pu_mk, lit, if_true, if_false, ne_eq, not_false_eq_true, not_true_eq_false, nI_add, nI_or, nI_and, Bool.false_eq_true, ne01, ne10, nI_m1', Nat.or_zero]
theorem X_whether (b : Bool) (w : AW) : mX5_whether (nI (bN b)) w = some (nI (bN b), w) := by
  cases b
  · simp only [mX5_whether, bN_f, cl_mk, nm_mk, pu_mk, lit, if_true, if_false, ne_eq, not_false_eq_true, not_true_eq_false, nI_add, nI_or, nI_and, Bool.false_eq_true, ne01, ne10, nI_m1', Nat.or_zero]
  · simp only [mX5_whether, bN_t, cl_mk, nm_mk, pu_mk, lit, if_true, if_false, ne_eq, not_false_eq_true, not_true_eq_false, nI_add, nI_or, nI_and, Bool.false_eq_true, ne01, ne10, nI_m1', Nat.or_zero]
def newW (w : AW) (P cc : Nat) (f s : Int32) (pb d : Nat) : AW := am_set (am_set (am_set (am_set (am_set (am_set w 5 1 P (nI cc)) 5 2 P f) 5 3 P s) 5 4 P (nI pb)) 5 5 P (nI d)) 5 0 5 (nI (P + 1))
theorem newW_row {w : AW} {P cc pb d : Nat} {f s : Int32} {o a : Nat} (h : o ≠ 5 ∨ 5 < a) : (newW w P cc f s pb d).1 o a = w.1 o a := by
  unfold newW
  rw [am_get_row (by omega), am_get_row (by omega), am_get_row (by omega), am_get_row (by omega), am_get_row (by omega), am_get_row (by omega)]
theorem newW_sg {w : AW} {P cc pb d : Nat} {f s : Int32} : (newW w P cc f s pb d).1 5 0 6 = w.1 5 0 6 := by
  unfold newW
  rw [am_get_other (by decide), am_get_row (by decide), am_get_row (by decide), am_get_row (by decide), am_get_row (by decide), am_get_row (by decide)]
theorem newW_old {w : AW} {P cc pb d : Nat} {f s : Int32} {a p : Nat} (h : p ≠ P) (ha : 1 ≤ a) : (newW w P cc f s pb d).1 5 a p = w.1 5 a p := by
  unfold newW
  rw [am_get, if_neg (by omega), am_get, if_neg (by omega), am_get, if_neg (by omega), am_get, if_neg (by omega), am_get, if_neg (by omega), am_get, if_neg (by omega)]
theorem newW_new {w : AW} {P cc pb d : Nat} {f s : Int32} : (newW w P cc f s pb d).1 5 1 P = nI cc ∧ (newW w P cc f s pb d).1 5 2 P = f ∧ (newW w P cc f s pb d).1 5 3 P = s ∧ (newW w P cc f s pb d).1 5 4 P = nI pb ∧ (newW w P cc f s pb d).1 5 5 P = nI d ∧ (newW w P cc f s pb d).1 5 0 5 = nI (P + 1) := by
  unfold newW
  simp [am_get]
theorem newW_K {w : AW} {P cc pb d : Nat} {f s : Int32} : KX w (newW w P cc f s pb d) := ((((((KX.rf w).set (Or.inl ⟨by decide, by decide⟩)).set (Or.inl ⟨by decide, by decide⟩)).set (Or.inl ⟨by decide, by decide⟩)).set (Or.inl ⟨by decide, by decide⟩)).set (Or.inl ⟨by decide, by decide⟩)).set (Or.inl ⟨by decide, by decide⟩)
section XP
variable {w : AW} {m P cc lm rm : Nat} {c l r ph pl dp : Nat → Nat} {f s : Int32} {pb : Nat}
theorem X_part_new {n : Nat} (h5 : w.1 5 0 5 = nI P) (hP : P < 81) (hcc : cc < 128) {da db : Nat} (hda : da < 1000) (hdb : db < 1000) (hf : ∀ W : AW, W.1 5 5 = w.1 5 5 → mX5_at 5 5 f W = some (nI da, W)) (hs : ∀ W : AW, W.1 5 5 = w.1 5 5 → mX5_at 5 5 s W = some (nI db, W)) :
    mX2_part_3 5 (nI cc) f s (nI pb) (n + 1) (nI P) w = some (nI P, newW w P cc f s pb (max da db + bN (modB cc))) := by
  have hput : ∀ a, 1 ≤ a → a ≤ 5 → ∀ (W : AW) (x : Int32), mX5_put 5 a (nI P) x W = some ((), am_set W 5 a P x) := fun a h1 h2 W x => by
    have e : am_aL false 5 a = 81 := by
      have : ∀ a, a < 6 → 1 ≤ a → am_aL false 5 a = 81 := by decide
      exact this a (by omega) h1
    exact put_in W (by rw [e]; exact hP) (by rw [e]; decide)
  have c1 : nI P ≤ nI P := nI_le (Nat.le_refl P) (by omega)
  have c2 : ¬ (Int32.ofNat (am_aL false 5 1)) ≤ nI P := nI_ge (show P < 81 from hP) (by decide)
  have e1 := hf (am_set (am_set (am_set (am_set w 5 1 P (nI cc)) 5 2 P f) 5 3 P s) 5 4 P (nI pb)) (by rw [rn5 4 5 rfl, rn5 3 5 rfl, rn5 2 5 rfl, rn5 1 5 rfl])
  have e2 := hs (am_set (am_set (am_set (am_set w 5 1 P (nI cc)) 5 2 P f) 5 3 P s) 5 4 P (nI pb)) (by rw [rn5 4 5 rfl, rn5 3 5 rfl, rn5 2 5 rfl, rn5 1 5 rfl])
  have e3 : (if nI da < nI db then nI db else nI da) = nI (max da db) := by
    by_cases q : da < db
    · rw [if_pos (nI_lt q (by omega)), show max da db = db by omega]
    · rw [if_neg (nI_nlt (by omega) (by omega)), show max da db = da by omega]
  unfold mX2_part_3
  rw [h5, if_pos c1, if_neg c2, hput 1 (by decide) (by decide), cl_mk, rn5 1 0 rfl, h5, hput 2 (by decide) (by decide), cl_mk, rn5 2 0 rfl, rn5 1 0 rfl, h5, hput 3 (by decide) (by decide), cl_mk, rn5 3 0 rfl, rn5 2 0 rfl, rn5 1 0 rfl, h5, hput 4 (by decide) (by decide), cl_mk, e1, cl_mk, e2, cl_mk, X_isModal _ hcc, cl_mk, X_whether, cl_mk, rn5 4 0 rfl, rn5 3 0 rfl, rn5 2 0 rfl, rn5 1 0 rfl, h5, e3, nI_add, hput 5 (by decide) (by decide), cl_mk, pu_mk, rn5 5 0 rfl, rn5 4 0 rfl, rn5 3 0 rfl, rn5 2 0 rfl, rn5 1 0 rfl, h5, lit, nI_add]
  unfold mX2_part_169
  rw [am_get_self, lit, pk_sub (by omega), Nat.add_sub_cancel]
  rfl
/-- what is asked for: a node m of sign cc with lm (and rm) before it -/
def asks (cc lm rm : Nat) (ph : Nat → Nat) (f s : Int32) : Prop := f = (if kd cc = 0 then -nI 1 else nI (ph lm)) ∧ s = (if kd cc = 2 then nI (ph rm) else -nI 1)
theorem X_part_hit {n p k : Nat} (hD : DraftX w m P c l r ph pl dp) (hP : P ≤ 81) (hk : k < m) (hp : p < P) (he : ph k = p) (h1 : nI (c k) = nI cc) (h2 : fsX c l ph k = f) (h3 : ssX c r ph k = s) : mX2_part_3 5 (nI cc) f s (nI pb) (n + 1) (nI p) w = some (nI p, w) := by
  have c1 : ¬ nI P ≤ nI p := nI_ge hp (by omega)
  obtain ⟨g1, g2, g3⟩ := hD.2.1 k hk
  rw [he] at g1 g2 g3
  have at_ : ∀ a, 1 ≤ a → a ≤ 5 → mX5_at 5 a (nI p) w = some (w.1 5 a p, w) := fun a z1 z2 => by
    have e : am_aL false 5 a = 81 := by
      have : ∀ a, a < 6 → 1 ≤ a → am_aL false 5 a = 81 := by decide
      exact this a (by omega) z1
    exact at_in w (by rw [e]; omega) (by rw [e]; decide)
  unfold mX2_part_3
  rw [hD.1, if_neg c1, at_ 1 (by decide) (by decide), cl_mk, g1, if_neg (fun z => z h1), at_ 2 (by decide) (by decide), cl_mk, g2, if_neg (fun z => z h2), at_ 3 (by decide) (by decide), cl_mk, g3, if_neg (fun z => z h3)]
theorem X_part_miss {n p k : Nat} (hD : DraftX w m P c l r ph pl dp) (hP : P ≤ 81) (hk : k < m) (hp : p < P) (he : ph k = p) (hno : ¬ (nI (c k) = nI cc ∧ fsX c l ph k = f ∧ ssX c r ph k = s)) : mX2_part_3 5 (nI cc) f s (nI pb) (n + 1) (nI p) w = mX2_part_3 5 (nI cc) f s (nI pb) n (nI (p + 1)) w := by
  have c1 : ¬ nI P ≤ nI p := nI_ge hp (by omega)
  obtain ⟨g1, g2, g3⟩ := hD.2.1 k hk
  rw [he] at g1 g2 g3
  have at_ : ∀ a, 1 ≤ a → a ≤ 5 → mX5_at 5 a (nI p) w = some (w.1 5 a p, w) := fun a z1 z2 => by
    have e : am_aL false 5 a = 81 := by
      have : ∀ a, a < 6 → 1 ≤ a → am_aL false 5 a = 81 := by decide
      exact this a (by omega) z1
    exact at_in w (by rw [e]; omega) (by rw [e]; decide)
  have t54 : mX2_part_54 (mX2_part_3 5 (nI cc) f s (nI pb) n) 5 (nI cc) f s (nI pb) (nI p) w = mX2_part_3 5 (nI cc) f s (nI pb) n (nI (p + 1)) w := by
    unfold mX2_part_54
    rw [nm_mk, lit, nI_add]
  rw [mX2_part_3]
  by_cases h1 : nI (c k) = nI cc
  · by_cases h2 : fsX c l ph k = f
    · have h3 : ssX c r ph k ≠ s := fun z => hno ⟨h1, h2, z⟩
      rw [hD.1, if_neg c1, at_ 1 (by decide) (by decide), cl_mk, g1, if_neg (fun z => z h1), at_ 2 (by decide) (by decide), cl_mk, g2, if_neg (fun z => z h2), at_ 3 (by decide) (by decide), cl_mk, g3, if_pos h3]
      exact t54
    · rw [hD.1, if_neg c1, at_ 1 (by decide) (by decide), cl_mk, g1, if_neg (fun z => z h1), at_ 2 (by decide) (by decide), cl_mk, g2, if_pos h2]
      exact t54
  · rw [hD.1, if_neg c1, at_ 1 (by decide) (by decide), cl_mk, g1, if_pos h1]
    exact t54
/-- what has come of it -/
def PartAdd (m P cc lm rm pb : Nat) (c l r ph pl dp : Nat → Nat) (P' : Nat) (ph' pl' dp' : Nat → Nat) : Prop :=
  ClassOK (m + 1) P' (ex1 c m cc) (ex1 l m lm) (ex1 r m rm) ph' ∧ (∀ k, k < m → ph' k = ph k) ∧ (∀ p, p < P → pl' p = pl p ∧ dp' p = dp p) ∧
  ((P' = P + 1 ∧ ph' m = P ∧ pl' P = pb ∧ dp' P = max (if kd cc = 0 then 0 else dp (ph lm)) (if kd cc = 2 then dp (ph rm) else 0) + bN (modB cc)) ∨ (P' = P ∧ ∃ k, k < m ∧ ph' m = ph k))
theorem X_part (hD : DraftX w m P c l r ph pl dp) (hc : ClassOK m P c l r ph) (hsh : ShapeOK m c l r) (hP : P < 81) (hcc : isLeaf cc ∨ isPre cc ∨ isJn cc) (hl : kd cc ≠ 0 → lm < m) (hr : kd cc = 2 → rm < m) (hdp : ∀ p, p < P → dp p < 1000) (hq : asks cc lm rm ph f s) :
    ∃ P' ph' pl' dp' w2, mX2_part 5 (nI cc) f s (nI pb) w = some (nI (ph' m), w2) ∧ DraftX w2 (m + 1) P' (ex1 c m cc) (ex1 l m lm) (ex1 r m rm) ph' pl' dp' ∧ PartAdd m P cc lm rm pb c l r ph pl dp P' ph' pl' dp' ∧ KX w w2 ∧ (∀ o a, (o ≠ 5 ∨ 5 < a) → w2.1 o a = w.1 o a) ∧ w2.1 5 0 6 = w.1 5 0 6 := by
  obtain ⟨hf, hs⟩ := hq
  have hcc2 := kinds_lt hcc
  have kinds : ∀ k, k < m → c k < 128 := fun k hk => kinds_lt (kinds_of hsh hk)
  have phlt : ∀ k, k < m → ph k < 2 ^ 31 := fun k hk => by have := hc.1 k hk; omega
  have m1ne : ∀ q, q < 2 ^ 31 → nI q ≠ -nI 1 := fun q hq z => by
    have := nI_pos hq
    rw [z] at this
    exact this (by decide)
  -- the new node is like k just where the three words of k are those asked for
  have iff : ∀ k, k < m → ((nI (c k) = nI cc ∧ fsX c l ph k = f ∧ ssX c r ph k = s) ↔ (c k = cc ∧ (isPre (c k) → ph (l k) = ph lm) ∧ (isJn (c k) → ph (l k) = ph lm ∧ ph (r k) = ph rm))) := by
    intro k hk
    have e1 : (nI (c k) = nI cc) ↔ c k = cc := nI_eq (by have := kinds k hk; omega) (by omega)
    rw [e1, hf, hs]
    unfold fsX ssX
    constructor
    · rintro ⟨h1, h2, h3⟩
      refine ⟨h1, fun g => ?_, fun g => ?_⟩
      · rw [← h1, kd_pre g] at h2
        rcases hsh k hk with q | ⟨q, q1⟩ | ⟨q, q1, q2⟩
        · have := kd_leaf q; rw [kd_pre g] at this; cases this
        · exact (nI_eq (phlt _ (by omega)) (phlt _ (hl (by rw [← h1, kd_pre g]; decide)))).mp h2
        · have := kd_jn q; rw [kd_pre g] at this; cases this
      · rw [← h1, kd_jn g] at h2 h3
        rcases hsh k hk with q | ⟨q, q1⟩ | ⟨q, q1, q2⟩
        · have := kd_leaf q; rw [kd_jn g] at this; cases this
        · have := kd_pre q; rw [kd_jn g] at this; cases this
        · exact ⟨(nI_eq (phlt _ (by omega)) (phlt _ (hl (by rw [← h1, kd_jn g]; decide)))).mp h2, (nI_eq (phlt _ (by omega)) (phlt _ (hr (by rw [← h1, kd_jn g])))).mp h3⟩
    · rintro ⟨h1, h2, h3⟩
      rw [← h1]
      refine ⟨rfl, ?_, ?_⟩
      · rcases hsh k hk with q | ⟨q, q1⟩ | ⟨q, q1, q2⟩
        · rw [kd_leaf q]; rfl
        · rw [h2 q]
        · rw [(h3 q).1]
      · rcases hsh k hk with q | ⟨q, q1⟩ | ⟨q, q1, q2⟩
        · rw [kd_leaf q]; rfl
        · rw [kd_pre q]; rfl
        · rw [(h3 q).2]
  by_cases hex : ∃ k, k < m ∧ (c k = cc ∧ (isPre (c k) → ph (l k) = ph lm) ∧ (isJn (c k) → ph (l k) = ph lm ∧ ph (r k) = ph rm))
  · -- it stands already
    obtain ⟨k0, hk0, hit⟩ := hex
    have hp0 := hc.1 k0 hk0
    have run : mX2_part 5 (nI cc) f s (nI pb) w = some (nI (ph k0), w) := by
      unfold mX2_part
      refine loopE (fun n p => mX2_part_3 5 (nI cc) f s (nI pb) n p w) (ph k0) nI _ ?_ ?_ FU 0 (Nat.zero_le _) (FU_gt (by omega))
      · intro n p hp
        obtain ⟨z1, z2⟩ := rpF_spec hc (show p < P by omega)
        refine X_part_miss hD (by omega) z1 (by omega) z2 (fun h => ?_)
        have h2 := (iff _ z1).mp h
        have h3 : ph (rpF m ph p) = ph k0 := (hc.2.2.2.2 _ _ z1 hk0).mpr ⟨h2.1.trans hit.1.symm, fun g => (h2.2.1 g).trans (hit.2.1 (by rw [hit.1, ← h2.1]; exact g)).symm, fun g => ⟨(h2.2.2 g).1.trans (hit.2.2 (by rw [hit.1, ← h2.1]; exact g)).1.symm, (h2.2.2 g).2.trans (hit.2.2 (by rw [hit.1, ← h2.1]; exact g)).2.symm⟩⟩
        omega
      · intro n
        obtain ⟨h1, h2, h3⟩ := (iff k0 hk0).mpr hit
        exact X_part_hit hD (by omega) hk0 hp0 rfl h1 h2 h3
    have exm : ∀ k, k < m → ex1 ph m (ph k0) k = ph k := fun k hk => ex1_lt hk
    have hcl : ClassOK (m + 1) P (ex1 c m cc) (ex1 l m lm) (ex1 r m rm) (ex1 ph m (ph k0)) := by
      have lt2 : ∀ k, k < m + 1 → k ≠ m → k < m := fun k h1 h2 => by omega
      -- the node m stands for k0
      have rep : ∀ k, k < m + 1 → ∃ j, j < m ∧ ex1 ph m (ph k0) k = ph j ∧ ex1 c m cc k = c j ∧ (isPre (c j) → ex1 ph m (ph k0) (ex1 l m lm k) = ph (l j)) ∧ (isJn (c j) → ex1 ph m (ph k0) (ex1 l m lm k) = ph (l j) ∧ ex1 ph m (ph k0) (ex1 r m rm k) = ph (r j)) := by
        intro k hk
        by_cases e : k = m
        · subst e
          refine ⟨k0, hk0, ex1_s, by rw [ex1_s]; exact hit.1.symm, fun g => ?_, fun g => ⟨?_, ?_⟩⟩
          · rw [ex1_s, exm _ (hl (by rw [← hit.1, kd_pre g]; decide))]
            exact (hit.2.1 g).symm
          · rw [ex1_s, exm _ (hl (by rw [← hit.1, kd_jn g]; decide))]
            exact (hit.2.2 g).1.symm
          · rw [ex1_s, exm _ (hr (by rw [← hit.1, kd_jn g]))]
            exact (hit.2.2 g).2.symm
        · have hk' := lt2 k hk e
          refine ⟨k, hk', exm k hk', ex1_o e, fun g => ?_, fun g => ?_⟩
          · rcases hsh k hk' with q | ⟨q, q1⟩ | ⟨q, q1, q2⟩
            · have := kd_leaf q; rw [kd_pre g] at this; cases this
            · rw [ex1_o e, exm _ (by omega)]
            · have := kd_jn q; rw [kd_pre g] at this; cases this
          · rcases hsh k hk' with q | ⟨q, q1⟩ | ⟨q, q1, q2⟩
            · have := kd_leaf q; rw [kd_jn g] at this; cases this
            · have := kd_pre q; rw [kd_jn g] at this; cases this
            · rw [ex1_o e, ex1_o e, exm _ (by omega), exm _ (by omega)]
              exact ⟨rfl, rfl⟩
      refine ⟨fun k hk => ?_, fun p hp => ?_, fun k hk g => ?_, fun k hk g => ?_, fun k j hk hj => ?_⟩
      · obtain ⟨i, i1, i2, i3, i4, i5⟩ := rep k hk
        rw [i2]; exact hc.1 i i1
      · obtain ⟨k, z1, z2⟩ := hc.2.1 p hp
        exact ⟨k, by omega, by rw [exm k z1]; exact z2⟩
      · obtain ⟨i, i1, i2, i3, i4, i5⟩ := rep k hk
        rw [i3] at g
        rw [i2, i4 g]
        exact hc.2.2.1 i i1 g
      · obtain ⟨i, i1, i2, i3, i4, i5⟩ := rep k hk
        rw [i3] at g
        rw [i2, (i5 g).1, (i5 g).2]
        exact hc.2.2.2.1 i i1 g
      · obtain ⟨i, i1, i2, i3, i4, i5⟩ := rep k hk
        obtain ⟨q, q1, q2, q3, q4, q5⟩ := rep j hj
        rw [i2, q2, i3, q3, hc.2.2.2.2 i q i1 q1]
        constructor
        · rintro ⟨z1, z2, z3⟩
          exact ⟨z1, fun g => by rw [i4 g, q4 (by rw [← z1]; exact g)]; exact z2 g, fun g => by rw [(i5 g).1, (i5 g).2, (q5 (by rw [← z1]; exact g)).1, (q5 (by rw [← z1]; exact g)).2]; exact z3 g⟩
        · rintro ⟨z1, z2, z3⟩
          refine ⟨z1, fun g => ?_, fun g => ?_⟩
          · have := z2 g
            rw [i4 g, q4 (by rw [← z1]; exact g)] at this
            exact this
          · have := z3 g
            rw [(i5 g).1, (i5 g).2, (q5 (by rw [← z1]; exact g)).1, (q5 (by rw [← z1]; exact g)).2] at this
            exact this
    refine ⟨P, ex1 ph m (ph k0), pl, dp, w, by rw [ex1_s]; exact run, ⟨hD.1, fun k hk => ?_, hD.2.2⟩, ⟨hcl, exm, fun p _ => ⟨rfl, rfl⟩, Or.inr ⟨rfl, k0, hk0, ex1_s⟩⟩, KX.rf w, fun _ _ _ => rfl, rfl⟩
    by_cases e : k = m
    · subst e
      obtain ⟨g1, g2, g3⟩ := hD.2.1 k0 hk0
      obtain ⟨h1, h2, h3⟩ := (iff k0 hk0).mpr hit
      unfold fsX ssX
      rw [ex1_s, ex1_s, ex1_s, ex1_s, g1, g2, g3]
      refine ⟨h1, ?_, ?_⟩
      · rw [h2, hf]
        by_cases z : kd cc = 0
        · rw [if_pos z, if_pos z]
        · rw [if_neg z, if_neg z, exm _ (hl z)]
      · rw [h3, hs]
        by_cases z : kd cc = 2
        · rw [if_pos z, if_pos z, exm _ (hr z)]
        · rw [if_neg z, if_neg z]
    · have hk' : k < m := by omega
      obtain ⟨g1, g2, g3⟩ := hD.2.1 k hk'
      rw [exm k hk', ex1_o e, g1, g2, g3]
      unfold fsX ssX
      rw [ex1_o e, ex1_o e, ex1_o e]
      refine ⟨rfl, ?_, ?_⟩
      · rcases hsh k hk' with q | ⟨q, q1⟩ | ⟨q, q1, q2⟩
        · rw [kd_leaf q]; rfl
        · rw [exm _ (by omega)]
        · rw [exm _ (by omega)]
      · rcases hsh k hk' with q | ⟨q, q1⟩ | ⟨q, q1, q2⟩
        · rw [kd_leaf q]; rfl
        · rw [kd_pre q]; rfl
        · rw [exm _ (by omega)]
  · -- a new one
    have hno : ∀ k, k < m → ¬ (c k = cc ∧ (isPre (c k) → ph (l k) = ph lm) ∧ (isJn (c k) → ph (l k) = ph lm ∧ ph (r k) = ph rm)) := fun k hk h => hex ⟨k, hk, h⟩
    have at5 : ∀ (W : AW), W.1 5 5 = w.1 5 5 → ∀ q, q < P → mX5_at 5 5 (nI q) W = some (nI (dp q), W) := fun W hW q hq => by
      rw [at_in W (show q < 81 by omega) (by decide), hW, (hD.2.2 q hq).2]
    have hda : (if kd cc = 0 then 0 else dp (ph lm)) < 1000 := by
      by_cases z : kd cc = 0
      · rw [if_pos z]; decide
      · rw [if_neg z]; exact hdp _ (hc.1 _ (hl z))
    have hdb : (if kd cc = 2 then dp (ph rm) else 0) < 1000 := by
      by_cases z : kd cc = 2
      · rw [if_pos z]; exact hdp _ (hc.1 _ (hr z))
      · rw [if_neg z]; decide
    have run : mX2_part 5 (nI cc) f s (nI pb) w = some (nI P, newW w P cc f s pb (max (if kd cc = 0 then 0 else dp (ph lm)) (if kd cc = 2 then dp (ph rm) else 0) + bN (modB cc))) := by
      unfold mX2_part
      refine loopE (fun n p => mX2_part_3 5 (nI cc) f s (nI pb) n p w) P nI _ ?_ ?_ FU 0 (Nat.zero_le _) (FU_gt (by omega))
      · intro n p hp
        obtain ⟨z1, z2⟩ := rpF_spec hc hp
        exact X_part_miss hD (by omega) z1 hp z2 (fun h => hno _ z1 ((iff _ z1).mp h))
      · intro n
        refine X_part_new hD.1 hP hcc2 hda hdb (fun W hW => ?_) (fun W hW => ?_)
        · rw [hf]
          by_cases z : kd cc = 0
          · rw [if_pos z, if_pos z]; exact at_m1 W
          · rw [if_neg z, if_neg z]; exact at5 W hW _ (hc.1 _ (hl z))
        · rw [hs]
          by_cases z : kd cc = 2
          · rw [if_pos z, if_pos z]; exact at5 W hW _ (hc.1 _ (hr z))
          · rw [if_neg z, if_neg z]; exact at_m1 W
    have exm : ∀ k, k < m → ex1 ph m P k = ph k := fun k hk => ex1_lt hk
    have hcl : ClassOK (m + 1) (P + 1) (ex1 c m cc) (ex1 l m lm) (ex1 r m rm) (ex1 ph m P) := by
      refine ⟨fun k hk => ?_, fun p hp => ?_, fun k hk g => ?_, fun k hk g => ?_, fun k j hk hj => ?_⟩
      · by_cases e : k = m
        · subst e; rw [ex1_s]; omega
        · rw [exm k (by omega)]; have := hc.1 k (by omega); omega
      · by_cases e : p = P
        · subst e; exact ⟨m, by omega, ex1_s⟩
        · obtain ⟨k, z1, z2⟩ := hc.2.1 p (by omega)
          exact ⟨k, by omega, by rw [exm k z1]; exact z2⟩
      · by_cases e : k = m
        · subst e
          rw [ex1_s] at g
          have hlk := hl (by rw [kd_pre g]; decide)
          rw [ex1_s, ex1_s, exm _ hlk]
          exact hc.1 _ hlk
        · have hk' : k < m := by omega
          rw [ex1_o e] at g
          rw [ex1_o e, exm k hk']
          rcases hsh k hk' with q | ⟨q, q1⟩ | ⟨q, q1, q2⟩
          · have := kd_leaf q; rw [kd_pre g] at this; cases this
          · rw [exm _ (by omega)]; exact hc.2.2.1 k hk' g
          · have := kd_jn q; rw [kd_pre g] at this; cases this
      · by_cases e : k = m
        · subst e
          rw [ex1_s] at g
          have hlk := hl (by rw [kd_jn g]; decide)
          have hrk := hr (by rw [kd_jn g])
          rw [ex1_s, ex1_s, ex1_s, exm _ hlk, exm _ hrk]
          exact ⟨hc.1 _ hlk, hc.1 _ hrk⟩
        · have hk' : k < m := by omega
          rw [ex1_o e] at g
          rw [ex1_o e, ex1_o e, ex1_o e]
          rcases hsh k hk' with q | ⟨q, q1⟩ | ⟨q, q1, q2⟩
          · have := kd_leaf q; rw [kd_jn g] at this; cases this
          · have := kd_pre q; rw [kd_jn g] at this; cases this
          · rw [exm _ (by omega), exm _ (by omega)]; exact hc.2.2.2.1 k hk' g
      · have sub : ∀ k, k < m → (isPre (c k) → ex1 ph m P (l k) = ph (l k)) ∧ (isJn (c k) → ex1 ph m P (l k) = ph (l k) ∧ ex1 ph m P (r k) = ph (r k)) := fun k hk' => by
          rcases hsh k hk' with q | ⟨q, q1⟩ | ⟨q, q1, q2⟩
          · exact ⟨fun g => absurd (kd_leaf q) (by rw [kd_pre g]; decide), fun g => absurd (kd_leaf q) (by rw [kd_jn g]; decide)⟩
          · exact ⟨fun _ => exm _ (by omega), fun g => absurd (kd_pre q) (by rw [kd_jn g]; decide)⟩
          · exact ⟨fun g => absurd (kd_jn q) (by rw [kd_pre g]; decide), fun _ => ⟨exm _ (by omega), exm _ (by omega)⟩⟩
        by_cases e : k = m
        · subst e
          by_cases e2 : j = k
          · subst e2
            exact ⟨fun _ => ⟨rfl, fun _ => rfl, fun _ => ⟨rfl, rfl⟩⟩, fun _ => rfl⟩
          · have hj' : j < k := by omega
            rw [ex1_s, exm j hj', ex1_s, ex1_s, ex1_s, ex1_o e2, ex1_o e2, ex1_o e2]
            constructor
            · intro z
              have := hc.1 j hj'
              omega
            · rintro ⟨z1, z2, z3⟩
              exfalso
              apply hno j hj'
              refine ⟨z1.symm, fun g => ?_, fun g => ?_⟩
              · have := z2 (by rw [z1]; exact g)
                rw [exm _ (hl (by rw [z1, kd_pre g]; decide)), (sub j hj').1 g] at this
                exact this.symm
              · have := z3 (by rw [z1]; exact g)
                rw [exm _ (hl (by rw [z1, kd_jn g]; decide)), exm _ (hr (by rw [z1, kd_jn g])), ((sub j hj').2 g).1, ((sub j hj').2 g).2] at this
                exact ⟨this.1.symm, this.2.symm⟩
        · have hk' : k < m := by omega
          by_cases e2 : j = m
          · subst e2
            rw [ex1_s, exm k hk', ex1_s, ex1_s, ex1_s, ex1_o e, ex1_o e, ex1_o e]
            constructor
            · intro z
              have := hc.1 k hk'
              omega
            · rintro ⟨z1, z2, z3⟩
              exfalso
              apply hno k hk'
              refine ⟨z1, fun g => ?_, fun g => ?_⟩
              · have := z2 g
                rw [exm _ (hl (by rw [← z1, kd_pre g]; decide)), (sub k hk').1 g] at this
                exact this
              · have := z3 g
                rw [exm _ (hl (by rw [← z1, kd_jn g]; decide)), exm _ (hr (by rw [← z1, kd_jn g])), ((sub k hk').2 g).1, ((sub k hk').2 g).2] at this
                exact this
          · have hj' : j < m := by omega
            rw [exm k hk', exm j hj', ex1_o e, ex1_o e, ex1_o e, ex1_o e2, ex1_o e2, ex1_o e2, hc.2.2.2.2 k j hk' hj']
            constructor
            · rintro ⟨z1, z2, z3⟩
              exact ⟨z1, fun g => by rw [(sub k hk').1 g, (sub j hj').1 (by rw [← z1]; exact g)]; exact z2 g, fun g => by rw [((sub k hk').2 g).1, ((sub k hk').2 g).2, ((sub j hj').2 (by rw [← z1]; exact g)).1, ((sub j hj').2 (by rw [← z1]; exact g)).2]; exact z3 g⟩
            · rintro ⟨z1, z2, z3⟩
              refine ⟨z1, fun g => ?_, fun g => ?_⟩
              · have := z2 g
                rw [(sub k hk').1 g, (sub j hj').1 (by rw [← z1]; exact g)] at this
                exact this
              · have := z3 g
                rw [((sub k hk').2 g).1, ((sub k hk').2 g).2, ((sub j hj').2 (by rw [← z1]; exact g)).1, ((sub j hj').2 (by rw [← z1]; exact g)).2] at this
                exact this
    obtain ⟨n1, n2, n3, n4, n5, n6⟩ := newW_new (w := w) (P := P) (cc := cc) (f := f) (s := s) (pb := pb) (d := max (if kd cc = 0 then 0 else dp (ph lm)) (if kd cc = 2 then dp (ph rm) else 0) + bN (modB cc))
    refine ⟨P + 1, ex1 ph m P, ex1 pl P pb, ex1 dp P (max (if kd cc = 0 then 0 else dp (ph lm)) (if kd cc = 2 then dp (ph rm) else 0) + bN (modB cc)), _, by rw [ex1_s]; exact run, ⟨n6, fun k hk => ?_, fun p hp => ?_⟩, ⟨hcl, exm, fun p hp => ⟨ex1_lt hp, ex1_lt hp⟩, Or.inl ⟨rfl, ex1_s, ex1_s, ex1_s⟩⟩, newW_K, fun o a h => newW_row h, newW_sg⟩
    · by_cases e : k = m
      · subst e
        unfold fsX ssX
        rw [ex1_s, ex1_s, ex1_s, ex1_s, n1, n2, n3]
        refine ⟨rfl, ?_, ?_⟩
        · rw [hf]
          by_cases z : kd cc = 0
          · rw [if_pos z, if_pos z]
          · rw [if_neg z, if_neg z, exm _ (hl z)]
        · rw [hs]
          by_cases z : kd cc = 2
          · rw [if_pos z, if_pos z, exm _ (hr z)]
          · rw [if_neg z, if_neg z]
      · have hk' : k < m := by omega
        have hne : ph k ≠ P := by have := hc.1 k hk'; omega
        obtain ⟨g1, g2, g3⟩ := hD.2.1 k hk'
        rw [exm k hk', newW_old hne (by decide), newW_old hne (by decide), newW_old hne (by decide), ex1_o e, g1, g2, g3]
        unfold fsX ssX
        rw [ex1_o e, ex1_o e, ex1_o e]
        refine ⟨rfl, ?_, ?_⟩
        · rcases hsh k hk' with q | ⟨q, q1⟩ | ⟨q, q1, q2⟩
          · rw [kd_leaf q]; rfl
          · rw [exm _ (by omega)]
          · rw [exm _ (by omega)]
        · rcases hsh k hk' with q | ⟨q, q1⟩ | ⟨q, q1, q2⟩
          · rw [kd_leaf q]; rfl
          · rw [kd_pre q]; rfl
          · rw [exm _ (by omega)]
    · by_cases e : p = P
      · subst e
        rw [ex1_s, ex1_s]
        exact ⟨n4, n5⟩
      · rw [newW_old e (by decide), newW_old e (by decide), ex1_o e, ex1_o e]
        exact hD.2.2 p (by omega)
end XP
