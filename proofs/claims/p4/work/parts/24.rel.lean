/-! what ties the class's world to the model's -/
/-- a sentence: M nodes (sign c, parts l and r), from bg to en in the bytes by; P unlike ones, node k is the unlike one ph k -/
def isLeaf (c : Nat) : Prop := c = 112 ∨ c = 113 ∨ c = 114 ∨ c = 115 ∨ c = 84 ∨ c = 70
def isPre (c : Nat) : Prop := c = 33 ∨ c = 91 ∨ c = 123
def isJn (c : Nat) : Prop := c = 38 ∨ c = 124 ∨ c = 62
abbrev SD : Type := (Nat × Nat × Nat) × (Nat → Nat) × (Nat → Nat) × (Nat → Nat) × (Nat → Nat) × (Nat → Nat) × (Nat → Nat) × (Nat → Nat) × (Nat → Nat) × (Nat → Nat)
def sdM (d : SD) : Nat := d.1.1
def sdP (d : SD) : Nat := d.1.2.1
def sdZ (d : SD) : Nat := d.1.2.2
def sdc (d : SD) : Nat → Nat := d.2.1
def sdl (d : SD) : Nat → Nat := d.2.2.1
def sdr (d : SD) : Nat → Nat := d.2.2.2.1
def sdb (d : SD) : Nat → Nat := d.2.2.2.2.1
def sde (d : SD) : Nat → Nat := d.2.2.2.2.2.1
def sdy (d : SD) : Nat → Nat := d.2.2.2.2.2.2.1
def sdf (d : SD) : Nat → Nat := d.2.2.2.2.2.2.2.1
def sdp (d : SD) : Nat → Nat := d.2.2.2.2.2.2.2.2.1
def sdd (d : SD) : Nat → Nat := d.2.2.2.2.2.2.2.2.2
/-- the nodes and their text, of the first m nodes -/
def TreeOK (m : Nat) (c l r b e y : Nat → Nat) : Prop := ∀ k, k < m →
  (isLeaf (c k) ∧ l k = 0 ∧ r k = 0 ∧ e k = b k + 1 ∧ y (b k) = c k) ∨
  (isPre (c k) ∧ l k < k ∧ r k = 0 ∧ e k = e (l k) ∧ b (l k) = b k + 1 ∧ y (b k) = c k) ∨
  (isJn (c k) ∧ l k < k ∧ r k < k ∧ y (b k) = 40 ∧ b (l k) = b k + 1 ∧ y (e (l k)) = c k ∧ b (r k) = e (l k) + 1 ∧ e k = e (r k) + 1 ∧ y (e (r k)) = 41)
/-- the unlike parts of the first m nodes: g p sign, f p first, s p second (one more; 0: none), a p place, d p depth -/
def PartOK (m P : Nat) (c l r b ph pl dp : Nat → Nat) : Prop :=
  (∀ k, k < m → ph k < P) ∧ (∀ p, p < P → ∃ k, k < m ∧ ph k = p ∧ b k = pl p) ∧ (∀ k, k < m → pl (ph k) ≤ b k) ∧
  (∀ k, k < m → isPre (c k) → ph (l k) < ph k) ∧ (∀ k, k < m → isJn (c k) → ph (l k) < ph k ∧ ph (r k) < ph k) ∧
  (∀ k j, k < m → j < m → (ph k = ph j ↔ c k = c j ∧ (isPre (c k) → ph (l k) = ph (l j)) ∧ (isJn (c k) → ph (l k) = ph (l j) ∧ ph (r k) = ph (r j)))) ∧
  (∀ k, k < m → (isLeaf (c k) → dp (ph k) = 0) ∧ (isPre (c k) → dp (ph k) = dp (ph (l k)) + (if c k = 33 then 0 else 1)) ∧ (isJn (c k) → dp (ph k) = max (dp (ph (l k))) (dp (ph (r k)))))
/-- a class's sentence object o holds the unlike parts -/
def SenX (w : AW) (o m P : Nat) (c l r ph pl dp : Nat → Nat) : Prop :=
  w.1 o 0 5 = nI P ∧ w.1 o 0 6 = nI m ∧ (∀ k, k < m → w.1 o 1 (ph k) = nI (c k) ∧
    (isLeaf (c k) → w.1 o 2 (ph k) = -1 ∧ w.1 o 3 (ph k) = -1) ∧ (isPre (c k) → w.1 o 2 (ph k) = nI (ph (l k)) ∧ w.1 o 3 (ph k) = -1) ∧ (isJn (c k) → w.1 o 2 (ph k) = nI (ph (l k)) ∧ w.1 o 3 (ph k) = nI (ph (r k)))) ∧
  (∀ p, p < P → w.1 o 4 p = nI (pl p) ∧ w.1 o 5 p = nI (dp p))
def SenM (w : AW) (i m z : Nat) (c l r b e y : Nat → Nat) : Prop :=
  w.1 0 9 i = nI z ∧ w.1 0 10 i = nI m ∧ (∀ k, k < m → w.1 0 11 (40 * i + k) = nI (c k) ∧ w.1 0 12 (40 * i + k) = nI (l k) ∧ w.1 0 13 (40 * i + k) = nI (r k) ∧ w.1 0 14 (40 * i + k) = nI (b k) ∧ w.1 0 15 (40 * i + k) = nI (e k)) ∧ (∀ j, j < z → w.1 0 8 (200 * i + j) = nI (y j))
def SDok (d : SD) : Prop := 1 ≤ sdM d ∧ sdM d ≤ 40 ∧ 1 ≤ sdP d ∧ sdP d ≤ sdM d ∧ sdZ d ≤ 200 ∧ TreeOK (sdM d) (sdc d) (sdl d) (sdr d) (sdb d) (sde d) (sdy d) ∧ PartOK (sdM d) (sdP d) (sdc d) (sdl d) (sdr d) (sdb d) (sdf d) (sdp d) (sdd d) ∧
  sdf d (sdM d - 1) = sdP d - 1 ∧ sdb d (sdM d - 1) = 0 ∧ sde d (sdM d - 1) = sdZ d ∧ (∀ j, sdy d j < 256) ∧ (∀ k, k < sdM d → sde d k ≤ sdZ d) ∧ (∀ k, k < sdM d → sdd d (sdf d k) ≤ sdd d (sdf d (sdM d - 1)))
def SenR (wX wM : AW) (i : Nat) (d : SD) : Prop := SDok d ∧ SenX wX (6 + i) (sdM d) (sdP d) (sdc d) (sdl d) (sdr d) (sdf d) (sdp d) (sdd d) ∧ SenM wM i (sdM d) (sdZ d) (sdc d) (sdl d) (sdr d) (sdb d) (sde d) (sdy d)
def TextR (wX wM : AW) (T : Nat) (y : Nat → Nat) : Prop := T ≤ 200 ∧ wX.1 0 0 9 = nI T ∧ wM.1 0 0 6 = nI T ∧ (∀ j, j < T → wX.1 0 9 j = nI (y j) ∧ wM.1 0 6 j = nI (y j)) ∧ ∀ j, y j < 256
/-- all that both worlds hold alike -/
def RelD (wX wM : AW) (N : Nat) (S A : Nat → Nat) (T : Nat) (y : Nat → Nat) (D : Nat → SD) : Prop := NetOK N S A ∧ NetX wX N S A ∧ NetM wM N S A ∧ TextR wX wM T y ∧ wX.2 = wM.2 ∧ (∀ i, i < 6 → SenR wX wM i (D i)) ∧ wX.1 12 1 = am_ask
def Rel (wX wM : AW) : Prop := ∃ N S A T y D, RelD wX wM N S A T y D
/-- the class's own state is as it was -/
def KX (w w2 : AW) : Prop := w2.2 = w.2 ∧ w2.1 12 1 = w.1 12 1 ∧ w2.1 0 0 9 = w.1 0 0 9 ∧ w2.1 0 9 = w.1 0 9 ∧ w2.1 1 = w.1 1 ∧ ∀ o, 6 ≤ o → o < 12 → w2.1 o = w.1 o
def KM (w w2 : AW) : Prop := w2.2 = w.2 ∧ w2.1 12 1 = w.1 12 1 ∧ w2.1 0 0 2 = w.1 0 0 2 ∧ w2.1 0 0 6 = w.1 0 0 6 ∧ ∀ a, 4 ≤ a → a < 16 → a ≠ 7 → w2.1 0 a = w.1 0 a
theorem KX.rf (w : AW) : KX w w := ⟨rfl, rfl, rfl, rfl, rfl, fun _ _ _ => rfl⟩
theorem KM.rf (w : AW) : KM w w := ⟨rfl, rfl, rfl, rfl, fun _ _ _ _ => rfl⟩
theorem KX.tr {a b c : AW} (h : KX a b) (h2 : KX b c) : KX a c := ⟨h2.1.trans h.1, h2.2.1.trans h.2.1, h2.2.2.1.trans h.2.2.1, h2.2.2.2.1.trans h.2.2.2.1, h2.2.2.2.2.1.trans h.2.2.2.2.1, fun o h1 h3 => (h2.2.2.2.2.2 o h1 h3).trans (h.2.2.2.2.2 o h1 h3)⟩
theorem KM.tr {a b c : AW} (h : KM a b) (h2 : KM b c) : KM a c := ⟨h2.1.trans h.1, h2.2.1.trans h.2.1, h2.2.2.1.trans h.2.2.1, h2.2.2.2.1.trans h.2.2.2.1, fun o h1 h3 h4 => (h2.2.2.2.2 o h1 h3 h4).trans (h.2.2.2.2 o h1 h3 h4)⟩
theorem am_row_ne {w : AW} {o a i : Nat} {x : Int32} {o' : Nat} (h : o' ≠ o) : (am_set w o a i x).1 o' = w.1 o' := by
  funext a'
  exact am_get_row (Or.inl h)
/-- scratch: 2 view, 3 reader, 4 types, 5 draft, and rows 7, 8 of the class -/
theorem KX.set {w w2 : AW} (h : KX w w2) {o a i : Nat} {x : Int32} (hs : (2 ≤ o ∧ o ≤ 5) ∨ (o = 0 ∧ (a = 7 ∨ a = 8))) : KX w (am_set w2 o a i x) := by
  obtain ⟨h1, h2, h3, h4, h5, h6⟩ := h
  refine ⟨h1, (am_get_row (Or.inl (by omega))).trans h2, (by rw [am_get, if_neg (by omega)]; exact h3), (am_get_row (by omega)).trans h4, (am_row_ne (by omega)).trans h5, fun q z1 z2 => (am_row_ne (by omega)).trans (h6 q z1 z2)⟩
theorem KM.set {w w2 : AW} (h : KM w w2) {a i : Nat} {x : Int32} (hs : 16 ≤ a ∨ (a = 0 ∧ i ≠ 2 ∧ i ≠ 6)) : KM w (am_set w2 0 a i x) := by
  obtain ⟨h1, h2, h3, h4, h5⟩ := h
  refine ⟨h1, (am_get_row (Or.inl (by omega))).trans h2, (by rw [am_get, if_neg (by omega)]; exact h3), (by rw [am_get, if_neg (by omega)]; exact h4), fun q z1 z2 z3 => (am_get_row (Or.inr (by omega))).trans (h5 q z1 z2 z3)⟩
theorem NetX.k {w w2 : AW} {N : Nat} {S A : Nat → Nat} (h : NetX w N S A) (k : KX w w2) : NetX w2 N S A := by
  have e := k.2.2.2.2.1
  exact ⟨by rw [e]; exact h.1, by rw [e]; exact h.2.1, by rw [e]; exact h.2.2⟩
theorem NetM.k {w w2 : AW} {N : Nat} {S A : Nat → Nat} (h : NetM w N S A) (k : KM w w2) : NetM w2 N S A := by
  have e := k.2.2.2.2
  exact ⟨k.2.2.1.trans h.1, by rw [e 4 (by decide) (by decide) (by decide)]; exact h.2.1, by rw [e 5 (by decide) (by decide) (by decide)]; exact h.2.2⟩
theorem SenX.k {w w2 : AW} {i m P : Nat} {c l r ph pl dp : Nat → Nat} (h : SenX w (6 + i) m P c l r ph pl dp) (hi : i < 6) (k : KX w w2) : SenX w2 (6 + i) m P c l r ph pl dp := by
  unfold SenX
  rw [k.2.2.2.2.2 (6 + i) (by omega) (by omega)]
  exact h
theorem SenM.k {w w2 : AW} {i m z : Nat} {c l r b e y : Nat → Nat} (h : SenM w i m z c l r b e y) (k : KM w w2) : SenM w2 i m z c l r b e y := by
  have g := k.2.2.2.2
  unfold SenM
  rw [g 8 (by decide) (by decide) (by decide), g 9 (by decide) (by decide) (by decide), g 10 (by decide) (by decide) (by decide), g 11 (by decide) (by decide) (by decide), g 12 (by decide) (by decide) (by decide), g 13 (by decide) (by decide) (by decide), g 14 (by decide) (by decide) (by decide), g 15 (by decide) (by decide) (by decide)]
  exact h
theorem TextR.k {wX wM wX2 wM2 : AW} {T : Nat} {y : Nat → Nat} (h : TextR wX wM T y) (k : KX wX wX2) (k2 : KM wM wM2) : TextR wX2 wM2 T y := by
  obtain ⟨h1, h2, h3, h4, h5⟩ := h
  refine ⟨h1, k.2.2.1.trans h2, k2.2.2.2.1.trans h3, fun j hj => ?_, h5⟩
  rw [k.2.2.2.1, k2.2.2.2.2 6 (by decide) (by decide) (by decide)]
  exact h4 j hj
theorem RelD.k {wX wM wX2 wM2 : AW} {N : Nat} {S A : Nat → Nat} {T : Nat} {y : Nat → Nat} {D : Nat → SD} (h : RelD wX wM N S A T y D) (k : KX wX wX2) (k2 : KM wM wM2) : RelD wX2 wM2 N S A T y D := by
  obtain ⟨h1, h2, h3, h4, h5, h6, h7⟩ := h
  exact ⟨h1, h2.k k, h3.k k2, h4.k k k2, (k.1.trans h5).trans k2.1.symm, fun i hi => ⟨(h6 i hi).1, (h6 i hi).2.1.k hi k, (h6 i hi).2.2.k k2⟩, k.2.1.trans h7⟩
theorem RelD.rel {wX wM : AW} {N : Nat} {S A : Nat → Nat} {T : Nat} {y : Nat → Nat} {D : Nat → SD} (h : RelD wX wM N S A T y D) : Rel wX wM := ⟨_, _, _, _, _, _, h⟩
/-- how a public method's line is shown: both answer r, and the state is as it was -/
theorem pub_same {α : Type} {wX wM wX2 wM2 : AW} {N : Nat} {S A : Nat → Nat} {T : Nat} {y : Nat → Nat} {D : Nat → SD} {a b : Option (α × AW)} (h : RelD wX wM N S A T y D) (r : α) (e1 : a = some (r, wX2)) (e2 : b = some (r, wM2)) (k : KX wX wX2) (k2 : KM wM wM2) : ∃ (r : α) (wX2 wM2 : AW), a = some (r, wX2) ∧ b = some (r, wM2) ∧ Rel wX2 wM2 := ⟨r, wX2, wM2, e1, e2, (h.k k k2).rel⟩
