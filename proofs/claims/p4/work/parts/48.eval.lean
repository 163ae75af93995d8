/-! values of the nodes, and of the unlike parts -/
theorem nI_eqD {a b : Nat} (ha : a < 2147483648) (hb : b < 2147483648) : (nI a = nI b) = (a = b) := propext (nI_eq ha hb)
theorem nI_leD {a b : Nat} (ha : a < 2147483648) (hb : b < 2147483648) : (nI a ≤ nI b) = (a ≤ b) := propext (nI_leI ha hb)
theorem nI_ltD {a b : Nat} (ha : a < 2147483648) (hb : b < 2147483648) : (nI a < nI b) = (a < b) := by
  rw [eq_iff_iff]
  constructor
  · intro h
    rcases Nat.lt_or_ge a b with q | q
    · exact q
    · exact absurd h (nI_nlt q ha)
  · intro h
    exact nI_lt h hb
def kd (c : Nat) : Nat := if c = 33 ∨ c = 91 ∨ c = 123 then 1 else if c = 38 ∨ c = 124 ∨ c = 62 then 2 else 0
theorem kd_leaf {c : Nat} (h : isLeaf c) : kd c = 0 := by
  unfold isLeaf at h
  unfold kd
  rw [if_neg (by omega), if_neg (by omega)]
theorem kd_pre {c : Nat} (h : isPre c) : kd c = 1 := if_pos h
theorem kd_jn {c : Nat} (h : isJn c) : kd c = 2 := by
  unfold isJn at h
  unfold kd
  rw [if_neg (by omega), if_pos h]
def ShapeOK (m : Nat) (c l r : Nat → Nat) : Prop := ∀ k, k < m → isLeaf (c k) ∨ (isPre (c k) ∧ l k < k) ∨ (isJn (c k) ∧ l k < k ∧ r k < k)
def ClassOK (m P : Nat) (c l r ph : Nat → Nat) : Prop :=
  (∀ k, k < m → ph k < P) ∧ (∀ p, p < P → ∃ k, k < m ∧ ph k = p) ∧ (∀ k, k < m → isPre (c k) → ph (l k) < ph k) ∧ (∀ k, k < m → isJn (c k) → ph (l k) < ph k ∧ ph (r k) < ph k) ∧
  (∀ k j, k < m → j < m → (ph k = ph j ↔ c k = c j ∧ (isPre (c k) → ph (l k) = ph (l j)) ∧ (isJn (c k) → ph (l k) = ph (l j) ∧ ph (r k) = ph (r j))))
theorem TreeOK.shape {m : Nat} {c l r b e y : Nat → Nat} (h : TreeOK m c l r b e y) : ShapeOK m c l r := by
  intro k hk
  rcases h k hk with g | g | g
  · exact Or.inl g.1
  · exact Or.inr (Or.inl ⟨g.1, g.2.1⟩)
  · exact Or.inr (Or.inr ⟨g.1, g.2.1, g.2.2.1⟩)
theorem PartOK.cls {m P : Nat} {c l r b ph pl dp : Nat → Nat} (h : PartOK m P c l r b ph pl dp) : ClassOK m P c l r ph := by
  obtain ⟨h1, h2, h3, h4, h5, h6, h7⟩ := h
  exact ⟨h1, fun p hp => by obtain ⟨k, q1, q2, q3⟩ := h2 p hp; exact ⟨k, q1, q2⟩, h4, h5, h6⟩
def argA (c l v : Nat → Nat) (k : Nat) : Nat := if kd (c k) = 0 then 0 else v (l k)
def argB (c r v : Nat → Nat) (k : Nat) : Nat := if kd (c k) = 2 then v (r k) else 0
def evR (op : Nat → Nat → Nat → Nat) (c l r : Nat → Nat) : Nat → Nat → Nat
  | 0 => fun _ => 0
  | n + 1 => fun j => if j = n then op n (argA c l (evR op c l r n) n) (argB c r (evR op c l r n) n) else evR op c l r n j
def evV (op : Nat → Nat → Nat → Nat) (c l r : Nat → Nat) (k : Nat) : Nat := evR op c l r (k + 1) k
noncomputable def rpF (m : Nat) (ph : Nat → Nat) (p : Nat) : Nat := if h : ∃ k, k < m ∧ ph k = p then Classical.choose h else 0
noncomputable def pvF (op : Nat → Nat → Nat → Nat) (c l r ph : Nat → Nat) (m p : Nat) : Nat := evV op c l r (rpF m ph p)
section EV
variable {op : Nat → Nat → Nat → Nat} {m P : Nat} {c l r ph : Nat → Nat}
theorem evR_eq : ∀ n k, k < n → evR op c l r n k = evV op c l r k := by
  intro n
  induction n with
  | zero => intro k hk; omega
  | succ n ih =>
    intro k hk
    by_cases e : k = n
    · subst e; rfl
    · show (if k = n then _ else evR op c l r n k) = _
      rw [if_neg e, ih k (by omega)]
theorem evV_eq (hs : ShapeOK m c l r) {k : Nat} (hk : k < m) : evV op c l r k = op k (argA c l (evV op c l r) k) (argB c r (evV op c l r) k) := by
  have e : evV op c l r k = op k (argA c l (evR op c l r k) k) (argB c r (evR op c l r k) k) := by
    show (if k = k then _ else _) = _
    rw [if_pos rfl]
  rw [e]
  unfold argA argB
  rcases hs k hk with g | ⟨g, g1⟩ | ⟨g, g1, g2⟩
  · rw [kd_leaf g]; rfl
  · rw [kd_pre g]
    simp only [Nat.one_ne_zero, if_false]
    rw [evR_eq k _ g1]
    rfl
  · rw [kd_jn g, evR_eq k _ g1, evR_eq k _ g2]
theorem evV_lt {B : Nat} (hs : ShapeOK m c l r) (h0 : 0 < B) (hb : ∀ k, k < m → ∀ a b, a < B → b < B → op k a b < B) : ∀ n k, k < n → k < m → evV op c l r k < B := by
  intro n
  induction n with
  | zero => intro k h; omega
  | succ n ih =>
    intro k hkn hk
    rw [evV_eq hs hk]
    refine hb k hk _ _ ?_ ?_
    · unfold argA
      rcases hs k hk with g | ⟨g, g1⟩ | ⟨g, g1, g2⟩
      · rw [kd_leaf g]; exact h0
      · rw [kd_pre g]; exact ih _ (by omega) (by omega)
      · rw [kd_jn g]; exact ih _ (by omega) (by omega)
    · unfold argB
      rcases hs k hk with g | ⟨g, g1⟩ | ⟨g, g1, g2⟩
      · rw [kd_leaf g]; exact h0
      · rw [kd_pre g]; exact h0
      · rw [kd_jn g]; exact ih _ (by omega) (by omega)
theorem evV_ph (hs : ShapeOK m c l r) (hc : ClassOK m P c l r ph) (hop : ∀ k j, k < m → j < m → ph k = ph j → op k = op j) : ∀ n k j, k < n → k < m → j < m → ph k = ph j → evV op c l r k = evV op c l r j := by
  intro n
  induction n with
  | zero => intro k j h; omega
  | succ n ih =>
    intro k j hkn hk hj he
    obtain ⟨q1, q2, q3⟩ := (hc.2.2.2.2 k j hk hj).mp he
    rw [evV_eq hs hk, evV_eq hs hj, hop k j hk hj he]
    unfold argA argB
    rw [← q1]
    have hsj := hs j hj
    rw [← q1] at hsj
    rcases hs k hk with g | ⟨g, g1⟩ | ⟨g, g1, g2⟩
    · rw [kd_leaf g]; rfl
    · have gj : l j < j := by
        rcases hsj with z | ⟨z, z1⟩ | ⟨z, z1, z2⟩
        · have := kd_leaf z; rw [kd_pre g] at this; cases this
        · exact z1
        · exact z1
      rw [kd_pre g]
      simp only [Nat.one_ne_zero, if_false]
      rw [ih _ _ (by omega) (by omega) (by omega) (q2 g)]
      rfl
    · have gj : l j < j ∧ r j < j := by
        rcases hsj with z | ⟨z, z1⟩ | ⟨z, z1, z2⟩
        · have := kd_leaf z; rw [kd_jn g] at this; cases this
        · have := kd_pre z; rw [kd_jn g] at this; cases this
        · exact ⟨z1, z2⟩
      rw [kd_jn g]
      simp only [if_true]
      rw [ih _ _ (by omega) (by omega) (by omega) (q3 g).1, ih _ _ (by omega) (by omega) (by omega) (q3 g).2]
theorem rpF_spec (hc : ClassOK m P c l r ph) {p : Nat} (hp : p < P) : rpF m ph p < m ∧ ph (rpF m ph p) = p := by
  have h := hc.2.1 p hp
  unfold rpF
  rw [dif_pos h]
  exact Classical.choose_spec h
theorem pvF_eq (hs : ShapeOK m c l r) (hc : ClassOK m P c l r ph) (hop : ∀ k j, k < m → j < m → ph k = ph j → op k = op j) {k : Nat} (hk : k < m) : pvF op c l r ph m (ph k) = evV op c l r k := by
  obtain ⟨g1, g2⟩ := rpF_spec hc (hc.1 k hk)
  exact evV_ph hs hc hop _ _ _ (Nat.lt_succ_self _) g1 hk g2
end EV
