section
/-! a part ends, and with it the prefixes before it: class and model side by side -/
def preB (c : Nat) : Bool := decide (c = 33 ∨ c = 91 ∨ c = 123)
def jnB (c : Nat) : Bool := decide (c = 38 ∨ c = 124 ∨ c = 62)
section KB
variable {c : Nat}
theorem ne_nI {a b : Nat} (ha : a < 2 ^ 31) (hb : b < 2 ^ 31) (h : a ≠ b) : nI a ≠ nI b := fun z => h ((nI_eq ha hb).mp z)
theorem X_isPre (w : AW) (hc : c < 2 ^ 31) : mX5_isPrefix (nI c) w = some (nI (bN (preB c)), w) := by
  unfold mX5_isPrefix preB
  by_cases h1 : c = 33
  · subst h1
    rw [if_pos (show nI 33 = 33 from rfl), decide_eq_true (Or.inl rfl)]
    rfl
  · rw [if_neg (show ¬ nI c = 33 from ne_nI (b := 33) hc (by decide) h1)]
    unfold mX5_isModal
    by_cases h2 : c = 91
    · subst h2
      rw [if_pos (show nI 91 = 91 from rfl), decide_eq_true (Or.inr (Or.inl rfl))]
      rfl
    · rw [if_neg (show ¬ nI c = 91 from ne_nI (b := 91) hc (by decide) h2)]
      by_cases h3 : c = 123
      · subst h3
        rw [if_neg (show ¬ (nI 123 ≠ 123) from fun z => z rfl), decide_eq_true (Or.inr (Or.inr rfl))]
        rfl
      · rw [if_pos (show nI c ≠ 123 from ne_nI (b := 123) hc (by decide) h3), decide_eq_false (by omega)]
        rfl
theorem M_isPre (w : AW) (hc : c < 2 ^ 31) : mX6_isPrefix (nI c) w = some (nI (bN (preB c)), w) := by
  unfold mX6_isPrefix preB
  by_cases h1 : c = 33
  · subst h1
    rw [if_pos (show nI 33 = 33 from rfl), decide_eq_true (Or.inl rfl)]
    rfl
  · rw [if_neg (show ¬ nI c = 33 from ne_nI (b := 33) hc (by decide) h1)]
    by_cases h2 : c = 91
    · subst h2
      rw [if_pos (show nI 91 = 91 from rfl), decide_eq_true (Or.inr (Or.inl rfl))]
      rfl
    · rw [if_neg (show ¬ nI c = 91 from ne_nI (b := 91) hc (by decide) h2)]
      by_cases h3 : c = 123
      · subst h3
        rw [if_neg (show ¬ (nI 123 ≠ 123) from fun z => z rfl), decide_eq_true (Or.inr (Or.inr rfl))]
        rfl
      · rw [if_pos (show nI c ≠ 123 from ne_nI (b := 123) hc (by decide) h3), decide_eq_false (by omega)]
        rfl
theorem M_isJn (w : AW) (hc : c < 2 ^ 31) : mX6_isJoin (nI c) w = some (nI (bN (jnB c)), w) := by
  unfold mX6_isJoin jnB
  by_cases h1 : c = 38
  · subst h1
    rw [if_pos (show nI 38 = 38 from rfl), decide_eq_true (Or.inl rfl)]
    rfl
  · rw [if_neg (show ¬ nI c = 38 from ne_nI (b := 38) hc (by decide) h1)]
    by_cases h2 : c = 124
    · subst h2
      rw [if_pos (show nI 124 = 124 from rfl), decide_eq_true (Or.inr (Or.inl rfl))]
      rfl
    · rw [if_neg (show ¬ nI c = 124 from ne_nI (b := 124) hc (by decide) h2)]
      by_cases h3 : c = 62
      · subst h3
        rw [if_neg (show ¬ (nI 62 ≠ 62) from fun z => z rfl), decide_eq_true (Or.inr (Or.inr rfl))]
        rfl
      · rw [if_pos (show nI c ≠ 62 from ne_nI (b := 62) hc (by decide) h3), decide_eq_false (by omega)]
        rfl
theorem X_isJn (w : AW) (hc : c < 2 ^ 31) : mX5_isBetween (nI c) w = some (nI (bN (jnB c)), w) := by
  unfold mX5_isBetween jnB
  by_cases h1 : c = 38
  · subst h1
    rw [if_pos (show nI 38 = 38 from rfl), decide_eq_true (Or.inl rfl)]
    rfl
  · rw [if_neg (show ¬ nI c = 38 from ne_nI (b := 38) hc (by decide) h1)]
    by_cases h2 : c = 124
    · subst h2
      rw [if_pos (show nI 124 = 124 from rfl), decide_eq_true (Or.inr (Or.inl rfl))]
      rfl
    · rw [if_neg (show ¬ nI c = 124 from ne_nI (b := 124) hc (by decide) h2)]
      by_cases h3 : c = 62
      · subst h3
        rw [if_neg (show ¬ (nI 62 ≠ 62) from fun z => z rfl), decide_eq_true (Or.inr (Or.inr rfl))]
        rfl
      · rw [if_pos (show nI c ≠ 62 from ne_nI (b := 62) hc (by decide) h3), decide_eq_false (by omega)]
        rfl
end KB
def cntO (op : Nat → Nat) : Nat → Nat
  | 0 => 0
  | n + 1 => cntO op n + (if op n = 40 then 0 else 1)
def nbF (at_ st lf e : Nat → Nat) (i : Nat) : Nat := if st i = 0 then at_ i + 1 else e (lf i) + 1
def begF (at_ st lf e : Nat → Nat) (H : Nat) : Nat := if H = 0 then 0 else nbF at_ st lf e (H - 1)
def JM (wX wM : AW) (d : SD) (H sg : Nat) (op at_ st lf : Nat → Nat) : Prop :=
  DraftX wX (sdM d) (sdP d) (sdc d) (sdl d) (sdr d) (sdf d) (sdp d) (sdd d) ∧ wX.1 5 0 6 = nI sg ∧ wX.1 3 0 4 = nI H ∧ (∀ i, i < H → wX.1 3 1 i = nI (op i) ∧ wX.1 3 2 i = nI (at_ i) ∧ wX.1 3 3 i = (if st i = 0 then -nI 1 else nI (sdf d (lf i))) ∧ (st i = 3 → wX.1 3 4 i = nI (sdf d (sdM d - 1)))) ∧
  NdM wM (sdM d) (sdc d) (sdl d) (sdr d) (sdb d) (sde d) ∧ (∀ i, i < H → wM.1 0 23 i = nI (op i) ∧ wM.1 0 24 i = nI (at_ i) ∧ wM.1 0 26 i = nI (st i) ∧ (st i ≠ 0 → wM.1 0 25 i = nI (lf i)))
def SI (d : SD) (H sg pos : Nat) (op at_ st lf : Nat → Nat) (cur : Prop) : Prop :=
  TreeOK (sdM d) (sdc d) (sdl d) (sdr d) (sdb d) (sde d) (sdy d) ∧
  PartOK (sdM d) (sdP d) (sdc d) (sdl d) (sdr d) (sdb d) (sdf d) (sdp d) (sdd d) ∧
  (∀ k, k < sdM d → sde d k ≤ pos) ∧
  (∀ i, i < H → (isPre (op i) ∧ st i = 0) ∨ (op i = 40 ∧ (st i = 0 ∨ st i = 1)) ∨ (isJn (op i) ∧ (st i = 2 ∨ st i = 3))) ∧
  (∀ i, i + 1 < H → st i = 0 ∨ st i = 2) ∧
  (∀ i, i < H → (isPre (op i) → sdy d (at_ i) = op i) ∧ (¬ isPre (op i) → sdy d (at_ i) = 40) ∧ (st i ≠ 0 → lf i < sdM d ∧ sdb d (lf i) = at_ i + 1) ∧ (2 ≤ st i → sdy d (sde d (lf i)) = op i)) ∧
  (0 < H → at_ 0 = 0) ∧ (∀ i, i + 1 < H → at_ (i + 1) = nbF at_ st lf (sde d) i) ∧
  sg = sdM d + cntO op H ∧ sg ≤ 40 ∧ H ≤ 20 ∧
  (0 < H → ∀ k, k < sdM d → 1 ≤ sdb d k) ∧
  (∀ k, k < sdM d → ∃ h, h < sdM d ∧ ((∃ i, i < H ∧ st i ≠ 0 ∧ lf i = h) ∨ (cur ∧ h + 1 = sdM d)) ∧ sdd d (sdf d k) ≤ sdd d (sdf d h))
def addD (d : SD) (cc lm rm bm em P' : Nat) (ph' pl' dp' : Nat → Nat) : SD := ((sdM d + 1, P', sdZ d), ex1 (sdc d) (sdM d) cc, ex1 (sdl d) (sdM d) lm, ex1 (sdr d) (sdM d) rm, ex1 (sdb d) (sdM d) bm, ex1 (sde d) (sdM d) em, sdy d, ph', pl', dp')
theorem P_le_M {m P : Nat} {c l r ph : Nat → Nat} (hc : ClassOK m P c l r ph) : P ≤ m := by
  rw [← newN_P hc]
  exact newN_le ph m
theorem dp_small {m P : Nat} {c l r b ph pl dp : Nat → Nat} (hs : ShapeOK m c l r) (hp : PartOK m P c l r b ph pl dp) (hm : m ≤ 900) : ∀ p, p < P → dp p < 1000 := by
  intro p h
  obtain ⟨k, k1, k2, -⟩ := hp.2.1 p h
  have := dp_le hs hp (k + 1) k (Nat.lt_succ_self k) k1
  rw [k2] at this
  omega
theorem lens3 : ∀ a, a < 5 → 1 ≤ a → am_aL false 3 a = 20 := by decide
theorem at3 {w : AW} {a i : Nat} (h1 : 1 ≤ a) (h2 : a < 5) (hi : i < 20) : mX5_at 3 a (nI i) w = some (w.1 3 a i, w) := at_in w (by rw [lens3 a h2 h1]; exact hi) (by rw [lens3 a h2 h1]; decide)
theorem put3 {w : AW} {a i : Nat} {x : Int32} (h1 : 1 ≤ a) (h2 : a < 5) (hi : i < 20) : mX5_put 3 a (nI i) x w = some ((), am_set w 3 a i x) := put_in w (by rw [lens3 a h2 h1]; exact hi) (by rw [lens3 a h2 h1]; decide)
theorem rn3 {w : AW} {i : Nat} {x : Int32} (a a' : Nat) (h : (a' == a) = false) : (am_set w 3 a i x).1 3 a' = w.1 3 a' := am_get_row (Or.inr (by simpa using h))
theorem K3 {w0 w : AW} (h : KX w0 w) {a i : Nat} {x : Int32} : KX w0 (am_set w 3 a i x) := h.set (Or.inl ⟨by decide, by decide⟩)
section EB
/-- when a node has come, and stands at the end: pos bytes are read -/
theorem end_both {pos : Nat} (hpos : pos < 1000) : ∀ (H : Nat) (d : SD) (sg : Nat) (op at_ st lf : Nat → Nat) (wX wM : AW), JM wX wM d H sg op at_ st lf → SI d H sg (pos + 1) op at_ st lf True → (∀ i, i < H → st i = 0 ∨ st i = 2) → 1 ≤ sdM d → sde d (sdM d - 1) = pos + 1 → sdb d (sdM d - 1) = begF at_ st lf (sde d) H → (H = 0 → sdf d (sdM d - 1) = sdP d - 1) → ∀ nX nM, H < nX → H < nM →
    ∃ (d' : SD) (H' : Nat) (st' lf' : Nat → Nat) (wX2 wM2 : AW) (due : Nat), mX1_end_2 5 nX (nI (sdf d (sdM d - 1))) wX = some ((), wX2) ∧ (∀ k17 v1, mX6_reads_296 k17 v1 (nI pos) nM (nI H) (nI (sdM d - 1)) wM = k17 v1 (nI H') (nI (bN (decide (H' = 0)))) (nI 0) (nI (pos + 1)) wM2) ∧ KX wX wX2 ∧ KM wM wM2 ∧ wX2.1 3 0 5 = nI due ∧ JM wX2 wM2 d' H' sg op at_ st' lf' ∧ SI d' H' sg (pos + 1) op at_ st' lf' (due ≠ 1) ∧ sdy d' = sdy d ∧ sdZ d' = sdZ d ∧ 1 ≤ sdM d' ∧
      ((due = 3 ∧ H' = 0 ∧ sdb d' (sdM d' - 1) = 0 ∧ sde d' (sdM d' - 1) = pos + 1 ∧ sdf d' (sdM d' - 1) = sdP d' - 1) ∨ (due = 1 ∧ 0 < H' ∧ st' (H' - 1) = 1 ∧ sde d' (lf' (H' - 1)) = pos + 1) ∨ (due = 2 ∧ 0 < H' ∧ st' (H' - 1) = 3 ∧ sdb d' (sdM d' - 1) = sde d' (lf' (H' - 1)) + 1 ∧ sde d' (sdM d' - 1) = pos + 1)) := by
  intro H
  induction H with
  | zero =>
    intro d sg op at_ st lf wX wM hJ hI hst hM he hb hroot nX nM hX hMn
    obtain ⟨n, rfl⟩ : ∃ m, nX = m + 1 := ⟨nX - 1, by omega⟩
    obtain ⟨n2, rfl⟩ : ∃ m, nM = m + 1 := ⟨nM - 1, by omega⟩
    obtain ⟨j1, j2, j3, j4, j5, j6⟩ := hJ
    refine ⟨d, 0, st, lf, am_set wX 3 0 5 (nI 3), wM, 3, ?_, fun k17 v1 => ?_, K3 (KX.rf _), KM.rf _, am_get_self _ _ _ _ _, ⟨⟨?_, ?_, ?_⟩, ?_, ?_, fun i hi => by omega, j5, fun i hi => by omega⟩, ?_, rfl, rfl, hM, Or.inl ⟨rfl, rfl, hb, he, hroot rfl⟩⟩
    · unfold mX1_end_2
      rw [j3, if_pos (show nI 0 ≤ 0 by decide)]
      unfold mX1_end_70
      rw [j3, if_neg (show ¬ (nI 0 ≠ 0) from fun z => z rfl), pu_mk]
      rfl
    · unfold mX6_reads_296
      rw [if_pos (show nI 0 ≤ 0 by decide)]
      unfold mX6_reads_345
      rw [if_neg (show ¬ (nI 0 ≠ 0) from fun z => z rfl)]
      unfold mX6_reads_354
      rw [if_pos (show (1 : Int32) ≠ 0 by decide)]
      unfold mX6_reads_424
      rw [nm_mk, lit, nI_add]
      rfl
    · rw [am_row_ne (by decide)]; exact j1.1
    · rw [am_row_ne (by decide)]; exact j1.2.1
    · rw [am_row_ne (by decide)]; exact j1.2.2
    · rw [am_row_ne (by decide)]; exact j2
    · rw [am_get_other (by decide)]; exact j3
    · obtain ⟨i1, i2, i3, i4, i5, i6, i7, i8, i9, i10, i11, i12, i13⟩ := hI
      exact ⟨i1, i2, i3, i4, i5, i6, i7, i8, i9, i10, i11, i12, fun k hk => by
        obtain ⟨h, h1, h2, h3⟩ := i13 k hk
        refine ⟨h, h1, ?_, h3⟩
        rcases h2 with ⟨i, q, -⟩ | ⟨-, q⟩
        · omega
        · exact Or.inr ⟨by decide, q⟩⟩
  | succ h ih =>
    intro d sg op at_ st lf wX wM hJ hI hst hM he hb hroot nX nM hX hMn
    obtain ⟨n, rfl⟩ : ∃ m, nX = m + 1 := ⟨nX - 1, by omega⟩
    obtain ⟨n2, rfl⟩ : ∃ m, nM = m + 1 := ⟨nM - 1, by omega⟩
    have hJ0 := hJ
    obtain ⟨j1, j2, j3, j4, j5, j6⟩ := hJ
    have hI0 := hI
    obtain ⟨i1, i2, i3, i4, i5, i6, i7, i8, i9, i10, i11, i12, i13⟩ := hI
    have hh : h < 20 := by omega
    obtain ⟨x1, x2, x3, x4⟩ := j4 h (by omega)
    obtain ⟨m1, m2, m3, m4⟩ := j6 h (by omega)
    obtain ⟨t1, t2, t3, t4⟩ := i6 h (by omega)
    have hM40 : sdM d ≤ 40 := by omega
    have hshape := i1.shape
    have hcls := i2.cls
    have hPM := P_le_M hcls
    have gz : ¬ nI (h + 1) ≤ 0 := nI_ge (a := 0) (by omega) (by omega)
    have gnz : nI (h + 1) ≠ 0 := ne_nI (b := 0) (by omega) (by decide) (by omega)
    have es : nI (h + 1) - 1 = nI h := pk_sub (a := h + 1) (b := 1) (by omega)
    have eadd : nI (h + 1) + (-1) = nI h := pk_m1 h
    have hop : op h < 128 := by
      rcases i4 h (by omega) with ⟨g, -⟩ | ⟨g, -⟩ | ⟨g, -⟩
      · exact kinds_lt (Or.inr (Or.inl g))
      · omega
      · exact kinds_lt (Or.inr (Or.inr g))
    have exA : mX5_at 3 1 (nI h) wX = some (nI (op h), wX) := by rw [at3 (by decide) (by decide) hh, x1]
    have mrd : ∀ (a : Nat) (W : AW) (f : Int32 → Option (Int32 × AW)), rd 20 (W.1 0 a) (nI h) f = f (W.1 0 a h) := fun a W f => rd_in hh (by decide) _ f
    have hbeg : begF at_ st lf (sde d) (h + 1) = nbF at_ st lf (sde d) h := by
      unfold begF
      rw [if_neg (by omega), Nat.add_sub_cancel]
    rw [hbeg] at hb
    have hn1 : sdM d - 1 < sdM d := by omega
    rcases i4 h (by omega) with ⟨g, g1⟩ | ⟨g, g1⟩ | ⟨g, g1⟩
    · -- a prefix: it ends here too
      have hpb : preB (op h) = true := decide_eq_true g
      have hat : at_ h + 1 = sdb d (sdM d - 1) := by
        rw [hb]
        unfold nbF
        rw [if_pos g1]
      have hnode : NodeIs (sdM d) (op h) (sdM d - 1) 0 (at_ h) (pos + 1) (sdb d) (sde d) (sdy d) := Or.inr (Or.inl ⟨g, hn1, rfl, he.symm, hat.symm, t1 g⟩)
      -- the class's part
      have hD1 : DraftX (am_set wX 3 0 4 (nI h)) (sdM d) (sdP d) (sdc d) (sdl d) (sdr d) (sdf d) (sdp d) (sdd d) := by
        unfold DraftX
        rw [am_row_ne (by decide)]
        exact j1
      obtain ⟨P', ph', pl', dp', w2, f1, f2, f3, f4, f5, f6⟩ := X_part (cc := op h) (lm := sdM d - 1) (rm := 0) (pb := at_ h) (f := nI (sdf d (sdM d - 1))) (s := -nI 1) hD1 hcls hshape (by omega) (Or.inr (Or.inl g)) (fun _ => hn1) (fun z => absurd z (by rw [kd_pre g]; decide)) (dp_small hshape i2 (by omega)) ⟨by rw [kd_pre g]; rfl, by rw [kd_pre g]; rfl⟩
      have hPA := part_add i1 i2 hnode (fun k hk => i3 k hk) f3
      have hT' := tree_add i1 hnode
      have mcl := M_part (w := wM) (cc := op h) (lm := sdM d - 1) (rm := 0) (bm := at_ h) (em := pos + 1) j5.1 (by
        have e1 : cntO op (h + 1) = cntO op h + 1 := by
          show cntO op h + (if op h = 40 then 0 else 1) = _
          rw [if_neg (by unfold isPre at g; omega)]
        omega)
      have e40 : cntO op (h + 1) = cntO op h + 1 := by
        show cntO op h + (if op h = 40 then 0 else 1) = _
        rw [if_neg (by unfold isPre at g; omega)]
      have nbS : ∀ i, i < h → nbF at_ st lf (ex1 (sde d) (sdM d) (pos + 1)) i = nbF at_ st lf (sde d) i := fun i hi => by
        unfold nbF
        by_cases z : st i = 0
        · rw [if_pos z, if_pos z]
        · rw [if_neg z, if_neg z, ex1_lt ((i6 i (by omega)).2.2.1 z).1]
      have nb1 : ∀ i, 1 ≤ nbF at_ st lf (sde d) i := fun i => by
        unfold nbF
        split <;> omega
      have atb : at_ h = begF at_ st lf (ex1 (sde d) (sdM d) (pos + 1)) h := by
        unfold begF
        by_cases z : h = 0
        · subst z
          rw [if_pos rfl]
          exact i7 (by omega)
        · rw [if_neg z, nbS _ (by omega)]
          have := i8 (h - 1) (by omega)
          rw [show h - 1 + 1 = h by omega] at this
          exact this
      have hJ' : JM w2 (ndW wM (sdM d) (op h) (sdM d - 1) 0 (at_ h) (pos + 1)) (addD d (op h) (sdM d - 1) 0 (at_ h) (pos + 1) P' ph' pl' dp') h sg op at_ st lf := by
        refine ⟨f2, ?_, ?_, fun i hi => ?_, ndW_N j5, fun i hi => ?_⟩
        · rw [f6, am_row_ne (by decide)]; exact j2
        · rw [f5 3 0 (by decide), am_get_self]
        · obtain ⟨y1, y2, y3, y4⟩ := j4 i (by omega)
          rw [f5 3 1 (by decide), f5 3 2 (by decide), f5 3 3 (by decide), f5 3 4 (by decide), rn3 0 1 rfl, rn3 0 2 rfl, rn3 0 3 rfl, rn3 0 4 rfl]
          refine ⟨y1, y2, ?_, fun z => ?_⟩
          · rw [y3]
            by_cases z : st i = 0
            · rw [if_pos z, if_pos z]
            · rw [if_neg z, if_neg z]
              show nI (sdf d (lf i)) = nI (ph' (lf i))
              rw [f3.2.1 _ ((i6 i (by omega)).2.2.1 z).1]
          · rcases i5 i (by omega) with q | q
            · omega
            · omega
        · obtain ⟨y1, y2, y3, y4⟩ := j6 i (by omega)
          rw [ndW_row (by decide), ndW_row (by decide), ndW_row (by decide), ndW_row (by decide)]
          exact ⟨y1, y2, y3, y4⟩
      have hI' : SI (addD d (op h) (sdM d - 1) 0 (at_ h) (pos + 1) P' ph' pl' dp') h sg (pos + 1) op at_ st lf True := by
        refine ⟨hT', hPA.1, fun k hk => ?_, fun i hi => i4 i (by omega), fun i hi => i5 i (by omega), fun i hi => ?_, fun hz => i7 (by omega), fun i hi => ?_, ?_, i10, by omega, fun hz k hk => ?_, fun k hk => ?_⟩
        · show ex1 (sde d) (sdM d) (pos + 1) k ≤ pos + 1
          by_cases q : k = sdM d
          · rw [q, ex1_s]; exact Nat.le_refl _
          · rw [ex1_o q]
            have hk' : k < sdM d + 1 := hk
            exact i3 k (by omega)
        · obtain ⟨y1, y2, y3, y4⟩ := i6 i (by omega)
          refine ⟨y1, y2, fun z => ?_, fun z => ?_⟩
          · obtain ⟨z1, z2⟩ := y3 z
            refine ⟨Nat.lt_succ_of_lt z1, ?_⟩
            show ex1 (sdb d) (sdM d) (at_ h) (lf i) = _
            rw [ex1_lt z1]
            exact z2
          · show sdy d (ex1 (sde d) (sdM d) (pos + 1) (lf i)) = _
            rw [ex1_lt (y3 (by omega)).1]
            exact y4 z
        · show _ = nbF at_ st lf (ex1 (sde d) (sdM d) (pos + 1)) i
          rw [nbS i (by omega)]
          exact i8 i (by omega)
        · show sg = sdM d + 1 + cntO op h
          omega
        · show 1 ≤ ex1 (sdb d) (sdM d) (at_ h) k
          by_cases q : k = sdM d
          · rw [q, ex1_s]
            have := i8 (h - 1) (by omega)
            rw [show h - 1 + 1 = h by omega] at this
            rw [this]
            exact nb1 _
          · rw [ex1_o q]
            have hk' : k < sdM d + 1 := hk
            exact i12 (by omega) k (by omega)
        · have hk' : k < sdM d + 1 := hk
          have hnew : sdd d (sdf d (sdM d - 1)) ≤ dp' (ph' (sdM d)) := by
            have := (hPA.1.2.2.2.2.2.2 (sdM d) (Nat.lt_succ_self _)).2.1 (by rw [ex1_s]; exact g)
            rw [ex1_s, f3.2.1 _ hn1, (f3.2.2.1 _ (hcls.1 _ hn1)).2] at this
            rw [this]
            exact Nat.le_add_right _ _
          by_cases q : k = sdM d
          · exact ⟨sdM d, Nat.lt_succ_self _, Or.inr ⟨trivial, rfl⟩, by rw [q]; exact Nat.le_refl _⟩
          · have hk2 : k < sdM d := by omega
            obtain ⟨a, a1, a2, a3⟩ := i13 k hk2
            have ek : dp' (ph' k) = sdd d (sdf d k) := by rw [f3.2.1 _ hk2, (f3.2.2.1 _ (hcls.1 _ hk2)).2]
            rcases a2 with ⟨i, z1, z2, z3⟩ | ⟨-, z⟩
            · refine ⟨a, Nat.lt_succ_of_lt a1, Or.inl ⟨i, ?_, z2, z3⟩, ?_⟩
              · have : i ≠ h := fun q2 => by subst q2; exact z2 g1
                omega
              · show dp' (ph' k) ≤ dp' (ph' a)
                rw [ek, f3.2.1 _ a1, (f3.2.2.1 _ (hcls.1 _ a1)).2]
                exact a3
            · refine ⟨sdM d, Nat.lt_succ_self _, Or.inr ⟨trivial, rfl⟩, ?_⟩
              show dp' (ph' k) ≤ dp' (ph' (sdM d))
              rw [ek]
              have : a = sdM d - 1 := by omega
              rw [this] at a3
              exact Nat.le_trans a3 hnew
      obtain ⟨d2, H2, st2, lf2, wX3, wM3, due, r1, r2, r3, r4, r5, r6, r7, r8, r9, r10, r11⟩ := ih (addD d (op h) (sdM d - 1) 0 (at_ h) (pos + 1) P' ph' pl' dp') sg op at_ st lf w2 (ndW wM (sdM d) (op h) (sdM d - 1) 0 (at_ h) (pos + 1)) hJ' hI' (fun i hi => hst i (by omega)) (Nat.le_add_left 1 _) (by
        show ex1 (sde d) (sdM d) (pos + 1) (sdM d + 1 - 1) = pos + 1
        rw [Nat.add_sub_cancel, ex1_s]) (by
        show ex1 (sdb d) (sdM d) (at_ h) (sdM d + 1 - 1) = begF at_ st lf (ex1 (sde d) (sdM d) (pos + 1)) h
        rw [Nat.add_sub_cancel, ex1_s]
        exact atb) (fun hz => by
        show ph' (sdM d + 1 - 1) = P' - 1
        rw [Nat.add_sub_cancel]
        exact hPA.2 (i12 (by omega)) (by subst hz; exact i7 (by omega))) n n2 (by omega) (by omega)
      refine ⟨d2, H2, st2, lf2, wX3, wM3, due, ?_, fun k17 v1 => ?_, ((K3 (KX.rf wX)).tr f4).tr r3, ndW_K.tr r4, r5, r6, r7, r8, r9, r10, r11⟩
      · unfold mX1_end_2
        rw [j3, if_neg gz, es, exA, cl_mk, X_isPre _ (by omega), cl_mk, hpb, bN_t, if_neg (show ¬ (nI 1 = 0) by decide), j3, es, pu_mk, am_get_self, at3 (by decide) (by decide) hh, cl_mk, rn3 0 1 rfl, x1, am_get_self, at3 (by decide) (by decide) hh, cl_mk, rn3 0 2 rfl, x2]
        have f1' : mX2_part 5 (nI (op h)) (nI (sdf d (sdM d - 1))) (-1) (nI (at_ h)) (am_set wX 3 0 4 (nI h)) = some (nI (ph' (sdM d)), w2) := f1
        rw [f1', cl_mk]
        have r1' : mX1_end_2 5 n (nI (ph' (sdM d + 1 - 1))) w2 = some ((), wX3) := r1
        rw [Nat.add_sub_cancel] at r1'
        exact r1'
      · unfold mX6_reads_296
        rw [if_neg gz, es, mrd, m1, M_isPre _ (by omega), cl_mk, hpb, bN_t, if_neg (show ¬ (nI 1 = 0) by decide), eadd, nm_mk, mrd, m1, mrd, m2]
        have e3 : nI pos + 1 = nI (pos + 1) := nI_add pos 1
        have mcl' : mX6_part (nI (op h)) (nI (sdM d - 1)) 0 (nI (at_ h)) (nI (pos + 1)) wM = some (nI (sdM d), ndW wM (sdM d) (op h) (sdM d - 1) 0 (at_ h) (pos + 1)) := mcl
        rw [e3, mcl', cl_mk]
        have r2' := r2 k17 v1
        exact r2'
    · -- the first of two
      have g0 : st h = 0 := by
        rcases hst h (by omega) with q | q
        · exact q
        · omega
      have hpb : preB (op h) = false := decide_eq_false (by omega)
      have hbat : sdb d (sdM d - 1) = at_ h + 1 := by
        rw [hb]
        unfold nbF
        rw [if_pos g0]
      have x3' : mX5_at 3 3 (nI h) wX = some (-1, wX) := by
        rw [at3 (by decide) (by decide) hh, x3, if_pos g0]
        rfl
      refine ⟨d, h + 1, ex1 st h 1, ex1 lf h (sdM d - 1), am_set (am_set wX 3 3 h (nI (sdf d (sdM d - 1)))) 3 0 5 (nI 1), am_set (am_set wM 0 25 h (nI (sdM d - 1))) 0 26 h (nI 1), 1, ?_, fun k17 v1 => ?_, K3 (K3 (KX.rf _)), ((KM.rf _).set (Or.inl (by decide))).set (Or.inl (by decide)), am_get_self _ _ _ _ _, ⟨?_, ?_, ?_, fun i hi => ?_, ⟨?_, fun k hk => ?_⟩, fun i hi => ?_⟩, ⟨i1, i2, i3, fun i hi => ?_, fun i hi => ?_, fun i hi => ?_, i7, fun i hi => ?_, i9, i10, i11, i12, fun k hk => ?_⟩, rfl, rfl, hM, Or.inr (Or.inl ⟨rfl, by omega, ?_, ?_⟩)⟩
      · unfold mX1_end_2
        rw [j3, if_neg gz, es, exA, cl_mk, X_isPre _ (by omega), cl_mk, hpb, bN_f, if_pos (show nI 0 = 0 from rfl)]
        unfold mX1_end_70
        rw [j3, if_pos gnz, es, x3', cl_mk, if_neg (show ¬ ((-1 : Int32) ≠ -1) from fun z => z rfl), j3, es, put3 (by decide) (by decide) hh, cl_mk, pu_mk]
        rfl
      · unfold mX6_reads_296
        rw [if_neg gz, es, mrd, m1, M_isPre _ (by omega), cl_mk, hpb, bN_f, if_pos (show nI 0 = 0 from rfl)]
        unfold mX6_reads_345
        rw [if_pos gnz]
        unfold mX6_reads_354
        rw [if_neg (show ¬ ((0 : Int32) ≠ 0) from fun z => z rfl), es, mrd, m3, g0, if_neg (show ¬ (nI 0 ≠ 0) from fun z => z rfl)]
        unfold mX6_reads_378
        rw [if_neg (show ¬ ((1 : Int32) = 0) by decide), es]
        unfold mX6_reads_405
        rw [wr_in hh (by decide), if_neg (show ¬ ((1 : Int32) = 0) by decide), es]
        unfold mX6_reads_423
        rw [wr_in hh (by decide)]
        unfold mX6_reads_424
        rw [nm_mk, show nI pos + 1 = nI (pos + 1) from nI_add pos 1, decide_eq_false (by omega)]
        rfl
      · unfold DraftX
        rw [am_row_ne (by decide), am_row_ne (by decide)]
        exact j1
      · rw [am_row_ne (by decide), am_row_ne (by decide)]; exact j2
      · rw [am_get_other (by decide), rn3 3 0 rfl]; exact j3
      · obtain ⟨y1, y2, y3, y4⟩ := j4 i (by omega)
        rw [rn3 0 1 rfl, rn3 0 2 rfl, rn3 0 3 rfl, rn3 0 4 rfl, rn3 3 1 rfl, rn3 3 2 rfl, rn3 3 4 rfl]
        refine ⟨y1, y2, ?_, fun z => ?_⟩
        · by_cases q : i = h
          · subst q
            rw [am_get_self, ex1_s, ex1_s]
            rfl
          · rw [am_get_other q, y3, ex1_o q, ex1_o q]
        · by_cases q : i = h
          · subst q; rw [ex1_s] at z; omega
          · rw [ex1_o q] at z; exact y4 z
      · rw [rn 26 0 rfl, rn 25 0 rfl]; exact j5.1
      · rw [rn 26 18 rfl, rn 25 18 rfl, rn 26 19 rfl, rn 25 19 rfl, rn 26 20 rfl, rn 25 20 rfl, rn 26 21 rfl, rn 25 21 rfl, rn 26 22 rfl, rn 25 22 rfl]
        exact j5.2 k hk
      · obtain ⟨y1, y2, y3, y4⟩ := j6 i (by omega)
        rw [rn 26 23 rfl, rn 25 23 rfl, rn 26 24 rfl, rn 25 24 rfl, rn 26 25 rfl]
        refine ⟨y1, y2, ?_, fun z => ?_⟩
        · by_cases q : i = h
          · subst q; rw [am_get_self, ex1_s]
          · rw [am_get_other q, rn 25 26 rfl, ex1_o q]; exact y3
        · by_cases q : i = h
          · subst q; rw [am_get_self, ex1_s]
          · rw [am_get_other q, ex1_o q]
            rw [ex1_o q] at z
            exact y4 z
      · by_cases q : i = h
        · subst q; rw [ex1_s]; exact Or.inr (Or.inl ⟨g, Or.inr rfl⟩)
        · rw [ex1_o q]; exact i4 i hi
      · rw [ex1_o (show i ≠ h by omega)]; exact i5 i hi
      · obtain ⟨y1, y2, y3, y4⟩ := i6 i hi
        by_cases q : i = h
        · subst q
          rw [ex1_s, ex1_s]
          exact ⟨y1, y2, fun _ => ⟨hn1, hbat⟩, fun z => by omega⟩
        · rw [ex1_o q, ex1_o q]
          exact ⟨y1, y2, y3, y4⟩
      · unfold nbF
        rw [ex1_o (show i ≠ h by omega), ex1_o (show i ≠ h by omega)]
        exact i8 i hi
      · obtain ⟨a, a1, a2, a3⟩ := i13 k hk
        refine ⟨a, a1, ?_, a3⟩
        rcases a2 with ⟨i, z1, z2, z3⟩ | ⟨-, z⟩
        · have q : i ≠ h := fun q2 => by subst q2; exact z2 g0
          exact Or.inl ⟨i, z1, by rw [ex1_o q]; exact z2, by rw [ex1_o q]; exact z3⟩
        · exact Or.inl ⟨h, by omega, by rw [ex1_s]; decide, by rw [ex1_s]; omega⟩
      · rw [Nat.add_sub_cancel, ex1_s]
      · rw [Nat.add_sub_cancel, ex1_s]; exact he
    · -- the second of two
      have g0 : st h = 2 := by
        rcases hst h (by omega) with q | q
        · omega
        · exact q
      have hpb : preB (op h) = false := decide_eq_false (by unfold isJn at g; omega)
      obtain ⟨t5, t6⟩ := t3 (by omega)
      have hbat : sdb d (sdM d - 1) = sde d (lf h) + 1 := by
        rw [hb]
        unfold nbF
        rw [if_neg (by omega)]
      have hlfp := hcls.1 _ t5
      have x3' : mX5_at 3 3 (nI h) wX = some (nI (sdf d (lf h)), wX) := by
        rw [at3 (by decide) (by decide) hh, x3, if_neg (by omega)]
      have m1ne : nI (sdf d (lf h)) ≠ -1 := fun z => by
        have := nI_pos (show sdf d (lf h) < 2 ^ 31 by omega)
        rw [z] at this
        exact this (by decide)
      refine ⟨d, h + 1, ex1 st h 3, lf, am_set (am_set wX 3 4 h (nI (sdf d (sdM d - 1)))) 3 0 5 (nI 2), am_set (am_set wM 0 25 h (nI (lf h))) 0 26 h (nI 3), 2, ?_, fun k17 v1 => ?_, K3 (K3 (KX.rf _)), ((KM.rf _).set (Or.inl (by decide))).set (Or.inl (by decide)), am_get_self _ _ _ _ _, ⟨?_, ?_, ?_, fun i hi => ?_, ⟨?_, fun k hk => ?_⟩, fun i hi => ?_⟩, ⟨i1, i2, i3, fun i hi => ?_, fun i hi => ?_, fun i hi => ?_, i7, fun i hi => ?_, i9, i10, i11, i12, fun k hk => ?_⟩, rfl, rfl, hM, Or.inr (Or.inr ⟨rfl, by omega, ?_, ?_, he⟩)⟩
      · unfold mX1_end_2
        rw [j3, if_neg gz, es, exA, cl_mk, X_isPre _ (by omega), cl_mk, hpb, bN_f, if_pos (show nI 0 = 0 from rfl)]
        unfold mX1_end_70
        rw [j3, if_pos gnz, es, x3', cl_mk, if_pos m1ne, j3, es, put3 (by decide) (by decide) hh, cl_mk, pu_mk]
        rfl
      · unfold mX6_reads_296
        rw [if_neg gz, es, mrd, m1, M_isPre _ (by omega), cl_mk, hpb, bN_f, if_pos (show nI 0 = 0 from rfl)]
        unfold mX6_reads_345
        rw [if_pos gnz]
        unfold mX6_reads_354
        rw [if_neg (show ¬ ((0 : Int32) ≠ 0) from fun z => z rfl), es, mrd, m3, g0, if_pos (show nI 2 ≠ 0 by decide)]
        unfold mX6_reads_378
        rw [if_pos (show (0 : Int32) = 0 from rfl), es, mrd, m4 (by omega)]
        unfold mX6_reads_405
        rw [wr_in hh (by decide), if_pos (show (0 : Int32) = 0 from rfl), es]
        unfold mX6_reads_423
        rw [wr_in hh (by decide)]
        unfold mX6_reads_424
        rw [nm_mk, show nI pos + 1 = nI (pos + 1) from nI_add pos 1, decide_eq_false (by omega)]
        rfl
      · unfold DraftX
        rw [am_row_ne (by decide), am_row_ne (by decide)]
        exact j1
      · rw [am_row_ne (by decide), am_row_ne (by decide)]; exact j2
      · rw [am_get_other (by decide), rn3 4 0 rfl]; exact j3
      · obtain ⟨y1, y2, y3, y4⟩ := j4 i (by omega)
        rw [rn3 0 1 rfl, rn3 0 2 rfl, rn3 0 3 rfl, rn3 0 4 rfl, rn3 4 1 rfl, rn3 4 2 rfl, rn3 4 3 rfl]
        refine ⟨y1, y2, ?_, fun z => ?_⟩
        · by_cases q : i = h
          · subst q
            rw [y3, ex1_s, if_neg (by omega), if_neg (by decide)]
          · rw [y3, ex1_o q]
        · by_cases q : i = h
          · subst q; exact am_get_self _ _ _ _ _
          · rw [ex1_o q] at z
            rw [am_get_other q]
            exact y4 z
      · rw [rn 26 0 rfl, rn 25 0 rfl]; exact j5.1
      · rw [rn 26 18 rfl, rn 25 18 rfl, rn 26 19 rfl, rn 25 19 rfl, rn 26 20 rfl, rn 25 20 rfl, rn 26 21 rfl, rn 25 21 rfl, rn 26 22 rfl, rn 25 22 rfl]
        exact j5.2 k hk
      · obtain ⟨y1, y2, y3, y4⟩ := j6 i (by omega)
        rw [rn 26 23 rfl, rn 25 23 rfl, rn 26 24 rfl, rn 25 24 rfl, rn 26 25 rfl]
        refine ⟨y1, y2, ?_, fun z => ?_⟩
        · by_cases q : i = h
          · subst q; rw [am_get_self, ex1_s]
          · rw [am_get_other q, rn 25 26 rfl, ex1_o q]; exact y3
        · by_cases q : i = h
          · subst q; rw [am_get_self]
          · rw [am_get_other q]
            rw [ex1_o q] at z
            exact y4 z
      · by_cases q : i = h
        · subst q; rw [ex1_s]; exact Or.inr (Or.inr ⟨g, Or.inr rfl⟩)
        · rw [ex1_o q]; exact i4 i hi
      · rw [ex1_o (show i ≠ h by omega)]; exact i5 i hi
      · obtain ⟨y1, y2, y3, y4⟩ := i6 i hi
        by_cases q : i = h
        · subst q
          rw [ex1_s]
          exact ⟨y1, y2, fun _ => y3 (by omega), fun _ => y4 (by omega)⟩
        · rw [ex1_o q]
          exact ⟨y1, y2, y3, y4⟩
      · unfold nbF
        rw [ex1_o (show i ≠ h by omega)]
        exact i8 i hi
      · obtain ⟨a, a1, a2, a3⟩ := i13 k hk
        refine ⟨a, a1, ?_, a3⟩
        rcases a2 with ⟨i, z1, z2, z3⟩ | ⟨-, z⟩
        · by_cases q : i = h
          · subst q
            exact Or.inl ⟨i, z1, by rw [ex1_s]; decide, z3⟩
          · exact Or.inl ⟨i, z1, by rw [ex1_o q]; exact z2, z3⟩
        · exact Or.inr ⟨by decide, z⟩
      · rw [Nat.add_sub_cancel, ex1_s]
      · rw [Nat.add_sub_cancel]; exact hbat
end EB
end
section
/-! one byte: class and model side by side -/
theorem SI.cur {d : SD} {H sg pos : Nat} {op at_ st lf : Nat → Nat} {p q : Prop} (h : SI d H sg pos op at_ st lf p) (hpq : p → q) : SI d H sg pos op at_ st lf q := by
  obtain ⟨i1, i2, i3, i4, i5, i6, i7, i8, i9, i10, i11, i12, i13⟩ := h
  refine ⟨i1, i2, i3, i4, i5, i6, i7, i8, i9, i10, i11, i12, fun k hk => ?_⟩
  obtain ⟨h, h1, h2, h3⟩ := i13 k hk
  refine ⟨h, h1, ?_, h3⟩
  rcases h2 with h2 | h2
  · exact Or.inl h2
  · exact Or.inr ⟨hpq h2.1, h2.2⟩
theorem nbF_pos (at_ st lf e : Nat → Nat) (i : Nat) : 1 ≤ nbF at_ st lf e i := by
  unfold nbF
  split <;> omega
theorem SI_add {d : SD} {H H' sg sg' pos em cc lm rm bm P' : Nat} {op at_ st lf ph' pl' dp' : Nat → Nat} {cur : Prop} (hI : SI d H sg pos op at_ st lf cur) (hH : H' ≤ H) (hem : pos ≤ em)
    (hn : NodeIs (sdM d) cc lm rm bm em (sdb d) (sde d) (sdy d)) (hA : PartAdd (sdM d) (sdP d) cc lm rm bm (sdc d) (sdl d) (sdr d) (sdf d) (sdp d) (sdd d) P' ph' pl' dp') (hsg : sg' = sdM d + 1 + cntO op H') (h40 : sg' ≤ 40) (hbm : 0 < H' → 1 ≤ bm)
    (hcov : ∀ h, h < sdM d → ((∃ i, H' ≤ i ∧ i < H ∧ st i ≠ 0 ∧ lf i = h) ∨ (cur ∧ h + 1 = sdM d)) → sdd d (sdf d h) ≤ dp' (ph' (sdM d))) :
    SI (addD d cc lm rm bm em P' ph' pl' dp') H' sg' em op at_ st lf True ∧ ((∀ k, k < sdM d → 1 ≤ sdb d k) → bm = 0 → ph' (sdM d) = P' - 1) := by
  obtain ⟨i1, i2, i3, i4, i5, i6, i7, i8, i9, i10, i11, i12, i13⟩ := hI
  have hcls := i2.cls
  have hPA := part_add i1 i2 hn (fun k hk => Nat.le_trans (i3 k hk) hem) hA
  have hT' := tree_add i1 hn
  have nbS : ∀ i, i < H' → nbF at_ st lf (ex1 (sde d) (sdM d) em) i = nbF at_ st lf (sde d) i := fun i hi => by
    unfold nbF
    by_cases z : st i = 0
    · rw [if_pos z, if_pos z]
    · rw [if_neg z, if_neg z, ex1_lt ((i6 i (by omega)).2.2.1 z).1]
  refine ⟨⟨hT', hPA.1, fun k hk => ?_, fun i hi => i4 i (by omega), fun i hi => i5 i (by omega), fun i hi => ?_, fun hz => i7 (by omega), fun i hi => ?_, hsg, h40, by omega, fun hz k hk => ?_, fun k hk => ?_⟩, hPA.2⟩
  · show ex1 (sde d) (sdM d) em k ≤ em
    have hk' : k < sdM d + 1 := hk
    by_cases q : k = sdM d
    · rw [q, ex1_s]; exact Nat.le_refl _
    · rw [ex1_o q]
      exact Nat.le_trans (i3 k (by omega)) hem
  · obtain ⟨y1, y2, y3, y4⟩ := i6 i (by omega)
    refine ⟨y1, y2, fun z => ?_, fun z => ?_⟩
    · obtain ⟨z1, z2⟩ := y3 z
      refine ⟨Nat.lt_succ_of_lt z1, ?_⟩
      show ex1 (sdb d) (sdM d) bm (lf i) = _
      rw [ex1_lt z1]
      exact z2
    · show sdy d (ex1 (sde d) (sdM d) em (lf i)) = _
      rw [ex1_lt (y3 (by omega)).1]
      exact y4 z
  · show _ = nbF at_ st lf (ex1 (sde d) (sdM d) em) i
    rw [nbS i (by omega)]
    exact i8 i (by omega)
  · show 1 ≤ ex1 (sdb d) (sdM d) bm k
    have hk' : k < sdM d + 1 := hk
    by_cases q : k = sdM d
    · rw [q, ex1_s]; exact hbm hz
    · rw [ex1_o q]
      exact i12 (by omega) k (by omega)
  · have hk' : k < sdM d + 1 := hk
    by_cases q : k = sdM d
    · exact ⟨sdM d, Nat.lt_succ_self _, Or.inr ⟨trivial, rfl⟩, by rw [q]; exact Nat.le_refl _⟩
    · have hk2 : k < sdM d := by omega
      obtain ⟨a, a1, a2, a3⟩ := i13 k hk2
      have ek : dp' (ph' k) = sdd d (sdf d k) := by rw [hA.2.1 _ hk2, (hA.2.2.1 _ (hcls.1 _ hk2)).2]
      have new : sdd d (sdf d a) ≤ dp' (ph' (sdM d)) → ∃ h, h < sdM d + 1 ∧ ((∃ i, i < H' ∧ st i ≠ 0 ∧ lf i = h) ∨ (True ∧ h + 1 = sdM d + 1)) ∧ dp' (ph' k) ≤ dp' (ph' h) := fun z => ⟨sdM d, Nat.lt_succ_self _, Or.inr ⟨trivial, rfl⟩, by rw [ek]; exact Nat.le_trans a3 z⟩
      rcases a2 with ⟨i, z1, z2, z3⟩ | ⟨z0, z⟩
      · by_cases y : i < H'
        · refine ⟨a, Nat.lt_succ_of_lt a1, Or.inl ⟨i, y, z2, z3⟩, ?_⟩
          show dp' (ph' k) ≤ dp' (ph' a)
          rw [ek, hA.2.1 _ a1, (hA.2.2.1 _ (hcls.1 _ a1)).2]
          exact a3
        · exact new (hcov a a1 (Or.inl ⟨i, by omega, z1, z2, z3⟩))
      · exact new (hcov a a1 (Or.inr ⟨z0, z⟩))
theorem JM_add {wX wM w2 : AW} {d : SD} {H H' sg cc lm rm bm em P' : Nat} {op at_ st lf ph' pl' dp' : Nat → Nat} (hJ : JM wX wM d H sg op at_ st lf) (hH : H' ≤ H) (hst : ∀ i, i < H' → st i = 0 ∨ st i = 2) (hlf : ∀ i, i < H → st i ≠ 0 → lf i < sdM d) (hph : ∀ k, k < sdM d → ph' k = sdf d k)
    (hD : DraftX w2 (sdM d + 1) P' (ex1 (sdc d) (sdM d) cc) (ex1 (sdl d) (sdM d) lm) (ex1 (sdr d) (sdM d) rm) ph' pl' dp') (h6 : w2.1 5 0 6 = nI sg) (h34 : w2.1 3 0 4 = nI H') (hrow : ∀ a, 1 ≤ a → a ≤ 4 → w2.1 3 a = wX.1 3 a) :
    JM w2 (ndW wM (sdM d) cc lm rm bm em) (addD d cc lm rm bm em P' ph' pl' dp') H' sg op at_ st lf := by
  obtain ⟨j1, j2, j3, j4, j5, j6⟩ := hJ
  refine ⟨hD, h6, h34, fun i hi => ?_, ndW_N j5, fun i hi => ?_⟩
  · obtain ⟨y1, y2, y3, y4⟩ := j4 i (by omega)
    rw [hrow 1 (by decide) (by decide), hrow 2 (by decide) (by decide), hrow 3 (by decide) (by decide), hrow 4 (by decide) (by decide)]
    refine ⟨y1, y2, ?_, fun z => ?_⟩
    · rw [y3]
      by_cases z : st i = 0
      · rw [if_pos z, if_pos z]
      · rw [if_neg z, if_neg z]
        show nI (sdf d (lf i)) = nI (ph' (lf i))
        rw [hph _ (hlf i (by omega) z)]
    · rcases hst i hi with q | q
      · omega
      · omega
  · obtain ⟨y1, y2, y3, y4⟩ := j6 i (by omega)
    rw [ndW_row (by decide), ndW_row (by decide), ndW_row (by decide), ndW_row (by decide)]
    exact ⟨y1, y2, y3, y4⟩
/-- what is due next, and where it begins -/
def DC (d : SD) (H pos due : Nat) (at_ st lf : Nat → Nat) : Prop := (due = 0 ∧ (∀ i, i < H → st i = 0 ∨ st i = 2) ∧ pos = begF at_ st lf (sde d) H ∧ (H = 0 → sdM d = 0)) ∨ (due = 3 ∧ H = 0 ∧ 1 ≤ sdM d ∧ sdb d (sdM d - 1) = 0 ∧ sde d (sdM d - 1) = pos ∧ sdf d (sdM d - 1) = sdP d - 1) ∨ (due = 1 ∧ 0 < H ∧ st (H - 1) = 1 ∧ sde d (lf (H - 1)) = pos) ∨ (due = 2 ∧ 0 < H ∧ 1 ≤ sdM d ∧ st (H - 1) = 3 ∧ sdb d (sdM d - 1) = sde d (lf (H - 1)) + 1 ∧ sde d (sdM d - 1) = pos)
/-- the parsers' states belong together -/
def PR (wX wM : AW) (d : SD) (H sg pos due : Nat) (op at_ st lf : Nat → Nat) : Prop := JM wX wM d H sg op at_ st lf ∧ SI d H sg pos op at_ st lf (due = 2 ∨ due = 3) ∧ DC d H pos due at_ st lf ∧ wX.1 3 0 5 = nI due
/-- both go on behind the byte, or both stop at it -/
def GoOn (rX : Option (Int32 × AW)) (rM : Option (Int32 × AW)) (k17 : Int32 → Int32 → Int32 → Int32 → Int32 → AW → Option (Int32 × AW)) (wX wM : AW) (y : Nat → Nat) (Z sg pos : Nat) : Prop :=
  (∃ wX2 wM2, rX = some (nI 0, wX2) ∧ rM = some (nI 0, wM2) ∧ KX wX wX2 ∧ KM wM wM2 ∧ wM2.1 0 0 16 = wM.1 0 0 16) ∨
  (∃ (d : SD) (H due : Nat) (op at_ st lf : Nat → Nat) (wX2 wM2 : AW), rX = some (nI 1, wX2) ∧ rM = k17 (nI sg) (nI H) (nI (bN (decide (due = 3)))) (nI (bN (decide (due = 0)))) (nI (pos + 1)) wM2 ∧ KX wX wX2 ∧ KM wM wM2 ∧ PR wX2 wM2 d H sg (pos + 1) due op at_ st lf ∧ sdy d = y ∧ sdZ d = Z)
section ST
variable {wX wM : AW} {d : SD} {H sg pos : Nat} {op at_ st lf : Nat → Nat} {k17 : Int32 → Int32 → Int32 → Int32 → Int32 → AW → Option (Int32 × AW)}
/-- a node has been made: the rest of the byte's work -/
theorem goes_end (hpos : pos < 1000) (hJ : JM wX wM d H sg op at_ st lf) (hI : SI d H sg (pos + 1) op at_ st lf True) (hst : ∀ i, i < H → st i = 0 ∨ st i = 2) (hM : 1 ≤ sdM d) (he : sde d (sdM d - 1) = pos + 1) (hb : sdb d (sdM d - 1) = begF at_ st lf (sde d) H) (hroot : H = 0 → sdf d (sdM d - 1) = sdP d - 1) {wX0 wM0 : AW} (kX : KX wX0 wX) (kM : KM wM0 wM) :
    GoOn (cl (mX1_end (nI (sdf d (sdM d - 1))) 5 wX) fun _ w => some (nI 1, w)) (mX6_reads_296 k17 (nI sg) (nI pos) FU (nI H) (nI (sdM d - 1)) wM) k17 wX0 wM0 (sdy d) (sdZ d) sg pos := by
  have h20 : H ≤ 20 := hI.2.2.2.2.2.2.2.2.2.2.1
  obtain ⟨d', H', st', lf', wX2, wM2, due, f1, f2, f3, f4, f5, f6, f7, f8, f9, f10, f11⟩ := end_both hpos H d sg op at_ st lf wX wM hJ hI hst hM he hb hroot FU FU (FU_gt (by omega)) (FU_gt (by omega))
  have hd : decide (H' = 0) = decide (due = 3) ∧ decide (due = 0) = false := by
    rcases f11 with ⟨z1, z2, -⟩ | ⟨z1, z2, -⟩ | ⟨z1, z2, -⟩
    · rw [z1, z2]; exact ⟨rfl, rfl⟩
    · rw [z1, decide_eq_false (by omega)]; exact ⟨rfl, rfl⟩
    · rw [z1, decide_eq_false (by omega)]; exact ⟨rfl, rfl⟩
  refine Or.inr ⟨d', H', due, op, at_, st', lf', wX2, wM2, ?_, ?_, kX.tr f3, kM.tr f4, ⟨f6, f7.cur (fun z => by omega), ?_, f5⟩, f8, f9⟩
  · unfold mX1_end
    rw [f1, cl_mk]
  · rw [f2 k17 (nI sg), hd.1, hd.2]
    rfl
  · rcases f11 with ⟨z1, z2, z3, z4, z5⟩ | ⟨z1, z2, z3, z4⟩ | ⟨z1, z2, z3, z4, z5⟩
    · exact Or.inr (Or.inl ⟨z1, z2, f10, z3, z4, z5⟩)
    · exact Or.inr (Or.inr (Or.inl ⟨z1, z2, z3, z4⟩))
    · exact Or.inr (Or.inr (Or.inr ⟨z1, z2, f10, z3, z4, z5⟩))
end ST
end
section
/-! one byte, by what is due -/
theorem X_one_leaf {c : Nat} (v2 : Int32) (w : AW) (h : isLeaf c) : mX1_takesOne (nI c) v2 5 w = mX1_takesOne_19 (nI c) v2 5 w := by
  unfold mX1_takesOne
  rw [X_isAtom w (by unfold isLeaf at h; omega), cl_mk]
  rcases h with rfl | rfl | rfl | rfl | rfl | rfl
  · rw [if_pos (show nI (bN (decide (112 ≤ 112 ∧ 112 ≤ 115))) ≠ 0 by decide)]
  · rw [if_pos (show nI (bN (decide (112 ≤ 113 ∧ 113 ≤ 115))) ≠ 0 by decide)]
  · rw [if_pos (show nI (bN (decide (112 ≤ 114 ∧ 114 ≤ 115))) ≠ 0 by decide)]
  · rw [if_pos (show nI (bN (decide (112 ≤ 115 ∧ 115 ≤ 115))) ≠ 0 by decide)]
  · rw [if_neg (show ¬ (nI (bN (decide (112 ≤ 84 ∧ 84 ≤ 115))) ≠ 0) from fun z => z rfl), if_pos (show nI 84 = 84 from rfl)]
  · rw [if_neg (show ¬ (nI (bN (decide (112 ≤ 70 ∧ 70 ≤ 115))) ≠ 0) from fun z => z rfl), if_neg (show ¬ (nI 70 = 84) by decide), if_neg (show ¬ (nI 70 ≠ 70) from fun z => z rfl)]
theorem X_one_other {c : Nat} (v2 : Int32) (w : AW) (hc : c < 256) (h : ¬ isLeaf c) : mX1_takesOne (nI c) v2 5 w = if preB c = true ∨ c = 40 then mX1_takesOne_47 (nI c) v2 w else some (nI 0, w) := by
  unfold isLeaf at h
  unfold mX1_takesOne
  rw [X_isAtom w (by omega), cl_mk, decide_eq_false (show ¬ (112 ≤ c ∧ c ≤ 115) by omega), if_neg (show ¬ (nI (bN false) ≠ 0) from fun z => z rfl), if_neg (show ¬ nI c = 84 from ne_nI (b := 84) (by omega) (by decide) (by omega)), if_pos (show nI c ≠ 70 from ne_nI (b := 70) (by omega) (by decide) (by omega))]
  by_cases q : c = 40
  · subst q
    rw [if_pos (show nI 40 = 40 from rfl), if_pos (Or.inr rfl)]
  · rw [if_neg (show ¬ nI c = 40 from ne_nI (b := 40) (by omega) (by decide) q), X_isPre w (by omega), cl_mk]
    cases z : preB c
    · rw [if_pos (show nI (bN false) = 0 from rfl), if_neg (by intro y; rcases y with y | y; exact Bool.noConfusion y; exact q y)]
      rfl
    · rw [if_neg (show ¬ (nI (bN true) = 0) by decide), if_pos (Or.inl rfl)]
theorem M_one_leaf {c sg : Nat} {k17 : Int32 → Int32 → Int32 → Int32 → Int32 → AW → Option (Int32 × AW)} {v2 v3 v5 s0 s1 : Int32} (w : AW) (hs : s1 + s0 = nI sg) (h : isLeaf c) : mX6_reads_90 k17 v2 v3 (nI 1) v5 (nI c) s0 s1 w = mX6_reads_175 k17 (nI sg) v2 v3 (nI 1) v5 (nI c) w := by
  have hp : preB c = false := decide_eq_false (by unfold isLeaf at h; omega)
  unfold mX6_reads_90
  rw [hs, nm_mk, if_neg (show ¬ (nI 1 = 0) by decide), M_isPre w (by unfold isLeaf at h; omega), cl_mk, hp, if_neg (show ¬ (nI (bN false) ≠ 0) from fun z => z rfl), if_pos (show nI c ≠ 40 from ne_nI (b := 40) (by unfold isLeaf at h; omega) (by decide) (by unfold isLeaf at h; omega)), M_isAtom w (by unfold isLeaf at h; omega), cl_mk]
  rcases h with rfl | rfl | rfl | rfl | rfl | rfl
  · rw [if_pos (show nI (bN (decide (112 ≤ 112 ∧ 112 ≤ 115))) ≠ 0 by decide)]
  · rw [if_pos (show nI (bN (decide (112 ≤ 113 ∧ 113 ≤ 115))) ≠ 0 by decide)]
  · rw [if_pos (show nI (bN (decide (112 ≤ 114 ∧ 114 ≤ 115))) ≠ 0 by decide)]
  · rw [if_pos (show nI (bN (decide (112 ≤ 115 ∧ 115 ≤ 115))) ≠ 0 by decide)]
  · rw [if_neg (show ¬ (nI (bN (decide (112 ≤ 84 ∧ 84 ≤ 115))) ≠ 0) from fun z => z rfl), if_pos (show nI 84 = 84 from rfl)]
  · rw [if_neg (show ¬ (nI (bN (decide (112 ≤ 70 ∧ 70 ≤ 115))) ≠ 0) from fun z => z rfl), if_neg (show ¬ (nI 70 = 84) by decide), if_neg (show ¬ (nI 70 ≠ 70) from fun z => z rfl)]
theorem M_one_other {c sg : Nat} {k17 : Int32 → Int32 → Int32 → Int32 → Int32 → AW → Option (Int32 × AW)} {v2 v3 v5 s0 s1 : Int32} (w : AW) (hs : s1 + s0 = nI sg) (hc : c < 256) (h : ¬ isLeaf c) : mX6_reads_90 k17 v2 v3 (nI 1) v5 (nI c) s0 s1 w = if preB c = true ∨ c = 40 then mX6_reads_116 k17 (nI sg) v2 v3 (nI 1) v5 (nI c) (-9) w else some (nI 0, w) := by
  unfold isLeaf at h
  unfold mX6_reads_90
  rw [hs, nm_mk, if_neg (show ¬ (nI 1 = 0) by decide), M_isPre w (by omega), cl_mk]
  cases z : preB c
  · rw [if_neg (show ¬ (nI (bN false) ≠ 0) from fun z => z rfl)]
    by_cases q : c = 40
    · subst q
      rw [if_neg (show ¬ (nI 40 ≠ 40) from fun z => z rfl), if_pos (Or.inr rfl)]
    · rw [if_pos (show nI c ≠ 40 from ne_nI (b := 40) (by omega) (by decide) q), M_isAtom w (by omega), cl_mk, decide_eq_false (show ¬ (112 ≤ c ∧ c ≤ 115) by omega), if_neg (show ¬ (nI (bN false) ≠ 0) from fun z => z rfl), if_neg (show ¬ nI c = 84 from ne_nI (b := 84) (by omega) (by decide) (by omega)), if_pos (show nI c ≠ 70 from ne_nI (b := 70) (by omega) (by decide) (by omega)), if_neg (by intro y; rcases y with y | y; exact Bool.noConfusion y; exact q y)]
      rfl
  · rw [if_pos (show nI (bN true) ≠ 0 by decide), if_pos (Or.inl rfl)]
section S0
variable {wX wM : AW} {d : SD} {H sg pos c : Nat} {op at_ st lf : Nat → Nat} {k17 : Int32 → Int32 → Int32 → Int32 → Int32 → AW → Option (Int32 × AW)}
theorem SI.facts {p : Prop} (hI : SI d H sg pos op at_ st lf p) : sdM d ≤ 40 ∧ H ≤ 20 ∧ sdP d ≤ 40 ∧ ShapeOK (sdM d) (sdc d) (sdl d) (sdr d) ∧ ClassOK (sdM d) (sdP d) (sdc d) (sdl d) (sdr d) (sdf d) := by
  obtain ⟨i1, i2, i3, i4, i5, i6, i7, i8, i9, i10, i11, i12, i13⟩ := hI
  have hcls := i2.cls
  have := P_le_M hcls
  exact ⟨by omega, i11, by omega, i1.shape, hcls⟩
/-- a leaf -/
theorem step_leaf {sg2 : Nat} {s0 s1 : Int32} (hpos : pos < 1000) (hJ : JM wX wM d H sg2 op at_ st lf) (hI : SI d H sg pos op at_ st lf False) (hD : (∀ i, i < H → st i = 0 ∨ st i = 2) ∧ pos = begF at_ st lf (sde d) H ∧ (H = 0 → sdM d = 0)) (h35 : wX.1 3 0 5 = nI 0) (hs : s1 + s0 = nI sg2) (hsg : sg2 = sg + 1) (h40 : sg2 ≤ 40) (hy : sdy d pos = c) (hc : isLeaf c) :
    GoOn (mX1_takes_27 (nI c) (nI pos) 5 wX) (mX6_reads_90 k17 (nI H) (nI 0) (nI 1) (nI pos) (nI c) s0 s1 wM) k17 wX wM (sdy d) (sdZ d) sg2 pos := by
  obtain ⟨hM40, h20, hP40, hsh, hcls⟩ := hI.facts
  have hI0 := hI
  obtain ⟨i1, i2, i3, i4, i5, i6, i7, i8, i9, i10, i11, i12, i13⟩ := hI
  obtain ⟨hst, hbeg, hz⟩ := hD
  have hn : NodeIs (sdM d) c 0 0 pos (pos + 1) (sdb d) (sde d) (sdy d) := Or.inl ⟨hc, rfl, rfl, rfl, hy⟩
  obtain ⟨P', ph', pl', dp', w2, f1, f2, f3, f4, f5, f6⟩ := X_part (cc := c) (lm := 0) (rm := 0) (pb := pos) (f := -nI 1) (s := -nI 1) hJ.1 hcls hsh (by omega) (Or.inl hc) (fun z => absurd (kd_leaf hc) z) (fun z => absurd z (by rw [kd_leaf hc]; decide)) (dp_small hsh i2 (by omega)) ⟨by rw [kd_leaf hc]; rfl, by rw [kd_leaf hc]; rfl⟩
  obtain ⟨hI', hroot⟩ := SI_add (H' := H) (sg' := sg2) (em := pos + 1) hI0 (Nat.le_refl H) (by omega) hn f3 (by omega) h40 (fun hh => by
    rw [hbeg]
    unfold begF
    rw [if_neg (by omega)]
    exact nbF_pos _ _ _ _ _) (fun h hh z => by
    rcases z with ⟨i, z1, z2, -⟩ | ⟨z, -⟩
    · omega
    · exact z.elim)
  have hJ' := JM_add (H' := H) (cc := c) (lm := 0) (rm := 0) (bm := pos) (em := pos + 1) hJ (Nat.le_refl H) hst (fun i hi z => ((i6 i hi).2.2.1 z).1) f3.2.1 f2 (by rw [f6]; exact hJ.2.1) (by rw [f5 3 0 (by decide)]; exact hJ.2.2.1) (fun a h1 h2 => f5 3 a (by omega))
  have hm := M_part (w := wM) (cc := c) (lm := 0) (rm := 0) (bm := pos) (em := pos + 1) hJ.2.2.2.2.1.1 (by omega)
  have nbS : begF at_ st lf (ex1 (sde d) (sdM d) (pos + 1)) H = begF at_ st lf (sde d) H := by
    unfold begF nbF
    by_cases z : H = 0
    · rw [if_pos z, if_pos z]
    · rw [if_neg z, if_neg z]
      by_cases z2 : st (H - 1) = 0
      · rw [if_pos z2, if_pos z2]
      · rw [if_neg z2, if_neg z2, ex1_lt ((i6 (H - 1) (by omega)).2.2.1 z2).1]
  have g := goes_end (k17 := k17) hpos hJ' hI' hst (Nat.le_add_left 1 _) (by
    show ex1 (sde d) (sdM d) (pos + 1) (sdM d + 1 - 1) = pos + 1
    rw [Nat.add_sub_cancel, ex1_s]) (by
    show ex1 (sdb d) (sdM d) pos (sdM d + 1 - 1) = begF at_ st lf (ex1 (sde d) (sdM d) (pos + 1)) H
    rw [Nat.add_sub_cancel, ex1_s, nbS]
    exact hbeg) (fun z => by
    show ph' (sdM d + 1 - 1) = P' - 1
    rw [Nat.add_sub_cancel]
    exact hroot (fun k hk => by have := hz z; omega) (by rw [hbeg]; unfold begF; rw [if_pos z])) f4 (ndW_K (w := wM) (m := sdM d) (cc := c) (lm := 0) (rm := 0) (bm := pos) (em := pos + 1))
  have eX : mX1_takes_27 (nI c) (nI pos) 5 wX = cl (mX1_end (nI (sdf (addD d c 0 0 pos (pos + 1) P' ph' pl' dp') (sdM (addD d c 0 0 pos (pos + 1) P' ph' pl' dp') - 1))) 5 w2) fun _ w => some (nI 1, w) := by
    unfold mX1_takes_27
    rw [h35, if_pos (show nI 0 = 0 from rfl), X_one_leaf _ _ hc]
    unfold mX1_takesOne_19
    have f1' : mX2_part 5 (nI c) (-1) (-1) (nI pos) wX = some (nI (ph' (sdM d)), w2) := f1
    rw [f1', cl_mk]
    show _ = cl (mX1_end (nI (ph' (sdM d + 1 - 1))) 5 w2) fun _ w => some (nI 1, w)
    rw [Nat.add_sub_cancel]
    cases mX1_end (nI (ph' (sdM d))) 5 w2 with
    | none => rfl
    | some r =>
      obtain ⟨u, w3⟩ := r
      rw [cl_mk, cl_mk, cl_mk]
      exact zr_1 w3
  have eM : mX6_reads_90 k17 (nI H) (nI 0) (nI 1) (nI pos) (nI c) s0 s1 wM = mX6_reads_296 k17 (nI sg2) (nI pos) FU (nI H) (nI (sdM (addD d c 0 0 pos (pos + 1) P' ph' pl' dp') - 1)) (ndW wM (sdM d) c 0 0 pos (pos + 1)) := by
    rw [M_one_leaf _ hs hc]
    unfold mX6_reads_175
    have e3 : nI pos + 1 = nI (pos + 1) := nI_add pos 1
    have hm' : mX6_part (nI c) 0 0 (nI pos) (nI (pos + 1)) wM = some (nI (sdM d), ndW wM (sdM d) c 0 0 pos (pos + 1)) := hm
    rw [e3, hm', cl_mk]
    unfold mX6_reads_289
    have n9 : nI (sdM d) ≠ -9 := fun z => by
      have := nI_pos (show sdM d < 2 ^ 31 by omega)
      rw [z] at this
      exact this (by decide)
    rw [if_neg n9]
    show _ = mX6_reads_296 k17 (nI sg2) (nI pos) FU (nI H) (nI (sdM d + 1 - 1)) _
    rw [Nat.add_sub_cancel]
  rw [eX, eM]
  exact g
/-- ! [ { ( -/
theorem step_push {sg2 : Nat} {s0 s1 : Int32} (hpos : pos < 1000) (hJ : JM wX wM d H sg2 op at_ st lf) (hI : SI d H sg pos op at_ st lf False) (hD : (∀ i, i < H → st i = 0 ∨ st i = 2) ∧ pos = begF at_ st lf (sde d) H ∧ (H = 0 → sdM d = 0)) (h35 : wX.1 3 0 5 = nI 0) (hs : s1 + s0 = nI sg2) (hsg : sg2 = sg + (if c = 40 then 0 else 1)) (h40 : sg2 ≤ 40) (hy : sdy d pos = c) (hc : isPre c ∨ c = 40) :
    GoOn (mX1_takes_27 (nI c) (nI pos) 5 wX) (mX6_reads_90 k17 (nI H) (nI 0) (nI 1) (nI pos) (nI c) s0 s1 wM) k17 wX wM (sdy d) (sdZ d) sg2 pos := by
  obtain ⟨hM40, h20, hP40, hsh, hcls⟩ := hI.facts
  obtain ⟨i1, i2, i3, i4, i5, i6, i7, i8, i9, i10, i11, i12, i13⟩ := hI
  obtain ⟨hst, hbeg, hz⟩ := hD
  obtain ⟨j1, j2, j3, j4, j5, j6⟩ := hJ
  have hc256 : c < 256 := by unfold isPre at hc; omega
  have hnl : ¬ isLeaf c := by unfold isPre at hc; unfold isLeaf; omega
  have hpp : preB c = true ∨ c = 40 := by
    rcases hc with g | g
    · exact Or.inl (decide_eq_true g)
    · exact Or.inr g
  have e3 : nI pos + 1 = nI (pos + 1) := nI_add pos 1
  by_cases h : H = 20
  · refine Or.inl ⟨wX, wM, ?_, ?_, KX.rf _, KM.rf _, rfl⟩
    · unfold mX1_takes_27
      rw [h35, if_pos (show nI 0 = 0 from rfl), X_one_other _ _ hc256 hnl, if_pos hpp]
      unfold mX1_takesOne_47
      rw [j3, h, if_neg (show ¬ (nI 20 < 20) by decide), cl_mk]
      exact zr_0 wX
    · rw [M_one_other _ hs hc256 hnl, if_pos hpp]
      unfold mX6_reads_116
      rw [h, if_neg (show ¬ (nI 20 ≠ 20) from fun z => z rfl)]
      rfl
  · have hh : H < 20 := by omega
    have hlt : nI H < 20 := nI_lt (b := 20) hh (by decide)
    have nb : ∀ i, i < H → nbF (ex1 at_ H pos) (ex1 st H 0) lf (sde d) i = nbF at_ st lf (sde d) i := fun i hi => by
      unfold nbF
      rw [ex1_lt hi, ex1_lt hi]
    have cnt : ∀ n, n ≤ H → cntO (ex1 op H c) n = cntO op n := by
      intro n
      induction n with
      | zero => intro _; rfl
      | succ n ih =>
        intro hn
        show cntO (ex1 op H c) n + (if ex1 op H c n = 40 then 0 else 1) = cntO op n + (if op n = 40 then 0 else 1)
        rw [ih (by omega), ex1_lt (show n < H by omega)]
    refine Or.inr ⟨d, H + 1, 0, ex1 op H c, ex1 at_ H pos, ex1 st H 0, lf, am_set (am_set (am_set (am_set wX 3 1 H (nI c)) 3 2 H (nI pos)) 3 3 H (-1)) 3 0 4 (nI (H + 1)), am_set (am_set (am_set wM 0 23 H (nI c)) 0 24 H (nI pos)) 0 26 H (nI 0), ?_, ?_, K3 (K3 (K3 (K3 (KX.rf _)))), (((KM.rf _).set (Or.inl (by decide))).set (Or.inl (by decide))).set (Or.inl (by decide)), ⟨⟨?_, ?_, am_get_self _ _ _ _ _, fun i hi => ?_, ⟨?_, fun k hk => ?_⟩, fun i hi => ?_⟩, ⟨i1, i2, fun k hk => Nat.le_succ_of_le (i3 k hk), fun i hi => ?_, fun i hi => ?_, fun i hi => ?_, fun _ => ?_, fun i hi => ?_, ?_, h40, by omega, fun _ k hk => ?_, fun k hk => ?_⟩, Or.inl ⟨rfl, fun i hi => ?_, ?_, fun z => by omega⟩, ?_⟩, rfl, rfl⟩
    · unfold mX1_takes_27
      rw [h35, if_pos (show nI 0 = 0 from rfl), X_one_other _ _ hc256 hnl, if_pos hpp]
      unfold mX1_takesOne_47
      rw [j3, if_pos hlt, put3 (by decide) (by decide) hh, cl_mk, rn3 1 0 rfl, j3, put3 (by decide) (by decide) hh, cl_mk, rn3 2 0 rfl, rn3 1 0 rfl, j3, put3 (by decide) (by decide) hh, cl_mk, rn3 3 0 rfl, rn3 2 0 rfl, rn3 1 0 rfl, j3, pu_mk, cl_mk, show nI H + 1 = nI (H + 1) from nI_add H 1]
      exact zr_1 _
    · rw [M_one_other _ hs hc256 hnl, if_pos hpp]
      unfold mX6_reads_116
      rw [if_pos (show nI H ≠ 20 from ne_nI (b := 20) (by omega) (by decide) h), wr_in hh (by decide), wr_in hh (by decide), wr_in hh (by decide), nm_mk]
      unfold mX6_reads_289
      rw [if_pos rfl]
      unfold mX6_reads_424
      rw [nm_mk, e3, show nI H + 1 = nI (H + 1) from nI_add H 1]
      rfl
    · unfold DraftX
      rw [am_row_ne (by decide), am_row_ne (by decide), am_row_ne (by decide), am_row_ne (by decide)]
      exact j1
    · rw [am_row_ne (by decide), am_row_ne (by decide), am_row_ne (by decide), am_row_ne (by decide)]; exact j2
    · rw [rn3 0 1 rfl, rn3 0 2 rfl, rn3 0 3 rfl, rn3 0 4 rfl, rn3 3 1 rfl, rn3 2 1 rfl, rn3 3 2 rfl, rn3 3 4 rfl, rn3 2 4 rfl, rn3 1 4 rfl]
      by_cases q : i = H
      · subst q
        rw [ex1_s, ex1_s, ex1_s, am_get_self, am_get_self, am_get_self]
        exact ⟨rfl, rfl, rfl, fun z => by omega⟩
      · obtain ⟨y1, y2, y3, y4⟩ := j4 i (by omega)
        rw [ex1_o q, ex1_o q, ex1_o q, am_get_other q, am_get_other q, am_get_other q, rn3 1 2 rfl, rn3 2 3 rfl, rn3 1 3 rfl]
        exact ⟨y1, y2, y3, y4⟩
    · rw [rn 26 0 rfl, rn 24 0 rfl, rn 23 0 rfl]; exact j5.1
    · rw [rn 26 18 rfl, rn 24 18 rfl, rn 23 18 rfl, rn 26 19 rfl, rn 24 19 rfl, rn 23 19 rfl, rn 26 20 rfl, rn 24 20 rfl, rn 23 20 rfl, rn 26 21 rfl, rn 24 21 rfl, rn 23 21 rfl, rn 26 22 rfl, rn 24 22 rfl, rn 23 22 rfl]
      exact j5.2 k hk
    · rw [rn 26 23 rfl, rn 24 23 rfl, rn 26 24 rfl, rn 26 25 rfl, rn 24 25 rfl, rn 23 25 rfl]
      by_cases q : i = H
      · subst q
        rw [ex1_s, ex1_s, ex1_s, am_get_self, am_get_self, am_get_self]
        exact ⟨rfl, rfl, rfl, fun z => absurd rfl z⟩
      · obtain ⟨y1, y2, y3, y4⟩ := j6 i (by omega)
        rw [ex1_o q, ex1_o q, ex1_o q, am_get_other q, am_get_other q, am_get_other q, rn 23 24 rfl, rn 24 26 rfl, rn 23 26 rfl]
        exact ⟨y1, y2, y3, y4⟩
    · by_cases q : i = H
      · subst q
        rw [ex1_s, ex1_s]
        rcases hc with g | g
        · exact Or.inl ⟨g, rfl⟩
        · exact Or.inr (Or.inl ⟨g, Or.inl rfl⟩)
      · rw [ex1_o q, ex1_o q]; exact i4 i (by omega)
    · rw [ex1_o (show i ≠ H by omega)]; exact hst i (by omega)
    · by_cases q : i = H
      · subst q
        rw [ex1_s, ex1_s, ex1_s]
        refine ⟨fun _ => hy, fun z => ?_, fun z => absurd rfl z, fun z => by omega⟩
        rcases hc with g | g
        · exact absurd g z
        · rw [hy]; exact g
      · rw [ex1_o q, ex1_o q, ex1_o q]; exact i6 i (by omega)
    · by_cases q : H = 0
      · rw [q, ex1_s, hbeg]
        unfold begF
        rw [if_pos q]
      · rw [ex1_o (show 0 ≠ H by omega)]; exact i7 (by omega)
    · rw [nb i (by omega)]
      by_cases q : i + 1 = H
      · rw [q, ex1_s, hbeg]
        unfold begF
        rw [if_neg (by omega), show H - 1 = i by omega]
      · rw [ex1_o q]; exact i8 i (by omega)
    · show sg2 = sdM d + (cntO (ex1 op H c) H + (if ex1 op H c H = 40 then 0 else 1))
      rw [cnt H (Nat.le_refl H), ex1_s]
      omega
    · by_cases q : H = 0
      · have := hz q; omega
      · exact i12 (by omega) k hk
    · obtain ⟨a, a1, a2, a3⟩ := i13 k hk
      refine ⟨a, a1, ?_, a3⟩
      rcases a2 with ⟨i, z1, z2, z3⟩ | ⟨z, -⟩
      · exact Or.inl ⟨i, by omega, by rw [ex1_lt z1]; exact z2, z3⟩
      · exact z.elim
    · by_cases q : i = H
      · rw [q, ex1_s]; exact Or.inl rfl
      · rw [ex1_o q]; exact hst i (by omega)
    · unfold begF nbF
      rw [if_neg (by omega), Nat.add_sub_cancel, ex1_s, if_pos rfl, ex1_s]
    · rw [am_get_other (by decide), rn3 3 0 rfl, rn3 2 0 rfl, rn3 1 0 rfl]; exact h35
end S0
end
section
/-! one byte: between, and at the end of two -/
section S1
variable {wX wM : AW} {d : SD} {H sg pos c : Nat} {op at_ st lf : Nat → Nat} {k17 : Int32 → Int32 → Int32 → Int32 → Int32 → AW → Option (Int32 × AW)}
theorem step_join {sg2 : Nat} {s0 s1 : Int32} (hpos : pos < 1000) (hJ : JM wX wM d H sg2 op at_ st lf) (hI : SI d H sg pos op at_ st lf False) (hH : 0 < H) (hst1 : st (H - 1) = 1) (hep : sde d (lf (H - 1)) = pos) (h35 : wX.1 3 0 5 = nI 1) (hs : s1 + s0 = nI sg2) (hsg : sg2 = sg + (if c = 40 ∨ c = 41 then 0 else 1)) (h40 : sg2 ≤ 40) (hy : sdy d pos = c) (hc : c < 256) :
    GoOn (mX1_takes_27 (nI c) (nI pos) 5 wX) (mX6_reads_90 k17 (nI H) (nI 0) (nI 0) (nI pos) (nI c) s0 s1 wM) k17 wX wM (sdy d) (sdZ d) sg2 pos := by
  obtain ⟨hM40, h20, hP40, hsh, hcls⟩ := hI.facts
  obtain ⟨i1, i2, i3, i4, i5, i6, i7, i8, i9, i10, i11, i12, i13⟩ := hI
  obtain ⟨j1, j2, j3, j4, j5, j6⟩ := hJ
  obtain ⟨h, rfl⟩ : ∃ h, H = h + 1 := ⟨H - 1, by omega⟩
  rw [Nat.add_sub_cancel] at hst1 hep
  have hh : h < 20 := by omega
  have e3 : nI pos + 1 = nI (pos + 1) := nI_add pos 1
  have es : nI (h + 1) - 1 = nI h := pk_sub (a := h + 1) (b := 1) (by omega)
  obtain ⟨m1, m2, m3, m4⟩ := j6 h (by omega)
  have mrd : ∀ (a : Nat) (W : AW) (f : Int32 → Option (Int32 × AW)), rd 20 (W.1 0 a) (nI h) f = f (W.1 0 a h) := fun a W f => rd_in hh (by decide) _ f
  have eX0 : mX1_takes_27 (nI c) (nI pos) 5 wX = cl (mX1_takesBetween (nI c) wX) fun x_4 w_3 => zr x_4 w_3 := by
    unfold mX1_takes_27
    rw [h35, if_neg (show ¬ (nI 1 = 0) by decide), if_pos (show nI 1 = 1 from rfl)]
  have eM0 : mX6_reads_90 k17 (nI (h + 1)) (nI 0) (nI 0) (nI pos) (nI c) s0 s1 wM = cl (mX6_isJoin (nI c) wM) fun x_10 w_9 => if x_10 ≠ 0 then wr 20 w_9 0 23 (nI (h + 1) - 1) (nI c) fun w_11 => wr 20 w_11 0 26 (nI (h + 1) - 1) 2 fun w_12 => mX6_reads_289 k17 (nI sg2) (nI (h + 1)) (nI 0) 1 (nI pos) (-9) w_12 else some (0, w_9) := by
    unfold mX6_reads_90
    rw [hs, nm_mk, if_pos (show nI 0 = 0 from rfl), es, mrd, m3, hst1, if_neg (show ¬ (nI 1 ≠ 1) from fun z => z rfl)]
  by_cases hj : jnB c = true
  rotate_left
  · have hj0 : jnB c = false := by cases z : jnB c; rfl; exact absurd z hj
    refine Or.inl ⟨wX, wM, ?_, ?_, KX.rf _, KM.rf _, rfl⟩
    · rw [eX0]
      unfold mX1_takesBetween
      rw [X_isJn _ (by omega), cl_mk, hj0, if_neg (show ¬ (nI (bN false) ≠ 0) from fun z => z rfl), cl_mk]
      exact zr_0 wX
    · rw [eM0, M_isJn _ (by omega), cl_mk, hj0, if_neg (show ¬ (nI (bN false) ≠ 0) from fun z => z rfl)]
      rfl
  · have hcj : isJn c := of_decide_eq_true (p := c = 38 ∨ c = 124 ∨ c = 62) hj
    have hc40 : ¬ (c = 40 ∨ c = 41) := by unfold isJn at hcj; omega
    rw [if_neg hc40] at hsg
    have hop : op h = 40 := by
      rcases i4 h (by omega) with ⟨-, g⟩ | ⟨g, -⟩ | ⟨-, g⟩
      · omega
      · exact g
      · omega
    obtain ⟨t1, t2, t3, t4⟩ := i6 h (by omega)
    have cnt : ∀ n, n ≤ h → cntO (ex1 op h c) n = cntO op n := by
      intro n
      induction n with
      | zero => intro _; rfl
      | succ n ih =>
        intro hn
        show cntO (ex1 op h c) n + (if ex1 op h c n = 40 then 0 else 1) = cntO op n + (if op n = 40 then 0 else 1)
        rw [ih (by omega), ex1_lt (show n < h by omega)]
    have ecnt : sg = sdM d + cntO op h := by
      have : cntO op (h + 1) = cntO op h := by
        show cntO op h + (if op h = 40 then 0 else 1) = _
        rw [if_pos hop, Nat.add_zero]
      omega
    have nb : ∀ i, i < h → nbF at_ (ex1 st h 2) lf (sde d) i = nbF at_ st lf (sde d) i := fun i hi => by
      unfold nbF
      rw [ex1_lt hi]
    refine Or.inr ⟨d, h + 1, 0, ex1 op h c, at_, ex1 st h 2, lf, am_set (am_set wX 3 1 h (nI c)) 3 0 5 (nI 0), am_set (am_set wM 0 23 h (nI c)) 0 26 h (nI 2), ?_, ?_, K3 (K3 (KX.rf _)), ((KM.rf _).set (Or.inl (by decide))).set (Or.inl (by decide)), ⟨⟨?_, ?_, ?_, fun i hi => ?_, ⟨?_, fun k hk => ?_⟩, fun i hi => ?_⟩, ⟨i1, i2, fun k hk => Nat.le_succ_of_le (i3 k hk), fun i hi => ?_, fun i hi => ?_, fun i hi => ?_, i7, fun i hi => ?_, ?_, h40, i11, i12, fun k hk => ?_⟩, Or.inl ⟨rfl, fun i hi => ?_, ?_, fun z => by omega⟩, am_get_self _ _ _ _ _⟩, rfl, rfl⟩
    · rw [eX0]
      unfold mX1_takesBetween
      rw [X_isJn _ (by omega), cl_mk, hj, if_pos (show nI (bN true) ≠ 0 by decide), j3, es, put3 (by decide) (by decide) hh, cl_mk, pu_mk, cl_mk]
      exact zr_1 _
    · rw [eM0, M_isJn _ (by omega), cl_mk, hj, if_pos (show nI (bN true) ≠ 0 by decide), es, wr_in hh (by decide), wr_in hh (by decide)]
      unfold mX6_reads_289
      rw [if_pos rfl]
      unfold mX6_reads_424
      rw [nm_mk, e3]
      rfl
    · unfold DraftX
      rw [am_row_ne (by decide), am_row_ne (by decide)]
      exact j1
    · rw [am_row_ne (by decide), am_row_ne (by decide)]; exact j2
    · rw [am_get_other (by decide), rn3 1 0 rfl]; exact j3
    · obtain ⟨y1, y2, y3, y4⟩ := j4 i (by omega)
      rw [rn3 0 1 rfl, rn3 0 2 rfl, rn3 0 3 rfl, rn3 0 4 rfl, rn3 1 2 rfl, rn3 1 3 rfl, rn3 1 4 rfl]
      by_cases q : i = h
      · subst q
        rw [am_get_self, ex1_s, ex1_s]
        refine ⟨rfl, y2, ?_, fun z => by omega⟩
        rw [y3, if_neg (by omega), if_neg (by decide)]
      · rw [am_get_other q, ex1_o q, ex1_o q]
        exact ⟨y1, y2, y3, y4⟩
    · rw [rn 26 0 rfl, rn 23 0 rfl]; exact j5.1
    · rw [rn 26 18 rfl, rn 23 18 rfl, rn 26 19 rfl, rn 23 19 rfl, rn 26 20 rfl, rn 23 20 rfl, rn 26 21 rfl, rn 23 21 rfl, rn 26 22 rfl, rn 23 22 rfl]
      exact j5.2 k hk
    · obtain ⟨y1, y2, y3, y4⟩ := j6 i (by omega)
      rw [rn 26 23 rfl, rn 26 24 rfl, rn 23 24 rfl, rn 26 25 rfl, rn 23 25 rfl]
      by_cases q : i = h
      · subst q
        rw [am_get_self, am_get_self, ex1_s, ex1_s]
        exact ⟨rfl, y2, rfl, fun _ => y4 (by omega)⟩
      · rw [am_get_other q, am_get_other q, rn 23 26 rfl, ex1_o q, ex1_o q]
        exact ⟨y1, y2, y3, y4⟩
    · by_cases q : i = h
      · subst q; rw [ex1_s, ex1_s]; exact Or.inr (Or.inr ⟨hcj, Or.inl rfl⟩)
      · rw [ex1_o q, ex1_o q]; exact i4 i hi
    · rw [ex1_o (show i ≠ h by omega)]; exact i5 i hi
    · obtain ⟨y1, y2, y3, y4⟩ := i6 i hi
      by_cases q : i = h
      · subst q
        rw [ex1_s, ex1_s]
        refine ⟨fun z => ?_, fun _ => y2 (by rw [hop]; unfold isPre; omega), fun _ => y3 (by omega), fun _ => by rw [hep]; exact hy⟩
        unfold isPre at z
        unfold isJn at hcj
        omega
      · rw [ex1_o q, ex1_o q]
        exact ⟨y1, y2, y3, y4⟩
    · rw [nb i (by omega)]; exact i8 i hi
    · show sg2 = sdM d + (cntO (ex1 op h c) h + (if ex1 op h c h = 40 then 0 else 1))
      rw [cnt h (Nat.le_refl h), ex1_s, if_neg (by omega)]
      omega
    · obtain ⟨a, a1, a2, a3⟩ := i13 k hk
      refine ⟨a, a1, ?_, a3⟩
      rcases a2 with ⟨i, z1, z2, z3⟩ | ⟨z, -⟩
      · refine Or.inl ⟨i, z1, ?_, z3⟩
        by_cases q : i = h
        · rw [q, ex1_s]; decide
        · rw [ex1_o q]; exact z2
      · exact z.elim
    · by_cases q : i = h
      · rw [q, ex1_s]; exact Or.inr rfl
      · rw [ex1_o q]; exact i5 i (by omega)
    · unfold begF nbF
      rw [if_neg (by omega), Nat.add_sub_cancel, ex1_s, if_neg (by decide), hep]
theorem step_close {sg2 : Nat} {s0 s1 : Int32} (hpos : pos < 1000) (hJ : JM wX wM d H sg2 op at_ st lf) (hI : SI d H sg pos op at_ st lf True) (hH : 0 < H) (hM1 : 1 ≤ sdM d) (hst3 : st (H - 1) = 3) (hbl : sdb d (sdM d - 1) = sde d (lf (H - 1)) + 1) (hep : sde d (sdM d - 1) = pos) (h35 : wX.1 3 0 5 = nI 2) (hs : s1 + s0 = nI sg2) (hsg : sg2 = sg + (if c = 40 ∨ c = 41 then 0 else 1)) (h40 : sg2 ≤ 40) (hy : sdy d pos = c) (hc : c < 256) :
    GoOn (mX1_takes_27 (nI c) (nI pos) 5 wX) (mX6_reads_90 k17 (nI H) (nI 0) (nI 0) (nI pos) (nI c) s0 s1 wM) k17 wX wM (sdy d) (sdZ d) sg2 pos := by
  obtain ⟨hM40, h20, hP40, hsh, hcls⟩ := hI.facts
  have hI0 := hI
  obtain ⟨i1, i2, i3, i4, i5, i6, i7, i8, i9, i10, i11, i12, i13⟩ := hI
  have hJ0 := hJ
  obtain ⟨j1, j2, j3, j4, j5, j6⟩ := hJ
  obtain ⟨h, rfl⟩ : ∃ h, H = h + 1 := ⟨H - 1, by omega⟩
  rw [Nat.add_sub_cancel] at hst3 hbl
  have hh : h < 20 := by omega
  have e3 : nI pos + 1 = nI (pos + 1) := nI_add pos 1
  have es : nI (h + 1) - 1 = nI h := pk_sub (a := h + 1) (b := 1) (by omega)
  obtain ⟨x1, x2, x3, x4⟩ := j4 h (by omega)
  obtain ⟨m1, m2, m3, m4⟩ := j6 h (by omega)
  have mrd : ∀ (a : Nat) (W : AW) (f : Int32 → Option (Int32 × AW)), rd 20 (W.1 0 a) (nI h) f = f (W.1 0 a h) := fun a W f => rd_in hh (by decide) _ f
  have eX0 : mX1_takes_27 (nI c) (nI pos) 5 wX = cl (mX1_takesClosing (nI c) 5 wX) fun x_4 w_3 => zr x_4 w_3 := by
    unfold mX1_takes_27
    rw [h35, if_neg (show ¬ (nI 2 = 0) by decide), if_neg (show ¬ (nI 2 = 1) by decide), if_pos (show nI 2 = 2 from rfl)]
  have eM0 : mX6_reads_90 k17 (nI (h + 1)) (nI 0) (nI 0) (nI pos) (nI c) s0 s1 wM = if nI c = 41 then nm (nI (h + 1) + (-1)) fun v2_3 => rd 20 (wM.1 0 23) v2_3 fun x_4 => rd 20 (wM.1 0 25) v2_3 fun x_5 => rd 20 (wM.1 0 24) v2_3 fun x_6 => cl (mX6_part x_4 x_5 ((wM.1 0 0 15) - 1) x_6 (nI pos + 1) wM) fun x_8 w_7 => mX6_reads_289 k17 (nI sg2) v2_3 (nI 0) (nI 0) (nI pos) x_8 w_7 else some (0, wM) := by
    unfold mX6_reads_90
    rw [hs, nm_mk, if_pos (show nI 0 = 0 from rfl), es, mrd, m3, hst3, if_pos (show nI 3 ≠ 1 by decide)]
  by_cases hc41 : c = 41
  rotate_left
  · refine Or.inl ⟨wX, wM, ?_, ?_, KX.rf _, KM.rf _, rfl⟩
    · rw [eX0]
      unfold mX1_takesClosing
      rw [if_neg (show ¬ nI c = 41 from ne_nI (b := 41) (by omega) (by decide) hc41), cl_mk]
      exact zr_0 wX
    · rw [eM0, if_neg (show ¬ nI c = 41 from ne_nI (b := 41) (by omega) (by decide) hc41)]
      rfl
  · subst hc41
    rw [if_pos (Or.inr rfl), Nat.add_zero] at hsg
    obtain ⟨t1, t2, t3, t4⟩ := i6 h (by omega)
    obtain ⟨t5, t6⟩ := t3 (by omega)
    have hn1 : sdM d - 1 < sdM d := by omega
    have hjn : isJn (op h) := by
      rcases i4 h (by omega) with ⟨-, g⟩ | ⟨-, g⟩ | ⟨g, -⟩
      · omega
      · omega
      · exact g
    have hop : op h < 128 := kinds_lt (Or.inr (Or.inr hjn))
    have e40 : cntO op (h + 1) = cntO op h + 1 := by
      show cntO op h + (if op h = 40 then 0 else 1) = _
      rw [if_neg (by unfold isJn at hjn; omega)]
    have hn : NodeIs (sdM d) (op h) (lf h) (sdM d - 1) (at_ h) (pos + 1) (sdb d) (sde d) (sdy d) := Or.inr (Or.inr ⟨hjn, t5, hn1, t2 (by unfold isPre; unfold isJn at hjn; omega), t6, t4 (by omega), hbl, by rw [hep], by rw [hep]; exact hy⟩)
    have hD1 : DraftX (am_set wX 3 0 4 (nI h)) (sdM d) (sdP d) (sdc d) (sdl d) (sdr d) (sdf d) (sdp d) (sdd d) := by
      unfold DraftX
      rw [am_row_ne (by decide)]
      exact j1
    obtain ⟨P', ph', pl', dp', w2, f1, f2, f3, f4, f5, f6⟩ := X_part (cc := op h) (lm := lf h) (rm := sdM d - 1) (pb := at_ h) (f := nI (sdf d (lf h))) (s := nI (sdf d (sdM d - 1))) hD1 hcls hsh (by omega) (Or.inr (Or.inr hjn)) (fun _ => t5) (fun _ => hn1) (dp_small hsh i2 (by omega)) ⟨by rw [kd_jn hjn]; rfl, by rw [kd_jn hjn]; rfl⟩
    have hPA := part_add i1 i2 hn (fun k hk => Nat.le_succ_of_le (i3 k hk)) f3
    have hdp : dp' (ph' (sdM d)) = max (sdd d (sdf d (lf h))) (sdd d (sdf d (sdM d - 1))) := by
      have := (hPA.1.2.2.2.2.2.2 (sdM d) (Nat.lt_succ_self _)).2.2 (by rw [ex1_s]; exact hjn)
      rw [ex1_s, ex1_s, f3.2.1 _ t5, f3.2.1 _ hn1, (f3.2.2.1 _ (hcls.1 _ t5)).2, (f3.2.2.1 _ (hcls.1 _ hn1)).2] at this
      exact this
    have hbeg : at_ h = begF at_ st lf (sde d) h := by
      unfold begF
      by_cases z : h = 0
      · rw [if_pos z]; subst z; exact i7 (by omega)
      · rw [if_neg z]
        have := i8 (h - 1) (by omega)
        rw [show h - 1 + 1 = h by omega] at this
        exact this
    obtain ⟨hI', hroot⟩ := SI_add (H' := h) (sg' := sg2) (em := pos + 1) hI0 (Nat.le_succ h) (by omega) hn f3 (by omega) h40 (fun hz => by
      rw [hbeg]
      unfold begF
      rw [if_neg (by omega)]
      exact nbF_pos _ _ _ _ _) (fun a ha z => by
      rw [hdp]
      rcases z with ⟨i, z1, z2, z3, z4⟩ | ⟨-, z⟩
      · have : i = h := by omega
        subst this
        rw [z4]
        omega
      · have : a = sdM d - 1 := by omega
        rw [this]
        omega)
    have hst' : ∀ i, i < h → st i = 0 ∨ st i = 2 := fun i hi => i5 i (by omega)
    have hJ' := JM_add (H' := h) (cc := op h) (lm := lf h) (rm := sdM d - 1) (bm := at_ h) (em := pos + 1) hJ0 (Nat.le_succ h) hst' (fun i hi z => ((i6 i hi).2.2.1 z).1) f3.2.1 f2 (by rw [f6, am_row_ne (by decide)]; exact j2) (by rw [f5 3 0 (by decide), am_get_self]) (fun a h1 h2 => by rw [f5 3 a (by omega), am_get_row (by omega)])
    have hm := M_part (w := wM) (cc := op h) (lm := lf h) (rm := sdM d - 1) (bm := at_ h) (em := pos + 1) j5.1 (by omega)
    have nbS : begF at_ st lf (ex1 (sde d) (sdM d) (pos + 1)) h = begF at_ st lf (sde d) h := by
      unfold begF nbF
      by_cases z : h = 0
      · rw [if_pos z, if_pos z]
      · rw [if_neg z, if_neg z]
        by_cases z2 : st (h - 1) = 0
        · rw [if_pos z2, if_pos z2]
        · rw [if_neg z2, if_neg z2, ex1_lt ((i6 (h - 1) (by omega)).2.2.1 z2).1]
    have g := goes_end (k17 := k17) hpos hJ' hI' hst' (Nat.le_add_left 1 _) (by
      show ex1 (sde d) (sdM d) (pos + 1) (sdM d + 1 - 1) = pos + 1
      rw [Nat.add_sub_cancel, ex1_s]) (by
      show ex1 (sdb d) (sdM d) (at_ h) (sdM d + 1 - 1) = begF at_ st lf (ex1 (sde d) (sdM d) (pos + 1)) h
      rw [Nat.add_sub_cancel, ex1_s, nbS]
      exact hbeg) (fun z => by
      show ph' (sdM d + 1 - 1) = P' - 1
      rw [Nat.add_sub_cancel]
      exact hroot (i12 (by omega)) (by rw [hbeg]; unfold begF; rw [if_pos z])) ((K3 (KX.rf wX)).tr f4) (ndW_K (w := wM) (m := sdM d) (cc := op h) (lm := lf h) (rm := sdM d - 1) (bm := at_ h) (em := pos + 1))
    have eX : mX1_takes_27 (nI 41) (nI pos) 5 wX = cl (mX1_end (nI (sdf (addD d (op h) (lf h) (sdM d - 1) (at_ h) (pos + 1) P' ph' pl' dp') (sdM (addD d (op h) (lf h) (sdM d - 1) (at_ h) (pos + 1) P' ph' pl' dp') - 1))) 5 w2) fun _ w => some (nI 1, w) := by
      rw [eX0]
      unfold mX1_takesClosing
      rw [if_pos (show nI 41 = 41 from rfl), j3, es, pu_mk, am_get_self, at3 (by decide) (by decide) hh, cl_mk, rn3 0 1 rfl, x1, am_get_self, at3 (by decide) (by decide) hh, cl_mk, rn3 0 3 rfl, x3, if_neg (show ¬ st h = 0 by omega), am_get_self, at3 (by decide) (by decide) hh, cl_mk, rn3 0 4 rfl, x4 hst3, am_get_self, at3 (by decide) (by decide) hh, cl_mk, rn3 0 2 rfl, x2, f1, cl_mk]
      show _ = cl (mX1_end (nI (ph' (sdM d + 1 - 1))) 5 w2) fun _ w => some (nI 1, w)
      rw [Nat.add_sub_cancel]
      cases mX1_end (nI (ph' (sdM d))) 5 w2 with
      | none => rfl
      | some r =>
        obtain ⟨u, w3⟩ := r
        rw [cl_mk, cl_mk, cl_mk]
        exact zr_1 w3
    have eM : mX6_reads_90 k17 (nI (h + 1)) (nI 0) (nI 0) (nI pos) (nI 41) s0 s1 wM = mX6_reads_296 k17 (nI sg2) (nI pos) FU (nI h) (nI (sdM (addD d (op h) (lf h) (sdM d - 1) (at_ h) (pos + 1) P' ph' pl' dp') - 1)) (ndW wM (sdM d) (op h) (lf h) (sdM d - 1) (at_ h) (pos + 1)) := by
      rw [eM0, if_pos (show nI 41 = 41 from rfl), show nI (h + 1) + (-1) = nI h from pk_m1 h, nm_mk, mrd, m1, mrd, m4 (by omega), mrd, m2, j5.1, show nI (sdM d) - 1 = nI (sdM d - 1) from pk_sub (a := sdM d) (b := 1) hM1, e3, hm, cl_mk]
      unfold mX6_reads_289
      have n9 : nI (sdM d) ≠ -9 := fun z => by
        have := nI_pos (show sdM d < 2 ^ 31 by omega)
        rw [z] at this
        exact this (by decide)
      rw [if_neg n9]
      show _ = mX6_reads_296 k17 (nI sg2) (nI pos) FU (nI h) (nI (sdM d + 1 - 1)) _
      rw [Nat.add_sub_cancel]
    rw [eX, eM]
    exact g
end S1
end
section
/-! all bytes: class and model side by side -/
def isPar (c : Nat) : Bool := decide (c = 40 ∨ c = 41)
theorem JM.k {wX wM wX2 wM2 : AW} {d : SD} {H sg sg2 : Nat} {op at_ st lf : Nat → Nat} (h : JM wX wM d H sg op at_ st lf) (e1 : ∀ a, 1 ≤ a → a ≤ 5 → wX2.1 5 a = wX.1 5 a) (e2 : wX2.1 5 0 5 = wX.1 5 0 5) (e3 : wX2.1 5 0 6 = nI sg2) (e4 : wX2.1 3 = wX.1 3) (e5 : wM2.1 0 0 15 = wM.1 0 0 15) (e6 : ∀ a, 18 ≤ a → a ≤ 26 → wM2.1 0 a = wM.1 0 a) : JM wX2 wM2 d H sg2 op at_ st lf := by
  obtain ⟨j1, j2, j3, j4, j5, j6⟩ := h
  refine ⟨⟨by rw [e2]; exact j1.1, ?_, ?_⟩, e3, by rw [e4]; exact j3, by rw [e4]; exact j4, ⟨by rw [e5]; exact j5.1, ?_⟩, ?_⟩
  · rw [e1 1 (by decide) (by decide), e1 2 (by decide) (by decide), e1 3 (by decide) (by decide)]; exact j1.2.1
  · rw [e1 4 (by decide) (by decide), e1 5 (by decide) (by decide)]; exact j1.2.2
  · rw [e6 18 (by decide) (by decide), e6 19 (by decide) (by decide), e6 20 (by decide) (by decide), e6 21 (by decide) (by decide), e6 22 (by decide) (by decide)]; exact j5.2
  · rw [e6 23 (by decide) (by decide), e6 24 (by decide) (by decide), e6 25 (by decide) (by decide), e6 26 (by decide) (by decide)]; exact j6
def BOut (rX rM : Option (Int32 × AW)) (cX : Int32 → AW → Option (Int32 × AW)) (cM : Int32 → Int32 → Int32 → Int32 → Int32 → AW → Option (Int32 × AW)) (wX wM : AW) (y : Nat → Nat) (Z pos : Nat) : Prop :=
  (∃ wX2 wM2, rX = some (nI pos, wX2) ∧ rM = some (nI 0, wM2) ∧ KX wX wX2 ∧ KM wM wM2 ∧ wM2.1 0 0 16 = nI pos) ∨
  (∃ (d' : SD) (H' sg' due' : Nat) (op' at' st' lf' : Nat → Nat) (wX2 wM2 : AW), rX = cX (nI (pos + 1)) wX2 ∧ rM = cM (nI sg') (nI H') (nI (bN (decide (due' = 3)))) (nI (bN (decide (due' = 0)))) (nI (pos + 1)) wM2 ∧ KX wX wX2 ∧ KM wM wM2 ∧ PR wX2 wM2 d' H' sg' (pos + 1) due' op' at' st' lf' ∧ sdy d' = y ∧ sdZ d' = Z)
section BY
variable {wX wM : AW} {d : SD} {H sg pos due T c : Nat} {op at_ st lf : Nat → Nat}
/-- what is due, and the byte: the rest of the step -/
theorem step_due {k17 : Int32 → Int32 → Int32 → Int32 → Int32 → AW → Option (Int32 × AW)} {sg2 : Nat} {s0 s1 : Int32} (hpos : pos < 1000) (hJ : JM wX wM d H sg2 op at_ st lf) (hI : SI d H sg pos op at_ st lf (due = 2 ∨ due = 3)) (hD : DC d H pos due at_ st lf) (h35 : wX.1 3 0 5 = nI due) (hn3 : due ≠ 3) (hs : s1 + s0 = nI sg2) (hsg : sg2 = sg + (if c = 40 ∨ c = 41 then 0 else 1)) (h40 : sg2 ≤ 40) (hy : sdy d pos = c) (hc : c < 256) :
    GoOn (mX1_takes_27 (nI c) (nI pos) 5 wX) (mX6_reads_90 k17 (nI H) (nI 0) (nI (bN (decide (due = 0)))) (nI pos) (nI c) s0 s1 wM) k17 wX wM (sdy d) (sdZ d) sg2 pos := by
  rcases hD with ⟨rfl, z1, z2, z3⟩ | ⟨z, -⟩ | ⟨rfl, z1, z2, z3⟩ | ⟨rfl, z1, z2, z3, z4, z5⟩
  · have hI' := hI.cur (q := False) (fun z => by omega)
    have e1 : nI (bN (decide (0 = 0))) = nI 1 := rfl
    rw [e1]
    by_cases hl : isLeaf c
    · exact step_leaf hpos hJ hI' ⟨z1, z2, z3⟩ h35 hs (by rw [hsg, if_neg (by unfold isLeaf at hl; omega)]) h40 hy hl
    · by_cases hp : isPre c ∨ c = 40
      · refine step_push hpos hJ hI' ⟨z1, z2, z3⟩ h35 hs ?_ h40 hy hp
        rw [hsg]
        unfold isPre at hp
        by_cases q : c = 40
        · rw [if_pos (Or.inl q), if_pos q]
        · rw [if_neg (by omega), if_neg q]
      · have hpp : ¬ (preB c = true ∨ c = 40) := fun q => hp (by
          rcases q with q | q
          · exact Or.inl (of_decide_eq_true (p := c = 33 ∨ c = 91 ∨ c = 123) q)
          · exact Or.inr q)
        refine Or.inl ⟨wX, wM, ?_, ?_, KX.rf _, KM.rf _, rfl⟩
        · unfold mX1_takes_27
          rw [h35, if_pos (show nI 0 = 0 from rfl), X_one_other _ _ hc hl, if_neg hpp, cl_mk]
          exact zr_0 wX
        · rw [M_one_other _ hs hc hl, if_neg hpp]
  · exact absurd z hn3
  · exact step_join hpos hJ (hI.cur (fun z => by omega)) z1 z2 z3 h35 hs hsg h40 hy hc
  · exact step_close hpos hJ (hI.cur (fun _ => trivial)) z1 z2 z3 z4 z5 h35 hs hsg h40 hy hc
theorem byte_step (hT : pos < T) (hT2 : T ≤ 200) (hP : PR wX wM d H sg pos due op at_ st lf) (hx : wX.1 0 9 pos = nI (sdy d pos)) (hm : wM.1 0 6 pos = nI (sdy d pos)) (hmT : wM.1 0 0 6 = nI T) (hy : sdy d pos < 256) (n m : Nat) :
    BOut (mX1_fault_17 0 9 (nI T) 5 (n + 1) (nI pos) wX) (mX6_reads_17 (m + 1) (nI sg) (nI H) (nI (bN (decide (due = 3)))) (nI (bN (decide (due = 0)))) (nI pos) wM) (mX1_fault_17 0 9 (nI T) 5 n) (mX6_reads_17 m) wX wM (sdy d) (sdZ d) pos := by
  obtain ⟨hJ, hI, hD, h35⟩ := hP
  have hsg40 : sg ≤ 40 := hI.2.2.2.2.2.2.2.2.2.1
  generalize hcc : sdy d pos = c at hx hm hy
  have cT : ¬ nI T ≤ nI pos := nI_ge hT (by omega)
  have exA : mX5_at 0 9 (nI pos) wX = some (nI c, wX) := by rw [at_in wX (show pos < 200 by omega) (by decide), hx]
  have mrd : ∀ (f : Int32 → Option (Int32 × AW)), rd 200 (wM.1 0 6) (nI pos) f = f (nI c) := fun f => by rw [rd_in (show pos < 200 by omega) (by decide), hm]
  have eX1 : mX1_fault_17 0 9 (nI T) 5 (n + 1) (nI pos) wX = cl (mX1_takes (nI c) (nI pos) 5 wX) fun x_4 w_3 => if x_4 ≠ 0 then nm (nI pos + 1) fun v4_5 => mX1_fault_17 0 9 (nI T) 5 n v4_5 w_3 else some (nI pos, w_3) := by
    rw [mX1_fault_17, if_neg cT, exA, cl_mk]
  have K16 : KM wM (am_set wM 0 0 16 (nI pos)) := (KM.rf wM).set (Or.inr ⟨rfl, by decide, by decide⟩)
  -- the model's head
  have n40 : isPar c = false → nI c ≠ 40 ∧ nI c ≠ 41 := fun z => by
    unfold isPar at z
    have z2 : ¬ (c = 40 ∨ c = 41) := of_decide_eq_false z
    exact ⟨ne_nI (b := 40) (by omega) (by decide) (by omega), ne_nI (b := 41) (by omega) (by decide) (by omega)⟩
  have failX : ∀ wX2, mX1_takes (nI c) (nI pos) 5 wX = some (nI 0, wX2) → mX1_fault_17 0 9 (nI T) 5 (n + 1) (nI pos) wX = some (nI pos, wX2) := fun wX2 h => by
    rw [eX1, h, cl_mk, if_neg (show ¬ (nI 0 ≠ 0) from fun z => z rfl)]
  have eM1 : ∀ v3 v4, mX6_reads_17 (m + 1) (nI sg) (nI H) v3 v4 (nI pos) wM = mX6_reads_54 (mX6_reads_17 m) (nI sg) (nI H) v3 v4 (nI pos) (nI c) (nI (bN (!isPar c))) wM := fun v3 v4 => by
    rw [mX6_reads_17, hmT, if_neg cT, mrd]
    cases z : isPar c
    · obtain ⟨z1, z2⟩ := n40 z
      rw [if_neg z1, if_neg z2]
      rfl
    · unfold isPar at z
      rcases of_decide_eq_true z with q | q
      · subst q
        rw [if_pos (show nI 40 = 40 from rfl)]
        rfl
      · subst q
        rw [if_neg (show ¬ nI 41 = 40 by decide), if_pos (show nI 41 = 41 from rfl)]
        rfl
  by_cases h3 : due = 3
  · -- a byte behind a whole one
    subst h3
    have tX : ∃ wX2, mX1_takes (nI c) (nI pos) 5 wX = some (nI 0, wX2) ∧ KX wX wX2 := by
      have t27 : ∀ W : AW, W.1 3 0 5 = nI 3 → mX1_takes_27 (nI c) (nI pos) 5 W = some (nI 0, W) := fun W hW => by
        unfold mX1_takes_27
        rw [hW, if_neg (show ¬ (nI 3 = 0) by decide), if_neg (show ¬ (nI 3 = 1) by decide), if_neg (show ¬ (nI 3 = 2) by decide)]
        rfl
      unfold mX1_takes
      by_cases q : nI c = 40
      · exact ⟨wX, by rw [if_pos q, t27 wX h35], KX.rf _⟩
      · rw [if_neg q]
        by_cases q2 : nI c = 41
        · exact ⟨wX, by rw [if_pos q2, t27 wX h35], KX.rf _⟩
        · rw [if_neg q2]
          unfold mX2_signs mX2_countSign
          rw [hJ.2.1, cl_mk]
          by_cases q3 : nI sg < 40
          · refine ⟨am_set wX 5 0 6 (nI sg + 1), ?_, (KX.rf wX).set (Or.inl ⟨by decide, by decide⟩)⟩
            rw [if_pos q3, hJ.2.1, pu_mk, cl_mk, t27 _ (by rw [am_get_row (by decide)]; exact h35)]
          · exact ⟨wX, by rw [if_neg q3]; rfl, KX.rf _⟩
    obtain ⟨wX2, t1, t2⟩ := tX
    refine Or.inl ⟨wX2, am_set wM 0 0 16 (nI pos), failX wX2 t1, ?_, t2, K16, am_get_self _ _ _ _ _⟩
    rw [eM1]
    unfold mX6_reads_54
    rw [pu_mk, if_pos (show nI (bN (decide (3 = 3))) ≠ 0 by decide)]
    rfl
  · have e3 : nI (bN (decide (due = 3))) = nI 0 := by rw [decide_eq_false h3]; rfl
    rw [e3]
    have J16 : ∀ wX' sg2, (∀ a, 1 ≤ a → a ≤ 5 → wX'.1 5 a = wX.1 5 a) → wX'.1 5 0 5 = wX.1 5 0 5 → wX'.1 5 0 6 = nI sg2 → wX'.1 3 = wX.1 3 → JM wX' (am_set wM 0 0 16 (nI pos)) d H sg2 op at_ st lf := fun wX' sg2 z1 z2 z3 z4 => hJ.k z1 z2 z3 z4 (am_get_other (by decide)) (fun a h1 h2 => am_get_row (by omega))
    have conv : ∀ (wX' : AW) (sg2 : Nat) (s0 : Int32), KX wX wX' → mX1_takes (nI c) (nI pos) 5 wX = mX1_takes_27 (nI c) (nI pos) 5 wX' → mX6_reads_17 (m + 1) (nI sg) (nI H) (nI 0) (nI (bN (decide (due = 0)))) (nI pos) wM = mX6_reads_90 (mX6_reads_17 m) (nI H) (nI 0) (nI (bN (decide (due = 0)))) (nI pos) (nI c) s0 (nI sg) (am_set wM 0 0 16 (nI pos)) →
        GoOn (mX1_takes_27 (nI c) (nI pos) 5 wX') (mX6_reads_90 (mX6_reads_17 m) (nI H) (nI 0) (nI (bN (decide (due = 0)))) (nI pos) (nI c) s0 (nI sg) (am_set wM 0 0 16 (nI pos))) (mX6_reads_17 m) wX' (am_set wM 0 0 16 (nI pos)) (sdy d) (sdZ d) sg2 pos → BOut (mX1_fault_17 0 9 (nI T) 5 (n + 1) (nI pos) wX) (mX6_reads_17 (m + 1) (nI sg) (nI H) (nI 0) (nI (bN (decide (due = 0)))) (nI pos) wM) (mX1_fault_17 0 9 (nI T) 5 n) (mX6_reads_17 m) wX wM (sdy d) (sdZ d) pos := fun wX' sg2 s0 kX eX eM hg => by
      rcases hg with ⟨wX2, wM2, g1, g2, g3, g4, g5⟩ | ⟨d', H', due', op', at', st', lf', wX2, wM2, g1, g2, g3, g4, g5, g6, g7⟩
      · exact Or.inl ⟨wX2, wM2, failX wX2 (eX.trans g1), eM.trans g2, kX.tr g3, K16.tr g4, by rw [g5, am_get_self]⟩
      · refine Or.inr ⟨d', H', sg2, due', op', at', st', lf', wX2, wM2, ?_, eM.trans g2, kX.tr g3, K16.tr g4, g5, g6, g7⟩
        rw [eX1, eX, g1, cl_mk, if_pos (show nI 1 ≠ 0 by decide), nm_mk, show nI pos + 1 = nI (pos + 1) from nI_add pos 1]
    cases hpar : isPar c
    · -- a sign
      obtain ⟨z1, z2⟩ := n40 hpar
      have hnp : ¬ (c = 40 ∨ c = 41) := of_decide_eq_false hpar
      by_cases hs : sg = 40
      · subst hs
        refine Or.inl ⟨wX, am_set wM 0 0 16 (nI pos), failX wX ?_, ?_, KX.rf _, K16, am_get_self _ _ _ _ _⟩
        · unfold mX1_takes
          rw [if_neg z1, if_neg z2]
          unfold mX2_signs
          rw [hJ.2.1, cl_mk, if_neg (show ¬ (nI 40 < 40) by decide)]
          rfl
        · rw [eM1, hpar]
          unfold mX6_reads_54
          rw [pu_mk, if_neg (show ¬ (nI 0 ≠ 0) from fun z => z rfl), if_neg (show ¬ (nI (bN (!false)) = 0) by decide), if_neg (show ¬ (nI 40 ≠ 40) from fun z => z rfl)]
          rfl
      · have hlt : sg < 40 := by omega
        refine conv (am_set wX 5 0 6 (nI (sg + 1))) (sg + 1) (nI 1) ((KX.rf wX).set (Or.inl ⟨by decide, by decide⟩)) ?_ ?_ ?_
        · unfold mX1_takes
          rw [if_neg z1, if_neg z2]
          unfold mX2_signs mX2_countSign
          rw [hJ.2.1, cl_mk, if_pos (show nI sg < 40 from nI_lt (b := 40) hlt (by decide)), hJ.2.1, pu_mk, cl_mk, show nI sg + 1 = nI (sg + 1) from nI_add sg 1]
        · rw [eM1, hpar]
          unfold mX6_reads_54
          rw [pu_mk, if_neg (show ¬ (nI 0 ≠ 0) from fun z => z rfl), if_neg (show ¬ (nI (bN (!false)) = 0) by decide), if_pos (show nI sg ≠ 40 from ne_nI (b := 40) (by omega) (by decide) hs)]
          unfold mX6_reads_79
          rw [if_neg (show ¬ (nI (bN (!false)) = 0) by decide)]
          rfl
        · exact step_due (by omega) (J16 _ _ (fun a h1 h2 => am_get_row (by omega)) (am_get_other (by decide)) (am_get_self _ _ _ _ _) (am_row_ne (by decide))) hI hD (by rw [am_get_row (by decide)]; exact h35) h3 (nI_add sg 1) (by rw [if_neg hnp]) (by omega) hcc hy
    · -- a bracket
      have hp : c = 40 ∨ c = 41 := of_decide_eq_true hpar
      refine conv wX sg (nI 0) (KX.rf wX) ?_ ?_ ?_
      · unfold mX1_takes
        rcases hp with q | q
        · subst q; rw [if_pos (show nI 40 = 40 from rfl)]
        · subst q; rw [if_neg (show ¬ nI 41 = 40 by decide), if_pos (show nI 41 = 41 from rfl)]
      · rw [eM1, hpar]
        unfold mX6_reads_54
        rw [pu_mk, if_neg (show ¬ (nI 0 ≠ 0) from fun z => z rfl), if_pos (show nI (bN (!true)) = 0 from rfl)]
        unfold mX6_reads_79
        rw [if_pos (show nI (bN (!true)) = 0 from rfl)]
        rfl
      · exact step_due (by omega) (J16 wX sg (fun _ _ _ => rfl) rfl hJ.2.1 rfl) hI hD h35 h3 (by rw [nI_add, Nat.add_zero]) (by rw [if_pos hp, Nat.add_zero]) hsg40 hcc hy
/-- both texts to their ends -/
theorem loop_both (hT2 : T ≤ 200) {y : Nat → Nat} {Z : Nat} (hy : ∀ j, y j < 256) : ∀ (e pos : Nat) (d : SD) (H sg due : Nat) (op at_ st lf : Nat → Nat) (wX wM : AW), T = pos + e → PR wX wM d H sg pos due op at_ st lf → sdy d = y → sdZ d = Z → (∀ j, j < T → wX.1 0 9 j = nI (y j)) → (∀ j, j < T → wM.1 0 6 j = nI (y j)) → wM.1 0 0 6 = nI T → ∀ n m, e < n → e < m →
    ∃ wX2 wM2, KX wX wX2 ∧ KM wM wM2 ∧ ((∃ f, f ≤ T ∧ mX1_fault_17 0 9 (nI T) 5 n (nI pos) wX = some (nI f, wX2) ∧ mX6_reads_17 m (nI sg) (nI H) (nI (bN (decide (due = 3)))) (nI (bN (decide (due = 0)))) (nI pos) wM = some (nI 0, wM2) ∧ wM2.1 0 0 16 = nI f) ∨
      (∃ (d' : SD) (sg' : Nat) (op' at' st' lf' : Nat → Nat), mX1_fault_17 0 9 (nI T) 5 n (nI pos) wX = some (-nI 1, wX2) ∧ mX6_reads_17 m (nI sg) (nI H) (nI (bN (decide (due = 3)))) (nI (bN (decide (due = 0)))) (nI pos) wM = some (nI 1, wM2) ∧ PR wX2 wM2 d' 0 sg' T 3 op' at' st' lf' ∧ sdy d' = y ∧ sdZ d' = Z)) := by
  intro e
  induction e with
  | zero =>
    intro pos d H sg due op at_ st lf wX wM he hP h1 h2 hx hm hmT n m hn hm2
    obtain ⟨n, rfl⟩ : ∃ k, n = k + 1 := ⟨n - 1, by omega⟩
    obtain ⟨m, rfl⟩ : ∃ k, m = k + 1 := ⟨m - 1, by omega⟩
    have e2 : pos = T := by omega
    subst e2
    have cT : nI pos ≤ nI pos := nI_le (Nat.le_refl _) (by omega)
    have K16 : KM wM (am_set wM 0 0 16 (nI pos)) := (KM.rf wM).set (Or.inr ⟨rfl, by decide, by decide⟩)
    obtain ⟨hJ, hI, hD, h35⟩ := hP
    have eM : ∀ b : Bool, mX6_reads_17 (m + 1) (nI sg) (nI H) (nI (bN b)) (nI (bN (decide (due = 0)))) (nI pos) wM = some (nI (bN b), am_set wM 0 0 16 (nI pos)) := fun b => by
      rw [mX6_reads_17, hmT, if_pos cT, pu_mk, zr_B]
    refine ⟨wX, am_set wM 0 0 16 (nI pos), KX.rf _, K16, ?_⟩
    by_cases h3 : due = 3
    · subst h3
      refine Or.inr ⟨d, sg, op, at_, st, lf, ?_, eM _, ⟨?_, ?_, ?_, h35⟩, h1, h2⟩
      · rw [mX1_fault_17, if_pos cT, h35, if_neg (show ¬ (nI 3 ≠ 3) from fun z => z rfl)]
        rfl
      · have hH : H = 0 := by
          rcases hD with ⟨z, -⟩ | ⟨-, z, -⟩ | ⟨z, -⟩ | ⟨z, -⟩
          · omega
          · exact z
          · omega
          · omega
        subst hH
        exact hJ.k (fun _ _ _ => rfl) rfl hJ.2.1 rfl (am_get_other (by decide)) (fun a h1 h2 => am_get_row (by omega))
      · have hH : H = 0 := by
          rcases hD with ⟨z, -⟩ | ⟨-, z, -⟩ | ⟨z, -⟩ | ⟨z, -⟩
          · omega
          · exact z
          · omega
          · omega
        subst hH
        exact hI
      · have hH : H = 0 := by
          rcases hD with ⟨z, -⟩ | ⟨-, z, -⟩ | ⟨z, -⟩ | ⟨z, -⟩
          · omega
          · exact z
          · omega
          · omega
        subst hH
        exact hD
    · have hdue : due < 3 := by
        rcases hD with ⟨z, -⟩ | ⟨z, -⟩ | ⟨z, -⟩ | ⟨z, -⟩ <;> omega
      refine Or.inl ⟨pos, Nat.le_refl _, ?_, ?_, am_get_self _ _ _ _ _⟩
      · rw [mX1_fault_17, if_pos cT, h35, if_pos (show nI due ≠ 3 from ne_nI (b := 3) (by omega) (by decide) h3)]
      · rw [eM, decide_eq_false h3]
        rfl
  | succ e ih =>
    intro pos d H sg due op at_ st lf wX wM he hP h1 h2 hx hm hmT n m hn hm2
    obtain ⟨n, rfl⟩ : ∃ k, n = k + 1 := ⟨n - 1, by omega⟩
    obtain ⟨m, rfl⟩ : ∃ k, m = k + 1 := ⟨m - 1, by omega⟩
    subst h1
    rcases byte_step (T := T) (by omega) hT2 hP (hx pos (by omega)) (hm pos (by omega)) hmT (hy pos) n m with ⟨wX2, wM2, g1, g2, g3, g4, g5⟩ | ⟨d', H', sg', due', op', at', st', lf', wX2, wM2, g1, g2, g3, g4, g5, g6, g7⟩
    · exact ⟨wX2, wM2, g3, g4, Or.inl ⟨pos, by omega, g1, g2, g5⟩⟩
    · obtain ⟨wX3, wM3, r1, r2, r3⟩ := ih (pos + 1) d' H' sg' due' op' at' st' lf' wX2 wM2 (by omega) g5 g6 (g7.trans h2) (fun j hj => by rw [g3.2.2.2.1]; exact hx j hj) (fun j hj => by rw [g4.2.2.2.2 6 (by decide) (by decide) (by decide)]; exact hm j hj) (g4.2.2.2.1.trans hmT) n m (by omega) (by omega)
      rw [g1, g2]
      exact ⟨wX3, wM3, g3.tr r1, g4.tr r2, r3⟩
end BY
end
section
/-! read -/
def cpW (w : AW) (o : Nat) : Nat → AW
  | 0 => w
  | k + 1 => am_set (am_set (am_set (am_set (am_set (cpW w o k) o 1 k (w.1 5 1 k)) o 2 k (w.1 5 2 k)) o 3 k (w.1 5 3 k)) o 4 k (w.1 5 4 k)) o 5 k (w.1 5 5 k)
section CP
variable {w : AW} {o : Nat}
theorem cpW_row {o' a' : Nat} (h : o' ≠ o ∨ a' = 0 ∨ 5 < a') : ∀ k, (cpW w o k).1 o' a' = w.1 o' a'
  | 0 => rfl
  | k + 1 => by
    unfold cpW
    rw [am_get_row (by omega), am_get_row (by omega), am_get_row (by omega), am_get_row (by omega), am_get_row (by omega)]
    exact cpW_row h k
theorem cpW_2 : ∀ k, (cpW w o k).2 = w.2
  | 0 => rfl
  | k + 1 => cpW_2 k
theorem cpW_in {j : Nat} : ∀ k, j < k → (cpW w o k).1 o 1 j = w.1 5 1 j ∧ (cpW w o k).1 o 2 j = w.1 5 2 j ∧ (cpW w o k).1 o 3 j = w.1 5 3 j ∧ (cpW w o k).1 o 4 j = w.1 5 4 j ∧ (cpW w o k).1 o 5 j = w.1 5 5 j := by
  intro k
  induction k with
  | zero => intro h; omega
  | succ k ih =>
    intro h
    by_cases q : j = k
    · subst q
      simp [cpW, am_get]
    · have g := ih (by omega)
      simp only [cpW, am_get, q, and_false, if_false]
      exact g
end CP
def bcW (w : AW) (o P sg : Nat) : AW := cpW (am_set (am_set w o 0 5 (nI P)) o 0 6 (nI sg)) o P
theorem X_become {w : AW} {i P sg : Nat} (hi : i < 6) (h5 : w.1 5 0 5 = nI P) (h6 : w.1 5 0 6 = nI sg) (hP : P ≤ 40) : mX2_become (6 + i) 5 w = some ((), bcW w (6 + i) P sg) := by
  have hl : ∀ a, 1 ≤ a → a ≤ 5 → am_aL false (6 + i) a = 40 := fun a h1 h2 => by
    have e : ∀ i, i < 6 → ∀ a, a < 6 → 1 ≤ a → am_aL false (6 + i) a = 40 := by decide
    exact e i hi a (by omega) h1
  have hl5 : ∀ a, 1 ≤ a → a ≤ 5 → am_aL false 5 a = 81 := fun a h1 h2 => by
    have e : ∀ a, a < 6 → 1 ≤ a → am_aL false 5 a = 81 := by decide
    exact e a (by omega) h1
  unfold mX2_become
  rw [h5, hl 1 (by decide) (by decide), if_neg (show ¬ (Int32.ofNat 40 < nI P) from nI_nlt hP (by omega)), pu_mk, am_row_ne (by omega), h6, pu_mk]
  have key : ∀ (W : AW), W.1 (6 + i) 0 5 = nI P → mX2_become_26 (6 + i) 5 FU (nI 0) W = some ((), cpW W (6 + i) P) := by
    intro W hW
    refine loopE (fun n (s : Int32 × AW) => mX2_become_26 (6 + i) 5 n s.1 s.2) P (fun k => (nI k, cpW W (6 + i) k)) _ ?_ ?_ FU 0 (Nat.zero_le _) (FU_gt (by omega))
    · intro n k hk
      have c1 : ¬ nI P ≤ nI k := nI_ge hk (by omega)
      have z5 : (cpW W (6 + i) k).1 (6 + i) 0 5 = nI P := by rw [cpW_row (Or.inr (Or.inl rfl))]; exact hW
      have hat : ∀ a, 1 ≤ a → a ≤ 5 → ∀ W2 : AW, W2.1 5 = W.1 5 → mX5_at 5 a (nI k) W2 = some (W.1 5 a k, W2) := fun a h1 h2 W2 hW2 => by
        rw [at_in W2 (by rw [hl5 a h1 h2]; omega) (by rw [hl5 a h1 h2]; decide), hW2]
      have hput : ∀ a, 1 ≤ a → a ≤ 5 → ∀ (W2 : AW) (x : Int32), mX5_put (6 + i) a (nI k) x W2 = some ((), am_set W2 (6 + i) a k x) := fun a h1 h2 W2 x => put_in W2 (by rw [hl a h1 h2]; omega) (by rw [hl a h1 h2]; decide)
      have r5 : (cpW W (6 + i) k).1 5 = W.1 5 := by funext a; exact cpW_row (Or.inl (by omega)) k
      have s5 : ∀ (W2 : AW) (a q : Nat) (x : Int32), W2.1 5 = W.1 5 → (am_set W2 (6 + i) a q x).1 5 = W.1 5 := fun W2 a q x h => by rw [am_row_ne (by omega)]; exact h
      dsimp only
      rw [mX2_become_26, z5, if_neg c1, hat 1 (by decide) (by decide) _ r5, cl_mk, hput 1 (by decide) (by decide), cl_mk]
      have r6 := s5 _ 1 k (W.1 5 1 k) r5
      rw [hat 2 (by decide) (by decide) _ r6, cl_mk, hput 2 (by decide) (by decide), cl_mk]
      have r7 := s5 _ 2 k (W.1 5 2 k) r6
      rw [hat 3 (by decide) (by decide) _ r7, cl_mk, hput 3 (by decide) (by decide), cl_mk]
      have r8 := s5 _ 3 k (W.1 5 3 k) r7
      rw [hat 4 (by decide) (by decide) _ r8, cl_mk, hput 4 (by decide) (by decide), cl_mk]
      have r9 := s5 _ 4 k (W.1 5 4 k) r8
      rw [hat 5 (by decide) (by decide) _ r9, cl_mk, hput 5 (by decide) (by decide), cl_mk, nm_mk, show nI k + 1 = nI (k + 1) from nI_add k 1]
      rfl
    · intro n
      have c1 : nI P ≤ nI P := nI_le (Nat.le_refl P) (by omega)
      have z5 : (cpW W (6 + i) P).1 (6 + i) 0 5 = nI P := by rw [cpW_row (Or.inr (Or.inl rfl))]; exact hW
      dsimp only
      rw [mX2_become_26, z5, if_pos c1]
  exact key _ (by rw [am_get_other (by decide), am_get_self])
theorem bcW_S {w : AW} {i m P : Nat} {c l r ph pl dp : Nat → Nat} (hD : DraftX w m P c l r ph pl dp) (hs : ShapeOK m c l r) (hc : ClassOK m P c l r ph) : SenX (bcW w (6 + i) P m) (6 + i) m P c l r ph pl dp := by
  have h0 : ∀ a, (am_set (am_set w (6 + i) 0 5 (nI P)) (6 + i) 0 6 (nI m)).1 5 a = w.1 5 a := fun a => by rw [am_get_row (by omega), am_get_row (by omega)]
  unfold bcW
  refine ⟨?_, ?_, fun k hk => ?_, fun p hp => ?_⟩
  · rw [cpW_row (Or.inr (Or.inl rfl)), am_get_other (by decide), am_get_self]
  · rw [cpW_row (Or.inr (Or.inl rfl)), am_get_self]
  · obtain ⟨g1, g2, g3, -, -⟩ := cpW_in (w := am_set (am_set w (6 + i) 0 5 (nI P)) (6 + i) 0 6 (nI m)) (o := 6 + i) P (hc.1 k hk)
    obtain ⟨d1, d2, d3⟩ := hD.2.1 k hk
    rw [g1, g2, g3, h0, h0, h0, d1, d2, d3]
    unfold fsX ssX
    refine ⟨rfl, fun g => ?_, fun g => ?_, fun g => ?_⟩
    · rw [kd_leaf g]; exact ⟨rfl, rfl⟩
    · rw [kd_pre g]; exact ⟨rfl, rfl⟩
    · rw [kd_jn g]; exact ⟨rfl, rfl⟩
  · obtain ⟨-, -, -, g4, g5⟩ := cpW_in (w := am_set (am_set w (6 + i) 0 5 (nI P)) (6 + i) 0 6 (nI m)) (o := 6 + i) P hp
    rw [g4, g5, h0, h0]
    exact hD.2.2 p hp
/-! the model's copy -/
theorem setAt_out2 {w : AW} {o a z0 i : Nat} {f : Nat → Int32} : ∀ n, (i < z0 ∨ z0 + n ≤ i) → (setAt w o a z0 f n).1 o a i = w.1 o a i
  | 0, _ => rfl
  | n + 1, h => (am_get_other (by omega)).trans (setAt_out2 n (by omega))
def nd5 (w : AW) (b0 : Nat) (c l r b e : Nat → Nat) : Nat → AW
  | 0 => w
  | k + 1 => am_set (am_set (am_set (am_set (am_set (nd5 w b0 c l r b e k) 0 11 (b0 + k) (nI (c k))) 0 12 (b0 + k) (nI (l k))) 0 13 (b0 + k) (nI (r k))) 0 14 (b0 + k) (nI (b k))) 0 15 (b0 + k) (nI (e k))
section N5
variable {w : AW} {b0 : Nat} {c l r b e : Nat → Nat}
theorem nd5_row {o a : Nat} (h : o ≠ 0 ∨ a < 11 ∨ 15 < a) : ∀ k, (nd5 w b0 c l r b e k).1 o a = w.1 o a
  | 0 => rfl
  | k + 1 => by
    unfold nd5
    rw [am_get_row (by omega), am_get_row (by omega), am_get_row (by omega), am_get_row (by omega), am_get_row (by omega)]
    exact nd5_row h k
theorem nd5_2 : ∀ k, (nd5 w b0 c l r b e k).2 = w.2
  | 0 => rfl
  | k + 1 => nd5_2 k
theorem nd5_out {a j : Nat} : ∀ k, (j < b0 ∨ b0 + k ≤ j) → (nd5 w b0 c l r b e k).1 0 a j = w.1 0 a j
  | 0, _ => rfl
  | k + 1, h => by
    unfold nd5
    rw [am_get, if_neg (by omega), am_get, if_neg (by omega), am_get, if_neg (by omega), am_get, if_neg (by omega), am_get, if_neg (by omega)]
    exact nd5_out k (by omega)
theorem nd5_in {j : Nat} : ∀ k, j < k → (nd5 w b0 c l r b e k).1 0 11 (b0 + j) = nI (c j) ∧ (nd5 w b0 c l r b e k).1 0 12 (b0 + j) = nI (l j) ∧ (nd5 w b0 c l r b e k).1 0 13 (b0 + j) = nI (r j) ∧ (nd5 w b0 c l r b e k).1 0 14 (b0 + j) = nI (b j) ∧ (nd5 w b0 c l r b e k).1 0 15 (b0 + j) = nI (e j) := by
  intro k
  induction k with
  | zero => intro h; omega
  | succ k ih =>
    intro h
    by_cases q : j = k
    · subst q
      simp [nd5, am_get]
    · have g := ih (by omega)
      have q2 : ¬ b0 + j = b0 + k := by omega
      simp only [nd5, am_get, q2, and_false, if_false]
      exact g
end N5
def rdW (w : AW) (i m T : Nat) (c l r b e y : Nat → Nat) : AW := nd5 (am_set (am_set (am_set (setAt w 0 8 (200 * i) (fun j => nI (y j)) T) 0 9 i (nI T)) 0 0 6 (nI 0)) 0 10 i (nI m)) (40 * i) c l r b e m
section RM
variable {w : AW} {i m T : Nat} {c l r b e y : Nat → Nat}
theorem M_read31 (hi : i < 6) (hm : m ≤ 40) (hT : T ≤ 200) (hN : NdM w m c l r b e) (h6 : w.1 0 0 6 = nI T) (hy : ∀ j, j < T → w.1 0 6 j = nI (y j)) : mX6_read_31 (nI i) FU (nI 0) w = some (nI m, rdW w i m T c l r b e y) := by
  have k90 : ∀ W : AW, NdM W m c l r b e → mX6_read_90 (nI i) FU (nI 0) W = some (nI m, nd5 W (40 * i) c l r b e m) := by
    intro W hW
    refine loopE (fun n (s : Int32 × AW) => mX6_read_90 (nI i) n s.1 s.2) m (fun k => (nI k, nd5 W (40 * i) c l r b e k)) _ ?_ ?_ FU 0 (Nat.zero_le _) (FU_gt (by omega))
    · intro n k hk
      have c1 : ¬ nI m ≤ nI k := nI_ge hk (by omega)
      obtain ⟨g1, g2, g3, g4, g5⟩ := hW.2 k hk
      have z15 : (nd5 W (40 * i) c l r b e k).1 0 0 15 = nI m := by rw [nd5_row (by decide)]; exact hW.1
      have rr : ∀ (a : Nat) (W2 : AW) (x : Int32) (f : Int32 → Option (Int32 × AW)), W2.1 0 a k = x → rd 40 (W2.1 0 a) (nI k) f = f x := fun a W2 x f h => by rw [rd_in (by omega) (by decide), h]
      have ww : ∀ (a : Nat) (W2 : AW) (x : Int32) (f : AW → Option (Int32 × AW)), wr 240 W2 0 a (nI (40 * i + k)) x f = f (am_set W2 0 a (40 * i + k) x) := fun a W2 x f => wr_in (by omega) (by decide) W2 0 a x f
      have eidx : 40 * nI i + nI k = nI (40 * i + k) := by
        show nI 40 * nI i + nI k = _
        rw [pk_mul, nI_add]
      dsimp only
      rw [mX6_read_90, z15, if_neg c1, eidx, nm_mk, rr 18 _ (nI (c k)) _ (by rw [nd5_row (by decide)]; exact g1), ww, rr 19 _ (nI (l k)) _ (by rw [rn 11 19 rfl, nd5_row (by decide)]; exact g2), ww, rr 20 _ (nI (r k)) _ (by rw [rn 12 20 rfl, rn 11 20 rfl, nd5_row (by decide)]; exact g3), ww, rr 21 _ (nI (b k)) _ (by rw [rn 13 21 rfl, rn 12 21 rfl, rn 11 21 rfl, nd5_row (by decide)]; exact g4), ww, rr 22 _ (nI (e k)) _ (by rw [rn 14 22 rfl, rn 13 22 rfl, rn 12 22 rfl, rn 11 22 rfl, nd5_row (by decide)]; exact g5), ww, nm_mk, show nI k + 1 = nI (k + 1) from nI_add k 1]
      rfl
    · intro n
      have c1 : nI m ≤ nI m := nI_le (Nat.le_refl m) (by omega)
      have z15 : (nd5 W (40 * i) c l r b e m).1 0 0 15 = nI m := by rw [nd5_row (by decide)]; exact hW.1
      dsimp only
      rw [mX6_read_90, z15, if_pos c1]
  refine loopE (fun n (s : Int32 × AW) => mX6_read_31 (nI i) n s.1 s.2) T (fun k => (nI k, setAt w 0 8 (200 * i) (fun j => nI (y j)) k)) _ ?_ ?_ FU 0 (Nat.zero_le _) (FU_gt (by omega))
  · intro n k hk
    have c1 : ¬ nI T ≤ nI k := nI_ge hk (by omega)
    have z6 : (setAt w 0 8 (200 * i) (fun j => nI (y j)) k).1 0 0 6 = nI T := by rw [setAt_row (by decide)]; exact h6
    have r6 : ∀ f : Int32 → Option (Int32 × AW), rd 200 ((setAt w 0 8 (200 * i) (fun j => nI (y j)) k).1 0 6) (nI k) f = f (nI (y k)) := fun f => by
      rw [rd_in (by omega) (by decide), setAt_row (by decide), hy k hk]
    have eidx : 200 * nI i + nI k = nI (200 * i + k) := by
      show nI 200 * nI i + nI k = _
      rw [pk_mul, nI_add]
    dsimp only
    rw [mX6_read_31, z6, if_neg c1, r6, eidx, wr_in (by omega) (by decide), nm_mk, show nI k + 1 = nI (k + 1) from nI_add k 1]
    rfl
  · intro n
    have c1 : nI T ≤ nI T := nI_le (Nat.le_refl T) (by omega)
    have z6 : (setAt w 0 8 (200 * i) (fun j => nI (y j)) T).1 0 0 6 = nI T := by rw [setAt_row (by decide)]; exact h6
    have z15 : (am_set (am_set (setAt w 0 8 (200 * i) (fun j => nI (y j)) T) 0 9 i (nI T)) 0 0 6 0).1 0 0 15 = nI m := by
      rw [am_get_other (by decide), am_get_row (by decide), setAt_row (by decide)]
      exact hN.1
    have hW : NdM (am_set (am_set (am_set (setAt w 0 8 (200 * i) (fun j => nI (y j)) T) 0 9 i (nI T)) 0 0 6 (nI 0)) 0 10 i (nI m)) m c l r b e := by
      have hr : ∀ a, 18 ≤ a → (am_set (am_set (am_set (setAt w 0 8 (200 * i) (fun j => nI (y j)) T) 0 9 i (nI T)) 0 0 6 (nI 0)) 0 10 i (nI m)).1 0 a = w.1 0 a := fun a h => by rw [am_get_row (by omega), am_get_row (by omega), am_get_row (by omega), setAt_row (by omega)]
      unfold NdM
      rw [hr 18 (by decide), hr 19 (by decide), hr 20 (by decide), hr 21 (by decide), hr 22 (by decide)]
      refine ⟨?_, hN.2⟩
      rw [am_get_row (by decide)]
      exact z15
    dsimp only
    rw [mX6_read_31, z6, if_pos c1, wr_in hi (by decide), pu_mk, z15, wr_in hi (by decide)]
    exact k90 _ hW
end RM
theorem pub_read : Pub_read Rel := by
  rintro wX wM ⟨N, S, A, T, y, D, h⟩ v0
  have hR := h
  obtain ⟨hN, hX, hM, hT, h2, hS, h12⟩ := h
  by_cases c0 : ∃ k, k < 6 ∧ v0 = nI k
  rotate_left
  · refine pub_same hR (-nI 1) ?_ ?_ (KX.rf _) (KM0 wM)
    · simp only [mX5_read, X_sen_f _ c0, nS_none, cl_mk, nm_mk, pu_mk, lit, if_true, if_false, ne_eq, not_false_eq_true, not_true_eq_false, nI_add, nI_or, nI_and, Bool.false_eq_true, ne01, ne10, nI_m1', Nat.or_zero]
    · simp only [mX6_read, M_sen_f _ c0, cl_mk, nm_mk, pu_mk, lit, if_true, if_false, ne_eq, not_false_eq_true, not_true_eq_false, nI_add, nI_or, nI_and, Bool.false_eq_true, ne01, ne10, nI_m1', Nat.or_zero]
  obtain ⟨i, hi, rfl⟩ := c0
  have hcl := cls_sen i hi
  obtain ⟨hT2, hx9, hm6, hty, hyb⟩ := hT
  have kX1 : KX wX (am_set (am_set (am_set (am_set wX 3 0 4 0) 3 0 5 0) 5 0 5 0) 5 0 6 0) := (K3 (K3 (KX.rf wX))).set (Or.inl ⟨by decide, by decide⟩) |>.set (Or.inl ⟨by decide, by decide⟩)
  have kM1 : KM wM (am_set (am_set wM 0 0 0 (nI 0)) 0 0 15 0) := (KM0 wM).set (Or.inr ⟨rfl, by decide, by decide⟩)
  have hP0 : PR (am_set (am_set (am_set (am_set wX 3 0 4 0) 3 0 5 0) 5 0 5 0) 5 0 6 0) (am_set (am_set wM 0 0 0 (nI 0)) 0 0 15 0) ((0, 0, T), (fun _ => 0), (fun _ => 0), (fun _ => 0), (fun _ => 0), (fun _ => 0), y, (fun _ => 0), (fun _ => 0), (fun _ => 0)) 0 0 0 0 (fun _ => 0) (fun _ => 0) (fun _ => 0) (fun _ => 0) := by
    refine ⟨⟨⟨?_, fun k hk => absurd hk (Nat.not_lt_zero k), fun p hp => absurd hp (Nat.not_lt_zero p)⟩, am_get_self _ _ _ _ _, ?_, fun i hi => absurd hi (Nat.not_lt_zero i), ⟨am_get_self _ _ _ _ _, fun k hk => absurd hk (Nat.not_lt_zero k)⟩, fun i hi => absurd hi (Nat.not_lt_zero i)⟩, ⟨fun k hk => absurd hk (Nat.not_lt_zero k), ⟨fun k hk => absurd hk (Nat.not_lt_zero k), fun k hk => absurd hk (Nat.not_lt_zero k), fun k hk => absurd hk (Nat.not_lt_zero k), fun k hk => absurd hk (Nat.not_lt_zero k), fun k hk => absurd hk (Nat.not_lt_zero k), fun k _ hk => absurd hk (Nat.not_lt_zero k), fun k hk => absurd hk (Nat.not_lt_zero k)⟩, fun k hk => absurd hk (Nat.not_lt_zero k), fun k hk => absurd hk (Nat.not_lt_zero k), fun k hk => absurd hk (by omega), fun k hk => absurd hk (Nat.not_lt_zero k), fun hk => absurd hk (Nat.not_lt_zero 0), fun k hk => absurd hk (by omega), rfl, by decide, by decide, fun hk => absurd hk (Nat.not_lt_zero 0), fun k hk => absurd hk (Nat.not_lt_zero k)⟩, Or.inl ⟨rfl, fun k hk => absurd hk (Nat.not_lt_zero k), rfl, fun _ => rfl⟩, ?_⟩
    · rw [am_get_other (by decide), am_get_self]; rfl
    · rw [am_row_ne (by decide), am_row_ne (by decide), am_get_other (by decide), am_get_self]; rfl
    · rw [am_row_ne (by decide), am_row_ne (by decide), am_get_self]; rfl
  obtain ⟨wX2, wM2, kX2, kM2, hor⟩ := loop_both (T := T) hT2 hyb T 0 _ 0 0 0 _ _ _ _ _ _ (by omega) hP0 rfl rfl (fun j hj => by rw [kX1.2.2.2.1]; exact (hty j hj).1) (fun j hj => by rw [kM1.2.2.2.2 6 (by decide) (by decide) (by decide)]; exact (hty j hj).2) (kM1.2.2.2.1.trans hm6) FU FU (FU_gt (by omega)) (FU_gt (by omega))
  have eX : mX5_read (nI i) wX = cl (mX1_fault_17 0 9 (nI T) 5 FU (nI 0) (am_set (am_set (am_set (am_set wX 3 0 4 0) 3 0 5 0) 5 0 5 0) 5 0 6 0)) fun x_5 w_4 => if x_5 = (-1) then cl (mX2_become (6 + i) 5 w_4) fun x_7 w_6 => pu w_6 0 9 0 fun w_8 => cl (mX2_signs (6 + i) w_8) fun x_10 w_9 => some (x_10, w_9) else some ((-10) - x_5, w_4) := by
    unfold mX5_read
    rw [X_sen_t _ hi, cl_mk, nS_some hcl]
    unfold mX1_fault mX2_begin
    rw [hx9, pu_mk, pu_mk, pu_mk, pu_mk, cl_mk]
    rfl
  have eM : mX6_read (nI i) wM = cl (mX6_reads_17 FU (nI 0) (nI 0) (nI (bN (decide (0 = 3)))) (nI (bN (decide (0 = 0)))) (nI 0) (am_set (am_set wM 0 0 0 (nI 0)) 0 0 15 0)) fun x_5 w_4 => if x_5 ≠ 0 then mX6_read_31 (nI i) FU 0 w_4 else some ((-10) - (w_4.1 0 0 16), w_4) := by
    unfold mX6_read
    rw [pu_mk]
    have e0 : am_set wM 0 0 0 0 = am_set wM 0 0 0 (nI 0) := rfl
    rw [e0, M_sen_t _ hi, cl_mk, if_pos (show nI 1 ≠ 0 by decide)]
    unfold mX6_reads
    rw [pu_mk]
    rfl
  rcases hor with ⟨f, hf, g1, g2, g3⟩ | ⟨d, sg, op, at_, st, lf, g1, g2, hPR, hdy, hdZ⟩
  · have n1 : nI f ≠ -1 := fun z => by
      have := nI_pos (show f < 2 ^ 31 by omega)
      rw [z] at this
      exact this (by decide)
    refine pub_same hR ((-10) - nI f) ?_ ?_ (kX1.tr kX2) (kM1.tr kM2)
    · rw [eX, g1, cl_mk, if_neg n1]
    · rw [eM, g2, cl_mk, if_neg (show ¬ (nI 0 ≠ 0) from fun z => z rfl), g3]
  · have hdy : sdy d = y := hdy
    have hdZ : sdZ d = T := hdZ
    obtain ⟨hJ, hI, hD, -⟩ := hPR
    obtain ⟨hM40, -, hP40, hsh, hclsok⟩ := hI.facts
    obtain ⟨j1, j2, j3, j4, j5, j6⟩ := hJ
    obtain ⟨i1, i2, i3, i4, i5, i6, i7, i8, i9, i10, i11, i12, i13⟩ := hI
    have hsg : sg = sdM d := i9
    subst hsg
    obtain ⟨-, -, q1, q2, q3, q4⟩ : 3 = 3 ∧ 0 = 0 ∧ 1 ≤ sdM d ∧ sdb d (sdM d - 1) = 0 ∧ sde d (sdM d - 1) = T ∧ sdf d (sdM d - 1) = sdP d - 1 := by
      rcases hD with ⟨z, -⟩ | ⟨z1, z2, z3, z4, z5, z6⟩ | ⟨z, -⟩ | ⟨z, -⟩
      · cases z
      · exact ⟨rfl, rfl, z3, z4, z5, z6⟩
      · cases z
      · cases z
    have hP1 : 1 ≤ sdP d := by have := hclsok.1 0 (by omega); omega
    have hPM := P_le_M hclsok
    have hok : SDok d := ⟨q1, hM40, hP1, hPM, by rw [hdZ]; exact hT2, i1, i2, q4, q2, by rw [hdZ]; exact q3, by rw [hdy]; exact hyb, by rw [hdZ]; exact i3, fun k hk => by
      obtain ⟨a, a1, a2, a3⟩ := i13 k hk
      rcases a2 with ⟨z, z1, -⟩ | ⟨-, z⟩
      · omega
      · rw [show sdM d - 1 = a by omega]; exact a3⟩
    have RX := hR.k (kX1.tr kX2) (kM1.tr kM2)
    obtain ⟨hN', hX', hM', ⟨-, hx9', hm6', hty', -⟩, h2', hS', h12'⟩ := RX
    have eb := X_become (w := wX2) hi j1.1 j2 hP40
    have em := M_read31 (i := i) hi hM40 hT2 j5 hm6' (fun j hj => (hty' j hj).2)
    refine ⟨nI (sdM d), am_set (bcW wX2 (6 + i) (sdP d) (sdM d)) 0 0 9 (nI 0), rdW wM2 i (sdM d) T (sdc d) (sdl d) (sdr d) (sdb d) (sde d) y, ?_, ?_, N, S, A, 0, y, (fun j => if j = i then d else D j), hN', ?_, ?_, ?_, ?_, fun j hj => ?_, ?_⟩
    · rw [eX, g1, cl_mk, if_pos (show -nI 1 = -1 from rfl), eb, cl_mk, pu_mk]
      unfold mX2_signs
      rw [cl_mk]
      have e6 : (am_set (bcW wX2 (6 + i) (sdP d) (sdM d)) 0 0 9 0).1 (6 + i) 0 6 = nI (sdM d) := by
        rw [am_row_ne (by omega)]
        exact (bcW_S (i := i) j1 hsh hclsok).2.1
      rw [e6]
      rfl
    · rw [eM, g2, cl_mk, if_pos (show nI 1 ≠ 0 by decide)]
      exact em
    · have hr : (am_set (bcW wX2 (6 + i) (sdP d) (sdM d)) 0 0 9 (nI 0)).1 1 = wX2.1 1 := by
        funext a
        unfold bcW
        rw [am_get_row (Or.inl (by decide)), cpW_row (Or.inl (by omega)), am_get_row (Or.inl (by omega)), am_get_row (Or.inl (by omega))]
      exact hX'.c (by rw [hr]) (by rw [hr]) (by rw [hr])
    · refine hM'.c ?_ ?_ ?_
      · unfold rdW
        rw [nd5_row (by decide), am_get_row (by decide), am_get_other (by decide), am_get_row (by decide), setAt_row (by decide)]
      · unfold rdW
        rw [nd5_row (by decide), am_get_row (by decide), am_get_row (by decide), am_get_row (by decide), setAt_row (by decide)]
      · unfold rdW
        rw [nd5_row (by decide), am_get_row (by decide), am_get_row (by decide), am_get_row (by decide), setAt_row (by decide)]
    · refine ⟨by omega, am_get_self _ _ _ _ _, ?_, fun j hj => absurd hj (Nat.not_lt_zero j), hyb⟩
      unfold rdW
      rw [nd5_row (by decide), am_get_row (by decide), am_get_self]
    · have s2 : ∀ (w : AW) (o a z0 : Nat) (f : Nat → Int32) (n : Nat), (setAt w o a z0 f n).2 = w.2 := by
        intro w o a z0 f n
        induction n with
        | zero => rfl
        | succ n ih => exact ih
      unfold bcW rdW
      rw [am_set_2, cpW_2, am_set_2, am_set_2, nd5_2, am_set_2, am_set_2, am_set_2, s2]
      exact h2'
    · dsimp only
      by_cases q : j = i
      · subst q
        rw [if_pos rfl]
        refine ⟨hok, ?_, ?_⟩
        · exact (bcW_S (i := j) j1 hsh hclsok).cg (am_row_ne (by omega))
        · unfold rdW
          refine ⟨?_, ?_, fun k hk => ?_, fun t ht => ?_⟩
          · rw [nd5_row (by decide), am_get_row (by decide), am_get_row (by decide), am_get_self, hdZ]
          · rw [nd5_row (by decide), am_get_self]
          · exact nd5_in (sdM d) hk
          · rw [nd5_row (by decide), am_get_row (by decide), am_get_row (by decide), am_get_row (by decide)]
            have := setAt_in (w := wM2) (o := 0) (a := 8) (z0 := 200 * j) (f := fun j => nI (y j)) T (show t < T by rw [← hdZ]; exact ht)
            rw [hdy]
            exact this
      · rw [if_neg q]
        obtain ⟨s1, s2, s3⟩ := hS' j hj
        refine ⟨s1, ?_, ?_⟩
        · refine s2.cg ?_
          rw [am_row_ne (by omega)]
          funext a
          unfold bcW
          rw [cpW_row (Or.inl (by omega)), am_get_row (Or.inl (by omega)), am_get_row (Or.inl (by omega))]
        · obtain ⟨u1, u2, u3, u4⟩ := s3
          have hM40' := s1.2.1
          have hZ' := s1.2.2.2.2.1
          unfold rdW
          refine ⟨?_, ?_, fun k hk => ?_, fun t ht => ?_⟩
          · rw [nd5_row (by decide), am_get_row (by decide), am_get_row (by decide), am_get_other q, setAt_row (by decide)]; exact u1
          · rw [nd5_row (by decide), am_get_other q, am_get_row (by decide), am_get_row (by decide), setAt_row (by decide)]; exact u2
          · have ho : 40 * j + k < 40 * i ∨ 40 * i + sdM d ≤ 40 * j + k := by omega
            rw [nd5_out _ ho, nd5_out _ ho, nd5_out _ ho, nd5_out _ ho, nd5_out _ ho, rn 10 11 rfl, rn 0 11 rfl, rn 9 11 rfl, setAt_row (by decide), rn 10 12 rfl, rn 0 12 rfl, rn 9 12 rfl, setAt_row (by decide), rn 10 13 rfl, rn 0 13 rfl, rn 9 13 rfl, setAt_row (by decide), rn 10 14 rfl, rn 0 14 rfl, rn 9 14 rfl, setAt_row (by decide), rn 10 15 rfl, rn 0 15 rfl, rn 9 15 rfl, setAt_row (by decide)]
            exact u3 k hk
          · rw [nd5_row (by decide), rn 10 8 rfl, rn 0 8 rfl, rn 9 8 rfl, setAt_out2 T (by omega)]
            exact u4 t ht
    · unfold bcW
      rw [am_get_row (by decide), cpW_row (by omega), am_get_row (by omega), am_get_row (by omega)]
      exact h12'
end
