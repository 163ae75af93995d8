/-! a part ends, and with it the prefixes before it: class and model side by side -/
def preB (c : Nat) : Bool := decide (c = 33 ∨ c = 91 ∨ c = 123)
def jnB (c : Nat) : Bool := decide (c = 38 ∨ c = 124 ∨ c = 62)
section KB
variable {c : Nat}
theorem ne_nI {a b : Nat} (ha : a < 2 ^ 31) (hb : b < 2 ^ 31) (h : a ≠ b) : nI a ≠ nI b := fun z => h ((nI_eq ha hb).mp z)
theorem X_isPre (w : AW) (hc : c < 2 ^ 31) : mX5_isPrefix (nI c) w = some (nI (bN (preB c)), w) := by
  unfold mX5_isPrefix preB
  by_cases h1 : c = 33
  · subst h1
    rw [if_pos (show nI 33 = 33 from rfl), decide_eq_true (Or.inl rfl)]
    rfl
  · rw [if_neg (show ¬ nI c = 33 from ne_nI (b := 33) hc (by decide) h1)]
    unfold mX5_isModal
    by_cases h2 : c = 91
    · subst h2
      rw [if_pos (show nI 91 = 91 from rfl), decide_eq_true (Or.inr (Or.inl rfl))]
      rfl
    · rw [if_neg (show ¬ nI c = 91 from ne_nI (b := 91) hc (by decide) h2)]
      by_cases h3 : c = 123
      · subst h3
        rw [if_neg (show ¬ (nI 123 ≠ 123) from fun z => z rfl), decide_eq_true (Or.inr (Or.inr rfl))]
        rfl
      · rw [if_pos (show nI c ≠ 123 from ne_nI (b := 123) hc (by decide) h3), decide_eq_false (by omega)]
        rfl
theorem M_isPre (w : AW) (hc : c < 2 ^ 31) : mX6_isPrefix (nI c) w = some (nI (bN (preB c)), w) := by
  unfold mX6_isPrefix preB
  by_cases h1 : c = 33
  · subst h1
    rw [if_pos (show nI 33 = 33 from rfl), decide_eq_true (Or.inl rfl)]
    rfl
  · rw [if_neg (show ¬ nI c = 33 from ne_nI (b := 33) hc (by decide) h1)]
    by_cases h2 : c = 91
    · subst h2
      rw [if_pos (show nI 91 = 91 from rfl), decide_eq_true (Or.inr (Or.inl rfl))]
      rfl
    · rw [if_neg (show ¬ nI c = 91 from ne_nI (b := 91) hc (by decide) h2)]
      by_cases h3 : c = 123
      · subst h3
        rw [if_neg (show ¬ (nI 123 ≠ 123) from fun z => z rfl), decide_eq_true (Or.inr (Or.inr rfl))]
        rfl
      · rw [if_pos (show nI c ≠ 123 from ne_nI (b := 123) hc (by decide) h3), decide_eq_false (by omega)]
        rfl
theorem M_isJn (w : AW) (hc : c < 2 ^ 31) : mX6_isJoin (nI c) w = some (nI (bN (jnB c)), w) := by
  unfold mX6_isJoin jnB
  by_cases h1 : c = 38
  · subst h1
    rw [if_pos (show nI 38 = 38 from rfl), decide_eq_true (Or.inl rfl)]
    rfl
  · rw [if_neg (show ¬ nI c = 38 from ne_nI (b := 38) hc (by decide) h1)]
    by_cases h2 : c = 124
    · subst h2
      rw [if_pos (show nI 124 = 124 from rfl), decide_eq_true (Or.inr (Or.inl rfl))]
      rfl
    · rw [if_neg (show ¬ nI c = 124 from ne_nI (b := 124) hc (by decide) h2)]
      by_cases h3 : c = 62
      · subst h3
        rw [if_neg (show ¬ (nI 62 ≠ 62) from fun z => z rfl), decide_eq_true (Or.inr (Or.inr rfl))]
        rfl
      · rw [if_pos (show nI c ≠ 62 from ne_nI (b := 62) hc (by decide) h3), decide_eq_false (by omega)]
        rfl
theorem X_isJn (w : AW) (hc : c < 2 ^ 31) : mX5_isBetween (nI c) w = some (nI (bN (jnB c)), w) := by
  unfold mX5_isBetween jnB
  by_cases h1 : c = 38
  · subst h1
    rw [if_pos (show nI 38 = 38 from rfl), decide_eq_true (Or.inl rfl)]
    rfl
  · rw [if_neg (show ¬ nI c = 38 from ne_nI (b := 38) hc (by decide) h1)]
    by_cases h2 : c = 124
    · subst h2
      rw [if_pos (show nI 124 = 124 from rfl), decide_eq_true (Or.inr (Or.inl rfl))]
      rfl
    · rw [if_neg (show ¬ nI c = 124 from ne_nI (b := 124) hc (by decide) h2)]
      by_cases h3 : c = 62
      · subst h3
        rw [if_neg (show ¬ (nI 62 ≠ 62) from fun z => z rfl), decide_eq_true (Or.inr (Or.inr rfl))]
        rfl
      · rw [if_pos (show nI c ≠ 62 from ne_nI (b := 62) hc (by decide) h3), decide_eq_false (by omega)]
        rfl
end KB
def cntO (op : Nat → Nat) : Nat → Nat
  | 0 => 0
  | n + 1 => cntO op n + (if op n = 40 then 0 else 1)
def nbF (at_ st lf e : Nat → Nat) (i : Nat) : Nat := if st i = 0 then at_ i + 1 else e (lf i) + 1
def begF (at_ st lf e : Nat → Nat) (H : Nat) : Nat := if H = 0 then 0 else nbF at_ st lf e (H - 1)
def JM (wX wM : AW) (d : SD) (H sg : Nat) (op at_ st lf : Nat → Nat) : Prop :=
  DraftX wX (sdM d) (sdP d) (sdc d) (sdl d) (sdr d) (sdf d) (sdp d) (sdd d) ∧ wX.1 5 0 6 = nI sg ∧ wX.1 3 0 4 = nI H ∧ (∀ i, i < H → wX.1 3 1 i = nI (op i) ∧ wX.1 3 2 i = nI (at_ i) ∧ wX.1 3 3 i = (if st i = 0 then -nI 1 else nI (sdf d (lf i))) ∧ (st i = 3 → wX.1 3 4 i = nI (sdf d (sdM d - 1)))) ∧
  NdM wM (sdM d) (sdc d) (sdl d) (sdr d) (sdb d) (sde d) ∧ (∀ i, i < H → wM.1 0 23 i = nI (op i) ∧ wM.1 0 24 i = nI (at_ i) ∧ wM.1 0 26 i = nI (st i) ∧ (st i ≠ 0 → wM.1 0 25 i = nI (lf i)))
def SI (d : SD) (H sg pos : Nat) (op at_ st lf : Nat → Nat) (cur : Prop) : Prop :=
  TreeOK (sdM d) (sdc d) (sdl d) (sdr d) (sdb d) (sde d) (sdy d) ∧
  PartOK (sdM d) (sdP d) (sdc d) (sdl d) (sdr d) (sdb d) (sdf d) (sdp d) (sdd d) ∧
  (∀ k, k < sdM d → sde d k ≤ pos) ∧
  (∀ i, i < H → (isPre (op i) ∧ st i = 0) ∨ (op i = 40 ∧ (st i = 0 ∨ st i = 1)) ∨ (isJn (op i) ∧ (st i = 2 ∨ st i = 3))) ∧
  (∀ i, i + 1 < H → st i = 0 ∨ st i = 2) ∧
  (∀ i, i < H → (isPre (op i) → sdy d (at_ i) = op i) ∧ (¬ isPre (op i) → sdy d (at_ i) = 40) ∧ (st i ≠ 0 → lf i < sdM d ∧ sdb d (lf i) = at_ i + 1) ∧ (2 ≤ st i → sdy d (sde d (lf i)) = op i)) ∧
  (0 < H → at_ 0 = 0) ∧ (∀ i, i + 1 < H → at_ (i + 1) = nbF at_ st lf (sde d) i) ∧
  sg = sdM d + cntO op H ∧ sg ≤ 40 ∧ H ≤ 20 ∧
  (0 < H → ∀ k, k < sdM d → 1 ≤ sdb d k) ∧
  (∀ k, k < sdM d → ∃ h, h < sdM d ∧ ((∃ i, i < H ∧ st i ≠ 0 ∧ lf i = h) ∨ (cur ∧ h + 1 = sdM d)) ∧ sdd d (sdf d k) ≤ sdd d (sdf d h))
def addD (d : SD) (cc lm rm bm em P' : Nat) (ph' pl' dp' : Nat → Nat) : SD := ((sdM d + 1, P', sdZ d), ex1 (sdc d) (sdM d) cc, ex1 (sdl d) (sdM d) lm, ex1 (sdr d) (sdM d) rm, ex1 (sdb d) (sdM d) bm, ex1 (sde d) (sdM d) em, sdy d, ph', pl', dp')
theorem P_le_M {m P : Nat} {c l r ph : Nat → Nat} (hc : ClassOK m P c l r ph) : P ≤ m := by
  rw [← newN_P hc]
  exact newN_le ph m
theorem dp_small {m P : Nat} {c l r b ph pl dp : Nat → Nat} (hs : ShapeOK m c l r) (hp : PartOK m P c l r b ph pl dp) (hm : m ≤ 900) : ∀ p, p < P → dp p < 1000 := by
  intro p h
  obtain ⟨k, k1, k2, -⟩ := hp.2.1 p h
  have := dp_le hs hp (k + 1) k (Nat.lt_succ_self k) k1
  rw [k2] at this
  omega
theorem lens3 : ∀ a, a < 5 → 1 ≤ a → am_aL false 3 a = 20 := by decide
theorem at3 {w : AW} {a i : Nat} (h1 : 1 ≤ a) (h2 : a < 5) (hi : i < 20) : mX5_at 3 a (nI i) w = some (w.1 3 a i, w) := at_in w (by rw [lens3 a h2 h1]; exact hi) (by rw [lens3 a h2 h1]; decide)
theorem put3 {w : AW} {a i : Nat} {x : Int32} (h1 : 1 ≤ a) (h2 : a < 5) (hi : i < 20) : mX5_put 3 a (nI i) x w = some ((), am_set w 3 a i x) := put_in w (by rw [lens3 a h2 h1]; exact hi) (by rw [lens3 a h2 h1]; decide)
theorem rn3 {w : AW} {i : Nat} {x : Int32} (a a' : Nat) (h : (a' == a) = false) : (am_set w 3 a i x).1 3 a' = w.1 3 a' := am_get_row (Or.inr (by simpa using h))
theorem K3 {w0 w : AW} (h : KX w0 w) {a i : Nat} {x : Int32} : KX w0 (am_set w 3 a i x) := h.set (Or.inl ⟨by decide, by decide⟩)
section EB
/-- when a node has come, and stands at the end: pos bytes are read -/
theorem end_both {pos : Nat} (hpos : pos < 1000) : ∀ (H : Nat) (d : SD) (sg : Nat) (op at_ st lf : Nat → Nat) (wX wM : AW), JM wX wM d H sg op at_ st lf → SI d H sg (pos + 1) op at_ st lf True → (∀ i, i < H → st i = 0 ∨ st i = 2) → 1 ≤ sdM d → sde d (sdM d - 1) = pos + 1 → sdb d (sdM d - 1) = begF at_ st lf (sde d) H → (H = 0 → sdf d (sdM d - 1) = sdP d - 1) → ∀ nX nM, H < nX → H < nM →
    ∃ (d' : SD) (H' : Nat) (st' lf' : Nat → Nat) (wX2 wM2 : AW) (due : Nat), mX1_end_2 5 nX (nI (sdf d (sdM d - 1))) wX = some ((), wX2) ∧ (∀ k17 v1, mX6_reads_296 k17 v1 (nI pos) nM (nI H) (nI (sdM d - 1)) wM = k17 v1 (nI H') (nI (bN (decide (H' = 0)))) (nI 0) (nI (pos + 1)) wM2) ∧ KX wX wX2 ∧ KM wM wM2 ∧ wX2.1 3 0 5 = nI due ∧ JM wX2 wM2 d' H' sg op at_ st' lf' ∧ SI d' H' sg (pos + 1) op at_ st' lf' (due ≠ 1) ∧ sdy d' = sdy d ∧ sdZ d' = sdZ d ∧ 1 ≤ sdM d' ∧
      ((due = 3 ∧ H' = 0 ∧ sdb d' (sdM d' - 1) = 0 ∧ sde d' (sdM d' - 1) = pos + 1 ∧ sdf d' (sdM d' - 1) = sdP d' - 1) ∨ (due = 1 ∧ 0 < H' ∧ st' (H' - 1) = 1 ∧ sde d' (lf' (H' - 1)) = pos + 1) ∨ (due = 2 ∧ 0 < H' ∧ st' (H' - 1) = 3 ∧ sdb d' (sdM d' - 1) = sde d' (lf' (H' - 1)) + 1 ∧ sde d' (sdM d' - 1) = pos + 1)) := by
  intro H
  induction H with
  | zero =>
    intro d sg op at_ st lf wX wM hJ hI hst hM he hb hroot nX nM hX hMn
    obtain ⟨n, rfl⟩ : ∃ m, nX = m + 1 := ⟨nX - 1, by omega⟩
    obtain ⟨n2, rfl⟩ : ∃ m, nM = m + 1 := ⟨nM - 1, by omega⟩
    obtain ⟨j1, j2, j3, j4, j5, j6⟩ := hJ
    refine ⟨d, 0, st, lf, am_set wX 3 0 5 (nI 3), wM, 3, ?_, fun k17 v1 => ?_, K3 (KX.rf _), KM.rf _, am_get_self _ _ _ _ _, ⟨⟨?_, ?_, ?_⟩, ?_, ?_, fun i hi => by omega, j5, fun i hi => by omega⟩, ?_, rfl, rfl, hM, Or.inl ⟨rfl, rfl, hb, he, hroot rfl⟩⟩
    · unfold mX1_end_2
      rw [j3, if_pos (show nI 0 ≤ 0 by decide)]
      unfold mX1_end_70
      rw [j3, if_neg (show ¬ (nI 0 ≠ 0) from fun z => z rfl), pu_mk]
      rfl
    · unfold mX6_reads_296
      rw [if_pos (show nI 0 ≤ 0 by decide)]
      unfold mX6_reads_345
      rw [if_neg (show ¬ (nI 0 ≠ 0) from fun z => z rfl)]
      unfold mX6_reads_354
      rw [if_pos (show (1 : Int32) ≠ 0 by decide)]
      unfold mX6_reads_424
      rw [nm_mk, lit, nI_add]
      rfl
    · rw [am_row_ne (by decide)]; exact j1.1
    · rw [am_row_ne (by decide)]; exact j1.2.1
    · rw [am_row_ne (by decide)]; exact j1.2.2
    · rw [am_row_ne (by decide)]; exact j2
    · rw [am_get_other (by decide)]; exact j3
    · obtain ⟨i1, i2, i3, i4, i5, i6, i7, i8, i9, i10, i11, i12, i13⟩ := hI
      exact ⟨i1, i2, i3, i4, i5, i6, i7, i8, i9, i10, i11, i12, fun k hk => by
        obtain ⟨h, h1, h2, h3⟩ := i13 k hk
        refine ⟨h, h1, ?_, h3⟩
        rcases h2 with ⟨i, q, -⟩ | ⟨-, q⟩
        · omega
        · exact Or.inr ⟨by decide, q⟩⟩
  | succ h ih =>
    intro d sg op at_ st lf wX wM hJ hI hst hM he hb hroot nX nM hX hMn
    obtain ⟨n, rfl⟩ : ∃ m, nX = m + 1 := ⟨nX - 1, by omega⟩
    obtain ⟨n2, rfl⟩ : ∃ m, nM = m + 1 := ⟨nM - 1, by omega⟩
    have hJ0 := hJ
    obtain ⟨j1, j2, j3, j4, j5, j6⟩ := hJ
    have hI0 := hI
    obtain ⟨i1, i2, i3, i4, i5, i6, i7, i8, i9, i10, i11, i12, i13⟩ := hI
    have hh : h < 20 := by omega
    obtain ⟨x1, x2, x3, x4⟩ := j4 h (by omega)
    obtain ⟨m1, m2, m3, m4⟩ := j6 h (by omega)
    obtain ⟨t1, t2, t3, t4⟩ := i6 h (by omega)
    have hM40 : sdM d ≤ 40 := by omega
    have hshape := i1.shape
    have hcls := i2.cls
    have hPM := P_le_M hcls
    have gz : ¬ nI (h + 1) ≤ 0 := nI_ge (a := 0) (by omega) (by omega)
    have gnz : nI (h + 1) ≠ 0 := ne_nI (b := 0) (by omega) (by decide) (by omega)
    have es : nI (h + 1) - 1 = nI h := pk_sub (a := h + 1) (b := 1) (by omega)
    have eadd : nI (h + 1) + (-1) = nI h := pk_m1 h
    have hop : op h < 128 := by
      rcases i4 h (by omega) with ⟨g, -⟩ | ⟨g, -⟩ | ⟨g, -⟩
      · exact kinds_lt (Or.inr (Or.inl g))
      · omega
      · exact kinds_lt (Or.inr (Or.inr g))
    have exA : mX5_at 3 1 (nI h) wX = some (nI (op h), wX) := by rw [at3 (by decide) (by decide) hh, x1]
    have mrd : ∀ (a : Nat) (W : AW) (f : Int32 → Option (Int32 × AW)), rd 20 (W.1 0 a) (nI h) f = f (W.1 0 a h) := fun a W f => rd_in hh (by decide) _ f
    have hbeg : begF at_ st lf (sde d) (h + 1) = nbF at_ st lf (sde d) h := by
      unfold begF
      rw [if_neg (by omega), Nat.add_sub_cancel]
    rw [hbeg] at hb
    have hn1 : sdM d - 1 < sdM d := by omega
    rcases i4 h (by omega) with ⟨g, g1⟩ | ⟨g, g1⟩ | ⟨g, g1⟩
    · -- a prefix: it ends here too
      have hpb : preB (op h) = true := decide_eq_true g
      have hat : at_ h + 1 = sdb d (sdM d - 1) := by
        rw [hb]
        unfold nbF
        rw [if_pos g1]
      have hnode : NodeIs (sdM d) (op h) (sdM d - 1) 0 (at_ h) (pos + 1) (sdb d) (sde d) (sdy d) := Or.inr (Or.inl ⟨g, hn1, rfl, he.symm, hat.symm, t1 g⟩)
      -- the class's part
      have hD1 : DraftX (am_set wX 3 0 4 (nI h)) (sdM d) (sdP d) (sdc d) (sdl d) (sdr d) (sdf d) (sdp d) (sdd d) := by
        unfold DraftX
        rw [am_row_ne (by decide)]
        exact j1
      obtain ⟨P', ph', pl', dp', w2, f1, f2, f3, f4, f5, f6⟩ := X_part (cc := op h) (lm := sdM d - 1) (rm := 0) (pb := at_ h) (f := nI (sdf d (sdM d - 1))) (s := -nI 1) hD1 hcls hshape (by omega) (Or.inr (Or.inl g)) (fun _ => hn1) (fun z => absurd z (by rw [kd_pre g]; decide)) (dp_small hshape i2 (by omega)) ⟨by rw [kd_pre g]; rfl, by rw [kd_pre g]; rfl⟩
      have hPA := part_add i1 i2 hnode (fun k hk => i3 k hk) f3
      have hT' := tree_add i1 hnode
      have mcl := M_part (w := wM) (cc := op h) (lm := sdM d - 1) (rm := 0) (bm := at_ h) (em := pos + 1) j5.1 (by
        have e1 : cntO op (h + 1) = cntO op h + 1 := by
          show cntO op h + (if op h = 40 then 0 else 1) = _
          rw [if_neg (by unfold isPre at g; omega)]
        omega)
      have e40 : cntO op (h + 1) = cntO op h + 1 := by
        show cntO op h + (if op h = 40 then 0 else 1) = _
        rw [if_neg (by unfold isPre at g; omega)]
      have nbS : ∀ i, i < h → nbF at_ st lf (ex1 (sde d) (sdM d) (pos + 1)) i = nbF at_ st lf (sde d) i := fun i hi => by
        unfold nbF
        by_cases z : st i = 0
        · rw [if_pos z, if_pos z]
        · rw [if_neg z, if_neg z, ex1_lt ((i6 i (by omega)).2.2.1 z).1]
      have nb1 : ∀ i, 1 ≤ nbF at_ st lf (sde d) i := fun i => by
        unfold nbF
        split <;> omega
      have atb : at_ h = begF at_ st lf (ex1 (sde d) (sdM d) (pos + 1)) h := by
        unfold begF
        by_cases z : h = 0
        · subst z
          rw [if_pos rfl]
          exact i7 (by omega)
        · rw [if_neg z, nbS _ (by omega)]
          have := i8 (h - 1) (by omega)
          rw [show h - 1 + 1 = h by omega] at this
          exact this
      have hJ' : JM w2 (ndW wM (sdM d) (op h) (sdM d - 1) 0 (at_ h) (pos + 1)) (addD d (op h) (sdM d - 1) 0 (at_ h) (pos + 1) P' ph' pl' dp') h sg op at_ st lf := by
        refine ⟨f2, ?_, ?_, fun i hi => ?_, ndW_N j5, fun i hi => ?_⟩
        · rw [f6, am_row_ne (by decide)]; exact j2
        · rw [f5 3 0 (by decide), am_get_self]
        · obtain ⟨y1, y2, y3, y4⟩ := j4 i (by omega)
          rw [f5 3 1 (by decide), f5 3 2 (by decide), f5 3 3 (by decide), f5 3 4 (by decide), rn3 0 1 rfl, rn3 0 2 rfl, rn3 0 3 rfl, rn3 0 4 rfl]
          refine ⟨y1, y2, ?_, fun z => ?_⟩
          · rw [y3]
            by_cases z : st i = 0
            · rw [if_pos z, if_pos z]
            · rw [if_neg z, if_neg z]
              show nI (sdf d (lf i)) = nI (ph' (lf i))
              rw [f3.2.1 _ ((i6 i (by omega)).2.2.1 z).1]
          · rcases i5 i (by omega) with q | q
            · omega
            · omega
        · obtain ⟨y1, y2, y3, y4⟩ := j6 i (by omega)
          rw [ndW_row (by decide), ndW_row (by decide), ndW_row (by decide), ndW_row (by decide)]
          exact ⟨y1, y2, y3, y4⟩
      have hI' : SI (addD d (op h) (sdM d - 1) 0 (at_ h) (pos + 1) P' ph' pl' dp') h sg (pos + 1) op at_ st lf True := by
        refine ⟨hT', hPA.1, fun k hk => ?_, fun i hi => i4 i (by omega), fun i hi => i5 i (by omega), fun i hi => ?_, fun hz => i7 (by omega), fun i hi => ?_, ?_, i10, by omega, fun hz k hk => ?_, fun k hk => ?_⟩
        · show ex1 (sde d) (sdM d) (pos + 1) k ≤ pos + 1
          by_cases q : k = sdM d
          · rw [q, ex1_s]; exact Nat.le_refl _
          · rw [ex1_o q]
            have hk' : k < sdM d + 1 := hk
            exact i3 k (by omega)
        · obtain ⟨y1, y2, y3, y4⟩ := i6 i (by omega)
          refine ⟨y1, y2, fun z => ?_, fun z => ?_⟩
          · obtain ⟨z1, z2⟩ := y3 z
            refine ⟨Nat.lt_succ_of_lt z1, ?_⟩
            show ex1 (sdb d) (sdM d) (at_ h) (lf i) = _
            rw [ex1_lt z1]
            exact z2
          · show sdy d (ex1 (sde d) (sdM d) (pos + 1) (lf i)) = _
            rw [ex1_lt (y3 (by omega)).1]
            exact y4 z
        · show _ = nbF at_ st lf (ex1 (sde d) (sdM d) (pos + 1)) i
          rw [nbS i (by omega)]
          exact i8 i (by omega)
        · show sg = sdM d + 1 + cntO op h
          omega
        · show 1 ≤ ex1 (sdb d) (sdM d) (at_ h) k
          by_cases q : k = sdM d
          · rw [q, ex1_s]
            have := i8 (h - 1) (by omega)
            rw [show h - 1 + 1 = h by omega] at this
            rw [this]
            exact nb1 _
          · rw [ex1_o q]
            have hk' : k < sdM d + 1 := hk
            exact i12 (by omega) k (by omega)
        · have hk' : k < sdM d + 1 := hk
          have hnew : sdd d (sdf d (sdM d - 1)) ≤ dp' (ph' (sdM d)) := by
            have := (hPA.1.2.2.2.2.2.2 (sdM d) (Nat.lt_succ_self _)).2.1 (by rw [ex1_s]; exact g)
            rw [ex1_s, f3.2.1 _ hn1, (f3.2.2.1 _ (hcls.1 _ hn1)).2] at this
            rw [this]
            exact Nat.le_add_right _ _
          by_cases q : k = sdM d
          · exact ⟨sdM d, Nat.lt_succ_self _, Or.inr ⟨trivial, rfl⟩, by rw [q]; exact Nat.le_refl _⟩
          · have hk2 : k < sdM d := by omega
            obtain ⟨a, a1, a2, a3⟩ := i13 k hk2
            have ek : dp' (ph' k) = sdd d (sdf d k) := by rw [f3.2.1 _ hk2, (f3.2.2.1 _ (hcls.1 _ hk2)).2]
            rcases a2 with ⟨i, z1, z2, z3⟩ | ⟨-, z⟩
            · refine ⟨a, Nat.lt_succ_of_lt a1, Or.inl ⟨i, ?_, z2, z3⟩, ?_⟩
              · have : i ≠ h := fun q2 => by subst q2; exact z2 g1
                omega
              · show dp' (ph' k) ≤ dp' (ph' a)
                rw [ek, f3.2.1 _ a1, (f3.2.2.1 _ (hcls.1 _ a1)).2]
                exact a3
            · refine ⟨sdM d, Nat.lt_succ_self _, Or.inr ⟨trivial, rfl⟩, ?_⟩
              show dp' (ph' k) ≤ dp' (ph' (sdM d))
              rw [ek]
              have : a = sdM d - 1 := by omega
              rw [this] at a3
              exact Nat.le_trans a3 hnew
      obtain ⟨d2, H2, st2, lf2, wX3, wM3, due, r1, r2, r3, r4, r5, r6, r7, r8, r9, r10, r11⟩ := ih (addD d (op h) (sdM d - 1) 0 (at_ h) (pos + 1) P' ph' pl' dp') sg op at_ st lf w2 (ndW wM (sdM d) (op h) (sdM d - 1) 0 (at_ h) (pos + 1)) hJ' hI' (fun i hi => hst i (by omega)) (Nat.le_add_left 1 _) (by
        show ex1 (sde d) (sdM d) (pos + 1) (sdM d + 1 - 1) = pos + 1
        rw [Nat.add_sub_cancel, ex1_s]) (by
        show ex1 (sdb d) (sdM d) (at_ h) (sdM d + 1 - 1) = begF at_ st lf (ex1 (sde d) (sdM d) (pos + 1)) h
        rw [Nat.add_sub_cancel, ex1_s]
        exact atb) (fun hz => by
        show ph' (sdM d + 1 - 1) = P' - 1
        rw [Nat.add_sub_cancel]
        exact hPA.2 (i12 (by omega)) (by subst hz; exact i7 (by omega))) n n2 (by omega) (by omega)
      refine ⟨d2, H2, st2, lf2, wX3, wM3, due, ?_, fun k17 v1 => ?_, ((K3 (KX.rf wX)).tr f4).tr r3, ndW_K.tr r4, r5, r6, r7, r8, r9, r10, r11⟩
      · unfold mX1_end_2
        rw [j3, if_neg gz, es, exA, cl_mk, X_isPre _ (by omega), cl_mk, hpb, bN_t, if_neg (show ¬ (nI 1 = 0) by decide), j3, es, pu_mk, am_get_self, at3 (by decide) (by decide) hh, cl_mk, rn3 0 1 rfl, x1, am_get_self, at3 (by decide) (by decide) hh, cl_mk, rn3 0 2 rfl, x2]
        have f1' : mX2_part 5 (nI (op h)) (nI (sdf d (sdM d - 1))) (-1) (nI (at_ h)) (am_set wX 3 0 4 (nI h)) = some (nI (ph' (sdM d)), w2) := f1
        rw [f1', cl_mk]
        have r1' : mX1_end_2 5 n (nI (ph' (sdM d + 1 - 1))) w2 = some ((), wX3) := r1
        rw [Nat.add_sub_cancel] at r1'
        exact r1'
      · unfold mX6_reads_296
        rw [if_neg gz, es, mrd, m1, M_isPre _ (by omega), cl_mk, hpb, bN_t, if_neg (show ¬ (nI 1 = 0) by decide), eadd, nm_mk, mrd, m1, mrd, m2]
        have e3 : nI pos + 1 = nI (pos + 1) := nI_add pos 1
        have mcl' : mX6_part (nI (op h)) (nI (sdM d - 1)) 0 (nI (at_ h)) (nI (pos + 1)) wM = some (nI (sdM d), ndW wM (sdM d) (op h) (sdM d - 1) 0 (at_ h) (pos + 1)) := mcl
        rw [e3, mcl', cl_mk]
        have r2' := r2 k17 v1
        exact r2'
    · -- the first of two
      have g0 : st h = 0 := by
        rcases hst h (by omega) with q | q
        · exact q
        · omega
      have hpb : preB (op h) = false := decide_eq_false (by omega)
      have hbat : sdb d (sdM d - 1) = at_ h + 1 := by
        rw [hb]
        unfold nbF
        rw [if_pos g0]
      have x3' : mX5_at 3 3 (nI h) wX = some (-1, wX) := by
        rw [at3 (by decide) (by decide) hh, x3, if_pos g0]
        rfl
      refine ⟨d, h + 1, ex1 st h 1, ex1 lf h (sdM d - 1), am_set (am_set wX 3 3 h (nI (sdf d (sdM d - 1)))) 3 0 5 (nI 1), am_set (am_set wM 0 25 h (nI (sdM d - 1))) 0 26 h (nI 1), 1, ?_, fun k17 v1 => ?_, K3 (K3 (KX.rf _)), ((KM.rf _).set (Or.inl (by decide))).set (Or.inl (by decide)), am_get_self _ _ _ _ _, ⟨?_, ?_, ?_, fun i hi => ?_, ⟨?_, fun k hk => ?_⟩, fun i hi => ?_⟩, ⟨i1, i2, i3, fun i hi => ?_, fun i hi => ?_, fun i hi => ?_, i7, fun i hi => ?_, i9, i10, i11, i12, fun k hk => ?_⟩, rfl, rfl, hM, Or.inr (Or.inl ⟨rfl, by omega, ?_, ?_⟩)⟩
      · unfold mX1_end_2
        rw [j3, if_neg gz, es, exA, cl_mk, X_isPre _ (by omega), cl_mk, hpb, bN_f, if_pos (show nI 0 = 0 from rfl)]
        unfold mX1_end_70
        rw [j3, if_pos gnz, es, x3', cl_mk, if_neg (show ¬ ((-1 : Int32) ≠ -1) from fun z => z rfl), j3, es, put3 (by decide) (by decide) hh, cl_mk, pu_mk]
        rfl
      · unfold mX6_reads_296
        rw [if_neg gz, es, mrd, m1, M_isPre _ (by omega), cl_mk, hpb, bN_f, if_pos (show nI 0 = 0 from rfl)]
        unfold mX6_reads_345
        rw [if_pos gnz]
        unfold mX6_reads_354
        rw [if_neg (show ¬ ((0 : Int32) ≠ 0) from fun z => z rfl), es, mrd, m3, g0, if_neg (show ¬ (nI 0 ≠ 0) from fun z => z rfl)]
        unfold mX6_reads_378
        rw [if_neg (show ¬ ((1 : Int32) = 0) by decide), es]
        unfold mX6_reads_405
        rw [wr_in hh (by decide), if_neg (show ¬ ((1 : Int32) = 0) by decide), es]
        unfold mX6_reads_423
        rw [wr_in hh (by decide)]
        unfold mX6_reads_424
        rw [nm_mk, show nI pos + 1 = nI (pos + 1) from nI_add pos 1, decide_eq_false (by omega)]
        rfl
      · unfold DraftX
        rw [am_row_ne (by decide), am_row_ne (by decide)]
        exact j1
      · rw [am_row_ne (by decide), am_row_ne (by decide)]; exact j2
      · rw [am_get_other (by decide), rn3 3 0 rfl]; exact j3
      · obtain ⟨y1, y2, y3, y4⟩ := j4 i (by omega)
        rw [rn3 0 1 rfl, rn3 0 2 rfl, rn3 0 3 rfl, rn3 0 4 rfl, rn3 3 1 rfl, rn3 3 2 rfl, rn3 3 4 rfl]
        refine ⟨y1, y2, ?_, fun z => ?_⟩
        · by_cases q : i = h
          · subst q
            rw [am_get_self, ex1_s, ex1_s]
            rfl
          · rw [am_get_other q, y3, ex1_o q, ex1_o q]
        · by_cases q : i = h
          · subst q; rw [ex1_s] at z; omega
          · rw [ex1_o q] at z; exact y4 z
      · rw [rn 26 0 rfl, rn 25 0 rfl]; exact j5.1
      · rw [rn 26 18 rfl, rn 25 18 rfl, rn 26 19 rfl, rn 25 19 rfl, rn 26 20 rfl, rn 25 20 rfl, rn 26 21 rfl, rn 25 21 rfl, rn 26 22 rfl, rn 25 22 rfl]
        exact j5.2 k hk
      · obtain ⟨y1, y2, y3, y4⟩ := j6 i (by omega)
        rw [rn 26 23 rfl, rn 25 23 rfl, rn 26 24 rfl, rn 25 24 rfl, rn 26 25 rfl]
        refine ⟨y1, y2, ?_, fun z => ?_⟩
        · by_cases q : i = h
          · subst q; rw [am_get_self, ex1_s]
          · rw [am_get_other q, rn 25 26 rfl, ex1_o q]; exact y3
        · by_cases q : i = h
          · subst q; rw [am_get_self, ex1_s]
          · rw [am_get_other q, ex1_o q]
            rw [ex1_o q] at z
            exact y4 z
      · by_cases q : i = h
        · subst q; rw [ex1_s]; exact Or.inr (Or.inl ⟨g, Or.inr rfl⟩)
        · rw [ex1_o q]; exact i4 i hi
      · rw [ex1_o (show i ≠ h by omega)]; exact i5 i hi
      · obtain ⟨y1, y2, y3, y4⟩ := i6 i hi
        by_cases q : i = h
        · subst q
          rw [ex1_s, ex1_s]
          exact ⟨y1, y2, fun _ => ⟨hn1, hbat⟩, fun z => by omega⟩
        · rw [ex1_o q, ex1_o q]
          exact ⟨y1, y2, y3, y4⟩
      · unfold nbF
        rw [ex1_o (show i ≠ h by omega), ex1_o (show i ≠ h by omega)]
        exact i8 i hi
      · obtain ⟨a, a1, a2, a3⟩ := i13 k hk
        refine ⟨a, a1, ?_, a3⟩
        rcases a2 with ⟨i, z1, z2, z3⟩ | ⟨-, z⟩
        · have q : i ≠ h := fun q2 => by subst q2; exact z2 g0
          exact Or.inl ⟨i, z1, by rw [ex1_o q]; exact z2, by rw [ex1_o q]; exact z3⟩
        · exact Or.inl ⟨h, by omega, by rw [ex1_s]; decide, by rw [ex1_s]; omega⟩
      · rw [Nat.add_sub_cancel, ex1_s]
      · rw [Nat.add_sub_cancel, ex1_s]; exact he
    · -- the second of two
      have g0 : st h = 2 := by
        rcases hst h (by omega) with q | q
        · omega
        · exact q
      have hpb : preB (op h) = false := decide_eq_false (by unfold isJn at g; omega)
      obtain ⟨t5, t6⟩ := t3 (by omega)
      have hbat : sdb d (sdM d - 1) = sde d (lf h) + 1 := by
        rw [hb]
        unfold nbF
        rw [if_neg (by omega)]
      have hlfp := hcls.1 _ t5
      have x3' : mX5_at 3 3 (nI h) wX = some (nI (sdf d (lf h)), wX) := by
        rw [at3 (by decide) (by decide) hh, x3, if_neg (by omega)]
      have m1ne : nI (sdf d (lf h)) ≠ -1 := fun z => by
        have := nI_pos (show sdf d (lf h) < 2 ^ 31 by omega)
        rw [z] at this
        exact this (by decide)
      refine ⟨d, h + 1, ex1 st h 3, lf, am_set (am_set wX 3 4 h (nI (sdf d (sdM d - 1)))) 3 0 5 (nI 2), am_set (am_set wM 0 25 h (nI (lf h))) 0 26 h (nI 3), 2, ?_, fun k17 v1 => ?_, K3 (K3 (KX.rf _)), ((KM.rf _).set (Or.inl (by decide))).set (Or.inl (by decide)), am_get_self _ _ _ _ _, ⟨?_, ?_, ?_, fun i hi => ?_, ⟨?_, fun k hk => ?_⟩, fun i hi => ?_⟩, ⟨i1, i2, i3, fun i hi => ?_, fun i hi => ?_, fun i hi => ?_, i7, fun i hi => ?_, i9, i10, i11, i12, fun k hk => ?_⟩, rfl, rfl, hM, Or.inr (Or.inr ⟨rfl, by omega, ?_, ?_, he⟩)⟩
      · unfold mX1_end_2
        rw [j3, if_neg gz, es, exA, cl_mk, X_isPre _ (by omega), cl_mk, hpb, bN_f, if_pos (show nI 0 = 0 from rfl)]
        unfold mX1_end_70
        rw [j3, if_pos gnz, es, x3', cl_mk, if_pos m1ne, j3, es, put3 (by decide) (by decide) hh, cl_mk, pu_mk]
        rfl
      · unfold mX6_reads_296
        rw [if_neg gz, es, mrd, m1, M_isPre _ (by omega), cl_mk, hpb, bN_f, if_pos (show nI 0 = 0 from rfl)]
        unfold mX6_reads_345
        rw [if_pos gnz]
        unfold mX6_reads_354
        rw [if_neg (show ¬ ((0 : Int32) ≠ 0) from fun z => z rfl), es, mrd, m3, g0, if_pos (show nI 2 ≠ 0 by decide)]
        unfold mX6_reads_378
        rw [if_pos (show (0 : Int32) = 0 from rfl), es, mrd, m4 (by omega)]
        unfold mX6_reads_405
        rw [wr_in hh (by decide), if_pos (show (0 : Int32) = 0 from rfl), es]
        unfold mX6_reads_423
        rw [wr_in hh (by decide)]
        unfold mX6_reads_424
        rw [nm_mk, show nI pos + 1 = nI (pos + 1) from nI_add pos 1, decide_eq_false (by omega)]
        rfl
      · unfold DraftX
        rw [am_row_ne (by decide), am_row_ne (by decide)]
        exact j1
      · rw [am_row_ne (by decide), am_row_ne (by decide)]; exact j2
      · rw [am_get_other (by decide), rn3 4 0 rfl]; exact j3
      · obtain ⟨y1, y2, y3, y4⟩ := j4 i (by omega)
        rw [rn3 0 1 rfl, rn3 0 2 rfl, rn3 0 3 rfl, rn3 0 4 rfl, rn3 4 1 rfl, rn3 4 2 rfl, rn3 4 3 rfl]
        refine ⟨y1, y2, ?_, fun z => ?_⟩
        · by_cases q : i = h
          · subst q
            rw [y3, ex1_s, if_neg (by omega), if_neg (by decide)]
          · rw [y3, ex1_o q]
        · by_cases q : i = h
          · subst q; exact am_get_self _ _ _ _ _
          · rw [ex1_o q] at z
            rw [am_get_other q]
            exact y4 z
      · rw [rn 26 0 rfl, rn 25 0 rfl]; exact j5.1
      · rw [rn 26 18 rfl, rn 25 18 rfl, rn 26 19 rfl, rn 25 19 rfl, rn 26 20 rfl, rn 25 20 rfl, rn 26 21 rfl, rn 25 21 rfl, rn 26 22 rfl, rn 25 22 rfl]
        exact j5.2 k hk
      · obtain ⟨y1, y2, y3, y4⟩ := j6 i (by omega)
        rw [rn 26 23 rfl, rn 25 23 rfl, rn 26 24 rfl, rn 25 24 rfl, rn 26 25 rfl]
        refine ⟨y1, y2, ?_, fun z => ?_⟩
        · by_cases q : i = h
          · subst q; rw [am_get_self, ex1_s]
          · rw [am_get_other q, rn 25 26 rfl, ex1_o q]; exact y3
        · by_cases q : i = h
          · subst q; rw [am_get_self]
          · rw [am_get_other q]
            rw [ex1_o q] at z
            exact y4 z
      · by_cases q : i = h
        · subst q; rw [ex1_s]; exact Or.inr (Or.inr ⟨g, Or.inr rfl⟩)
        · rw [ex1_o q]; exact i4 i hi
      · rw [ex1_o (show i ≠ h by omega)]; exact i5 i hi
      · obtain ⟨y1, y2, y3, y4⟩ := i6 i hi
        by_cases q : i = h
        · subst q
          rw [ex1_s]
          exact ⟨y1, y2, fun _ => y3 (by omega), fun _ => y4 (by omega)⟩
        · rw [ex1_o q]
          exact ⟨y1, y2, y3, y4⟩
      · unfold nbF
        rw [ex1_o (show i ≠ h by omega)]
        exact i8 i hi
      · obtain ⟨a, a1, a2, a3⟩ := i13 k hk
        refine ⟨a, a1, ?_, a3⟩
        rcases a2 with ⟨i, z1, z2, z3⟩ | ⟨-, z⟩
        · by_cases q : i = h
          · subst q
            exact Or.inl ⟨i, z1, by rw [ex1_s]; decide, z3⟩
          · exact Or.inl ⟨i, z1, by rw [ex1_o q]; exact z2, z3⟩
        · exact Or.inr ⟨by decide, z⟩
      · rw [Nat.add_sub_cancel, ex1_s]
      · rw [Nat.add_sub_cancel]; exact hbat
end EB
