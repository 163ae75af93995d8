
theorem am_mem {i : Nat} {w : Cond} (h : lw_tbl[i]? = some w) (g : goodWord w = true) : w ∈ am_AWS := List.mem_filter.mpr ⟨List.mem_of_getElem? h, g⟩
theorem am_good : ∀ w ∈ am_AWS, (w.onTables && w.keeps) = true ∨ ∃ ty, w = .arrayClass ty := fun _ h => good_of_word (List.mem_filter.mp h).2
theorem am_cv_cat (ad : Nat → Nat → Nat) (v : AV) : (am_cv ad v).category = am_cat v := by
  rcases v with x | x | x
  · rfl
  · rfl
  · cases x <;> rfl
theorem am_lv_mem {ad : Nat → Nat → Nat} {ls : AL} {i : Nat} {u : Value} : (i, u) ∈ am_lv ad ls ↔ ∃ v, ls[i]? = some (some v) ∧ u = am_cv ad v := by
  unfold am_lv
  rw [List.mem_filterMap]
  constructor
  · rintro ⟨j, hj, h⟩
    split at h
    · rename_i v hv
      cases h
      exact ⟨v, hv, rfl⟩
    · cases h
  · rintro ⟨v, hv, rfl⟩
    refine ⟨i, List.mem_range.mpr (List.getElem?_eq_some_iff.mp hv).1, ?_⟩
    rw [hv]
theorem am_lv_get {ad : Nat → Nat → Nat} {lsA : Array Slot} {n : Nat} {ls : AL} (h : lv_has lsA n (am_lv ad ls)) {i : Nat} {v : AV} (hi : ls[i]? = some (some v)) : lsA[i]? = some (.val (am_cv ad v)) :=
  h.2.2 (i, am_cv ad v) (am_lv_mem.mpr ⟨v, hi, rfl⟩)
theorem am_lv_idx {ad : Nat → Nat → Nat} {ls : AL} {i : Nat} {v : AV} (hi : ls[i]? = some (some v)) : ∃ k : Nat, (am_lv ad ls)[k]? = some (i, am_cv ad v) := List.getElem?_of_mem (am_lv_mem.mpr ⟨v, hi, rfl⟩)
theorem am_lv_sub {ad : Nat → Nat → Nat} {lsA : Array Slot} {n : Nat} {l1 l2 : List (Nat × Value)} (h : lv_has lsA n l1) (hs : ∀ q ∈ l2, q ∈ l1) : lv_has lsA n l2 := ⟨h.1, h.2.1, fun q hq => h.2.2 q (hs q hq)⟩
theorem am_lv_set {ad : Nat → Nat → Nat} {lsA : Array Slot} {n i : Nat} {ls : AL} {v : AV} (hn : am_nl ls i = true)
    (h : lv_has lsA n ((i, am_cv ad v) :: (am_lv ad ls).filter (fun q => !(q.1 == i) && !(q.1 + 1 == i && q.2.category == 2)))) : lv_has lsA n (am_lv ad (ls.set i (some v))) := by
  refine am_lv_sub (ad := ad) h ?_
  rintro ⟨j, u⟩ hq
  obtain ⟨x, hx, rfl⟩ := am_lv_mem.mp hq
  by_cases hji : i = j
  · subst hji
    rw [List.getElem?_set_self (by have := (List.getElem?_eq_some_iff.mp hx).1; simpa using this)] at hx
    cases hx
    exact List.mem_cons_self
  · rw [List.getElem?_set_ne hji] at hx
    refine List.mem_cons_of_mem _ (List.mem_filter.mpr ⟨am_lv_mem.mpr ⟨x, hx, rfl⟩, ?_⟩)
    have e1 : (j == i) = false := by simpa using fun e => hji e.symm
    simp only [e1, Bool.not_false, Bool.true_and, Bool.not_eq_true', Bool.and_eq_false_iff]
    by_cases hj1 : j + 1 = i
    · right
      subst hj1
      rcases x with x | x | x
      · rfl
      · simp only [am_nl, hx] at hn
        exact absurd hn (by decide)
      · cases x <;> rfl
    · left
      simpa using hj1
theorem am_msk_get : ∀ (bs : List Bool) (ls : AL) (i : Nat) (v : AV), (am_msk bs ls)[i]? = some (some v) → ls[i]? = some (some v)
  | [], _, i, v, h => by simp [am_msk] at h
  | _ :: _, [], i, v, h => by simp [am_msk] at h
  | b :: bs, x :: ls, 0, v, h => by
    cases b
    · simp [am_msk] at h
    · simpa [am_msk] using h
  | b :: bs, x :: ls, i + 1, v, h => by
    simp only [am_msk, List.getElem?_cons_succ] at h ⊢
    exact am_msk_get bs ls i v h
theorem am_ent_get (ad : Nat → Nat → Nat) : ∀ (args : List AV) (o i : Nat) (v : AV), (am_ent args)[i]? = some (some v) → (o + i, am_cv ad v) ∈ lv_args o (args.map (am_cv ad))
  | [], o, i, v, h => by simp [am_ent] at h
  | a :: as, o, i, v, h => by
    have key : ∀ (i : Nat), am_cat a = 1 → (some a :: am_ent as)[i]? = some (some v) → (o + i, am_cv ad v) ∈ lv_args o ((a :: as).map (am_cv ad)) := by
      intro i hc h
      simp only [List.map_cons, lv_args, am_cv_cat, hc]
      cases i with
      | zero => simp at h; subst h; exact List.mem_cons_self
      | succ i =>
        refine List.mem_cons_of_mem _ ?_
        have := am_ent_get ad as (o + 1) i v (by simpa using h)
        rw [show o + (i + 1) = o + 1 + i by omega]
        simpa using this
    rcases a with x | x | x
    · exact key i rfl h
    · simp only [am_ent] at h
      simp only [List.map_cons, lv_args, am_cv_cat, am_cat]
      cases i with
      | zero => simp at h; subst h; exact List.mem_cons_self
      | succ i =>
        cases i with
        | zero => simp at h
        | succ i =>
          refine List.mem_cons_of_mem _ ?_
          have := am_ent_get ad as (o + 2) i v (by simpa using h)
          rw [show o + (i + 1 + 1) = o + 2 + i by omega]
          simpa using this
    · exact key i rfl h
theorem am_pad_get {ls : AL} {k i : Nat} {v : AV} (h : (ls ++ List.replicate k none)[i]? = some (some v)) : ls[i]? = some (some v) := by
  by_cases hi : i < ls.length
  · rwa [List.getElem?_append_left hi] at h
  · rw [List.getElem?_append_right (by omega), List.getElem?_replicate] at h
    split at h <;> simp at h
/-! cells -/
theorem am_cls_out {sd : Bool} {o : Nat} (h : 12 ≤ o) : am_cls sd o = 99 := by
  unfold am_cls
  rw [List.getD_eq_getElem?_getD, List.getElem?_eq_none]
  · rfl
  · cases sd
    · exact h
    · exact Nat.le_trans (by decide) h
theorem am_fk_out (ci k : Nat) (h : 50 ≤ k) : am_fk ci k = (9, 0) := by
  unfold am_fk
  have hl : (am_fkT.getD ci []).length ≤ 50 := by
    by_cases hc : ci < 7
    · have : ∀ c, c < 7 → (am_fkT.getD c []).length ≤ 50 := by decide +kernel
      exact this ci hc
    · rw [List.getD_eq_getElem?_getD, List.getElem?_eq_none (by show (7 : Nat) ≤ ci; omega)]
      exact Nat.zero_le _
  rw [List.getD_eq_getElem?_getD, List.getElem?_eq_none (by omega)]
  rfl
theorem am_cell_o {sd : Bool} {o : Nat} (h : am_cls sd o < 7) : (o, 0) ∈ am_cells sd := by
  have ho : o < 12 := by
    rcases Nat.lt_or_ge o 12 with q | q
    · exact q
    · rw [am_cls_out q] at h; exact absurd h (by decide)
  have : ∀ sd, ∀ o, o < 12 → am_cls sd o < 7 → (o, 0) ∈ am_cells sd := by decide +kernel
  exact this sd o ho h
theorem am_cell_a {sd : Bool} {o a : Nat} (h : (am_aK sd o a == 2 || am_aK sd o a == 4 || am_aK sd o a == 5) = true) : (o, a) ∈ am_cells sd := by
  have ho : o < 12 := by
    rcases Nat.lt_or_ge o 12 with q | q
    · exact q
    · exfalso
      unfold am_aK at h
      rw [am_cls_out q] at h
      cases a with
      | zero => exact absurd h (by decide)
      | succ j =>
        have e : am_fk 99 j = (9, 0) := rfl
        simp only [e] at h
        exact absurd h (by decide)
  have ha : a < 51 := by
    rcases Nat.lt_or_ge a 51 with q | q
    · exact q
    · exfalso
      cases a with
      | zero => omega
      | succ j =>
        unfold am_aK at h
        simp only [am_fk_out _ j (by omega)] at h
        exact absurd h (by decide)
  have h2 : ∀ sd, ((List.range 12).all fun o => (List.range 51).all fun a => (!(am_aK sd o a == 2 || am_aK sd o a == 4 || am_aK sd o a == 5)) || (am_cells sd).contains (o, a)) = true := by decide +kernel
  have h3 := List.all_eq_true.mp (List.all_eq_true.mp (h2 sd) o (List.mem_range.mpr ho)) a (List.mem_range.mpr ha)
  rw [h] at h3
  simpa using h3
theorem am_cells_nd (sd : Bool) : (am_cells sd).Nodup := by
  cases sd <;> decide +kernel
theorem am_cells_12 {sd : Bool} {o a : Nat} (h : (o, a) ∈ am_cells sd) : o < 12 := by
  have : ∀ sd, ∀ q ∈ am_cells sd, q.1 < 12 := by decide +kernel
  exact this sd _ h
theorem am_cw_at {cy : ClassId × ClassId × ClassId} {sd : Bool} {ad : Nat → Nat → Nat} {w : AW} {o a : Nat} (h : (o, a) ∈ am_cells sd) : ∃ q0 : Nat, (am_cells sd)[q0]? = some (o, a) ∧ (am_cw cy sd ad w)[q0]? = some (ad o a, am_ce cy sd ad w o a) := by
  obtain ⟨q0, h0⟩ := List.getElem?_of_mem h
  exact ⟨q0, h0, by unfold am_cw; rw [List.getElem?_map, h0]; rfl⟩
theorem am_cw_set {cy : ClassId × ClassId × ClassId} {sd : Bool} {ad : Nat → Nat → Nat} {w w' : AW} {o a q0 : Nat} {e : va_E} (h : (am_cells sd)[q0]? = some (o, a)) (he : am_ce cy sd ad w' o a = e)
    (hne : ∀ o' a', (o', a') ∈ am_cells sd → (o', a') ≠ (o, a) → am_ce cy sd ad w' o' a' = am_ce cy sd ad w o' a') : (am_cw cy sd ad w).set q0 (ad o a, e) = am_cw cy sd ad w' := by
  apply List.ext_getElem?
  intro j
  have hlt : q0 < (am_cells sd).length := (List.getElem?_eq_some_iff.mp h).1
  by_cases hj : q0 = j
  · subst hj
    rw [List.getElem?_set_self (by unfold am_cw; rw [List.length_map]; exact hlt)]
    unfold am_cw
    rw [List.getElem?_map, h, ← he]
    rfl
  · rw [List.getElem?_set_ne hj]
    unfold am_cw
    rw [List.getElem?_map, List.getElem?_map]
    cases hq : (am_cells sd)[j]? with
    | none => rfl
    | some q =>
      obtain ⟨o', a'⟩ := q
      have hx : (o', a') ≠ (o, a) := by
        intro e
        have hjl := (List.getElem?_eq_some_iff.mp hq)
        have hql := (List.getElem?_eq_some_iff.mp h)
        exact hj ((List.getElem_inj (am_cells_nd sd)).mp (by rw [hql.2, hjl.2, e]))
      show some (ad o' a', am_ce cy sd ad w o' a') = some (ad o' a', am_ce cy sd ad w' o' a')
      rw [hne o' a' (List.mem_of_getElem? hq) hx]
theorem am_cw_addr {cy : ClassId × ClassId × ClassId} {sd : Bool} {ad : Nat → Nat → Nat} {w : AW} (w' : AW) {k : Nat} {q : Nat × va_E} (h : (am_cw cy sd ad w)[k]? = some q) : ∃ e, (am_cw cy sd ad w')[k]? = some (q.1, e) := by
  unfold am_cw at h ⊢
  rw [List.getElem?_map] at h ⊢
  cases hk : (am_cells sd)[k]? with
  | none => rw [hk] at h; cases h
  | some x =>
    rw [hk] at h
    cases h
    exact ⟨_, rfl⟩
theorem am_D {cy : ClassId × ClassId × ClassId} {sd : Bool} {ad : Nat → Nat → Nat} {w : AW} {A : Nat → Prop} (w' : AW) (h : va_D A (am_cw cy sd ad w)) : va_D A (am_cw cy sd ad w') := by
  refine ⟨fun i j x y hi hj hxy => ?_, fun k q hk => ?_⟩
  · obtain ⟨e1, h1⟩ := am_cw_addr w hi
    obtain ⟨e2, h2⟩ := am_cw_addr w hj
    exact h.1 i j _ _ h1 h2 hxy
  · obtain ⟨e1, h1⟩ := am_cw_addr w hk
    exact h.2 k (q.1, e1) h1
theorem am_A {cy : ClassId × ClassId × ClassId} {sd : Bool} {ad : Nat → Nat → Nat} {w : AW} {A : Nat → Prop} {sz : Nat} (h : va_D A (am_cw cy sd ad w)) (hs : ∀ q, sz ≤ q → A q) : ∀ q, va_A (am_cw cy sd ad w) sz q → A q := by
  intro q hq
  rcases hq with ⟨k, e, hk⟩ | hq
  · exact h.2 k _ hk
  · exact hs q hq
/-! a write of one place -/
theorem am_ce_ne {cy : ClassId × ClassId × ClassId} {sd : Bool} {ad : Nat → Nat → Nat} {w : AW} {o a i : Nat} {x : Int32} (o' a' : Nat) (h : (o', a') ≠ (o, a)) : am_ce cy sd ad (am_set w o a i x) o' a' = am_ce cy sd ad w o' a' := by
  have e : ∀ i', (am_set w o a i x).1 o' a' i' = w.1 o' a' i' := by
    intro i'
    show (if o' = o ∧ a' = a ∧ i' = i then x else w.1 o' a' i') = _
    rw [if_neg]
    rintro ⟨rfl, rfl, -⟩
    exact h rfl
  have e2 : (am_set w o a i x).1 o' a' = w.1 o' a' := funext e
  unfold am_ce
  by_cases h0 : a' = 0
  · subst h0
    rw [if_pos rfl, if_pos rfl]
    have : am_fv ad (am_set w o a i x) (am_cls sd o') o' = am_fv ad w (am_cls sd o') o' := by
      funext k
      unfold am_fv
      rw [e2]
      rfl
    rw [this]
  · rw [if_neg h0, if_neg h0, e2]
theorem am_ce_set {cy : ClassId × ClassId × ClassId} {sd : Bool} {ad : Nat → Nat → Nat} {w : AW} {o a i : Nat} {x : Int32} (h0 : a ≠ 0) : (am_set w o a i x).1 o a = upd (w.1 o a) i x := by
  funext j
  show (if o = o ∧ a = a ∧ j = i then x else w.1 o a j) = (if j = i then x else w.1 o a j)
  by_cases hj : j = i
  · rw [if_pos ⟨rfl, rfl, hj⟩, if_pos hj]
  · rw [if_neg (fun h => hj h.2.2), if_neg hj]
theorem am_ok_set {w : AW} {o a i : Nat} {x : Int32} (ho : o < 12) (h : am_ok w) : am_ok (am_set w o a i x) := by
  unfold am_ok at h ⊢
  rw [← h]
  funext j
  show (if 12 = o ∧ 1 = a ∧ j = i then x else w.1 12 1 j) = _
  rw [if_neg (fun h => by omega)]
theorem am_clT {ci : Nat} {C : String} {T : u_T} {N : Nat} (h : vwCl[ci]? = some (C, T, N)) : ci < 7 ∧ N = am_fn ci := by
  have hl : ci < 7 := (List.getElem?_eq_some_iff.mp h).1
  refine ⟨hl, ?_⟩
  match ci, hl, h with
  | 0, _, h => cases h; rfl
  | 1, _, h => cases h; rfl
  | 2, _, h => cases h; rfl
  | 3, _, h => cases h; rfl
  | 4, _, h => cases h; rfl
  | 5, _, h => cases h; rfl
  | 6, _, h => cases h; rfl
  | n + 7, hl, _ => omega
theorem am_uws0 : ∀ w ∈ u_ws RX0 TX0 3, w ∈ am_AWS := by decide +kernel
theorem am_uws1 : ∀ w ∈ u_ws RX1 TX1 6, w ∈ am_AWS := by decide +kernel
theorem am_uws2 : ∀ w ∈ u_ws RX2 TX2 7, w ∈ am_AWS := by decide +kernel
theorem am_uws3 : ∀ w ∈ u_ws RX3 TX3 14, w ∈ am_AWS := by decide +kernel
theorem am_uws4 : ∀ w ∈ u_ws RX4 TX4 5, w ∈ am_AWS := by decide +kernel
theorem am_uws5 : ∀ w ∈ u_ws RX5 TX5 11, w ∈ am_AWS := by decide +kernel
theorem am_uws6 : ∀ w ∈ u_ws RX6 TX6 50, w ∈ am_AWS := by decide +kernel
/-- what a program knows of a class by its number -/
theorem am_cl {ci : Nat} {C : String} {T : u_T} {N : Nat} (h : vwCl[ci]? = some (C, T, N)) : (∀ w ∈ u_ws C T N, w ∈ am_AWS) ∧ (∃ ty : Nat → FieldType, ∀ k, k < N → parseFieldDescriptor (T k).2.2.1 = some (ty k)) ∧ (∀ a, a < N → ∀ b, b < N → a ≠ b → (T a).2.1 ≠ (T b).2.1) ∧
    (∀ k, k < N → am_fk ci k = (0, 0) → (T k).2.2.2 = false ∧ parseFieldDescriptor (T k).2.2.1 = some .int) ∧ (∀ k, k < N → am_fk ci k = (1, 0) → (T k).2.2.2 = false ∧ parseFieldDescriptor (T k).2.2.1 = some .long) := by
  have hl : ci < 7 := (List.getElem?_eq_some_iff.mp h).1
  match ci, hl, h with
  | 0, _, h => cases h; exact ⟨am_uws0, ⟨tyX0, tyX0_ok⟩, nmX0, by decide +kernel, by decide +kernel⟩
  | 1, _, h => cases h; exact ⟨am_uws1, ⟨tyX1, tyX1_ok⟩, nmX1, by decide +kernel, by decide +kernel⟩
  | 2, _, h => cases h; exact ⟨am_uws2, ⟨tyX2, tyX2_ok⟩, nmX2, by decide +kernel, by decide +kernel⟩
  | 3, _, h => cases h; exact ⟨am_uws3, ⟨tyX3, tyX3_ok⟩, nmX3, by decide +kernel, by decide +kernel⟩
  | 4, _, h => cases h; exact ⟨am_uws4, ⟨tyX4, tyX4_ok⟩, nmX4, by decide +kernel, by decide +kernel⟩
  | 5, _, h => cases h; exact ⟨am_uws5, ⟨tyX5, tyX5_ok⟩, nmX5, by decide +kernel, by decide +kernel⟩
  | 6, _, h => cases h; exact ⟨am_uws6, ⟨tyX6, tyX6_ok⟩, nmX6, by decide +kernel, by decide +kernel⟩
  | n + 7, hl, _ => omega
theorem am_fields {ad : Nat → Nat → Nat} {w : AW} {ci o k : Nat} (h : k < am_fn ci) : ((List.range (am_fn ci)).map (am_fv ad w ci o))[k]? = some (am_fv ad w ci o k) := by
  rw [List.getElem?_map, List.getElem?_range h]
  rfl
theorem am_lone : ∀ sd, ∀ o, o < 12 → ∀ k, k < am_fn (am_cls sd o) → (am_fk (am_cls sd o) k).1 = 1 → o = 0 := by decide +kernel
theorem am_lone1 : ∀ ci, ci < 7 → ∀ k, k < am_fn ci → ∀ j, j < am_fn ci → (am_fk ci k).1 = 1 → (am_fk ci j).1 = 1 → j = k := by decide +kernel
/-- behind a call -/
theorem am_goes {p : Program} {l : Launch} {e : Env} {R : Room} {s : State} {m : MethodId} {args : Array Value} {below : List Frame} {meth : Method} {c : Code} {H : Heap} {locs : List Loc} {kc ks : Nat} {Q : State → Prop} {pc : Nat} {ls : Array Slot} {rest st0 : List Value} {A0 A1 : Nat → Prop} {H0 : Heap} {free : Addr → Prop} {v0 : Option Value} {B : State → Prop} {a : Array Value}
    (hr : va_Run p l e R s m args below meth c H locs kc ks 0 0 (F0 m pc ls st0) rest ((fun (_ : Array Value) (st : State) (oc : Outcome) (t : State) => oc = .returned v0 ∧ B t ∧ va_F A1 st t) a) free) (hS : va_S A0 H0 H locs) (hA : ∀ q, q < H.size → A1 q → A0 q) (hf : ∀ q, free q → A0 q)
    (kk : ∀ (t : State) (locs1 : List Loc), B t → va_S A0 H0 t.heap locs1 → W p l e R s m args below meth c t.heap locs1 kc ks Q (F0 m (pc + 3) ls (v0.toList ++ rest))) : W p l e R s m args below meth c H locs kc ks Q (F0 m pc ls st0) := by
  intro T hT X
  obtain ⟨v, st₀, t, T', L, h0, X', hL, e1, e2, ⟨hv, hb, hz, hk⟩, st⟩ := hr T hT X
  cases hv
  rw [h0] at hz hk
  obtain ⟨t2, a1, b1⟩ := kk t (locs ++ L) hb
    ⟨Nat.le_trans hS.1 hz, fun q h1 h2 => by rw [hk q (Nat.lt_of_lt_of_le h1 hS.1) (fun z => h2 (hA q (Nat.lt_of_lt_of_le h1 hS.1) z))]; exact hS.2.1 q h1 h2, fun q hq => by
      rcases List.mem_append.mp hq with h | h
      · exact hS.2.2 q h
      · exact hf _ (hL q h)⟩ T' e1 X'
  exact ⟨t2, st t2 a1, b1⟩
theorem am_nest_of {w : Cond} (h : w ∈ am_nest) : ∃ a i y b, w = .methodLinkNest a i y b := by
  have h2 := (List.mem_filter.mp h).2
  cases w <;> simp [am_isNest] at h2
  exact ⟨_, _, _, _, rfl⟩
theorem am_Ns.warm {s U : State} (hW : s.WarmedH U.vm) (h : am_Ns s) : am_Ns U := by
  intro w hw
  have h1 := h w hw
  obtain ⟨a, i, y, b, rfl⟩ := am_nest_of hw
  exact va_Nw.warmM hW h1
theorem am_Ns.same {u U : State} (e : u.vm = U.vm) (h : am_Ns u) : am_Ns U := by
  intro w hw
  have h1 := h w hw
  obtain ⟨a, i, y, b, rfl⟩ := am_nest_of hw
  exact va_Nw.same rfl e h1
theorem am_Zs.go {ad : Nat → Nat → Nat} {A A1 : Nat → Prop} {s U : State} {H : Heap} {locs : List Loc} (h : am_Zs ad A s) (hS : va_S A s.heap H locs) (hAA : ∀ q, A1 q → A q) (hvm : s.vm.Alike U.vm) (hU : U.heap = H) : am_Zs ad A1 U := by
  obtain ⟨h1, h2, h3, h4⟩ := h
  rw [← hU] at hS
  exact ⟨((h1.kept hS.2.1).narrow hAA).moved hvm, va_X.moved hvm (h2.kept (hS.2.1 _ h3 h4)), Nat.lt_of_lt_of_le h3 hS.1, fun q => h4 (hAA _ q)⟩
section AMG
variable {p : Program} {l : Launch} {e : Env} {R : Room} {kc ks : Nat} {s : State} {m : MethodId} {args : Array Value} {below : List Frame} {meth : Method} {c : Code} {sd : Bool} {K : MK} {r : AR} {D : va_G} {cy : ClassId × ClassId × ClassId} {ad : Nat → Nat → Nat} {A : Nat → Prop} {w0 : AW} {sz0 : Nat} {A9 : Nat → Prop}
def am_G (p : Program) (l : Launch) (e : Env) (R : Room) (kc ks : Nat) (s : State) (m : MethodId) (args : Array Value) (below : List Frame) (meth : Method) (c : Code) (sd : Bool) (K : MK) (r : AR) (D : va_G) (cy : ClassId × ClassId × ClassId) (ad : Nat → Nat → Nat) (A : Nat → Prop) (A9 : Nat → Prop) (pc : Nat) (ls : AL) (st : List AV) (w : AW) : Prop :=
  ∀ (H : Heap) (locs : List Loc) (lsA : Array Slot), am_ok w → va_P D vwCl (am_cw cy sd ad w) H → va_S A s.heap H locs → lv_has lsA K.2.2.1 (am_lv ad ls) →
    W p l e R s m args below meth c H locs kc ks (MQ below (fun _ st oc t => oc = .returned (r.1.map (am_cv ad)) ∧ am_ok r.2 ∧ va_P D vwCl (am_cw cy sd ad r.2) t.heap ∧ va_F A9 st t) args s kc ks A9) (F0 m pc lsA (st.map (am_cv ad)))
theorem ams_iconst (hRo : (R.frames = K.2.2.2.2.1 ∧ R.locals = K.2.2.2.2.2) ∧ kc ≤ R.cells ∧ ks ≤ R.slots) (hx : p.tables.exec = Jvm.exec) (hb : c.code = K.2.1) (hml : c.maxLocals = K.2.2.1) (hr : meth.sig.returnType = K.2.2.2.1) (hlk : meth.locks = false) (hown : s.vm.findClass K.1.cls = some m.cls) (hts : ∀ w ∈ am_ws K, w.before args s = true) (hK : va_K D vwCl (am_tys cy) s) (hD : ∀ w, va_D A (am_cw cy sd ad w)) (hA : ∀ q, s.heap.size ≤ q → A q) (hZ : am_Zs ad A s) (hN : am_Ns s) (h9 : A = A9) : am_Q_iconst sd K r (am_G p l e R kc ks s m args below meth c sd K r D cy ad A A9) := by
  intro pc ls st w n x h0 h1 k H locs lsA hw hP hS hL
  exact lv_iconst hx hb h0 h1 (k H locs lsA hw hP hS hL)
theorem ams_bipush (hRo : (R.frames = K.2.2.2.2.1 ∧ R.locals = K.2.2.2.2.2) ∧ kc ≤ R.cells ∧ ks ≤ R.slots) (hx : p.tables.exec = Jvm.exec) (hb : c.code = K.2.1) (hml : c.maxLocals = K.2.2.1) (hr : meth.sig.returnType = K.2.2.2.1) (hlk : meth.locks = false) (hown : s.vm.findClass K.1.cls = some m.cls) (hts : ∀ w ∈ am_ws K, w.before args s = true) (hK : va_K D vwCl (am_tys cy) s) (hD : ∀ w, va_D A (am_cw cy sd ad w)) (hA : ∀ q, s.heap.size ≤ q → A q) (hZ : am_Zs ad A s) (hN : am_Ns s) (h9 : A = A9) : am_Q_bipush sd K r (am_G p l e R kc ks s m args below meth c sd K r D cy ad A A9) := by
  intro pc ls st w n x h0 h1 k H locs lsA hw hP hS hL
  exact lv_bipush hx hb h0 h1 (k H locs lsA hw hP hS hL)
theorem ams_sipush (hRo : (R.frames = K.2.2.2.2.1 ∧ R.locals = K.2.2.2.2.2) ∧ kc ≤ R.cells ∧ ks ≤ R.slots) (hx : p.tables.exec = Jvm.exec) (hb : c.code = K.2.1) (hml : c.maxLocals = K.2.2.1) (hr : meth.sig.returnType = K.2.2.2.1) (hlk : meth.locks = false) (hown : s.vm.findClass K.1.cls = some m.cls) (hts : ∀ w ∈ am_ws K, w.before args s = true) (hK : va_K D vwCl (am_tys cy) s) (hD : ∀ w, va_D A (am_cw cy sd ad w)) (hA : ∀ q, s.heap.size ≤ q → A q) (hZ : am_Zs ad A s) (hN : am_Ns s) (h9 : A = A9) : am_Q_sipush sd K r (am_G p l e R kc ks s m args below meth c sd K r D cy ad A A9) := by
  intro pc ls st w n x h0 h1 k H locs lsA hw hP hS hL
  exact lv_sipush hx hb h0 h1 (k H locs lsA hw hP hS hL)
theorem ams_lconst (hRo : (R.frames = K.2.2.2.2.1 ∧ R.locals = K.2.2.2.2.2) ∧ kc ≤ R.cells ∧ ks ≤ R.slots) (hx : p.tables.exec = Jvm.exec) (hb : c.code = K.2.1) (hml : c.maxLocals = K.2.2.1) (hr : meth.sig.returnType = K.2.2.2.1) (hlk : meth.locks = false) (hown : s.vm.findClass K.1.cls = some m.cls) (hts : ∀ w ∈ am_ws K, w.before args s = true) (hK : va_K D vwCl (am_tys cy) s) (hD : ∀ w, va_D A (am_cw cy sd ad w)) (hA : ∀ q, s.heap.size ≤ q → A q) (hZ : am_Zs ad A s) (hN : am_Ns s) (h9 : A = A9) : am_Q_lconst sd K r (am_G p l e R kc ks s m args below meth c sd K r D cy ad A A9) := by
  intro pc ls st w n x h0 h1 k H locs lsA hw hP hS hL
  exact lv_lconst hx hb h0 h1 (k H locs lsA hw hP hS hL)
theorem ams_anull (hRo : (R.frames = K.2.2.2.2.1 ∧ R.locals = K.2.2.2.2.2) ∧ kc ≤ R.cells ∧ ks ≤ R.slots) (hx : p.tables.exec = Jvm.exec) (hb : c.code = K.2.1) (hml : c.maxLocals = K.2.2.1) (hr : meth.sig.returnType = K.2.2.2.1) (hlk : meth.locks = false) (hown : s.vm.findClass K.1.cls = some m.cls) (hts : ∀ w ∈ am_ws K, w.before args s = true) (hK : va_K D vwCl (am_tys cy) s) (hD : ∀ w, va_D A (am_cw cy sd ad w)) (hA : ∀ q, s.heap.size ≤ q → A q) (hZ : am_Zs ad A s) (hN : am_Ns s) (h9 : A = A9) : am_Q_anull sd K r (am_G p l e R kc ks s m args below meth c sd K r D cy ad A A9) := by
  intro pc ls st w h0 k H locs lsA hw hP hS hL
  exact lv_null hx hb h0 (k H locs lsA hw hP hS hL)
theorem ams_ldcw (hRo : (R.frames = K.2.2.2.2.1 ∧ R.locals = K.2.2.2.2.2) ∧ kc ≤ R.cells ∧ ks ≤ R.slots) (hx : p.tables.exec = Jvm.exec) (hb : c.code = K.2.1) (hml : c.maxLocals = K.2.2.1) (hr : meth.sig.returnType = K.2.2.2.1) (hlk : meth.locks = false) (hown : s.vm.findClass K.1.cls = some m.cls) (hts : ∀ w ∈ am_ws K, w.before args s = true) (hK : va_K D vwCl (am_tys cy) s) (hD : ∀ w, va_D A (am_cw cy sd ad w)) (hA : ∀ q, s.heap.size ≤ q → A q) (hZ : am_Zs ad A s) (hN : am_Ns s) (h9 : A = A9) : am_Q_ldcw sd K r (am_G p l e R kc ks s m args below meth c sd K r D cy ad A A9) := by
  intro pc ls st w idx x h0 h1 k H locs lsA hw hP hS hL
  exact lv_ldcw hx hb hown (hts _ (List.mem_cons_of_mem _ h1)) h0 (k H locs lsA hw hP hS hL)
theorem ams_ldc2 (hRo : (R.frames = K.2.2.2.2.1 ∧ R.locals = K.2.2.2.2.2) ∧ kc ≤ R.cells ∧ ks ≤ R.slots) (hx : p.tables.exec = Jvm.exec) (hb : c.code = K.2.1) (hml : c.maxLocals = K.2.2.1) (hr : meth.sig.returnType = K.2.2.2.1) (hlk : meth.locks = false) (hown : s.vm.findClass K.1.cls = some m.cls) (hts : ∀ w ∈ am_ws K, w.before args s = true) (hK : va_K D vwCl (am_tys cy) s) (hD : ∀ w, va_D A (am_cw cy sd ad w)) (hA : ∀ q, s.heap.size ≤ q → A q) (hZ : am_Zs ad A s) (hN : am_Ns s) (h9 : A = A9) : am_Q_ldc2 sd K r (am_G p l e R kc ks s m args below meth c sd K r D cy ad A A9) := by
  intro pc ls st w idx x h0 h1 k H locs lsA hw hP hS hL
  exact lv_ldc2 hx hb hown (hts _ (List.mem_cons_of_mem _ h1)) h0 (k H locs lsA hw hP hS hL)
theorem ams_iadd (hRo : (R.frames = K.2.2.2.2.1 ∧ R.locals = K.2.2.2.2.2) ∧ kc ≤ R.cells ∧ ks ≤ R.slots) (hx : p.tables.exec = Jvm.exec) (hb : c.code = K.2.1) (hml : c.maxLocals = K.2.2.1) (hr : meth.sig.returnType = K.2.2.2.1) (hlk : meth.locks = false) (hown : s.vm.findClass K.1.cls = some m.cls) (hts : ∀ w ∈ am_ws K, w.before args s = true) (hK : va_K D vwCl (am_tys cy) s) (hD : ∀ w, va_D A (am_cw cy sd ad w)) (hA : ∀ q, s.heap.size ≤ q → A q) (hZ : am_Zs ad A s) (hN : am_Ns s) (h9 : A = A9) : am_Q_iadd sd K r (am_G p l e R kc ks s m args below meth c sd K r D cy ad A A9) := by
  intro pc ls st w x y h0 k H locs lsA hw hP hS hL
  exact lv_iadd hx hb h0 (k H locs lsA hw hP hS hL)
theorem ams_isub (hRo : (R.frames = K.2.2.2.2.1 ∧ R.locals = K.2.2.2.2.2) ∧ kc ≤ R.cells ∧ ks ≤ R.slots) (hx : p.tables.exec = Jvm.exec) (hb : c.code = K.2.1) (hml : c.maxLocals = K.2.2.1) (hr : meth.sig.returnType = K.2.2.2.1) (hlk : meth.locks = false) (hown : s.vm.findClass K.1.cls = some m.cls) (hts : ∀ w ∈ am_ws K, w.before args s = true) (hK : va_K D vwCl (am_tys cy) s) (hD : ∀ w, va_D A (am_cw cy sd ad w)) (hA : ∀ q, s.heap.size ≤ q → A q) (hZ : am_Zs ad A s) (hN : am_Ns s) (h9 : A = A9) : am_Q_isub sd K r (am_G p l e R kc ks s m args below meth c sd K r D cy ad A A9) := by
  intro pc ls st w x y h0 k H locs lsA hw hP hS hL
  exact lv_isub hx hb h0 (k H locs lsA hw hP hS hL)
theorem ams_imul (hRo : (R.frames = K.2.2.2.2.1 ∧ R.locals = K.2.2.2.2.2) ∧ kc ≤ R.cells ∧ ks ≤ R.slots) (hx : p.tables.exec = Jvm.exec) (hb : c.code = K.2.1) (hml : c.maxLocals = K.2.2.1) (hr : meth.sig.returnType = K.2.2.2.1) (hlk : meth.locks = false) (hown : s.vm.findClass K.1.cls = some m.cls) (hts : ∀ w ∈ am_ws K, w.before args s = true) (hK : va_K D vwCl (am_tys cy) s) (hD : ∀ w, va_D A (am_cw cy sd ad w)) (hA : ∀ q, s.heap.size ≤ q → A q) (hZ : am_Zs ad A s) (hN : am_Ns s) (h9 : A = A9) : am_Q_imul sd K r (am_G p l e R kc ks s m args below meth c sd K r D cy ad A A9) := by
  intro pc ls st w x y h0 k H locs lsA hw hP hS hL
  exact lv_imul hx hb h0 (k H locs lsA hw hP hS hL)
theorem ams_iand (hRo : (R.frames = K.2.2.2.2.1 ∧ R.locals = K.2.2.2.2.2) ∧ kc ≤ R.cells ∧ ks ≤ R.slots) (hx : p.tables.exec = Jvm.exec) (hb : c.code = K.2.1) (hml : c.maxLocals = K.2.2.1) (hr : meth.sig.returnType = K.2.2.2.1) (hlk : meth.locks = false) (hown : s.vm.findClass K.1.cls = some m.cls) (hts : ∀ w ∈ am_ws K, w.before args s = true) (hK : va_K D vwCl (am_tys cy) s) (hD : ∀ w, va_D A (am_cw cy sd ad w)) (hA : ∀ q, s.heap.size ≤ q → A q) (hZ : am_Zs ad A s) (hN : am_Ns s) (h9 : A = A9) : am_Q_iand sd K r (am_G p l e R kc ks s m args below meth c sd K r D cy ad A A9) := by
  intro pc ls st w x y h0 k H locs lsA hw hP hS hL
  exact lv_iand hx hb h0 (k H locs lsA hw hP hS hL)
theorem ams_ior (hRo : (R.frames = K.2.2.2.2.1 ∧ R.locals = K.2.2.2.2.2) ∧ kc ≤ R.cells ∧ ks ≤ R.slots) (hx : p.tables.exec = Jvm.exec) (hb : c.code = K.2.1) (hml : c.maxLocals = K.2.2.1) (hr : meth.sig.returnType = K.2.2.2.1) (hlk : meth.locks = false) (hown : s.vm.findClass K.1.cls = some m.cls) (hts : ∀ w ∈ am_ws K, w.before args s = true) (hK : va_K D vwCl (am_tys cy) s) (hD : ∀ w, va_D A (am_cw cy sd ad w)) (hA : ∀ q, s.heap.size ≤ q → A q) (hZ : am_Zs ad A s) (hN : am_Ns s) (h9 : A = A9) : am_Q_ior sd K r (am_G p l e R kc ks s m args below meth c sd K r D cy ad A A9) := by
  intro pc ls st w x y h0 k H locs lsA hw hP hS hL
  exact lv_ior hx hb h0 (k H locs lsA hw hP hS hL)
theorem ams_ixor (hRo : (R.frames = K.2.2.2.2.1 ∧ R.locals = K.2.2.2.2.2) ∧ kc ≤ R.cells ∧ ks ≤ R.slots) (hx : p.tables.exec = Jvm.exec) (hb : c.code = K.2.1) (hml : c.maxLocals = K.2.2.1) (hr : meth.sig.returnType = K.2.2.2.1) (hlk : meth.locks = false) (hown : s.vm.findClass K.1.cls = some m.cls) (hts : ∀ w ∈ am_ws K, w.before args s = true) (hK : va_K D vwCl (am_tys cy) s) (hD : ∀ w, va_D A (am_cw cy sd ad w)) (hA : ∀ q, s.heap.size ≤ q → A q) (hZ : am_Zs ad A s) (hN : am_Ns s) (h9 : A = A9) : am_Q_ixor sd K r (am_G p l e R kc ks s m args below meth c sd K r D cy ad A A9) := by
  intro pc ls st w x y h0 k H locs lsA hw hP hS hL
  exact lv_ixor hx hb h0 (k H locs lsA hw hP hS hL)
theorem ams_ishl (hRo : (R.frames = K.2.2.2.2.1 ∧ R.locals = K.2.2.2.2.2) ∧ kc ≤ R.cells ∧ ks ≤ R.slots) (hx : p.tables.exec = Jvm.exec) (hb : c.code = K.2.1) (hml : c.maxLocals = K.2.2.1) (hr : meth.sig.returnType = K.2.2.2.1) (hlk : meth.locks = false) (hown : s.vm.findClass K.1.cls = some m.cls) (hts : ∀ w ∈ am_ws K, w.before args s = true) (hK : va_K D vwCl (am_tys cy) s) (hD : ∀ w, va_D A (am_cw cy sd ad w)) (hA : ∀ q, s.heap.size ≤ q → A q) (hZ : am_Zs ad A s) (hN : am_Ns s) (h9 : A = A9) : am_Q_ishl sd K r (am_G p l e R kc ks s m args below meth c sd K r D cy ad A A9) := by
  intro pc ls st w x y h0 k H locs lsA hw hP hS hL
  exact lv_ishl hx hb h0 (k H locs lsA hw hP hS hL)
theorem ams_ishr (hRo : (R.frames = K.2.2.2.2.1 ∧ R.locals = K.2.2.2.2.2) ∧ kc ≤ R.cells ∧ ks ≤ R.slots) (hx : p.tables.exec = Jvm.exec) (hb : c.code = K.2.1) (hml : c.maxLocals = K.2.2.1) (hr : meth.sig.returnType = K.2.2.2.1) (hlk : meth.locks = false) (hown : s.vm.findClass K.1.cls = some m.cls) (hts : ∀ w ∈ am_ws K, w.before args s = true) (hK : va_K D vwCl (am_tys cy) s) (hD : ∀ w, va_D A (am_cw cy sd ad w)) (hA : ∀ q, s.heap.size ≤ q → A q) (hZ : am_Zs ad A s) (hN : am_Ns s) (h9 : A = A9) : am_Q_ishr sd K r (am_G p l e R kc ks s m args below meth c sd K r D cy ad A A9) := by
  intro pc ls st w x y h0 k H locs lsA hw hP hS hL
  exact lv_ishr hx hb h0 (k H locs lsA hw hP hS hL)
theorem ams_iushr (hRo : (R.frames = K.2.2.2.2.1 ∧ R.locals = K.2.2.2.2.2) ∧ kc ≤ R.cells ∧ ks ≤ R.slots) (hx : p.tables.exec = Jvm.exec) (hb : c.code = K.2.1) (hml : c.maxLocals = K.2.2.1) (hr : meth.sig.returnType = K.2.2.2.1) (hlk : meth.locks = false) (hown : s.vm.findClass K.1.cls = some m.cls) (hts : ∀ w ∈ am_ws K, w.before args s = true) (hK : va_K D vwCl (am_tys cy) s) (hD : ∀ w, va_D A (am_cw cy sd ad w)) (hA : ∀ q, s.heap.size ≤ q → A q) (hZ : am_Zs ad A s) (hN : am_Ns s) (h9 : A = A9) : am_Q_iushr sd K r (am_G p l e R kc ks s m args below meth c sd K r D cy ad A A9) := by
  intro pc ls st w x y h0 k H locs lsA hw hP hS hL
  exact lv_iushr hx hb h0 rfl (k H locs lsA hw hP hS hL)
theorem ams_idiv (hRo : (R.frames = K.2.2.2.2.1 ∧ R.locals = K.2.2.2.2.2) ∧ kc ≤ R.cells ∧ ks ≤ R.slots) (hx : p.tables.exec = Jvm.exec) (hb : c.code = K.2.1) (hml : c.maxLocals = K.2.2.1) (hr : meth.sig.returnType = K.2.2.2.1) (hlk : meth.locks = false) (hown : s.vm.findClass K.1.cls = some m.cls) (hts : ∀ w ∈ am_ws K, w.before args s = true) (hK : va_K D vwCl (am_tys cy) s) (hD : ∀ w, va_D A (am_cw cy sd ad w)) (hA : ∀ q, s.heap.size ≤ q → A q) (hZ : am_Zs ad A s) (hN : am_Ns s) (h9 : A = A9) : am_Q_idiv sd K r (am_G p l e R kc ks s m args below meth c sd K r D cy ad A A9) := by
  intro pc ls st w x y h0 h1 k H locs lsA hw hP hS hL
  exact lv_idiv hx hb h0 h1 (k H locs lsA hw hP hS hL)
theorem ams_irem (hRo : (R.frames = K.2.2.2.2.1 ∧ R.locals = K.2.2.2.2.2) ∧ kc ≤ R.cells ∧ ks ≤ R.slots) (hx : p.tables.exec = Jvm.exec) (hb : c.code = K.2.1) (hml : c.maxLocals = K.2.2.1) (hr : meth.sig.returnType = K.2.2.2.1) (hlk : meth.locks = false) (hown : s.vm.findClass K.1.cls = some m.cls) (hts : ∀ w ∈ am_ws K, w.before args s = true) (hK : va_K D vwCl (am_tys cy) s) (hD : ∀ w, va_D A (am_cw cy sd ad w)) (hA : ∀ q, s.heap.size ≤ q → A q) (hZ : am_Zs ad A s) (hN : am_Ns s) (h9 : A = A9) : am_Q_irem sd K r (am_G p l e R kc ks s m args below meth c sd K r D cy ad A A9) := by
  intro pc ls st w x y h0 h1 k H locs lsA hw hP hS hL
  exact lv_irem hx hb h0 h1 (k H locs lsA hw hP hS hL)
theorem ams_ladd (hRo : (R.frames = K.2.2.2.2.1 ∧ R.locals = K.2.2.2.2.2) ∧ kc ≤ R.cells ∧ ks ≤ R.slots) (hx : p.tables.exec = Jvm.exec) (hb : c.code = K.2.1) (hml : c.maxLocals = K.2.2.1) (hr : meth.sig.returnType = K.2.2.2.1) (hlk : meth.locks = false) (hown : s.vm.findClass K.1.cls = some m.cls) (hts : ∀ w ∈ am_ws K, w.before args s = true) (hK : va_K D vwCl (am_tys cy) s) (hD : ∀ w, va_D A (am_cw cy sd ad w)) (hA : ∀ q, s.heap.size ≤ q → A q) (hZ : am_Zs ad A s) (hN : am_Ns s) (h9 : A = A9) : am_Q_ladd sd K r (am_G p l e R kc ks s m args below meth c sd K r D cy ad A A9) := by
  intro pc ls st w x y h0 k H locs lsA hw hP hS hL
  exact lv_ladd hx hb h0 (k H locs lsA hw hP hS hL)
theorem ams_land (hRo : (R.frames = K.2.2.2.2.1 ∧ R.locals = K.2.2.2.2.2) ∧ kc ≤ R.cells ∧ ks ≤ R.slots) (hx : p.tables.exec = Jvm.exec) (hb : c.code = K.2.1) (hml : c.maxLocals = K.2.2.1) (hr : meth.sig.returnType = K.2.2.2.1) (hlk : meth.locks = false) (hown : s.vm.findClass K.1.cls = some m.cls) (hts : ∀ w ∈ am_ws K, w.before args s = true) (hK : va_K D vwCl (am_tys cy) s) (hD : ∀ w, va_D A (am_cw cy sd ad w)) (hA : ∀ q, s.heap.size ≤ q → A q) (hZ : am_Zs ad A s) (hN : am_Ns s) (h9 : A = A9) : am_Q_land sd K r (am_G p l e R kc ks s m args below meth c sd K r D cy ad A A9) := by
  intro pc ls st w x y h0 k H locs lsA hw hP hS hL
  exact lv_land hx hb h0 (k H locs lsA hw hP hS hL)
theorem ams_lor (hRo : (R.frames = K.2.2.2.2.1 ∧ R.locals = K.2.2.2.2.2) ∧ kc ≤ R.cells ∧ ks ≤ R.slots) (hx : p.tables.exec = Jvm.exec) (hb : c.code = K.2.1) (hml : c.maxLocals = K.2.2.1) (hr : meth.sig.returnType = K.2.2.2.1) (hlk : meth.locks = false) (hown : s.vm.findClass K.1.cls = some m.cls) (hts : ∀ w ∈ am_ws K, w.before args s = true) (hK : va_K D vwCl (am_tys cy) s) (hD : ∀ w, va_D A (am_cw cy sd ad w)) (hA : ∀ q, s.heap.size ≤ q → A q) (hZ : am_Zs ad A s) (hN : am_Ns s) (h9 : A = A9) : am_Q_lor sd K r (am_G p l e R kc ks s m args below meth c sd K r D cy ad A A9) := by
  intro pc ls st w x y h0 k H locs lsA hw hP hS hL
  exact lv_lor hx hb h0 (k H locs lsA hw hP hS hL)
theorem ams_lshl (hRo : (R.frames = K.2.2.2.2.1 ∧ R.locals = K.2.2.2.2.2) ∧ kc ≤ R.cells ∧ ks ≤ R.slots) (hx : p.tables.exec = Jvm.exec) (hb : c.code = K.2.1) (hml : c.maxLocals = K.2.2.1) (hr : meth.sig.returnType = K.2.2.2.1) (hlk : meth.locks = false) (hown : s.vm.findClass K.1.cls = some m.cls) (hts : ∀ w ∈ am_ws K, w.before args s = true) (hK : va_K D vwCl (am_tys cy) s) (hD : ∀ w, va_D A (am_cw cy sd ad w)) (hA : ∀ q, s.heap.size ≤ q → A q) (hZ : am_Zs ad A s) (hN : am_Ns s) (h9 : A = A9) : am_Q_lshl sd K r (am_G p l e R kc ks s m args below meth c sd K r D cy ad A A9) := by
  intro pc ls st w x y h0 k H locs lsA hw hP hS hL
  exact lv_lshl hx hb h0 rfl (k H locs lsA hw hP hS hL)
theorem ams_lshr (hRo : (R.frames = K.2.2.2.2.1 ∧ R.locals = K.2.2.2.2.2) ∧ kc ≤ R.cells ∧ ks ≤ R.slots) (hx : p.tables.exec = Jvm.exec) (hb : c.code = K.2.1) (hml : c.maxLocals = K.2.2.1) (hr : meth.sig.returnType = K.2.2.2.1) (hlk : meth.locks = false) (hown : s.vm.findClass K.1.cls = some m.cls) (hts : ∀ w ∈ am_ws K, w.before args s = true) (hK : va_K D vwCl (am_tys cy) s) (hD : ∀ w, va_D A (am_cw cy sd ad w)) (hA : ∀ q, s.heap.size ≤ q → A q) (hZ : am_Zs ad A s) (hN : am_Ns s) (h9 : A = A9) : am_Q_lshr sd K r (am_G p l e R kc ks s m args below meth c sd K r D cy ad A A9) := by
  intro pc ls st w x y h0 k H locs lsA hw hP hS hL
  exact lv_lshr hx hb h0 rfl (k H locs lsA hw hP hS hL)
theorem ams_lushr (hRo : (R.frames = K.2.2.2.2.1 ∧ R.locals = K.2.2.2.2.2) ∧ kc ≤ R.cells ∧ ks ≤ R.slots) (hx : p.tables.exec = Jvm.exec) (hb : c.code = K.2.1) (hml : c.maxLocals = K.2.2.1) (hr : meth.sig.returnType = K.2.2.2.1) (hlk : meth.locks = false) (hown : s.vm.findClass K.1.cls = some m.cls) (hts : ∀ w ∈ am_ws K, w.before args s = true) (hK : va_K D vwCl (am_tys cy) s) (hD : ∀ w, va_D A (am_cw cy sd ad w)) (hA : ∀ q, s.heap.size ≤ q → A q) (hZ : am_Zs ad A s) (hN : am_Ns s) (h9 : A = A9) : am_Q_lushr sd K r (am_G p l e R kc ks s m args below meth c sd K r D cy ad A A9) := by
  intro pc ls st w x y h0 k H locs lsA hw hP hS hL
  exact lv_lushr hx hb h0 rfl (k H locs lsA hw hP hS hL)
theorem ams_l2i (hRo : (R.frames = K.2.2.2.2.1 ∧ R.locals = K.2.2.2.2.2) ∧ kc ≤ R.cells ∧ ks ≤ R.slots) (hx : p.tables.exec = Jvm.exec) (hb : c.code = K.2.1) (hml : c.maxLocals = K.2.2.1) (hr : meth.sig.returnType = K.2.2.2.1) (hlk : meth.locks = false) (hown : s.vm.findClass K.1.cls = some m.cls) (hts : ∀ w ∈ am_ws K, w.before args s = true) (hK : va_K D vwCl (am_tys cy) s) (hD : ∀ w, va_D A (am_cw cy sd ad w)) (hA : ∀ q, s.heap.size ≤ q → A q) (hZ : am_Zs ad A s) (hN : am_Ns s) (h9 : A = A9) : am_Q_l2i sd K r (am_G p l e R kc ks s m args below meth c sd K r D cy ad A A9) := by
  intro pc ls st w x h0 k H locs lsA hw hP hS hL
  exact lv_l2i hx hb h0 rfl (k H locs lsA hw hP hS hL)
theorem ams_i2l (hRo : (R.frames = K.2.2.2.2.1 ∧ R.locals = K.2.2.2.2.2) ∧ kc ≤ R.cells ∧ ks ≤ R.slots) (hx : p.tables.exec = Jvm.exec) (hb : c.code = K.2.1) (hml : c.maxLocals = K.2.2.1) (hr : meth.sig.returnType = K.2.2.2.1) (hlk : meth.locks = false) (hown : s.vm.findClass K.1.cls = some m.cls) (hts : ∀ w ∈ am_ws K, w.before args s = true) (hK : va_K D vwCl (am_tys cy) s) (hD : ∀ w, va_D A (am_cw cy sd ad w)) (hA : ∀ q, s.heap.size ≤ q → A q) (hZ : am_Zs ad A s) (hN : am_Ns s) (h9 : A = A9) : am_Q_i2l sd K r (am_G p l e R kc ks s m args below meth c sd K r D cy ad A A9) := by
  intro pc ls st w x h0 k H locs lsA hw hP hS hL
  exact lv_i2l hx hb h0 rfl (k H locs lsA hw hP hS hL)
theorem ams_lcmp (hRo : (R.frames = K.2.2.2.2.1 ∧ R.locals = K.2.2.2.2.2) ∧ kc ≤ R.cells ∧ ks ≤ R.slots) (hx : p.tables.exec = Jvm.exec) (hb : c.code = K.2.1) (hml : c.maxLocals = K.2.2.1) (hr : meth.sig.returnType = K.2.2.2.1) (hlk : meth.locks = false) (hown : s.vm.findClass K.1.cls = some m.cls) (hts : ∀ w ∈ am_ws K, w.before args s = true) (hK : va_K D vwCl (am_tys cy) s) (hD : ∀ w, va_D A (am_cw cy sd ad w)) (hA : ∀ q, s.heap.size ≤ q → A q) (hZ : am_Zs ad A s) (hN : am_Ns s) (h9 : A = A9) : am_Q_lcmp sd K r (am_G p l e R kc ks s m args below meth c sd K r D cy ad A A9) := by
  intro pc ls st w x y h0 k H locs lsA hw hP hS hL
  exact W.lcmp hx hb h0 (k H locs lsA hw hP hS hL)
theorem ams_dup (hRo : (R.frames = K.2.2.2.2.1 ∧ R.locals = K.2.2.2.2.2) ∧ kc ≤ R.cells ∧ ks ≤ R.slots) (hx : p.tables.exec = Jvm.exec) (hb : c.code = K.2.1) (hml : c.maxLocals = K.2.2.1) (hr : meth.sig.returnType = K.2.2.2.1) (hlk : meth.locks = false) (hown : s.vm.findClass K.1.cls = some m.cls) (hts : ∀ w ∈ am_ws K, w.before args s = true) (hK : va_K D vwCl (am_tys cy) s) (hD : ∀ w, va_D A (am_cw cy sd ad w)) (hA : ∀ q, s.heap.size ≤ q → A q) (hZ : am_Zs ad A s) (hN : am_Ns s) (h9 : A = A9) : am_Q_dup sd K r (am_G p l e R kc ks s m args below meth c sd K r D cy ad A A9) := by
  intro pc ls st w x h0 h1 k H locs lsA hw hP hS hL
  exact lv_dup hx hb h0 (by rw [am_cv_cat]; exact h1) (k H locs lsA hw hP hS hL)
theorem ams_pop (hRo : (R.frames = K.2.2.2.2.1 ∧ R.locals = K.2.2.2.2.2) ∧ kc ≤ R.cells ∧ ks ≤ R.slots) (hx : p.tables.exec = Jvm.exec) (hb : c.code = K.2.1) (hml : c.maxLocals = K.2.2.1) (hr : meth.sig.returnType = K.2.2.2.1) (hlk : meth.locks = false) (hown : s.vm.findClass K.1.cls = some m.cls) (hts : ∀ w ∈ am_ws K, w.before args s = true) (hK : va_K D vwCl (am_tys cy) s) (hD : ∀ w, va_D A (am_cw cy sd ad w)) (hA : ∀ q, s.heap.size ≤ q → A q) (hZ : am_Zs ad A s) (hN : am_Ns s) (h9 : A = A9) : am_Q_pop sd K r (am_G p l e R kc ks s m args below meth c sd K r D cy ad A A9) := by
  intro pc ls st w x h0 h1 k H locs lsA hw hP hS hL
  exact lv_pop hx hb h0 (by rw [am_cv_cat]; exact h1) (k H locs lsA hw hP hS hL)
theorem ams_dup2 (hRo : (R.frames = K.2.2.2.2.1 ∧ R.locals = K.2.2.2.2.2) ∧ kc ≤ R.cells ∧ ks ≤ R.slots) (hx : p.tables.exec = Jvm.exec) (hb : c.code = K.2.1) (hml : c.maxLocals = K.2.2.1) (hr : meth.sig.returnType = K.2.2.2.1) (hlk : meth.locks = false) (hown : s.vm.findClass K.1.cls = some m.cls) (hts : ∀ w ∈ am_ws K, w.before args s = true) (hK : va_K D vwCl (am_tys cy) s) (hD : ∀ w, va_D A (am_cw cy sd ad w)) (hA : ∀ q, s.heap.size ≤ q → A q) (hZ : am_Zs ad A s) (hN : am_Ns s) (h9 : A = A9) : am_Q_dup2 sd K r (am_G p l e R kc ks s m args below meth c sd K r D cy ad A A9) := by
  intro pc ls st w x y h0 h1 h2 k H locs lsA hw hP hS hL
  exact lv_dup2_11 hx hb h0 (by rw [am_cv_cat]; exact h2) (by rw [am_cv_cat]; exact h1) (k H locs lsA hw hP hS hL)
theorem ams_iload_n (hRo : (R.frames = K.2.2.2.2.1 ∧ R.locals = K.2.2.2.2.2) ∧ kc ≤ R.cells ∧ ks ≤ R.slots) (hx : p.tables.exec = Jvm.exec) (hb : c.code = K.2.1) (hml : c.maxLocals = K.2.2.1) (hr : meth.sig.returnType = K.2.2.2.1) (hlk : meth.locks = false) (hown : s.vm.findClass K.1.cls = some m.cls) (hts : ∀ w ∈ am_ws K, w.before args s = true) (hK : va_K D vwCl (am_tys cy) s) (hD : ∀ w, va_D A (am_cw cy sd ad w)) (hA : ∀ q, s.heap.size ≤ q → A q) (hZ : am_Zs ad A s) (hN : am_Ns s) (h9 : A = A9) : am_Q_iload_n sd K r (am_G p l e R kc ks s m args below meth c sd K r D cy ad A A9) := by
  intro pc ls st w k i x h0 h1 h2 k H locs lsA hw hP hS hL
  exact lv_iload_n hx hb h0 h1 (am_lv_get hL h2) (k H locs lsA hw hP hS hL)
theorem ams_lload_n (hRo : (R.frames = K.2.2.2.2.1 ∧ R.locals = K.2.2.2.2.2) ∧ kc ≤ R.cells ∧ ks ≤ R.slots) (hx : p.tables.exec = Jvm.exec) (hb : c.code = K.2.1) (hml : c.maxLocals = K.2.2.1) (hr : meth.sig.returnType = K.2.2.2.1) (hlk : meth.locks = false) (hown : s.vm.findClass K.1.cls = some m.cls) (hts : ∀ w ∈ am_ws K, w.before args s = true) (hK : va_K D vwCl (am_tys cy) s) (hD : ∀ w, va_D A (am_cw cy sd ad w)) (hA : ∀ q, s.heap.size ≤ q → A q) (hZ : am_Zs ad A s) (hN : am_Ns s) (h9 : A = A9) : am_Q_lload_n sd K r (am_G p l e R kc ks s m args below meth c sd K r D cy ad A A9) := by
  intro pc ls st w k i x h0 h1 h2 k H locs lsA hw hP hS hL
  exact lv_lload_n hx hb h0 h1 (am_lv_get hL h2) (k H locs lsA hw hP hS hL)
theorem ams_aload_n (hRo : (R.frames = K.2.2.2.2.1 ∧ R.locals = K.2.2.2.2.2) ∧ kc ≤ R.cells ∧ ks ≤ R.slots) (hx : p.tables.exec = Jvm.exec) (hb : c.code = K.2.1) (hml : c.maxLocals = K.2.2.1) (hr : meth.sig.returnType = K.2.2.2.1) (hlk : meth.locks = false) (hown : s.vm.findClass K.1.cls = some m.cls) (hts : ∀ w ∈ am_ws K, w.before args s = true) (hK : va_K D vwCl (am_tys cy) s) (hD : ∀ w, va_D A (am_cw cy sd ad w)) (hA : ∀ q, s.heap.size ≤ q → A q) (hZ : am_Zs ad A s) (hN : am_Ns s) (h9 : A = A9) : am_Q_aload_n sd K r (am_G p l e R kc ks s m args below meth c sd K r D cy ad A A9) := by
  intro pc ls st w k i x h0 h1 h2 k H locs lsA hw hP hS hL
  cases x with
  | none => exact lv_aload_nN hx hb h0 h1 (am_lv_get hL h2) (k H locs lsA hw hP hS hL)
  | some q => exact lv_aload_n hx hb h0 h1 (am_lv_get hL h2) (k H locs lsA hw hP hS hL)
theorem ams_iload (hRo : (R.frames = K.2.2.2.2.1 ∧ R.locals = K.2.2.2.2.2) ∧ kc ≤ R.cells ∧ ks ≤ R.slots) (hx : p.tables.exec = Jvm.exec) (hb : c.code = K.2.1) (hml : c.maxLocals = K.2.2.1) (hr : meth.sig.returnType = K.2.2.2.1) (hlk : meth.locks = false) (hown : s.vm.findClass K.1.cls = some m.cls) (hts : ∀ w ∈ am_ws K, w.before args s = true) (hK : va_K D vwCl (am_tys cy) s) (hD : ∀ w, va_D A (am_cw cy sd ad w)) (hA : ∀ q, s.heap.size ≤ q → A q) (hZ : am_Zs ad A s) (hN : am_Ns s) (h9 : A = A9) : am_Q_iload sd K r (am_G p l e R kc ks s m args below meth c sd K r D cy ad A A9) := by
  intro pc ls st w i x h0 h1 k H locs lsA hw hP hS hL
  exact lv_iload hx hb h0 (am_lv_get hL h1) (k H locs lsA hw hP hS hL)
theorem ams_aload (hRo : (R.frames = K.2.2.2.2.1 ∧ R.locals = K.2.2.2.2.2) ∧ kc ≤ R.cells ∧ ks ≤ R.slots) (hx : p.tables.exec = Jvm.exec) (hb : c.code = K.2.1) (hml : c.maxLocals = K.2.2.1) (hr : meth.sig.returnType = K.2.2.2.1) (hlk : meth.locks = false) (hown : s.vm.findClass K.1.cls = some m.cls) (hts : ∀ w ∈ am_ws K, w.before args s = true) (hK : va_K D vwCl (am_tys cy) s) (hD : ∀ w, va_D A (am_cw cy sd ad w)) (hA : ∀ q, s.heap.size ≤ q → A q) (hZ : am_Zs ad A s) (hN : am_Ns s) (h9 : A = A9) : am_Q_aload sd K r (am_G p l e R kc ks s m args below meth c sd K r D cy ad A A9) := by
  intro pc ls st w i x h0 h1 k H locs lsA hw hP hS hL
  cases x with
  | none => exact lv_aloadN hx hb h0 (am_lv_get hL h1) (k H locs lsA hw hP hS hL)
  | some q => exact lv_aload hx hb h0 (am_lv_get hL h1) (k H locs lsA hw hP hS hL)
theorem ams_istore_n (hRo : (R.frames = K.2.2.2.2.1 ∧ R.locals = K.2.2.2.2.2) ∧ kc ≤ R.cells ∧ ks ≤ R.slots) (hx : p.tables.exec = Jvm.exec) (hb : c.code = K.2.1) (hml : c.maxLocals = K.2.2.1) (hr : meth.sig.returnType = K.2.2.2.1) (hlk : meth.locks = false) (hown : s.vm.findClass K.1.cls = some m.cls) (hts : ∀ w ∈ am_ws K, w.before args s = true) (hK : va_K D vwCl (am_tys cy) s) (hD : ∀ w, va_D A (am_cw cy sd ad w)) (hA : ∀ q, s.heap.size ≤ q → A q) (hZ : am_Zs ad A s) (hN : am_Ns s) (h9 : A = A9) : am_Q_istore_n sd K r (am_G p l e R kc ks s m args below meth c sd K r D cy ad A A9) := by
  intro pc ls st w k i ls2 x h0 h1 h2 h3 h4 k H locs lsA hw hP hS hL
  subst h3
  exact lv_istore_n hx hb h0 h1 hL h4 rfl (fun ls2 hL2 => k H locs ls2 hw hP hS (am_lv_set h2 hL2))
theorem ams_astore_n (hRo : (R.frames = K.2.2.2.2.1 ∧ R.locals = K.2.2.2.2.2) ∧ kc ≤ R.cells ∧ ks ≤ R.slots) (hx : p.tables.exec = Jvm.exec) (hb : c.code = K.2.1) (hml : c.maxLocals = K.2.2.1) (hr : meth.sig.returnType = K.2.2.2.1) (hlk : meth.locks = false) (hown : s.vm.findClass K.1.cls = some m.cls) (hts : ∀ w ∈ am_ws K, w.before args s = true) (hK : va_K D vwCl (am_tys cy) s) (hD : ∀ w, va_D A (am_cw cy sd ad w)) (hA : ∀ q, s.heap.size ≤ q → A q) (hZ : am_Zs ad A s) (hN : am_Ns s) (h9 : A = A9) : am_Q_astore_n sd K r (am_G p l e R kc ks s m args below meth c sd K r D cy ad A A9) := by
  intro pc ls st w k i ls2 x h0 h1 h2 h3 h4 k H locs lsA hw hP hS hL
  subst h3
  cases x with
  | none => exact lv_astore_nN hx hb h0 h1 hL h4 rfl (fun ls2 hL2 => k H locs ls2 hw hP hS (am_lv_set h2 hL2))
  | some q => exact lv_astore_n hx hb h0 h1 hL h4 rfl (fun ls2 hL2 => k H locs ls2 hw hP hS (am_lv_set h2 hL2))
theorem ams_istore (hRo : (R.frames = K.2.2.2.2.1 ∧ R.locals = K.2.2.2.2.2) ∧ kc ≤ R.cells ∧ ks ≤ R.slots) (hx : p.tables.exec = Jvm.exec) (hb : c.code = K.2.1) (hml : c.maxLocals = K.2.2.1) (hr : meth.sig.returnType = K.2.2.2.1) (hlk : meth.locks = false) (hown : s.vm.findClass K.1.cls = some m.cls) (hts : ∀ w ∈ am_ws K, w.before args s = true) (hK : va_K D vwCl (am_tys cy) s) (hD : ∀ w, va_D A (am_cw cy sd ad w)) (hA : ∀ q, s.heap.size ≤ q → A q) (hZ : am_Zs ad A s) (hN : am_Ns s) (h9 : A = A9) : am_Q_istore sd K r (am_G p l e R kc ks s m args below meth c sd K r D cy ad A A9) := by
  intro pc ls st w i ls2 x h0 h1 h2 h3 k H locs lsA hw hP hS hL
  subst h2
  exact lv_istore hx hb h0 hL h3 rfl (fun ls2 hL2 => k H locs ls2 hw hP hS (am_lv_set h1 hL2))
theorem ams_astore (hRo : (R.frames = K.2.2.2.2.1 ∧ R.locals = K.2.2.2.2.2) ∧ kc ≤ R.cells ∧ ks ≤ R.slots) (hx : p.tables.exec = Jvm.exec) (hb : c.code = K.2.1) (hml : c.maxLocals = K.2.2.1) (hr : meth.sig.returnType = K.2.2.2.1) (hlk : meth.locks = false) (hown : s.vm.findClass K.1.cls = some m.cls) (hts : ∀ w ∈ am_ws K, w.before args s = true) (hK : va_K D vwCl (am_tys cy) s) (hD : ∀ w, va_D A (am_cw cy sd ad w)) (hA : ∀ q, s.heap.size ≤ q → A q) (hZ : am_Zs ad A s) (hN : am_Ns s) (h9 : A = A9) : am_Q_astore sd K r (am_G p l e R kc ks s m args below meth c sd K r D cy ad A A9) := by
  intro pc ls st w i ls2 x h0 h1 h2 h3 k H locs lsA hw hP hS hL
  subst h2
  cases x with
  | none => exact lv_astoreN hx hb h0 hL h3 rfl (fun ls2 hL2 => k H locs ls2 hw hP hS (am_lv_set h1 hL2))
  | some q => exact lv_astore hx hb h0 hL h3 rfl (fun ls2 hL2 => k H locs ls2 hw hP hS (am_lv_set h1 hL2))
theorem ams_iinc (hRo : (R.frames = K.2.2.2.2.1 ∧ R.locals = K.2.2.2.2.2) ∧ kc ≤ R.cells ∧ ks ≤ R.slots) (hx : p.tables.exec = Jvm.exec) (hb : c.code = K.2.1) (hml : c.maxLocals = K.2.2.1) (hr : meth.sig.returnType = K.2.2.2.1) (hlk : meth.locks = false) (hown : s.vm.findClass K.1.cls = some m.cls) (hts : ∀ w ∈ am_ws K, w.before args s = true) (hK : va_K D vwCl (am_tys cy) s) (hD : ∀ w, va_D A (am_cw cy sd ad w)) (hA : ∀ q, s.heap.size ≤ q → A q) (hZ : am_Zs ad A s) (hN : am_Ns s) (h9 : A = A9) : am_Q_iinc sd K r (am_G p l e R kc ks s m args below meth c sd K r D cy ad A A9) := by
  intro pc ls st w i n ls2 x v h0 h1 h2 h3 h4 h5 k H locs lsA hw hP hS hL
  subst h4
  obtain ⟨j, hj⟩ := am_lv_idx (ad := ad) h1
  exact lv_iinc hx hb h0 hL hj h2 h5 rfl (fun ls2 hL2 => k H locs ls2 hw hP hS (am_lv_set h3 hL2))
theorem ams_icmp_eq (hRo : (R.frames = K.2.2.2.2.1 ∧ R.locals = K.2.2.2.2.2) ∧ kc ≤ R.cells ∧ ks ≤ R.slots) (hx : p.tables.exec = Jvm.exec) (hb : c.code = K.2.1) (hml : c.maxLocals = K.2.2.1) (hr : meth.sig.returnType = K.2.2.2.1) (hlk : meth.locks = false) (hown : s.vm.findClass K.1.cls = some m.cls) (hts : ∀ w ∈ am_ws K, w.before args s = true) (hK : va_K D vwCl (am_tys cy) s) (hD : ∀ w, va_D A (am_cw cy sd ad w)) (hA : ∀ q, s.heap.size ≤ q → A q) (hZ : am_Zs ad A s) (hN : am_Ns s) (h9 : A = A9) : am_Q_icmp_eq sd K r (am_G p l e R kc ks s m args below meth c sd K r D cy ad A A9) := by
  intro pc ls st w x y off tgt h0 h1 kt kf H locs lsA hw hP hS hL
  exact lv_icmp_eq hx hb h0 h1 (fun q => kt q H locs lsA hw hP hS hL) (fun q => kf q H locs lsA hw hP hS hL)
theorem ams_icmp_ne (hRo : (R.frames = K.2.2.2.2.1 ∧ R.locals = K.2.2.2.2.2) ∧ kc ≤ R.cells ∧ ks ≤ R.slots) (hx : p.tables.exec = Jvm.exec) (hb : c.code = K.2.1) (hml : c.maxLocals = K.2.2.1) (hr : meth.sig.returnType = K.2.2.2.1) (hlk : meth.locks = false) (hown : s.vm.findClass K.1.cls = some m.cls) (hts : ∀ w ∈ am_ws K, w.before args s = true) (hK : va_K D vwCl (am_tys cy) s) (hD : ∀ w, va_D A (am_cw cy sd ad w)) (hA : ∀ q, s.heap.size ≤ q → A q) (hZ : am_Zs ad A s) (hN : am_Ns s) (h9 : A = A9) : am_Q_icmp_ne sd K r (am_G p l e R kc ks s m args below meth c sd K r D cy ad A A9) := by
  intro pc ls st w x y off tgt h0 h1 kt kf H locs lsA hw hP hS hL
  exact lv_icmp_ne hx hb h0 h1 (fun q => kt q H locs lsA hw hP hS hL) (fun q => kf q H locs lsA hw hP hS hL)
theorem ams_icmp_lt (hRo : (R.frames = K.2.2.2.2.1 ∧ R.locals = K.2.2.2.2.2) ∧ kc ≤ R.cells ∧ ks ≤ R.slots) (hx : p.tables.exec = Jvm.exec) (hb : c.code = K.2.1) (hml : c.maxLocals = K.2.2.1) (hr : meth.sig.returnType = K.2.2.2.1) (hlk : meth.locks = false) (hown : s.vm.findClass K.1.cls = some m.cls) (hts : ∀ w ∈ am_ws K, w.before args s = true) (hK : va_K D vwCl (am_tys cy) s) (hD : ∀ w, va_D A (am_cw cy sd ad w)) (hA : ∀ q, s.heap.size ≤ q → A q) (hZ : am_Zs ad A s) (hN : am_Ns s) (h9 : A = A9) : am_Q_icmp_lt sd K r (am_G p l e R kc ks s m args below meth c sd K r D cy ad A A9) := by
  intro pc ls st w x y off tgt h0 h1 kt kf H locs lsA hw hP hS hL
  exact lv_icmp_lt hx hb h0 h1 (fun q => kt q H locs lsA hw hP hS hL) (fun q => kf q H locs lsA hw hP hS hL)
theorem ams_icmp_ge (hRo : (R.frames = K.2.2.2.2.1 ∧ R.locals = K.2.2.2.2.2) ∧ kc ≤ R.cells ∧ ks ≤ R.slots) (hx : p.tables.exec = Jvm.exec) (hb : c.code = K.2.1) (hml : c.maxLocals = K.2.2.1) (hr : meth.sig.returnType = K.2.2.2.1) (hlk : meth.locks = false) (hown : s.vm.findClass K.1.cls = some m.cls) (hts : ∀ w ∈ am_ws K, w.before args s = true) (hK : va_K D vwCl (am_tys cy) s) (hD : ∀ w, va_D A (am_cw cy sd ad w)) (hA : ∀ q, s.heap.size ≤ q → A q) (hZ : am_Zs ad A s) (hN : am_Ns s) (h9 : A = A9) : am_Q_icmp_ge sd K r (am_G p l e R kc ks s m args below meth c sd K r D cy ad A A9) := by
  intro pc ls st w x y off tgt h0 h1 kt kf H locs lsA hw hP hS hL
  exact lv_icmp_ge hx hb h0 h1 (fun q => kt q H locs lsA hw hP hS hL) (fun q => kf q H locs lsA hw hP hS hL)
theorem ams_icmp_gt (hRo : (R.frames = K.2.2.2.2.1 ∧ R.locals = K.2.2.2.2.2) ∧ kc ≤ R.cells ∧ ks ≤ R.slots) (hx : p.tables.exec = Jvm.exec) (hb : c.code = K.2.1) (hml : c.maxLocals = K.2.2.1) (hr : meth.sig.returnType = K.2.2.2.1) (hlk : meth.locks = false) (hown : s.vm.findClass K.1.cls = some m.cls) (hts : ∀ w ∈ am_ws K, w.before args s = true) (hK : va_K D vwCl (am_tys cy) s) (hD : ∀ w, va_D A (am_cw cy sd ad w)) (hA : ∀ q, s.heap.size ≤ q → A q) (hZ : am_Zs ad A s) (hN : am_Ns s) (h9 : A = A9) : am_Q_icmp_gt sd K r (am_G p l e R kc ks s m args below meth c sd K r D cy ad A A9) := by
  intro pc ls st w x y off tgt h0 h1 kt kf H locs lsA hw hP hS hL
  exact lv_icmp_gt hx hb h0 h1 (fun q => kt q H locs lsA hw hP hS hL) (fun q => kf q H locs lsA hw hP hS hL)
theorem ams_icmp_le (hRo : (R.frames = K.2.2.2.2.1 ∧ R.locals = K.2.2.2.2.2) ∧ kc ≤ R.cells ∧ ks ≤ R.slots) (hx : p.tables.exec = Jvm.exec) (hb : c.code = K.2.1) (hml : c.maxLocals = K.2.2.1) (hr : meth.sig.returnType = K.2.2.2.1) (hlk : meth.locks = false) (hown : s.vm.findClass K.1.cls = some m.cls) (hts : ∀ w ∈ am_ws K, w.before args s = true) (hK : va_K D vwCl (am_tys cy) s) (hD : ∀ w, va_D A (am_cw cy sd ad w)) (hA : ∀ q, s.heap.size ≤ q → A q) (hZ : am_Zs ad A s) (hN : am_Ns s) (h9 : A = A9) : am_Q_icmp_le sd K r (am_G p l e R kc ks s m args below meth c sd K r D cy ad A A9) := by
  intro pc ls st w x y off tgt h0 h1 kt kf H locs lsA hw hP hS hL
  exact lv_icmp_le hx hb h0 h1 (fun q => kt q H locs lsA hw hP hS hL) (fun q => kf q H locs lsA hw hP hS hL)
theorem ams_if_eq (hRo : (R.frames = K.2.2.2.2.1 ∧ R.locals = K.2.2.2.2.2) ∧ kc ≤ R.cells ∧ ks ≤ R.slots) (hx : p.tables.exec = Jvm.exec) (hb : c.code = K.2.1) (hml : c.maxLocals = K.2.2.1) (hr : meth.sig.returnType = K.2.2.2.1) (hlk : meth.locks = false) (hown : s.vm.findClass K.1.cls = some m.cls) (hts : ∀ w ∈ am_ws K, w.before args s = true) (hK : va_K D vwCl (am_tys cy) s) (hD : ∀ w, va_D A (am_cw cy sd ad w)) (hA : ∀ q, s.heap.size ≤ q → A q) (hZ : am_Zs ad A s) (hN : am_Ns s) (h9 : A = A9) : am_Q_if_eq sd K r (am_G p l e R kc ks s m args below meth c sd K r D cy ad A A9) := by
  intro pc ls st w x off tgt h0 h1 kt kf H locs lsA hw hP hS hL
  exact lv_if_eq hx hb h0 h1 (fun q => kt q H locs lsA hw hP hS hL) (fun q => kf q H locs lsA hw hP hS hL)
theorem ams_if_ne (hRo : (R.frames = K.2.2.2.2.1 ∧ R.locals = K.2.2.2.2.2) ∧ kc ≤ R.cells ∧ ks ≤ R.slots) (hx : p.tables.exec = Jvm.exec) (hb : c.code = K.2.1) (hml : c.maxLocals = K.2.2.1) (hr : meth.sig.returnType = K.2.2.2.1) (hlk : meth.locks = false) (hown : s.vm.findClass K.1.cls = some m.cls) (hts : ∀ w ∈ am_ws K, w.before args s = true) (hK : va_K D vwCl (am_tys cy) s) (hD : ∀ w, va_D A (am_cw cy sd ad w)) (hA : ∀ q, s.heap.size ≤ q → A q) (hZ : am_Zs ad A s) (hN : am_Ns s) (h9 : A = A9) : am_Q_if_ne sd K r (am_G p l e R kc ks s m args below meth c sd K r D cy ad A A9) := by
  intro pc ls st w x off tgt h0 h1 kt kf H locs lsA hw hP hS hL
  exact lv_if_ne hx hb h0 h1 (fun q => kt q H locs lsA hw hP hS hL) (fun q => kf q H locs lsA hw hP hS hL)
theorem ams_if_lt (hRo : (R.frames = K.2.2.2.2.1 ∧ R.locals = K.2.2.2.2.2) ∧ kc ≤ R.cells ∧ ks ≤ R.slots) (hx : p.tables.exec = Jvm.exec) (hb : c.code = K.2.1) (hml : c.maxLocals = K.2.2.1) (hr : meth.sig.returnType = K.2.2.2.1) (hlk : meth.locks = false) (hown : s.vm.findClass K.1.cls = some m.cls) (hts : ∀ w ∈ am_ws K, w.before args s = true) (hK : va_K D vwCl (am_tys cy) s) (hD : ∀ w, va_D A (am_cw cy sd ad w)) (hA : ∀ q, s.heap.size ≤ q → A q) (hZ : am_Zs ad A s) (hN : am_Ns s) (h9 : A = A9) : am_Q_if_lt sd K r (am_G p l e R kc ks s m args below meth c sd K r D cy ad A A9) := by
  intro pc ls st w x off tgt h0 h1 kt kf H locs lsA hw hP hS hL
  exact lv_if_lt hx hb h0 h1 (fun q => kt q H locs lsA hw hP hS hL) (fun q => kf q H locs lsA hw hP hS hL)
theorem ams_if_ge (hRo : (R.frames = K.2.2.2.2.1 ∧ R.locals = K.2.2.2.2.2) ∧ kc ≤ R.cells ∧ ks ≤ R.slots) (hx : p.tables.exec = Jvm.exec) (hb : c.code = K.2.1) (hml : c.maxLocals = K.2.2.1) (hr : meth.sig.returnType = K.2.2.2.1) (hlk : meth.locks = false) (hown : s.vm.findClass K.1.cls = some m.cls) (hts : ∀ w ∈ am_ws K, w.before args s = true) (hK : va_K D vwCl (am_tys cy) s) (hD : ∀ w, va_D A (am_cw cy sd ad w)) (hA : ∀ q, s.heap.size ≤ q → A q) (hZ : am_Zs ad A s) (hN : am_Ns s) (h9 : A = A9) : am_Q_if_ge sd K r (am_G p l e R kc ks s m args below meth c sd K r D cy ad A A9) := by
  intro pc ls st w x off tgt h0 h1 kt kf H locs lsA hw hP hS hL
  exact lv_if_ge hx hb h0 h1 (fun q => kt q H locs lsA hw hP hS hL) (fun q => kf q H locs lsA hw hP hS hL)
theorem ams_if_gt (hRo : (R.frames = K.2.2.2.2.1 ∧ R.locals = K.2.2.2.2.2) ∧ kc ≤ R.cells ∧ ks ≤ R.slots) (hx : p.tables.exec = Jvm.exec) (hb : c.code = K.2.1) (hml : c.maxLocals = K.2.2.1) (hr : meth.sig.returnType = K.2.2.2.1) (hlk : meth.locks = false) (hown : s.vm.findClass K.1.cls = some m.cls) (hts : ∀ w ∈ am_ws K, w.before args s = true) (hK : va_K D vwCl (am_tys cy) s) (hD : ∀ w, va_D A (am_cw cy sd ad w)) (hA : ∀ q, s.heap.size ≤ q → A q) (hZ : am_Zs ad A s) (hN : am_Ns s) (h9 : A = A9) : am_Q_if_gt sd K r (am_G p l e R kc ks s m args below meth c sd K r D cy ad A A9) := by
  intro pc ls st w x off tgt h0 h1 kt kf H locs lsA hw hP hS hL
  exact lv_if_gt hx hb h0 h1 (fun q => kt q H locs lsA hw hP hS hL) (fun q => kf q H locs lsA hw hP hS hL)
theorem ams_if_le (hRo : (R.frames = K.2.2.2.2.1 ∧ R.locals = K.2.2.2.2.2) ∧ kc ≤ R.cells ∧ ks ≤ R.slots) (hx : p.tables.exec = Jvm.exec) (hb : c.code = K.2.1) (hml : c.maxLocals = K.2.2.1) (hr : meth.sig.returnType = K.2.2.2.1) (hlk : meth.locks = false) (hown : s.vm.findClass K.1.cls = some m.cls) (hts : ∀ w ∈ am_ws K, w.before args s = true) (hK : va_K D vwCl (am_tys cy) s) (hD : ∀ w, va_D A (am_cw cy sd ad w)) (hA : ∀ q, s.heap.size ≤ q → A q) (hZ : am_Zs ad A s) (hN : am_Ns s) (h9 : A = A9) : am_Q_if_le sd K r (am_G p l e R kc ks s m args below meth c sd K r D cy ad A A9) := by
  intro pc ls st w x off tgt h0 h1 kt kf H locs lsA hw hP hS hL
  exact lv_if_le hx hb h0 h1 (fun q => kt q H locs lsA hw hP hS hL) (fun q => kf q H locs lsA hw hP hS hL)
theorem ams_goto (hRo : (R.frames = K.2.2.2.2.1 ∧ R.locals = K.2.2.2.2.2) ∧ kc ≤ R.cells ∧ ks ≤ R.slots) (hx : p.tables.exec = Jvm.exec) (hb : c.code = K.2.1) (hml : c.maxLocals = K.2.2.1) (hr : meth.sig.returnType = K.2.2.2.1) (hlk : meth.locks = false) (hown : s.vm.findClass K.1.cls = some m.cls) (hts : ∀ w ∈ am_ws K, w.before args s = true) (hK : va_K D vwCl (am_tys cy) s) (hD : ∀ w, va_D A (am_cw cy sd ad w)) (hA : ∀ q, s.heap.size ≤ q → A q) (hZ : am_Zs ad A s) (hN : am_Ns s) (h9 : A = A9) : am_Q_goto sd K r (am_G p l e R kc ks s m args below meth c sd K r D cy ad A A9) := by
  intro pc ls st w off tgt h0 h1 k H locs lsA hw hP hS hL
  exact lv_goto hx hb h0 h1 (k H locs lsA hw hP hS hL)
theorem ams_ifnull (hRo : (R.frames = K.2.2.2.2.1 ∧ R.locals = K.2.2.2.2.2) ∧ kc ≤ R.cells ∧ ks ≤ R.slots) (hx : p.tables.exec = Jvm.exec) (hb : c.code = K.2.1) (hml : c.maxLocals = K.2.2.1) (hr : meth.sig.returnType = K.2.2.2.1) (hlk : meth.locks = false) (hown : s.vm.findClass K.1.cls = some m.cls) (hts : ∀ w ∈ am_ws K, w.before args s = true) (hK : va_K D vwCl (am_tys cy) s) (hD : ∀ w, va_D A (am_cw cy sd ad w)) (hA : ∀ q, s.heap.size ≤ q → A q) (hZ : am_Zs ad A s) (hN : am_Ns s) (h9 : A = A9) : am_Q_ifnull sd K r (am_G p l e R kc ks s m args below meth c sd K r D cy ad A A9) := by
  intro pc ls st w q off h0 k H locs lsA hw hP hS hL
  exact lv_ifnull hx hb h0 (k H locs lsA hw hP hS hL)
theorem ams_ifnullN (hRo : (R.frames = K.2.2.2.2.1 ∧ R.locals = K.2.2.2.2.2) ∧ kc ≤ R.cells ∧ ks ≤ R.slots) (hx : p.tables.exec = Jvm.exec) (hb : c.code = K.2.1) (hml : c.maxLocals = K.2.2.1) (hr : meth.sig.returnType = K.2.2.2.1) (hlk : meth.locks = false) (hown : s.vm.findClass K.1.cls = some m.cls) (hts : ∀ w ∈ am_ws K, w.before args s = true) (hK : va_K D vwCl (am_tys cy) s) (hD : ∀ w, va_D A (am_cw cy sd ad w)) (hA : ∀ q, s.heap.size ≤ q → A q) (hZ : am_Zs ad A s) (hN : am_Ns s) (h9 : A = A9) : am_Q_ifnullN sd K r (am_G p l e R kc ks s m args below meth c sd K r D cy ad A A9) := by
  intro pc ls st w off tgt h0 h1 k H locs lsA hw hP hS hL
  exact lv_ifnullN hx hb h0 h1 (k H locs lsA hw hP hS hL)
theorem ams_ifnonnull (hRo : (R.frames = K.2.2.2.2.1 ∧ R.locals = K.2.2.2.2.2) ∧ kc ≤ R.cells ∧ ks ≤ R.slots) (hx : p.tables.exec = Jvm.exec) (hb : c.code = K.2.1) (hml : c.maxLocals = K.2.2.1) (hr : meth.sig.returnType = K.2.2.2.1) (hlk : meth.locks = false) (hown : s.vm.findClass K.1.cls = some m.cls) (hts : ∀ w ∈ am_ws K, w.before args s = true) (hK : va_K D vwCl (am_tys cy) s) (hD : ∀ w, va_D A (am_cw cy sd ad w)) (hA : ∀ q, s.heap.size ≤ q → A q) (hZ : am_Zs ad A s) (hN : am_Ns s) (h9 : A = A9) : am_Q_ifnonnull sd K r (am_G p l e R kc ks s m args below meth c sd K r D cy ad A A9) := by
  intro pc ls st w q off tgt h0 h1 k H locs lsA hw hP hS hL
  exact lv_ifnonnull hx hb h0 h1 (k H locs lsA hw hP hS hL)
theorem ams_ifnonnullN (hRo : (R.frames = K.2.2.2.2.1 ∧ R.locals = K.2.2.2.2.2) ∧ kc ≤ R.cells ∧ ks ≤ R.slots) (hx : p.tables.exec = Jvm.exec) (hb : c.code = K.2.1) (hml : c.maxLocals = K.2.2.1) (hr : meth.sig.returnType = K.2.2.2.1) (hlk : meth.locks = false) (hown : s.vm.findClass K.1.cls = some m.cls) (hts : ∀ w ∈ am_ws K, w.before args s = true) (hK : va_K D vwCl (am_tys cy) s) (hD : ∀ w, va_D A (am_cw cy sd ad w)) (hA : ∀ q, s.heap.size ≤ q → A q) (hZ : am_Zs ad A s) (hN : am_Ns s) (h9 : A = A9) : am_Q_ifnonnullN sd K r (am_G p l e R kc ks s m args below meth c sd K r D cy ad A A9) := by
  intro pc ls st w off h0 k H locs lsA hw hP hS hL
  exact lv_ifnonnullN hx hb h0 (k H locs lsA hw hP hS hL)
theorem ams_tabIn (hRo : (R.frames = K.2.2.2.2.1 ∧ R.locals = K.2.2.2.2.2) ∧ kc ≤ R.cells ∧ ks ≤ R.slots) (hx : p.tables.exec = Jvm.exec) (hb : c.code = K.2.1) (hml : c.maxLocals = K.2.2.1) (hr : meth.sig.returnType = K.2.2.2.1) (hlk : meth.locks = false) (hown : s.vm.findClass K.1.cls = some m.cls) (hts : ∀ w ∈ am_ws K, w.before args s = true) (hK : va_K D vwCl (am_tys cy) s) (hD : ∀ w, va_D A (am_cw cy sd ad w)) (hA : ∀ q, s.heap.size ≤ q → A q) (hZ : am_Zs ad A s) (hN : am_Ns s) (h9 : A = A9) : am_Q_tabIn sd K r (am_G p l e R kc ks s m args below meth c sd K r D cy ad A A9) := by
  intro pc ls st w dflt lo hi offs len x off tgt h0 h1 h2 h3 h4 k H locs lsA hw hP hS hL
  exact lv_tableIn hx hb h0 h1 h2 h3 h4 (k H locs lsA hw hP hS hL)
theorem ams_tabOut (hRo : (R.frames = K.2.2.2.2.1 ∧ R.locals = K.2.2.2.2.2) ∧ kc ≤ R.cells ∧ ks ≤ R.slots) (hx : p.tables.exec = Jvm.exec) (hb : c.code = K.2.1) (hml : c.maxLocals = K.2.2.1) (hr : meth.sig.returnType = K.2.2.2.1) (hlk : meth.locks = false) (hown : s.vm.findClass K.1.cls = some m.cls) (hts : ∀ w ∈ am_ws K, w.before args s = true) (hK : va_K D vwCl (am_tys cy) s) (hD : ∀ w, va_D A (am_cw cy sd ad w)) (hA : ∀ q, s.heap.size ≤ q → A q) (hZ : am_Zs ad A s) (hN : am_Ns s) (h9 : A = A9) : am_Q_tabOut sd K r (am_G p l e R kc ks s m args below meth c sd K r D cy ad A A9) := by
  intro pc ls st w dflt lo hi offs len x tgt h0 h1 h2 k H locs lsA hw hP hS hL
  exact lv_tableOut hx hb h0 h1 h2 (k H locs lsA hw hP hS hL)
theorem ams_lookup (hRo : (R.frames = K.2.2.2.2.1 ∧ R.locals = K.2.2.2.2.2) ∧ kc ≤ R.cells ∧ ks ≤ R.slots) (hx : p.tables.exec = Jvm.exec) (hb : c.code = K.2.1) (hml : c.maxLocals = K.2.2.1) (hr : meth.sig.returnType = K.2.2.2.1) (hlk : meth.locks = false) (hown : s.vm.findClass K.1.cls = some m.cls) (hts : ∀ w ∈ am_ws K, w.before args s = true) (hK : va_K D vwCl (am_tys cy) s) (hD : ∀ w, va_D A (am_cw cy sd ad w)) (hA : ∀ q, s.heap.size ≤ q → A q) (hZ : am_Zs ad A s) (hN : am_Ns s) (h9 : A = A9) : am_Q_lookup sd K r (am_G p l e R kc ks s m args below meth c sd K r D cy ad A A9) := by
  intro pc ls st w dflt ps len x off tgt h0 h1 h2 h3 k H locs lsA hw hP hS hL
  exact lv_lookup hx hb h0 h1 h2 h3 (k H locs lsA hw hP hS hL)
theorem ams_getI (hRo : (R.frames = K.2.2.2.2.1 ∧ R.locals = K.2.2.2.2.2) ∧ kc ≤ R.cells ∧ ks ≤ R.slots) (hx : p.tables.exec = Jvm.exec) (hb : c.code = K.2.1) (hml : c.maxLocals = K.2.2.1) (hr : meth.sig.returnType = K.2.2.2.1) (hlk : meth.locks = false) (hown : s.vm.findClass K.1.cls = some m.cls) (hts : ∀ w ∈ am_ws K, w.before args s = true) (hK : va_K D vwCl (am_tys cy) s) (hD : ∀ w, va_D A (am_cw cy sd ad w)) (hA : ∀ q, s.heap.size ≤ q → A q) (hZ : am_Zs ad A s) (hN : am_Ns s) (h9 : A = A9) : am_Q_getI sd K r (am_G p l e R kc ks s m args below meth c sd K r D cy ad A A9) := by
  intro pc ls st w idx ci k1 o h0 h1 h2 h3 k H locs lsA hw hP hS hL
  obtain ⟨C, T, N, hc, hk, hlink, hsame⟩ := h1
  obtain ⟨hci, rfl⟩ := am_clT hc
  subst h3
  obtain ⟨q0, -, he⟩ := am_cw_at (cy := cy) (ad := ad) (w := w) (am_cell_o hci)
  have hv : am_fv ad w (am_cls sd o) o k1 = .int (w.1 o 0 k1) := by unfold am_fv; rw [if_pos h2]
  refine va_get hx hb hts (fun w hw => List.mem_cons_of_mem _ ((am_cl hc).1 w hw)) hown hK hP q0 he hc k1 hk (hts _ (List.mem_cons_of_mem _ hlink)) (fun x hx9 => by rw [← hsame]; exact hx9) ((am_fields hk).trans (congrArg some hv)) h0 (k H locs lsA hw hP hS hL)
theorem ams_getL (hRo : (R.frames = K.2.2.2.2.1 ∧ R.locals = K.2.2.2.2.2) ∧ kc ≤ R.cells ∧ ks ≤ R.slots) (hx : p.tables.exec = Jvm.exec) (hb : c.code = K.2.1) (hml : c.maxLocals = K.2.2.1) (hr : meth.sig.returnType = K.2.2.2.1) (hlk : meth.locks = false) (hown : s.vm.findClass K.1.cls = some m.cls) (hts : ∀ w ∈ am_ws K, w.before args s = true) (hK : va_K D vwCl (am_tys cy) s) (hD : ∀ w, va_D A (am_cw cy sd ad w)) (hA : ∀ q, s.heap.size ≤ q → A q) (hZ : am_Zs ad A s) (hN : am_Ns s) (h9 : A = A9) : am_Q_getL sd K r (am_G p l e R kc ks s m args below meth c sd K r D cy ad A A9) := by
  intro pc ls st w idx ci k1 o h0 h1 h2 h3 k H locs lsA hw hP hS hL
  obtain ⟨C, T, N, hc, hk, hlink, hsame⟩ := h1
  obtain ⟨hci, rfl⟩ := am_clT hc
  subst h3
  obtain ⟨q0, -, he⟩ := am_cw_at (cy := cy) (ad := ad) (w := w) (am_cell_o hci)
  have hv : am_fv ad w (am_cls sd o) o k1 = .long w.2 := by unfold am_fv; rw [if_neg (by rw [h2]; decide), if_pos h2]
  refine va_get hx hb hts (fun w hw => List.mem_cons_of_mem _ ((am_cl hc).1 w hw)) hown hK hP q0 he hc k1 hk (hts _ (List.mem_cons_of_mem _ hlink)) (fun x hx9 => by rw [← hsame]; exact hx9) ((am_fields hk).trans (congrArg some hv)) h0 (k H locs lsA hw hP hS hL)
theorem ams_getO (hRo : (R.frames = K.2.2.2.2.1 ∧ R.locals = K.2.2.2.2.2) ∧ kc ≤ R.cells ∧ ks ≤ R.slots) (hx : p.tables.exec = Jvm.exec) (hb : c.code = K.2.1) (hml : c.maxLocals = K.2.2.1) (hr : meth.sig.returnType = K.2.2.2.1) (hlk : meth.locks = false) (hown : s.vm.findClass K.1.cls = some m.cls) (hts : ∀ w ∈ am_ws K, w.before args s = true) (hK : va_K D vwCl (am_tys cy) s) (hD : ∀ w, va_D A (am_cw cy sd ad w)) (hA : ∀ q, s.heap.size ≤ q → A q) (hZ : am_Zs ad A s) (hN : am_Ns s) (h9 : A = A9) : am_Q_getO sd K r (am_G p l e R kc ks s m args below meth c sd K r D cy ad A A9) := by
  intro pc ls st w idx ci k1 o t h0 h1 h2 h3 k H locs lsA hw hP hS hL
  obtain ⟨C, T, N, hc, hk, hlink, hsame⟩ := h1
  obtain ⟨hci, rfl⟩ := am_clT hc
  subst h3
  obtain ⟨q0, -, he⟩ := am_cw_at (cy := cy) (ad := ad) (w := w) (am_cell_o hci)
  have hv : am_fv ad w (am_cls sd o) o k1 = .ref (ad t 0) := by unfold am_fv; rw [h2]; rfl
  refine va_get hx hb hts (fun w hw => List.mem_cons_of_mem _ ((am_cl hc).1 w hw)) hown hK hP q0 he hc k1 hk (hts _ (List.mem_cons_of_mem _ hlink)) (fun x hx9 => by rw [← hsame]; exact hx9) ((am_fields hk).trans (congrArg some hv)) h0 (k H locs lsA hw hP hS hL)
theorem ams_getA (hRo : (R.frames = K.2.2.2.2.1 ∧ R.locals = K.2.2.2.2.2) ∧ kc ≤ R.cells ∧ ks ≤ R.slots) (hx : p.tables.exec = Jvm.exec) (hb : c.code = K.2.1) (hml : c.maxLocals = K.2.2.1) (hr : meth.sig.returnType = K.2.2.2.1) (hlk : meth.locks = false) (hown : s.vm.findClass K.1.cls = some m.cls) (hts : ∀ w ∈ am_ws K, w.before args s = true) (hK : va_K D vwCl (am_tys cy) s) (hD : ∀ w, va_D A (am_cw cy sd ad w)) (hA : ∀ q, s.heap.size ≤ q → A q) (hZ : am_Zs ad A s) (hN : am_Ns s) (h9 : A = A9) : am_Q_getA sd K r (am_G p l e R kc ks s m args below meth c sd K r D cy ad A A9) := by
  intro pc ls st w idx ci k1 o h0 h1 h2 h3 k H locs lsA hw hP hS hL
  obtain ⟨C, T, N, hc, hk, hlink, hsame⟩ := h1
  obtain ⟨hci, rfl⟩ := am_clT hc
  subst h3
  obtain ⟨q0, -, he⟩ := am_cw_at (cy := cy) (ad := ad) (w := w) (am_cell_o hci)
  have hv : am_fv ad w (am_cls sd o) o k1 = .ref (ad o (k1 + 1)) := by unfold am_fv; simp only [Bool.or_eq_true, beq_iff_eq] at h2; rcases h2 with (h2 | h2) | h2 <;> (rw [h2]; rfl)
  refine va_get hx hb hts (fun w hw => List.mem_cons_of_mem _ ((am_cl hc).1 w hw)) hown hK hP q0 he hc k1 hk (hts _ (List.mem_cons_of_mem _ hlink)) (fun x hx9 => by rw [← hsame]; exact hx9) ((am_fields hk).trans (congrArg some hv)) h0 (k H locs lsA hw hP hS hL)
theorem ams_putI (hRo : (R.frames = K.2.2.2.2.1 ∧ R.locals = K.2.2.2.2.2) ∧ kc ≤ R.cells ∧ ks ≤ R.slots) (hx : p.tables.exec = Jvm.exec) (hb : c.code = K.2.1) (hml : c.maxLocals = K.2.2.1) (hr : meth.sig.returnType = K.2.2.2.1) (hlk : meth.locks = false) (hown : s.vm.findClass K.1.cls = some m.cls) (hts : ∀ w ∈ am_ws K, w.before args s = true) (hK : va_K D vwCl (am_tys cy) s) (hD : ∀ w, va_D A (am_cw cy sd ad w)) (hA : ∀ q, s.heap.size ≤ q → A q) (hZ : am_Zs ad A s) (hN : am_Ns s) (h9 : A = A9) : am_Q_putI sd K r (am_G p l e R kc ks s m args below meth c sd K r D cy ad A A9) := by
  intro pc ls st w idx ci k1 o x h0 h1 h2 h3 k H locs lsA hw hP hS hL
  obtain ⟨C, T, N, hc, hk, hlink, hsame⟩ := h1
  obtain ⟨hci, rfl⟩ := am_clT hc
  subst h3
  obtain ⟨q0, hq0, he⟩ := am_cw_at (cy := cy) (ad := ad) (w := w) (am_cell_o hci)
  obtain ⟨ty0, hty⟩ := (am_cl hc).2.1
  obtain ⟨hfin, hpd⟩ := (am_cl hc).2.2.2.1 k1 hk h2
  have hset : (am_cw cy sd ad w).set q0 (ad o 0, .inr (am_cls sd o, ((List.range (am_fn (am_cls sd o))).map (am_fv ad w (am_cls sd o) o)).set k1 (.int x))) = am_cw cy sd ad (am_set w o 0 k1 x) := by
    refine am_cw_set hq0 ?_ (fun o2 a2 _ hne => am_ce_ne o2 a2 hne)
    unfold am_ce
    rw [if_pos rfl]
    refine congrArg (fun z => (Sum.inr (am_cls sd o, z) : va_E)) (List.ext_getElem? (fun j => ?_))
    rcases Nat.lt_or_ge j (am_fn (am_cls sd o)) with hjl | hjl
    rotate_left
    · rw [List.getElem?_eq_none (by rw [List.length_map, List.length_range]; omega), List.getElem?_eq_none (by rw [List.length_set, List.length_map, List.length_range]; omega)]
    symm
    by_cases hj : k1 = j
    · subst hj
      rw [List.getElem?_set_self (by rw [List.length_map, List.length_range]; exact hjl), am_fields hjl]
      unfold am_fv
      rw [if_pos (by rw [h2])]
      have e : (am_set w o 0 k1 x).1 o 0 k1 = x := if_pos ⟨rfl, rfl, rfl⟩
      rw [e]
    · rw [List.getElem?_set_ne hj, am_fields hjl, am_fields hjl]
      have e : (am_set w o 0 k1 x).1 o 0 j = w.1 o 0 j := by
        show (if o = o ∧ 0 = 0 ∧ j = k1 then x else _) = _
        rw [if_neg (fun h => hj h.2.2.symm)]
      unfold am_fv
      rw [e]
      rfl
  refine va_put hx hb hts (fun w hw => List.mem_cons_of_mem _ ((am_cl hc).1 w hw)) ty0 hty (am_cl hc).2.2.1 hown hK hP (hD w) hS q0 he hc k1 hk (hts _ (List.mem_cons_of_mem _ hlink)) (fun x hx9 => by rw [← hsame]; exact hx9) hfin hpd rfl rfl (by rw [List.length_map, List.length_range]; exact hk) h0 (fun H1 locs1 hP1 hD1 hS1 => ?_)
  have hP2 : va_P D vwCl (am_cw cy sd ad (am_set w o 0 k1 x)) H1 := by rw [← hset]; exact hP1
  exact k H1 locs1 lsA (am_ok_set (am_cells_12 (am_cell_o hci)) hw) hP2 hS1 hL
theorem ams_putL (hRo : (R.frames = K.2.2.2.2.1 ∧ R.locals = K.2.2.2.2.2) ∧ kc ≤ R.cells ∧ ks ≤ R.slots) (hx : p.tables.exec = Jvm.exec) (hb : c.code = K.2.1) (hml : c.maxLocals = K.2.2.1) (hr : meth.sig.returnType = K.2.2.2.1) (hlk : meth.locks = false) (hown : s.vm.findClass K.1.cls = some m.cls) (hts : ∀ w ∈ am_ws K, w.before args s = true) (hK : va_K D vwCl (am_tys cy) s) (hD : ∀ w, va_D A (am_cw cy sd ad w)) (hA : ∀ q, s.heap.size ≤ q → A q) (hZ : am_Zs ad A s) (hN : am_Ns s) (h9 : A = A9) : am_Q_putL sd K r (am_G p l e R kc ks s m args below meth c sd K r D cy ad A A9) := by
  intro pc ls st w idx ci k1 o x h0 h1 h2 h3 k H locs lsA hw hP hS hL
  obtain ⟨C, T, N, hc, hk, hlink, hsame⟩ := h1
  obtain ⟨hci, rfl⟩ := am_clT hc
  subst h3
  obtain ⟨q0, hq0, he⟩ := am_cw_at (cy := cy) (ad := ad) (w := w) (am_cell_o hci)
  obtain ⟨ty0, hty⟩ := (am_cl hc).2.1
  obtain ⟨hfin, hpd⟩ := (am_cl hc).2.2.2.2 k1 hk h2
  have hset : (am_cw cy sd ad w).set q0 (ad o 0, .inr (am_cls sd o, ((List.range (am_fn (am_cls sd o))).map (am_fv ad w (am_cls sd o) o)).set k1 (.long x))) = am_cw cy sd ad (am_setL w x) := by
    refine am_cw_set hq0 ?_ (fun o2 a2 hm hne => by
      unfold am_ce
      by_cases h0 : a2 = 0
      · subst h0
        rw [if_pos rfl, if_pos rfl]
        have h12 := am_cells_12 hm
        have : (List.range (am_fn (am_cls sd o2))).map (am_fv ad (am_setL w x) (am_cls sd o2) o2) = (List.range (am_fn (am_cls sd o2))).map (am_fv ad w (am_cls sd o2) o2) := by
          apply List.map_congr_left
          intro j hj
          have hj := List.mem_range.mp hj
          unfold am_fv
          by_cases e1 : (am_fk (am_cls sd o2) j).1 = 1
          · have z2 := am_lone sd o2 h12 j hj e1
            have z1 := am_lone sd o (am_cells_12 (am_cell_o hci)) k1 hk (by rw [h2])
            exact absurd (by rw [z1, z2]) hne
          · rw [if_neg e1, if_neg e1]
            rfl
        rw [this]
      · rw [if_neg h0, if_neg h0]
        rfl)
    unfold am_ce
    rw [if_pos rfl]
    refine congrArg (fun z => (Sum.inr (am_cls sd o, z) : va_E)) (List.ext_getElem? (fun j => ?_))
    rcases Nat.lt_or_ge j (am_fn (am_cls sd o)) with hjl | hjl
    rotate_left
    · rw [List.getElem?_eq_none (by rw [List.length_map, List.length_range]; omega), List.getElem?_eq_none (by rw [List.length_set, List.length_map, List.length_range]; omega)]
    symm
    by_cases hj : k1 = j
    · subst hj
      rw [List.getElem?_set_self (by rw [List.length_map, List.length_range]; exact hjl), am_fields hjl]
      unfold am_fv
      rw [if_neg (by rw [h2]; decide), if_pos (by rw [h2])]
      rfl
    · rw [List.getElem?_set_ne hj, am_fields hjl, am_fields hjl]
      unfold am_fv
      by_cases e1 : (am_fk (am_cls sd o) j).1 = 1
      · exact absurd (am_lone1 _ hci k1 hk j hjl (by rw [h2]) e1).symm hj
      · rw [if_neg e1, if_neg e1]
        rfl
  refine va_put hx hb hts (fun w hw => List.mem_cons_of_mem _ ((am_cl hc).1 w hw)) ty0 hty (am_cl hc).2.2.1 hown hK hP (hD w) hS q0 he hc k1 hk (hts _ (List.mem_cons_of_mem _ hlink)) (fun x hx9 => by rw [← hsame]; exact hx9) hfin hpd rfl rfl (by rw [List.length_map, List.length_range]; exact hk) h0 (fun H1 locs1 hP1 hD1 hS1 => ?_)
  have hP2 : va_P D vwCl (am_cw cy sd ad (am_setL w x)) H1 := by rw [← hset]; exact hP1
  exact k H1 locs1 lsA (hw) hP2 hS1 hL
theorem ams_gets (hRo : (R.frames = K.2.2.2.2.1 ∧ R.locals = K.2.2.2.2.2) ∧ kc ≤ R.cells ∧ ks ≤ R.slots) (hx : p.tables.exec = Jvm.exec) (hb : c.code = K.2.1) (hml : c.maxLocals = K.2.2.1) (hr : meth.sig.returnType = K.2.2.2.1) (hlk : meth.locks = false) (hown : s.vm.findClass K.1.cls = some m.cls) (hts : ∀ w ∈ am_ws K, w.before args s = true) (hK : va_K D vwCl (am_tys cy) s) (hD : ∀ w, va_D A (am_cw cy sd ad w)) (hA : ∀ q, s.heap.size ≤ q → A q) (hZ : am_Zs ad A s) (hN : am_Ns s) (h9 : A = A9) : am_Q_gets sd K r (am_G p l e R kc ks s m args below meth c sd K r D cy ad A A9) := by
  intro pc ls st w idx h0 h1 h2 k H locs lsA hw hP hS hL
  refine va_gets hx hb hZ.1 hS hown (hts _ (List.mem_cons_of_mem _ h1)) (fun x hx9 => hx9) h0 (k H locs lsA hw hP hS hL)
theorem ams_iald (hRo : (R.frames = K.2.2.2.2.1 ∧ R.locals = K.2.2.2.2.2) ∧ kc ≤ R.cells ∧ ks ≤ R.slots) (hx : p.tables.exec = Jvm.exec) (hb : c.code = K.2.1) (hml : c.maxLocals = K.2.2.1) (hr : meth.sig.returnType = K.2.2.2.1) (hlk : meth.locks = false) (hown : s.vm.findClass K.1.cls = some m.cls) (hts : ∀ w ∈ am_ws K, w.before args s = true) (hK : va_K D vwCl (am_tys cy) s) (hD : ∀ w, va_D A (am_cw cy sd ad w)) (hA : ∀ q, s.heap.size ≤ q → A q) (hZ : am_Zs ad A s) (hN : am_Ns s) (h9 : A = A9) : am_Q_iald sd K r (am_G p l e R kc ks s m args below meth c sd K r D cy ad A A9) := by
  intro pc ls st w o a i h0 h1 h2 k H locs lsA hw hP hS hL
  obtain ⟨q0, -, he⟩ := am_cw_at (cy := cy) (ad := ad) (w := w) (am_cell_a (by rw [h1]; rfl))
  have h0a : a ≠ 0 := by rintro rfl; exact absurd h1 (by show (0 : Nat) ≠ 2; decide)
  unfold am_ce at he
  rw [if_neg h0a] at he
  rw [if_pos h1] at he
  exact va_iald hx hb hK hP q0 0 he rfl h2 h0 (k H locs lsA hw hP hS hL)
theorem ams_iald12 (hRo : (R.frames = K.2.2.2.2.1 ∧ R.locals = K.2.2.2.2.2) ∧ kc ≤ R.cells ∧ ks ≤ R.slots) (hx : p.tables.exec = Jvm.exec) (hb : c.code = K.2.1) (hml : c.maxLocals = K.2.2.1) (hr : meth.sig.returnType = K.2.2.2.1) (hlk : meth.locks = false) (hown : s.vm.findClass K.1.cls = some m.cls) (hts : ∀ w ∈ am_ws K, w.before args s = true) (hK : va_K D vwCl (am_tys cy) s) (hD : ∀ w, va_D A (am_cw cy sd ad w)) (hA : ∀ q, s.heap.size ≤ q → A q) (hZ : am_Zs ad A s) (hN : am_Ns s) (h9 : A = A9) : am_Q_iald12 sd K r (am_G p l e R kc ks s m args below meth c sd K r D cy ad A A9) := by
  intro pc ls st w i h0 h1 k H locs lsA hw hP hS hL
  have e : w.1 12 1 i.toNatClampNeg = am_ask i.toNatClampNeg := congrFun hw _
  rw [e] at k
  exact va_sld hx hb hZ.2.1 hZ.2.2.1 hZ.2.2.2 hS h1 h0 (k H locs lsA hw hP hS hL)
theorem ams_bald (hRo : (R.frames = K.2.2.2.2.1 ∧ R.locals = K.2.2.2.2.2) ∧ kc ≤ R.cells ∧ ks ≤ R.slots) (hx : p.tables.exec = Jvm.exec) (hb : c.code = K.2.1) (hml : c.maxLocals = K.2.2.1) (hr : meth.sig.returnType = K.2.2.2.1) (hlk : meth.locks = false) (hown : s.vm.findClass K.1.cls = some m.cls) (hts : ∀ w ∈ am_ws K, w.before args s = true) (hK : va_K D vwCl (am_tys cy) s) (hD : ∀ w, va_D A (am_cw cy sd ad w)) (hA : ∀ q, s.heap.size ≤ q → A q) (hZ : am_Zs ad A s) (hN : am_Ns s) (h9 : A = A9) : am_Q_bald sd K r (am_G p l e R kc ks s m args below meth c sd K r D cy ad A A9) := by
  intro pc ls st w o a i h0 h1 h2 k H locs lsA hw hP hS hL
  obtain ⟨q0, -, he⟩ := am_cw_at (cy := cy) (ad := ad) (w := w) (am_cell_a (by rw [h1]; rfl))
  have h0a : a ≠ 0 := by rintro rfl; exact absurd h1 (by show (0 : Nat) ≠ 4; decide)
  unfold am_ce at he
  rw [if_neg h0a] at he
  rw [if_neg (by rw [h1]; decide), if_pos h1] at he
  exact va_zald hx hb hK hP q0 1 he rfl h2 h0 (k H locs lsA hw hP hS hL)
theorem ams_aald (hRo : (R.frames = K.2.2.2.2.1 ∧ R.locals = K.2.2.2.2.2) ∧ kc ≤ R.cells ∧ ks ≤ R.slots) (hx : p.tables.exec = Jvm.exec) (hb : c.code = K.2.1) (hml : c.maxLocals = K.2.2.1) (hr : meth.sig.returnType = K.2.2.2.1) (hlk : meth.locks = false) (hown : s.vm.findClass K.1.cls = some m.cls) (hts : ∀ w ∈ am_ws K, w.before args s = true) (hK : va_K D vwCl (am_tys cy) s) (hD : ∀ w, va_D A (am_cw cy sd ad w)) (hA : ∀ q, s.heap.size ≤ q → A q) (hZ : am_Zs ad A s) (hN : am_Ns s) (h9 : A = A9) : am_Q_aald sd K r (am_G p l e R kc ks s m args below meth c sd K r D cy ad A A9) := by
  intro pc ls st w o a i h0 h1 h2 k H locs lsA hw hP hS hL
  obtain ⟨q0, -, he⟩ := am_cw_at (cy := cy) (ad := ad) (w := w) (am_cell_a (by rw [h1]; rfl))
  have h0a : a ≠ 0 := by rintro rfl; exact absurd h1 (by show (0 : Nat) ≠ 5; decide)
  unfold am_ce at he
  rw [if_neg h0a, if_neg (by rw [h1]; decide), if_neg (by rw [h1]; decide)] at he
  exact va_aldq hx hb hK hP q0 2 he rfl h2 h0 (k H locs lsA hw hP hS hL)
theorem ams_iast (hRo : (R.frames = K.2.2.2.2.1 ∧ R.locals = K.2.2.2.2.2) ∧ kc ≤ R.cells ∧ ks ≤ R.slots) (hx : p.tables.exec = Jvm.exec) (hb : c.code = K.2.1) (hml : c.maxLocals = K.2.2.1) (hr : meth.sig.returnType = K.2.2.2.1) (hlk : meth.locks = false) (hown : s.vm.findClass K.1.cls = some m.cls) (hts : ∀ w ∈ am_ws K, w.before args s = true) (hK : va_K D vwCl (am_tys cy) s) (hD : ∀ w, va_D A (am_cw cy sd ad w)) (hA : ∀ q, s.heap.size ≤ q → A q) (hZ : am_Zs ad A s) (hN : am_Ns s) (h9 : A = A9) : am_Q_iast sd K r (am_G p l e R kc ks s m args below meth c sd K r D cy ad A A9) := by
  intro pc ls st w o a i x h0 h1 h2 k H locs lsA hw hP hS hL
  have hm := am_cell_a (sd := sd) (o := o) (a := a) (by rw [h1]; rfl)
  obtain ⟨q0, hq0, he⟩ := am_cw_at (cy := cy) (ad := ad) (w := w) hm
  have h0a : a ≠ 0 := by rintro rfl; exact absurd h1 (by show (0 : Nat) ≠ 2; decide)
  unfold am_ce at he
  rw [if_neg h0a, if_pos h1] at he
  refine va_iast hx hb hK hP (hD w) hS q0 0 he rfl h2 h0 (fun H1 locs1 hP1 hD1 hS1 => ?_)
  rw [am_cw_set (w' := am_set w o a i.toNatClampNeg x) hq0 (by unfold am_ce; rw [if_neg h0a, if_pos h1, am_ce_set (cy := cy) (sd := sd) (ad := ad) h0a]) (fun o2 a2 _ hne => am_ce_ne o2 a2 hne)] at hP1
  exact k H1 locs1 lsA (am_ok_set (am_cells_12 hm) hw) hP1 hS1 hL
theorem ams_bast (hRo : (R.frames = K.2.2.2.2.1 ∧ R.locals = K.2.2.2.2.2) ∧ kc ≤ R.cells ∧ ks ≤ R.slots) (hx : p.tables.exec = Jvm.exec) (hb : c.code = K.2.1) (hml : c.maxLocals = K.2.2.1) (hr : meth.sig.returnType = K.2.2.2.1) (hlk : meth.locks = false) (hown : s.vm.findClass K.1.cls = some m.cls) (hts : ∀ w ∈ am_ws K, w.before args s = true) (hK : va_K D vwCl (am_tys cy) s) (hD : ∀ w, va_D A (am_cw cy sd ad w)) (hA : ∀ q, s.heap.size ≤ q → A q) (hZ : am_Zs ad A s) (hN : am_Ns s) (h9 : A = A9) : am_Q_bast sd K r (am_G p l e R kc ks s m args below meth c sd K r D cy ad A A9) := by
  intro pc ls st w o a i x h0 h1 h2 k H locs lsA hw hP hS hL
  have hm := am_cell_a (sd := sd) (o := o) (a := a) (by rw [h1]; rfl)
  obtain ⟨q0, hq0, he⟩ := am_cw_at (cy := cy) (ad := ad) (w := w) hm
  have h0a : a ≠ 0 := by rintro rfl; exact absurd h1 (by show (0 : Nat) ≠ 4; decide)
  unfold am_ce at he
  rw [if_neg h0a, if_neg (by rw [h1]; decide), if_pos h1] at he
  refine va_zast hx hb hK hP (hD w) hS q0 1 he rfl h2 h0 (fun H1 locs1 hP1 hD1 hS1 => ?_)
  rw [am_cw_set (w' := am_set w o a i.toNatClampNeg (vp_nar .boolean x)) hq0 (by unfold am_ce; rw [if_neg h0a, if_neg (by rw [h1]; decide), if_pos h1, am_ce_set (cy := cy) (sd := sd) (ad := ad) h0a]) (fun o2 a2 _ hne => am_ce_ne o2 a2 hne)] at hP1
  exact k H1 locs1 lsA (am_ok_set (am_cells_12 hm) hw) hP1 hS1 hL
theorem ams_alen (hRo : (R.frames = K.2.2.2.2.1 ∧ R.locals = K.2.2.2.2.2) ∧ kc ≤ R.cells ∧ ks ≤ R.slots) (hx : p.tables.exec = Jvm.exec) (hb : c.code = K.2.1) (hml : c.maxLocals = K.2.2.1) (hr : meth.sig.returnType = K.2.2.2.1) (hlk : meth.locks = false) (hown : s.vm.findClass K.1.cls = some m.cls) (hts : ∀ w ∈ am_ws K, w.before args s = true) (hK : va_K D vwCl (am_tys cy) s) (hD : ∀ w, va_D A (am_cw cy sd ad w)) (hA : ∀ q, s.heap.size ≤ q → A q) (hZ : am_Zs ad A s) (hN : am_Ns s) (h9 : A = A9) : am_Q_alen sd K r (am_G p l e R kc ks s m args below meth c sd K r D cy ad A A9) := by
  intro pc ls st w o a n h0 h1 h2 k H locs lsA hw hP hS hL
  obtain ⟨q0, -, he⟩ := am_cw_at (cy := cy) (ad := ad) (w := w) (am_cell_a h1)
  have h0a : a ≠ 0 := by rintro rfl; exact absurd h1 (by show ¬ ((0 : Nat) == 2 || (0 : Nat) == 4 || (0 : Nat) == 5) = true; decide)
  unfold am_ce at he
  rw [if_neg h0a] at he
  by_cases e2 : am_aK sd o a = 2
  · rw [if_pos e2] at he
    exact va_alen hx hb hK hP q0 0 he rfl h2 h0 (k H locs lsA hw hP hS hL)
  · rw [if_neg e2] at he
    by_cases e4 : am_aK sd o a = 4
    · rw [if_pos e4] at he
      exact va_alen hx hb hK hP q0 1 he rfl h2 h0 (k H locs lsA hw hP hS hL)
    · rw [if_neg e4] at he
      exact va_alen hx hb hK hP q0 2 he rfl h2 h0 (k H locs lsA hw hP hS hL)
theorem ams_alen12 (hRo : (R.frames = K.2.2.2.2.1 ∧ R.locals = K.2.2.2.2.2) ∧ kc ≤ R.cells ∧ ks ≤ R.slots) (hx : p.tables.exec = Jvm.exec) (hb : c.code = K.2.1) (hml : c.maxLocals = K.2.2.1) (hr : meth.sig.returnType = K.2.2.2.1) (hlk : meth.locks = false) (hown : s.vm.findClass K.1.cls = some m.cls) (hts : ∀ w ∈ am_ws K, w.before args s = true) (hK : va_K D vwCl (am_tys cy) s) (hD : ∀ w, va_D A (am_cw cy sd ad w)) (hA : ∀ q, s.heap.size ≤ q → A q) (hZ : am_Zs ad A s) (hN : am_Ns s) (h9 : A = A9) : am_Q_alen12 sd K r (am_G p l e R kc ks s m args below meth c sd K r D cy ad A A9) := by
  intro pc ls st w h0 k H locs lsA hw hP hS hL
  exact va_slen hx hb hZ.2.1 hZ.2.2.1 hZ.2.2.2 hS h0 (k H locs lsA hw hP hS hL)
theorem ams_call (hRo : (R.frames = K.2.2.2.2.1 ∧ R.locals = K.2.2.2.2.2) ∧ kc ≤ R.cells ∧ ks ≤ R.slots) (hx : p.tables.exec = Jvm.exec) (hb : c.code = K.2.1) (hml : c.maxLocals = K.2.2.1) (hr : meth.sig.returnType = K.2.2.2.1) (hlk : meth.locks = false) (hown : s.vm.findClass K.1.cls = some m.cls) (hts : ∀ w ∈ am_ws K, w.before args s = true) (hK : va_K D vwCl (am_tys cy) s) (hD : ∀ w, va_D A (am_cw cy sd ad w)) (hA : ∀ q, s.heap.size ≤ q → A q) (hZ : am_Zs ad A s) (hN : am_Ns s) (h9 : A = A9) : am_Q_call sd K r (am_G p l e R kc ks s m args below meth c sd K r D cy ad A A9) := by
  intro pc ls st w K2 As r2 stk h0 h1 h2 h3 k H locs lsA hw hP hS hL
  subst h2
  obtain ⟨⟨hmw, hmi⟩, hfit, hcase⟩ := h0
  have hM := h1 l D cy ad H.size
  have hR : (am_rm K2).frames + 1 ≤ R.frames ∧ 8 + (K2.2.2.1 + 11) + (am_rm K2).locals ≤ R.locals := by rw [hRo.1.1, hRo.1.2]; exact hfit
  have hFb : FrameBlind (va_Pc (As.map (am_cv ad)) (fun U => U.heap.size = H.size ∧ am_ok w ∧ va_P D vwCl (am_cw cy sd ad w) U.heap ∧ va_K D vwCl (am_tys cy) U ∧ va_D (fun _ => True) (am_cw cy sd ad w) ∧ am_Zs ad (va_A (am_cw cy sd ad w) H.size) U ∧ am_Ns U)) := by
    intro a U g mk q
    obtain ⟨q1, q2, q3, q4, q5, q6, ⟨z1, z2, z3, z4⟩, q8⟩ := q
    exact ⟨q1, q2, q3, q4, va_K.moved (u := U) (U := U.calling g mk a) (Vm.Alike.refl U.vm) q5, q6, ⟨va_Z.moved (u := U) (U := U.calling g mk a) (Vm.Alike.refl U.vm) z1, va_X.moved (u := U) (U := U.calling g mk a) (Vm.Alike.refl U.vm) z2, z3, z4⟩, am_Ns.same (u := U) (U := U.calling g mk a) rfl q8⟩
  have hAA : ∀ q, va_A (am_cw cy sd ad w) H.size q → A q := am_A (hD w) (fun q hq => hA q (Nat.le_trans hS.1 hq))
  have hPre : ∀ U : State, U.heap = H → s.WarmedH U.vm → va_Pc (As.map (am_cv ad)) (fun U => U.heap.size = H.size ∧ am_ok w ∧ va_P D vwCl (am_cw cy sd ad w) U.heap ∧ va_K D vwCl (am_tys cy) U ∧ va_D (fun _ => True) (am_cw cy sd ad w) ∧ am_Zs ad (va_A (am_cw cy sd ad w) H.size) U ∧ am_Ns U) (As.map (am_cv ad)).toArray U := by
    intro U hU hW
    exact ⟨rfl, by rw [hU], hw, by rw [hU]; exact hP, va_K.moved hW.alike hK, (hD w).weaken (fun _ _ _ _ => trivial), hZ.go hS hAA hW.alike hU, am_Ns.warm hW hN⟩
  have hcat : (((st.map (am_cv ad))).map fun v => v.category).sum ≤ 8 := by
    rw [List.map_map]
    have : ((fun v : Value => v.category) ∘ am_cv ad) = am_cat := funext (fun v => am_cv_cat ad v)
    rw [this]
    exact h3
  have hG : ∀ w ∈ am_ws K2, w ∈ am_ws K ∧ ((w.onTables && w.keeps) = true ∨ ∃ ty, w = .arrayClass ty) := by
    intro w hw
    have hm : w ∈ am_AWS := by
      rcases List.mem_cons.mp hw with rfl | h
      · exact hmw
      · exact h
    exact ⟨List.mem_cons_of_mem _ hm, am_good w hm⟩
  have hGo : ∀ {x : Cond}, x ∈ am_AWS → x ∈ am_ws K ∧ ((x.onTables && x.keeps) = true ∨ ∃ ty, x = .arrayClass ty) := fun {x} hx => ⟨List.mem_cons_of_mem _ hx, am_good x hx⟩
  have goOn : ∀ (t : State) (locs1 : List Loc), (am_ok r2.2 ∧ va_P D vwCl (am_cw cy sd ad r2.2) t.heap) → va_S A s.heap t.heap locs1 → W p l e R s m args below meth c t.heap locs1 kc ks (MQ below (fun _ st oc t => oc = .returned (r.1.map (am_cv ad)) ∧ am_ok r.2 ∧ va_P D vwCl (am_cw cy sd ad r.2) t.heap ∧ va_F A9 st t) args s kc ks A9) (F0 m (pc + 3) lsA ((r2.1.map (am_cv ad)).toList ++ st.map (am_cv ad))) := by
    intro t locs1 hB hS1
    have := k t.heap locs1 lsA hB.1 hB.2 hS1 hL
    rw [List.map_append] at this
    cases hr1 : r2.1 with
    | none => rw [hr1] at this; exact this
    | some x => rw [hr1] at this; exact this
  rcases hcase with ⟨idx, o, rest, ci, C, T, N, hdg, ⟨e1, e2, e3⟩, rfl, hcl, hci, hCn, -, m1, m2, m3⟩ | ⟨idx, hdg, ⟨e1, e2⟩, -, m1, m2, m3⟩ | ⟨idx, hdg, ⟨⟨host, e1⟩, e2⟩, -, m1, m2, m3⟩
  · subst hCn
    obtain ⟨hc7, rfl⟩ := am_clT hci
    subst hcl
    obtain ⟨q0, -, he⟩ := am_cw_at (cy := cy) (ad := ad) (w := w) (am_cell_o hc7)
    have hGV : GoodIn (am_ws K) (wsV K.1.cls idx K2.1.cls K2.1 (am_ws K2)) := by
      intro x hx
      unfold wsV at hx
      simp only [List.cons_append, List.nil_append, List.mem_cons] at hx
      rcases hx with rfl | rfl | rfl | rfl | hx
      · exact hGo e1
      · exact hGo e2
      · exact hGo e3
      · exact hGo hmi
      · exact hG x hx
    have hrun := va_runV (p := p) (l := l) (e := e) (below := below) (meth := meth) (locs := locs) (cells := kc) (slots := ks) (As := rest.map (am_cv ad)) (rest := st.map (am_cv ad)) (g := F0 m pc lsA ((((vR o 0 :: rest).reverse ++ st)).map (am_cv ad))) ⟨hx, hb, hml, hown, hts⟩ hM (cwV rest.length hts hGV rfl rfl rfl ⟨rfl, m1, m2, m3⟩ hR) ⟨hFb, va_recv hK hP hci he, hPre⟩ rfl (by rw [List.length_map]) hL.1 (by simp [am_cv]) (lv_room hcat) hdg ⟨hRo.2.1, hRo.2.2⟩
    exact am_goes (B := fun t => am_ok r2.2 ∧ va_P D vwCl (am_cw cy sd ad r2.2) t.heap) (A1 := va_A (am_cw cy sd ad w) H.size) (a := (Value.ref (ad o 0) :: rest.map (am_cv ad)).toArray) (by
      intro T hT X
      obtain ⟨v, st₀, t, T', L, h0, X', hL, e1, e2, ⟨z1, z2, z3, z4⟩, st⟩ := hrun T hT X
      exact ⟨v, st₀, t, T', L, h0, X', hL, e1, e2, ⟨z1, ⟨z2, z3⟩, z4⟩, st⟩) hS (fun q _ h => hAA q h) hAA goOn
  · have hGS : GoodIn (am_ws K) (va_wsS K.1.cls idx K2.1 (am_ws K2)) := by
      intro x hx
      unfold va_wsS at hx
      simp only [List.cons_append, List.nil_append, List.mem_cons] at hx
      rcases hx with rfl | rfl | rfl | hx
      · exact hGo e1
      · exact hGo e2
      · exact hGo hmi
      · exact hG x hx
    have hrun := va_runS (p := p) (l := l) (e := e) (below := below) (meth := meth) (locs := locs) (cells := kc) (slots := ks) (As := As.map (am_cv ad)) (rest := st.map (am_cv ad)) (g := F0 m pc lsA (((As.reverse ++ st)).map (am_cv ad))) ⟨hx, hb, hml, hown, hts⟩ hM (va_cwS As.length hts hGS rfl rfl rfl ⟨m1, m2, m3⟩ hR) ⟨hFb, hPre⟩ rfl (by rw [List.length_map]) hL.1 (by simp) (lv_room hcat) hdg ⟨hRo.2.1, hRo.2.2⟩
    exact am_goes (B := fun t => am_ok r2.2 ∧ va_P D vwCl (am_cw cy sd ad r2.2) t.heap) (A1 := va_A (am_cw cy sd ad w) H.size) (a := (As.map (am_cv ad)).toArray) (by
      intro T hT X
      obtain ⟨v, st₀, t, T', L, h0, X', hL, e1, e2, ⟨z1, z2, z3, z4⟩, st⟩ := hrun T hT X
      exact ⟨v, st₀, t, T', L, h0, X', hL, e1, e2, ⟨z1, ⟨z2, z3⟩, z4⟩, st⟩) hS (fun q _ h => hAA q h) hAA goOn
  · have hrun := va_runSN (p := p) (l := l) (e := e) (below := below) (meth := meth) (locs := locs) (cells := kc) (slots := ks) (host := host) (As := As.map (am_cv ad)) (rest := st.map (am_cv ad)) (g := F0 m pc lsA (((As.reverse ++ st)).map (am_cv ad))) ⟨hx, hb, hml, hown, hts⟩ hM ⟨va_cnB As.length hts hG rfl rfl rfl (hN _ e1) (hts _ (hGo hmi).1) ⟨m1, m2, m3⟩ hR, hts _ (hGo e2).1, trivial⟩ ⟨hFb, hPre⟩ rfl (by rw [List.length_map]) hL.1 (by simp) (lv_room hcat) hdg ⟨hRo.2.1, hRo.2.2⟩
    exact am_goes (B := fun t => am_ok r2.2 ∧ va_P D vwCl (am_cw cy sd ad r2.2) t.heap) (A1 := va_A (am_cw cy sd ad w) H.size) (a := (As.map (am_cv ad)).toArray) (by
      intro T hT X
      obtain ⟨v, st₀, t, T', L, h0, X', hL, e1, e2, ⟨z1, z2, z3, z4⟩, st⟩ := hrun T hT X
      exact ⟨v, st₀, t, T', L, h0, X', hL, e1, e2, ⟨z1, ⟨z2, z3⟩, z4⟩, st⟩) hS (fun q _ h => hAA q h) hAA goOn
theorem ams_mmax (hRo : (R.frames = K.2.2.2.2.1 ∧ R.locals = K.2.2.2.2.2) ∧ kc ≤ R.cells ∧ ks ≤ R.slots) (hx : p.tables.exec = Jvm.exec) (hb : c.code = K.2.1) (hml : c.maxLocals = K.2.2.1) (hr : meth.sig.returnType = K.2.2.2.1) (hlk : meth.locks = false) (hown : s.vm.findClass K.1.cls = some m.cls) (hts : ∀ w ∈ am_ws K, w.before args s = true) (hK : va_K D vwCl (am_tys cy) s) (hD : ∀ w, va_D A (am_cw cy sd ad w)) (hA : ∀ q, s.heap.size ≤ q → A q) (hZ : am_Zs ad A s) (hN : am_Ns s) (h9 : A = A9) : am_Q_mmax sd K r (am_G p l e R kc ks s m args below meth c sd K r D cy ad A A9) := by
  intro pc ls st w idx x y h0 h1 h2 h3 k H locs lsA hw hP hS hL
  have hcat : ((st.map (am_cv ad)).map fun v => v.category).sum = am_cats st := by
    rw [List.map_map]
    have : ((fun v : Value => v.category) ∘ am_cv ad) = am_cat := funext (fun v => am_cv_cat ad v)
    rw [this]
    rfl
  exact va_mmax hx hb (hml.trans hL.1.symm) hown (hts _ (List.mem_cons_of_mem _ h1)) (hts _ (List.mem_cons_of_mem _ h2.1)) (hts _ (List.mem_cons_of_mem _ h2.2.1)) (hts _ (List.mem_cons_of_mem _ h2.2.2)) (by rw [hRo.1.1]; exact h3.1) (by rw [hcat, hRo.1.2]; exact h3.2) hRo.2.1 hRo.2.2 h0 (k H locs lsA hw hP hS hL)
theorem ams_mmin (hRo : (R.frames = K.2.2.2.2.1 ∧ R.locals = K.2.2.2.2.2) ∧ kc ≤ R.cells ∧ ks ≤ R.slots) (hx : p.tables.exec = Jvm.exec) (hb : c.code = K.2.1) (hml : c.maxLocals = K.2.2.1) (hr : meth.sig.returnType = K.2.2.2.1) (hlk : meth.locks = false) (hown : s.vm.findClass K.1.cls = some m.cls) (hts : ∀ w ∈ am_ws K, w.before args s = true) (hK : va_K D vwCl (am_tys cy) s) (hD : ∀ w, va_D A (am_cw cy sd ad w)) (hA : ∀ q, s.heap.size ≤ q → A q) (hZ : am_Zs ad A s) (hN : am_Ns s) (h9 : A = A9) : am_Q_mmin sd K r (am_G p l e R kc ks s m args below meth c sd K r D cy ad A A9) := by
  intro pc ls st w idx x y h0 h1 h2 h3 k H locs lsA hw hP hS hL
  have hcat : ((st.map (am_cv ad)).map fun v => v.category).sum = am_cats st := by
    rw [List.map_map]
    have : ((fun v : Value => v.category) ∘ am_cv ad) = am_cat := funext (fun v => am_cv_cat ad v)
    rw [this]
    rfl
  exact va_mmin hx hb (hml.trans hL.1.symm) hown (hts _ (List.mem_cons_of_mem _ h1)) (hts _ (List.mem_cons_of_mem _ h2.1)) (hts _ (List.mem_cons_of_mem _ h2.2.1)) (hts _ (List.mem_cons_of_mem _ h2.2.2)) (by rw [hRo.1.1]; exact h3.1) (by rw [hcat, hRo.1.2]; exact h3.2) hRo.2.1 hRo.2.2 h0 (k H locs lsA hw hP hS hL)
theorem ams_mask (hRo : (R.frames = K.2.2.2.2.1 ∧ R.locals = K.2.2.2.2.2) ∧ kc ≤ R.cells ∧ ks ≤ R.slots) (hx : p.tables.exec = Jvm.exec) (hb : c.code = K.2.1) (hml : c.maxLocals = K.2.2.1) (hr : meth.sig.returnType = K.2.2.2.1) (hlk : meth.locks = false) (hown : s.vm.findClass K.1.cls = some m.cls) (hts : ∀ w ∈ am_ws K, w.before args s = true) (hK : va_K D vwCl (am_tys cy) s) (hD : ∀ w, va_D A (am_cw cy sd ad w)) (hA : ∀ q, s.heap.size ≤ q → A q) (hZ : am_Zs ad A s) (hN : am_Ns s) (h9 : A = A9) : am_Q_mask sd K r (am_G p l e R kc ks s m args below meth c sd K r D cy ad A A9) := by
  intro pc ls st w bs k H locs lsA hw hP hS hL
  refine k H locs lsA hw hP hS (am_lv_sub (ad := ad) hL ?_)
  rintro ⟨j, u⟩ hq
  obtain ⟨v, hv, rfl⟩ := am_lv_mem.mp hq
  exact am_lv_mem.mpr ⟨v, am_msk_get bs ls j v hv, rfl⟩
theorem ams_iret (hRo : (R.frames = K.2.2.2.2.1 ∧ R.locals = K.2.2.2.2.2) ∧ kc ≤ R.cells ∧ ks ≤ R.slots) (hx : p.tables.exec = Jvm.exec) (hb : c.code = K.2.1) (hml : c.maxLocals = K.2.2.1) (hr : meth.sig.returnType = K.2.2.2.1) (hlk : meth.locks = false) (hown : s.vm.findClass K.1.cls = some m.cls) (hts : ∀ w ∈ am_ws K, w.before args s = true) (hK : va_K D vwCl (am_tys cy) s) (hD : ∀ w, va_D A (am_cw cy sd ad w)) (hA : ∀ q, s.heap.size ≤ q → A q) (hZ : am_Zs ad A s) (hN : am_Ns s) (h9 : A = A9) : am_Q_iret sd K r (am_G p l e R kc ks s m args below meth c sd K r D cy ad A A9) := by
  intro pc ls st w x h0 h1 h2 H locs lsA hw hP hS hL
  subst h2
  subst h9
  exact W.iret (v := x) hx hb (hr.trans h1) (fun t ht hW => ⟨rfl, hw, by rw [ht]; exact hP, hS.F ht⟩) hS.2.2 h0 hlk
theorem ams_zret (hRo : (R.frames = K.2.2.2.2.1 ∧ R.locals = K.2.2.2.2.2) ∧ kc ≤ R.cells ∧ ks ≤ R.slots) (hx : p.tables.exec = Jvm.exec) (hb : c.code = K.2.1) (hml : c.maxLocals = K.2.2.1) (hr : meth.sig.returnType = K.2.2.2.1) (hlk : meth.locks = false) (hown : s.vm.findClass K.1.cls = some m.cls) (hts : ∀ w ∈ am_ws K, w.before args s = true) (hK : va_K D vwCl (am_tys cy) s) (hD : ∀ w, va_D A (am_cw cy sd ad w)) (hA : ∀ q, s.heap.size ≤ q → A q) (hZ : am_Zs ad A s) (hN : am_Ns s) (h9 : A = A9) : am_Q_zret sd K r (am_G p l e R kc ks s m args below meth c sd K r D cy ad A A9) := by
  intro pc ls st w x h0 h1 h2 h3 H locs lsA hw hP hS hL
  subst h3
  subst h9
  exact W.zret (v := x) hx hb (hr.trans h1) (by
    show narrow .boolean (.int x) = .int x
    have e : narrow .boolean (.int x) = .int (vp_nar .boolean x) := rfl
    rw [e, h2]) (fun t ht hW => ⟨rfl, hw, by rw [ht]; exact hP, hS.F ht⟩) hS.2.2 h0 hlk
theorem ams_lret (hRo : (R.frames = K.2.2.2.2.1 ∧ R.locals = K.2.2.2.2.2) ∧ kc ≤ R.cells ∧ ks ≤ R.slots) (hx : p.tables.exec = Jvm.exec) (hb : c.code = K.2.1) (hml : c.maxLocals = K.2.2.1) (hr : meth.sig.returnType = K.2.2.2.1) (hlk : meth.locks = false) (hown : s.vm.findClass K.1.cls = some m.cls) (hts : ∀ w ∈ am_ws K, w.before args s = true) (hK : va_K D vwCl (am_tys cy) s) (hD : ∀ w, va_D A (am_cw cy sd ad w)) (hA : ∀ q, s.heap.size ≤ q → A q) (hZ : am_Zs ad A s) (hN : am_Ns s) (h9 : A = A9) : am_Q_lret sd K r (am_G p l e R kc ks s m args below meth c sd K r D cy ad A A9) := by
  intro pc ls st w x h0 h1 h2 H locs lsA hw hP hS hL
  subst h2
  subst h9
  exact W.lret (v := x) hx hb (hr.trans h1) (fun t ht hW => ⟨rfl, hw, by rw [ht]; exact hP, hS.F ht⟩) hS.2.2 h0 hlk
theorem ams_aret (hRo : (R.frames = K.2.2.2.2.1 ∧ R.locals = K.2.2.2.2.2) ∧ kc ≤ R.cells ∧ ks ≤ R.slots) (hx : p.tables.exec = Jvm.exec) (hb : c.code = K.2.1) (hml : c.maxLocals = K.2.2.1) (hr : meth.sig.returnType = K.2.2.2.1) (hlk : meth.locks = false) (hown : s.vm.findClass K.1.cls = some m.cls) (hts : ∀ w ∈ am_ws K, w.before args s = true) (hK : va_K D vwCl (am_tys cy) s) (hD : ∀ w, va_D A (am_cw cy sd ad w)) (hA : ∀ q, s.heap.size ≤ q → A q) (hZ : am_Zs ad A s) (hN : am_Ns s) (h9 : A = A9) : am_Q_aret sd K r (am_G p l e R kc ks s m args below meth c sd K r D cy ad A A9) := by
  intro pc ls st w q rt h0 h1 h2 h3 H locs lsA hw hP hS hL
  subst h3
  subst h9
  cases q with
  | none => exact W.aret (v := .null) hx hb (hr.trans h1) h2 (Or.inl rfl) (fun t ht hW => ⟨rfl, hw, by rw [ht]; exact hP, hS.F ht⟩) hS.2.2 h0 hlk
  | some q => exact W.aret (v := .ref (ad q.1 q.2)) hx hb (hr.trans h1) h2 (Or.inr ⟨_, rfl⟩) (fun t ht hW => ⟨rfl, hw, by rw [ht]; exact hP, hS.F ht⟩) hS.2.2 h0 hlk
theorem ams_vret (hRo : (R.frames = K.2.2.2.2.1 ∧ R.locals = K.2.2.2.2.2) ∧ kc ≤ R.cells ∧ ks ≤ R.slots) (hx : p.tables.exec = Jvm.exec) (hb : c.code = K.2.1) (hml : c.maxLocals = K.2.2.1) (hr : meth.sig.returnType = K.2.2.2.1) (hlk : meth.locks = false) (hown : s.vm.findClass K.1.cls = some m.cls) (hts : ∀ w ∈ am_ws K, w.before args s = true) (hK : va_K D vwCl (am_tys cy) s) (hD : ∀ w, va_D A (am_cw cy sd ad w)) (hA : ∀ q, s.heap.size ≤ q → A q) (hZ : am_Zs ad A s) (hN : am_Ns s) (h9 : A = A9) : am_Q_vret sd K r (am_G p l e R kc ks s m args below meth c sd K r D cy ad A A9) := by
  intro pc ls st w h0 h1 h2 H locs lsA hw hP hS hL
  subst h2
  subst h9
  exact W.vret hx hb (hr.trans h1) (fun t ht hW => ⟨rfl, hw, by rw [ht]; exact hP, hS.F ht⟩) hS.2.2 h0 hlk
theorem am_steps (hRo : (R.frames = K.2.2.2.2.1 ∧ R.locals = K.2.2.2.2.2) ∧ kc ≤ R.cells ∧ ks ≤ R.slots) (hx : p.tables.exec = Jvm.exec) (hb : c.code = K.2.1) (hml : c.maxLocals = K.2.2.1) (hr : meth.sig.returnType = K.2.2.2.1) (hlk : meth.locks = false) (hown : s.vm.findClass K.1.cls = some m.cls) (hts : ∀ w ∈ am_ws K, w.before args s = true) (hK : va_K D vwCl (am_tys cy) s) (hD : ∀ w, va_D A (am_cw cy sd ad w)) (hA : ∀ q, s.heap.size ≤ q → A q) (hZ : am_Zs ad A s) (hN : am_Ns s) (h9 : A = A9) : am_Steps sd K r (am_G p l e R kc ks s m args below meth c sd K r D cy ad A A9) := ⟨ams_iconst hRo hx hb hml hr hlk hown hts hK hD hA hZ hN h9, ams_bipush hRo hx hb hml hr hlk hown hts hK hD hA hZ hN h9, ams_sipush hRo hx hb hml hr hlk hown hts hK hD hA hZ hN h9, ams_lconst hRo hx hb hml hr hlk hown hts hK hD hA hZ hN h9, ams_anull hRo hx hb hml hr hlk hown hts hK hD hA hZ hN h9, ams_ldcw hRo hx hb hml hr hlk hown hts hK hD hA hZ hN h9, ams_ldc2 hRo hx hb hml hr hlk hown hts hK hD hA hZ hN h9, ams_iadd hRo hx hb hml hr hlk hown hts hK hD hA hZ hN h9, ams_isub hRo hx hb hml hr hlk hown hts hK hD hA hZ hN h9, ams_imul hRo hx hb hml hr hlk hown hts hK hD hA hZ hN h9, ams_iand hRo hx hb hml hr hlk hown hts hK hD hA hZ hN h9, ams_ior hRo hx hb hml hr hlk hown hts hK hD hA hZ hN h9, ams_ixor hRo hx hb hml hr hlk hown hts hK hD hA hZ hN h9, ams_ishl hRo hx hb hml hr hlk hown hts hK hD hA hZ hN h9, ams_ishr hRo hx hb hml hr hlk hown hts hK hD hA hZ hN h9, ams_iushr hRo hx hb hml hr hlk hown hts hK hD hA hZ hN h9, ams_idiv hRo hx hb hml hr hlk hown hts hK hD hA hZ hN h9, ams_irem hRo hx hb hml hr hlk hown hts hK hD hA hZ hN h9, ams_ladd hRo hx hb hml hr hlk hown hts hK hD hA hZ hN h9, ams_land hRo hx hb hml hr hlk hown hts hK hD hA hZ hN h9, ams_lor hRo hx hb hml hr hlk hown hts hK hD hA hZ hN h9, ams_lshl hRo hx hb hml hr hlk hown hts hK hD hA hZ hN h9, ams_lshr hRo hx hb hml hr hlk hown hts hK hD hA hZ hN h9, ams_lushr hRo hx hb hml hr hlk hown hts hK hD hA hZ hN h9, ams_l2i hRo hx hb hml hr hlk hown hts hK hD hA hZ hN h9, ams_i2l hRo hx hb hml hr hlk hown hts hK hD hA hZ hN h9, ams_lcmp hRo hx hb hml hr hlk hown hts hK hD hA hZ hN h9, ams_dup hRo hx hb hml hr hlk hown hts hK hD hA hZ hN h9, ams_pop hRo hx hb hml hr hlk hown hts hK hD hA hZ hN h9, ams_dup2 hRo hx hb hml hr hlk hown hts hK hD hA hZ hN h9, ams_iload_n hRo hx hb hml hr hlk hown hts hK hD hA hZ hN h9, ams_lload_n hRo hx hb hml hr hlk hown hts hK hD hA hZ hN h9, ams_aload_n hRo hx hb hml hr hlk hown hts hK hD hA hZ hN h9, ams_iload hRo hx hb hml hr hlk hown hts hK hD hA hZ hN h9, ams_aload hRo hx hb hml hr hlk hown hts hK hD hA hZ hN h9, ams_istore_n hRo hx hb hml hr hlk hown hts hK hD hA hZ hN h9, ams_astore_n hRo hx hb hml hr hlk hown hts hK hD hA hZ hN h9, ams_istore hRo hx hb hml hr hlk hown hts hK hD hA hZ hN h9, ams_astore hRo hx hb hml hr hlk hown hts hK hD hA hZ hN h9, ams_iinc hRo hx hb hml hr hlk hown hts hK hD hA hZ hN h9, ams_icmp_eq hRo hx hb hml hr hlk hown hts hK hD hA hZ hN h9, ams_icmp_ne hRo hx hb hml hr hlk hown hts hK hD hA hZ hN h9, ams_icmp_lt hRo hx hb hml hr hlk hown hts hK hD hA hZ hN h9, ams_icmp_ge hRo hx hb hml hr hlk hown hts hK hD hA hZ hN h9, ams_icmp_gt hRo hx hb hml hr hlk hown hts hK hD hA hZ hN h9, ams_icmp_le hRo hx hb hml hr hlk hown hts hK hD hA hZ hN h9, ams_if_eq hRo hx hb hml hr hlk hown hts hK hD hA hZ hN h9, ams_if_ne hRo hx hb hml hr hlk hown hts hK hD hA hZ hN h9, ams_if_lt hRo hx hb hml hr hlk hown hts hK hD hA hZ hN h9, ams_if_ge hRo hx hb hml hr hlk hown hts hK hD hA hZ hN h9, ams_if_gt hRo hx hb hml hr hlk hown hts hK hD hA hZ hN h9, ams_if_le hRo hx hb hml hr hlk hown hts hK hD hA hZ hN h9, ams_goto hRo hx hb hml hr hlk hown hts hK hD hA hZ hN h9, ams_ifnull hRo hx hb hml hr hlk hown hts hK hD hA hZ hN h9, ams_ifnullN hRo hx hb hml hr hlk hown hts hK hD hA hZ hN h9, ams_ifnonnull hRo hx hb hml hr hlk hown hts hK hD hA hZ hN h9, ams_ifnonnullN hRo hx hb hml hr hlk hown hts hK hD hA hZ hN h9, ams_tabIn hRo hx hb hml hr hlk hown hts hK hD hA hZ hN h9, ams_tabOut hRo hx hb hml hr hlk hown hts hK hD hA hZ hN h9, ams_lookup hRo hx hb hml hr hlk hown hts hK hD hA hZ hN h9, ams_getI hRo hx hb hml hr hlk hown hts hK hD hA hZ hN h9, ams_getL hRo hx hb hml hr hlk hown hts hK hD hA hZ hN h9, ams_getO hRo hx hb hml hr hlk hown hts hK hD hA hZ hN h9, ams_getA hRo hx hb hml hr hlk hown hts hK hD hA hZ hN h9, ams_putI hRo hx hb hml hr hlk hown hts hK hD hA hZ hN h9, ams_putL hRo hx hb hml hr hlk hown hts hK hD hA hZ hN h9, ams_gets hRo hx hb hml hr hlk hown hts hK hD hA hZ hN h9, ams_iald hRo hx hb hml hr hlk hown hts hK hD hA hZ hN h9, ams_iald12 hRo hx hb hml hr hlk hown hts hK hD hA hZ hN h9, ams_bald hRo hx hb hml hr hlk hown hts hK hD hA hZ hN h9, ams_aald hRo hx hb hml hr hlk hown hts hK hD hA hZ hN h9, ams_iast hRo hx hb hml hr hlk hown hts hK hD hA hZ hN h9, ams_bast hRo hx hb hml hr hlk hown hts hK hD hA hZ hN h9, ams_alen hRo hx hb hml hr hlk hown hts hK hD hA hZ hN h9, ams_alen12 hRo hx hb hml hr hlk hown hts hK hD hA hZ hN h9, ams_call hRo hx hb hml hr hlk hown hts hK hD hA hZ hN h9, ams_mmax hRo hx hb hml hr hlk hown hts hK hD hA hZ hN h9, ams_mmin hRo hx hb hml hr hlk hown hts hK hD hA hZ hN h9, ams_mask hRo hx hb hml hr hlk hown hts hK hD hA hZ hN h9, ams_iret hRo hx hb hml hr hlk hown hts hK hD hA hZ hN h9, ams_zret hRo hx hb hml hr hlk hown hts hK hD hA hZ hN h9, ams_lret hRo hx hb hml hr hlk hown hts hK hD hA hZ hN h9, ams_aret hRo hx hb hml hr hlk hown hts hK hD hA hZ hN h9, ams_vret hRo hx hb hml hr hlk hown hts hK hD hA hZ hN h9⟩
end AMG

/-- a method's contract out of a run from its entry -/
theorem am_met {sd : Bool} {K : MK} {avs : List AV} {w : AW} {r : AR} (hpl : plainName K.1.cls = true) (hlen : (lg_sl (avs.map (am_cv (fun _ _ => 0)))).length ≤ K.2.2.1) (h : RR sd K r 0 (am_ent avs ++ List.replicate (K.2.2.1 - (am_ent avs).length) none) [] w) : am_Met sd K avs w r := by
  intro l D cy ad sz
  refine Met.ofW (cc := K.2.1) (maxL := K.2.2.1) (ret := K.2.2.2.1) hpl rfl ?_
  intro p e s m args below meth c s₁ B hml hv
  obtain ⟨rfl, hsz, hw, hP, hK, hD0, hZ, hN⟩ := hv
  subst hsz
  have hts := atoms_spec (ws := am_ws K) B.pre
  have hD : ∀ w2, va_D (va_A (am_cw cy sd ad w) s.heap.size) (am_cw cy sd ad w2) := fun w2 => am_D w2 (hD0.self (sz := s.heap.size))
  have hlg : (lg_sl (avs.map (am_cv ad))).length = (lg_sl (avs.map (am_cv (fun _ _ => 0)))).length := by
    clear h hts hD hD0 hP hlen B hZ
    induction avs with
    | nil => rfl
    | cons a as ih =>
      simp only [lg_sl, List.map_cons, List.flatMap_cons, List.length_append, am_cv_cat] at ih ⊢
      rw [ih]
      split <;> rfl
  have hl := lv_entry (avs.map (am_cv ad)) (n := K.2.2.1) (by rw [hlg]; exact hlen)
  rw [lg_entry_eq]
  generalize (lg_sl (avs.map (am_cv ad)) ++ List.replicate (K.2.2.1 - (lg_sl (avs.map (am_cv ad))).length) Slot.unset).toArray = lsA at hl ⊢
  refine h _ (am_steps (A := va_A (am_cw cy sd ad w) s.heap.size) ⟨⟨rfl, rfl⟩, Nat.le_refl _, Nat.le_refl _⟩ B.exec B.bytes hml B.returns B.notSynchronized (findClass_of_methodNamed B.named) hts hK hD (fun q hq => Or.inr hq) hZ hN rfl) s.heap [] lsA hw hP va_S.rf (am_lv_sub (ad := ad) hl ?_)
  rintro ⟨j, u⟩ hq
  obtain ⟨v, hv, rfl⟩ := am_lv_mem.mp hq
  have := am_ent_get ad avs 0 j v (am_pad_get hv)
  rwa [Nat.zero_add] at this
