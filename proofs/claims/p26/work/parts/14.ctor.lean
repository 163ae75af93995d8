/-! constructors -/
theorem am_tyU {D : va_G} {cy : ClassId × ClassId × ClassId} {s : State} {k : Nat} {cA c0 : ClassId} {ty : FieldType} (hK : va_K D vwCl (am_tys cy ++ [(cA, ty)]) s) (h : (am_tys cy)[k]? = some (c0, ty)) : cA = c0 := by
  have h1 := (hK.2 3 (cA, ty) rfl).2
  have hk : k < 3 := (List.getElem?_eq_some_iff.mp h).1
  have h2 := (hK.2 k (c0, ty) (by rw [List.getElem?_append_left hk]; exact h)).2
  match k, hk, h with
  | 0, _, h =>
    cases h
    exact Option.some.inj (Eq.trans (Eq.symm (show s.vm.findClass _ = some cA from h1)) (show s.vm.findClass _ = some _ from h2))
  | 1, _, h =>
    cases h
    exact Option.some.inj (Eq.trans (Eq.symm (show s.vm.findClass _ = some cA from h1)) (show s.vm.findClass _ = some _ from h2))
  | 2, _, h =>
    cases h
    obtain ⟨_, _, _, _, _, a⟩ := h1
    obtain ⟨_, _, _, _, _, b⟩ := h2
    exact Option.some.inj (a.symm.trans b)
theorem am_gin {K K2 : MK} (h : Cond.code K2.1 K2.2.1 K2.2.2.1 K2.2.2.2.1 ∈ am_AWS) : GoodIn (am_ws K) (am_ws K2) := by
  intro w hw
  have hm : w ∈ am_AWS := by
    rcases List.mem_cons.mp hw with rfl | h'
    · exact h
    · exact h'
  exact ⟨List.mem_cons_of_mem _ hm, am_good w hm⟩
def am_P0 (D : va_G) (cy : ClassId × ClassId × ClassId) (ws : va_W) (sz : Nat) (U : State) : Prop := U.heap.size = sz ∧ va_P D vwCl ws U.heap ∧ va_K D vwCl (am_tys cy) U ∧ va_D (fun _ => True) ws ∧ va_AO "SeenWorlds$Sentence" U ∧ am_Ns U
theorem c_blind {av : List Value} {D : va_G} {cy : ClassId × ClassId × ClassId} {ws : va_W} {sz : Nat} : FrameBlind (va_Pc av (am_P0 D cy ws sz)) := by
  intro a U g mk q
  obtain ⟨q1, q2, q3, q4, q5, q6, q7⟩ := q
  exact ⟨q1, q2, q3, va_K.moved (u := U) (U := U.calling g mk a) (Vm.Alike.refl U.vm) q4, q5, va_AO.moved (u := U) (U := U.calling g mk a) (Vm.Alike.refl U.vm) q6, am_Ns.same (u := U) (U := U.calling g mk a) rfl q7⟩
section CNEW
variable {p : Program} {l : Launch} {e : Env} {R : Room} {s : State} {m : MethodId} {args : Array Value} {below : List Frame} {meth : Method} {c : Code} {H : Heap} {locs : List Loc} {cells slots : Nat} {Q : State → Prop} {cc : ByteArray} {D : va_G} {cy : ClassId × ClassId × ClassId} {ws : va_W} {A : Nat → Prop} {H0 : Heap} {pc : Nat} {ls : Array Slot} {rest : List Value}
theorem c_newa_int {n : Int32} {N : Nat} (hx : p.tables.exec = Jvm.exec) (hb : c.code = cc) (harr : (Cond.arrayClass .int).before args s = true) (hK : va_K D vwCl (am_tys cy) s) (hP : va_P D vwCl ws H) (hD : va_D A ws) (hS : va_S A H0 H locs) (hA : ∀ q, H0.size ≤ q → A q)
    (hn : ¬ n < 0) (hN : n.toNatClampNeg = N) (hby : N * 4 ≤ 536870912) (hc : cells + 1 ≤ R.cells) (hs : slots + N ≤ R.slots) (hdg : decode cc pc = .ok (.newarray .int, 2))
    (kk : ∀ (q : Nat) (H1 : Heap), va_P D vwCl (ws ++ [(q, .inl (cy.1, N, .inl fun _ => 0))]) H1 → va_D A (ws ++ [(q, .inl (cy.1, N, .inl fun _ => 0))]) → va_S A H0 H1 locs → W p l e R s m args below meth c H1 locs (cells + 1) (slots + N) Q (F0 m (pc + 2) ls (.ref q :: rest))) : W p l e R s m args below meth c H locs cells slots Q (F0 m pc ls (.int n :: rest)) := by
  refine va_newa (atype := .int) (ty := .int) (a0 := (N, .inl fun _ => 0)) hx hb harr rfl hK hP hD hS hA (fun _ => rfl) hn hN hby hc hs hdg (fun q cA H1 hK1 hP1 hD1 hS1 => ?_)
  have e := am_tyU (k := 0) hK1 rfl
  subst e
  exact kk q H1 hP1 hD1 hS1
theorem c_newa_boolean {n : Int32} {N : Nat} (hx : p.tables.exec = Jvm.exec) (hb : c.code = cc) (harr : (Cond.arrayClass .boolean).before args s = true) (hK : va_K D vwCl (am_tys cy) s) (hP : va_P D vwCl ws H) (hD : va_D A ws) (hS : va_S A H0 H locs) (hA : ∀ q, H0.size ≤ q → A q)
    (hn : ¬ n < 0) (hN : n.toNatClampNeg = N) (hby : N * 4 ≤ 536870912) (hc : cells + 1 ≤ R.cells) (hs : slots + N ≤ R.slots) (hdg : decode cc pc = .ok (.newarray .boolean, 2))
    (kk : ∀ (q : Nat) (H1 : Heap), va_P D vwCl (ws ++ [(q, .inl (cy.2.1, N, .inl fun _ => 0))]) H1 → va_D A (ws ++ [(q, .inl (cy.2.1, N, .inl fun _ => 0))]) → va_S A H0 H1 locs → W p l e R s m args below meth c H1 locs (cells + 1) (slots + N) Q (F0 m (pc + 2) ls (.ref q :: rest))) : W p l e R s m args below meth c H locs cells slots Q (F0 m pc ls (.int n :: rest)) := by
  refine va_newa (atype := .boolean) (ty := .boolean) (a0 := (N, .inl fun _ => 0)) hx hb harr rfl hK hP hD hS hA (fun _ => rfl) hn hN (Nat.le_trans (Nat.mul_le_mul_left N (by decide)) hby) hc hs hdg (fun q cA H1 hK1 hP1 hD1 hS1 => ?_)
  have e := am_tyU (k := 1) hK1 rfl
  subst e
  exact kk q H1 hP1 hD1 hS1
theorem c_newq {own : String} {index : Nat} {n : Int32} {N : Nat} (hx : p.tables.exec = Jvm.exec) (hb : c.code = cc) (hown : s.vm.findClass own = some m.cls) (hcl : (Cond.classLink own index "SeenWorlds$Sentence").before args s = true) (hAO : va_AO "SeenWorlds$Sentence" s) (hK : va_K D vwCl (am_tys cy) s) (hP : va_P D vwCl ws H) (hD : va_D A ws) (hS : va_S A H0 H locs) (hA : ∀ q, H0.size ≤ q → A q)
    (hn : ¬ n < 0) (hN : n.toNatClampNeg = N) (hby : N * 4 ≤ 536870912) (hc : cells + 1 ≤ R.cells) (hs : slots + N ≤ R.slots) (hdg : decode cc pc = .ok (.anewarray index, 3))
    (kk : ∀ (q : Nat) (H1 : Heap), va_P D vwCl (ws ++ [(q, .inl (cy.2.2, N, .inr (.inr (.inr (.inr (fun _ => none))))))]) H1 → va_D A (ws ++ [(q, .inl (cy.2.2, N, .inr (.inr (.inr (.inr (fun _ => none))))))]) → va_S A H0 H1 locs → W p l e R s m args below meth c H1 locs (cells + 1) (slots + N) Q (F0 m (pc + 3) ls (.ref q :: rest))) : W p l e R s m args below meth c H locs cells slots Q (F0 m pc ls (.int n :: rest)) := by
  refine va_newq hx hb hown hcl hAO hK hP hD hS hA hn hN hby hc hs hdg (fun q cA H1 hK1 hP1 hD1 hS1 => ?_)
  have e := am_tyU (k := 2) hK1 rfl
  subst e
  exact kk q H1 hP1 hD1 hS1
end CNEW

abbrev KX0_init : MK := (yX0_init, cX0_init, 1, none, 1, 12)
theorem mw_X0_init : am_mw KX0_init := ⟨am_c2 (i := 26) rfl rfl, am_c2 (i := 6) rfl rfl⟩
set_option maxHeartbeats 4000000 in
set_option maxRecDepth 100000 in
theorem c_X0_init (l : Launch) (D : va_G) (cy : ClassId × ClassId × ClassId) (h0 sz : Nat) : Met l yX0_init (am_ws KX0_init) ({ frames := 1, cells := 2, slots := 12, locals := 12 } : Room) (va_Pc [.ref h0] (am_P0 D cy [(h0, .inr (0, [.null, .null, .int 0]))] sz)) (va_Qv (S := Nat × Nat) (fun _ => True) (fun u t => match u with | (q1, q2) => va_P D vwCl [(h0, .inr (0, [.ref q1, .ref q2, .int 3])), (q1, .inl (cy.1, 8, .inl (fun _ => 0))), (q2, .inl (cy.1, 4, .inl (fun _ => 0)))] t.heap ∧ va_D (va_A [(h0, .inr (0, [.null, .null, .int 0]))] sz) [(h0, .inr (0, [.ref q1, .ref q2, .int 3])), (q1, .inl (cy.1, 8, .inl (fun _ => 0))), (q2, .inl (cy.1, 4, .inl (fun _ => 0)))]) (va_A [(h0, .inr (0, [.null, .null, .int 0]))] sz)) 2 12 (va_A [(h0, .inr (0, [.null, .null, .int 0]))] sz) := by
  refine Met.ofW (cc := cX0_init) (maxL := 1) (ret := none) (by decide) rfl ?_
  intro p e s m args below meth c s₁ B hml hv
  obtain ⟨rfl, hsz, hP, hK, hD0, hAO, hN⟩ := hv
  have hx := B.exec
  have hb := B.bytes
  have hr := B.returns
  have hts := atoms_spec (ws := am_ws KX0_init) B.pre
  have hown : s.vm.findClass RX0 = some m.cls := findClass_of_methodNamed B.named
  have hlocks := B.notSynchronized
  have hin : meth.name = "<init>" := (name_of_methodNamed B.named B.method).1
  subst hsz
  have hD := hD0.self (sz := s.heap.size)
  generalize hAe : va_A [(h0, .inr (0, [.null, .null, .int 0]))] s.heap.size = A at hD ⊢
  have hA : ∀ q : Nat, s.heap.size ≤ q → A q := fun q h => by rw [← hAe]; exact Or.inr h
  have hS : va_S A s.heap s.heap [] := va_S.rf
  have hP : va_P D vwCl [(h0, .inr (0, [.null, .null, .int 0]))] s.heap := hP
  have hl := lv_entry ([.ref h0]) (n := 1) (Nat.le_of_ble_eq_true rfl)
  rw [lg_entry_eq]
  generalize (lg_sl ([.ref h0]) ++ List.replicate (1 - (lg_sl ([.ref h0])).length) Slot.unset).toArray = ls at hl ⊢
  have hl : lv_has ls 1 [(0, .ref h0)] := hl
  refine lv_aload_n hx hb dX0_init_0 rfl (lv_at hl 0 rfl) ?_
  refine W.objInit hx hb hown (hts _ (List.mem_cons_of_mem _ (am_c2 (i := 27) rfl rfl))) (hts _ (List.mem_cons_of_mem _ (am_c2 (i := 20) rfl rfl))) (hts _ (List.mem_cons_of_mem _ (am_c2 (i := 21) rfl rfl))) rfl (by rw [hml]; exact hl.1) rfl dX0_init_1 (Nat.le_of_ble_eq_true rfl) (Nat.le_of_ble_eq_true rfl) ?_
  refine W.eq (g2 := F0 m 4 ls []) rfl ?_
  refine lv_aload_n hx hb dX0_init_4 rfl (lv_at hl 0 rfl) ?_
  refine lv_bipush (v := 8) hx hb dX0_init_5 (by decide) ?_
  refine c_newa_int (N := 8) hx hb (hts _ (List.mem_cons_of_mem _ (am_c3 (i := 6) rfl rfl))) hK hP hD hS hA (by decide) (by decide) (by decide) (Nat.le_of_ble_eq_true rfl) (Nat.le_of_ble_eq_true rfl) dX0_init_7 (fun q1 H hPn hDn hSn => ?_)
  clear hP hD hS
  have hP : va_P D vwCl [(h0, .inr (0, [.null, .null, .int 0])), (q1, .inl (cy.1, 8, .inl (fun _ => 0)))] H := hPn
  have hD : va_D A [(h0, .inr (0, [.null, .null, .int 0])), (q1, .inl (cy.1, 8, .inl (fun _ => 0)))] := hDn
  have hS := hSn
  clear hPn hDn hSn
  refine W.widen (k := 1) (n := 8) (Nat.le_refl _) (Nat.le_refl _) ?_
  refine va_putF (ci := 0) (v := .ref q1) (ty := .array .int) (C := RX0) (T := TX0) (N := 3) hx hb hts (fun w hw => List.mem_cons_of_mem _ (am_uws0 w hw)) tyX0 tyX0_ok nmX0 hown hK hP hD hS 0 rfl rfl 0 (by decide) (hts _ (List.mem_cons_of_mem _ (am_c2 (i := 28) rfl rfl))) (fun _ h9 => h9) rfl hin rfl (by decide +kernel) rfl rfl (Nat.le_of_ble_eq_true rfl) dX0_init_9 (fun H locs hPn hDn hSn => ?_)
  clear hP hD hS
  have hP : va_P D vwCl [(h0, .inr (0, [.ref q1, .null, .int 0])), (q1, .inl (cy.1, 8, .inl (fun _ => 0)))] H := hPn
  have hD : va_D A [(h0, .inr (0, [.ref q1, .null, .int 0])), (q1, .inl (cy.1, 8, .inl (fun _ => 0)))] := hDn
  have hS := hSn
  clear hPn hDn hSn
  refine lv_aload_n hx hb dX0_init_12 rfl (lv_at hl 0 rfl) ?_
  refine lv_iconst (v := 4) hx hb dX0_init_13 (by decide) ?_
  refine c_newa_int (N := 4) hx hb (hts _ (List.mem_cons_of_mem _ (am_c3 (i := 6) rfl rfl))) hK hP hD hS hA (by decide) (by decide) (by decide) (Nat.le_of_ble_eq_true rfl) (Nat.le_of_ble_eq_true rfl) dX0_init_14 (fun q2 H hPn hDn hSn => ?_)
  clear hP hD hS
  have hP : va_P D vwCl [(h0, .inr (0, [.ref q1, .null, .int 0])), (q1, .inl (cy.1, 8, .inl (fun _ => 0))), (q2, .inl (cy.1, 4, .inl (fun _ => 0)))] H := hPn
  have hD : va_D A [(h0, .inr (0, [.ref q1, .null, .int 0])), (q1, .inl (cy.1, 8, .inl (fun _ => 0))), (q2, .inl (cy.1, 4, .inl (fun _ => 0)))] := hDn
  have hS := hSn
  clear hPn hDn hSn
  refine W.widen (k := 2) (n := 12) (Nat.le_refl _) (Nat.le_refl _) ?_
  refine va_putF (ci := 0) (v := .ref q2) (ty := .array .int) (C := RX0) (T := TX0) (N := 3) hx hb hts (fun w hw => List.mem_cons_of_mem _ (am_uws0 w hw)) tyX0 tyX0_ok nmX0 hown hK hP hD hS 0 rfl rfl 1 (by decide) (hts _ (List.mem_cons_of_mem _ (am_c2 (i := 29) rfl rfl))) (fun _ h9 => h9) rfl hin rfl (by decide +kernel) rfl rfl (Nat.le_of_ble_eq_true rfl) dX0_init_16 (fun H locs hPn hDn hSn => ?_)
  clear hP hD hS
  have hP : va_P D vwCl [(h0, .inr (0, [.ref q1, .ref q2, .int 0])), (q1, .inl (cy.1, 8, .inl (fun _ => 0))), (q2, .inl (cy.1, 4, .inl (fun _ => 0)))] H := hPn
  have hD : va_D A [(h0, .inr (0, [.ref q1, .ref q2, .int 0])), (q1, .inl (cy.1, 8, .inl (fun _ => 0))), (q2, .inl (cy.1, 4, .inl (fun _ => 0)))] := hDn
  have hS := hSn
  clear hPn hDn hSn
  refine lv_aload_n hx hb dX0_init_19 rfl (lv_at hl 0 rfl) ?_
  refine lv_iconst (v := 3) hx hb dX0_init_20 (by decide) ?_
  refine va_put (ci := 0) (v := .int 3) (ty := .int) (C := RX0) (T := TX0) (N := 3) hx hb hts (fun w hw => List.mem_cons_of_mem _ (am_uws0 w hw)) tyX0 tyX0_ok nmX0 hown hK hP hD hS 0 rfl rfl 2 (by decide) (hts _ (List.mem_cons_of_mem _ (am_c2 (i := 30) rfl rfl))) (fun _ h9 => h9) rfl (by decide +kernel) rfl rfl (Nat.le_of_ble_eq_true rfl) dX0_init_21 (fun H locs hPn hDn hSn => ?_)
  clear hP hD hS
  have hP : va_P D vwCl [(h0, .inr (0, [.ref q1, .ref q2, .int 3])), (q1, .inl (cy.1, 8, .inl (fun _ => 0))), (q2, .inl (cy.1, 4, .inl (fun _ => 0)))] H := hPn
  have hD : va_D A [(h0, .inr (0, [.ref q1, .ref q2, .int 3])), (q1, .inl (cy.1, 8, .inl (fun _ => 0))), (q2, .inl (cy.1, 4, .inl (fun _ => 0)))] := hDn
  have hS := hSn
  clear hPn hDn hSn
  subst hAe
  exact W.vret hx hb hr (fun t ht hW => ⟨⟨(q1, q2), rfl, trivial, by rw [ht]; exact hP, hD⟩, hS.F ht⟩) hS.2.2 dX0_init_24
abbrev KX4_init : MK := (yX4_init, cX4_init, 1, none, 1, 12)
theorem mw_X4_init : am_mw KX4_init := ⟨am_c3 (i := 11) rfl rfl, am_c2 (i := 7) rfl rfl⟩
set_option maxHeartbeats 4000000 in
set_option maxRecDepth 100000 in
theorem c_X4_init (l : Launch) (D : va_G) (cy : ClassId × ClassId × ClassId) (h0 sz : Nat) : Met l yX4_init (am_ws KX4_init) ({ frames := 1, cells := 4, slots := 64, locals := 12 } : Room) (va_Pc [.ref h0] (am_P0 D cy [(h0, .inr (4, [.null, .null, .null, .null, .int 0]))] sz)) (va_Qv (S := Nat × Nat × Nat × Nat) (fun _ => True) (fun u t => match u with | (q1, q2, q3, q4) => va_P D vwCl [(h0, .inr (4, [.ref q1, .ref q2, .ref q3, .ref q4, .int 0])), (q1, .inl (cy.1, 8, .inl (fun _ => 0))), (q2, .inl (cy.1, 40, .inl (fun _ => 0))), (q3, .inl (cy.1, 8, .inl (fun _ => 0))), (q4, .inl (cy.1, 8, .inl (fun _ => 0)))] t.heap ∧ va_D (va_A [(h0, .inr (4, [.null, .null, .null, .null, .int 0]))] sz) [(h0, .inr (4, [.ref q1, .ref q2, .ref q3, .ref q4, .int 0])), (q1, .inl (cy.1, 8, .inl (fun _ => 0))), (q2, .inl (cy.1, 40, .inl (fun _ => 0))), (q3, .inl (cy.1, 8, .inl (fun _ => 0))), (q4, .inl (cy.1, 8, .inl (fun _ => 0)))]) (va_A [(h0, .inr (4, [.null, .null, .null, .null, .int 0]))] sz)) 4 64 (va_A [(h0, .inr (4, [.null, .null, .null, .null, .int 0]))] sz) := by
  refine Met.ofW (cc := cX4_init) (maxL := 1) (ret := none) (by decide) rfl ?_
  intro p e s m args below meth c s₁ B hml hv
  obtain ⟨rfl, hsz, hP, hK, hD0, hAO, hN⟩ := hv
  have hx := B.exec
  have hb := B.bytes
  have hr := B.returns
  have hts := atoms_spec (ws := am_ws KX4_init) B.pre
  have hown : s.vm.findClass RX4 = some m.cls := findClass_of_methodNamed B.named
  have hlocks := B.notSynchronized
  have hin : meth.name = "<init>" := (name_of_methodNamed B.named B.method).1
  subst hsz
  have hD := hD0.self (sz := s.heap.size)
  generalize hAe : va_A [(h0, .inr (4, [.null, .null, .null, .null, .int 0]))] s.heap.size = A at hD ⊢
  have hA : ∀ q : Nat, s.heap.size ≤ q → A q := fun q h => by rw [← hAe]; exact Or.inr h
  have hS : va_S A s.heap s.heap [] := va_S.rf
  have hP : va_P D vwCl [(h0, .inr (4, [.null, .null, .null, .null, .int 0]))] s.heap := hP
  have hl := lv_entry ([.ref h0]) (n := 1) (Nat.le_of_ble_eq_true rfl)
  rw [lg_entry_eq]
  generalize (lg_sl ([.ref h0]) ++ List.replicate (1 - (lg_sl ([.ref h0])).length) Slot.unset).toArray = ls at hl ⊢
  have hl : lv_has ls 1 [(0, .ref h0)] := hl
  refine lv_aload_n hx hb dX4_init_0 rfl (lv_at hl 0 rfl) ?_
  refine W.objInit hx hb hown (hts _ (List.mem_cons_of_mem _ (am_c3 (i := 12) rfl rfl))) (hts _ (List.mem_cons_of_mem _ (am_c2 (i := 20) rfl rfl))) (hts _ (List.mem_cons_of_mem _ (am_c2 (i := 21) rfl rfl))) rfl (by rw [hml]; exact hl.1) rfl dX4_init_1 (Nat.le_of_ble_eq_true rfl) (Nat.le_of_ble_eq_true rfl) ?_
  refine W.eq (g2 := F0 m 4 ls []) rfl ?_
  refine lv_aload_n hx hb dX4_init_4 rfl (lv_at hl 0 rfl) ?_
  refine lv_bipush (v := 8) hx hb dX4_init_5 (by decide) ?_
  refine c_newa_int (N := 8) hx hb (hts _ (List.mem_cons_of_mem _ (am_c3 (i := 6) rfl rfl))) hK hP hD hS hA (by decide) (by decide) (by decide) (Nat.le_of_ble_eq_true rfl) (Nat.le_of_ble_eq_true rfl) dX4_init_7 (fun q1 H hPn hDn hSn => ?_)
  clear hP hD hS
  have hP : va_P D vwCl [(h0, .inr (4, [.null, .null, .null, .null, .int 0])), (q1, .inl (cy.1, 8, .inl (fun _ => 0)))] H := hPn
  have hD : va_D A [(h0, .inr (4, [.null, .null, .null, .null, .int 0])), (q1, .inl (cy.1, 8, .inl (fun _ => 0)))] := hDn
  have hS := hSn
  clear hPn hDn hSn
  refine W.widen (k := 1) (n := 8) (Nat.le_refl _) (Nat.le_refl _) ?_
  refine va_putF (ci := 4) (v := .ref q1) (ty := .array .int) (C := RX4) (T := TX4) (N := 5) hx hb hts (fun w hw => List.mem_cons_of_mem _ (am_uws4 w hw)) tyX4 tyX4_ok nmX4 hown hK hP hD hS 0 rfl rfl 0 (by decide) (hts _ (List.mem_cons_of_mem _ (am_c3 (i := 13) rfl rfl))) (fun _ h9 => h9) rfl hin rfl (by decide +kernel) rfl rfl (Nat.le_of_ble_eq_true rfl) dX4_init_9 (fun H locs hPn hDn hSn => ?_)
  clear hP hD hS
  have hP : va_P D vwCl [(h0, .inr (4, [.ref q1, .null, .null, .null, .int 0])), (q1, .inl (cy.1, 8, .inl (fun _ => 0)))] H := hPn
  have hD : va_D A [(h0, .inr (4, [.ref q1, .null, .null, .null, .int 0])), (q1, .inl (cy.1, 8, .inl (fun _ => 0)))] := hDn
  have hS := hSn
  clear hPn hDn hSn
  refine lv_aload_n hx hb dX4_init_12 rfl (lv_at hl 0 rfl) ?_
  refine lv_bipush (v := 40) hx hb dX4_init_13 (by decide) ?_
  refine c_newa_int (N := 40) hx hb (hts _ (List.mem_cons_of_mem _ (am_c3 (i := 6) rfl rfl))) hK hP hD hS hA (by decide) (by decide) (by decide) (Nat.le_of_ble_eq_true rfl) (Nat.le_of_ble_eq_true rfl) dX4_init_15 (fun q2 H hPn hDn hSn => ?_)
  clear hP hD hS
  have hP : va_P D vwCl [(h0, .inr (4, [.ref q1, .null, .null, .null, .int 0])), (q1, .inl (cy.1, 8, .inl (fun _ => 0))), (q2, .inl (cy.1, 40, .inl (fun _ => 0)))] H := hPn
  have hD : va_D A [(h0, .inr (4, [.ref q1, .null, .null, .null, .int 0])), (q1, .inl (cy.1, 8, .inl (fun _ => 0))), (q2, .inl (cy.1, 40, .inl (fun _ => 0)))] := hDn
  have hS := hSn
  clear hPn hDn hSn
  refine W.widen (k := 2) (n := 48) (Nat.le_refl _) (Nat.le_refl _) ?_
  refine va_putF (ci := 4) (v := .ref q2) (ty := .array .int) (C := RX4) (T := TX4) (N := 5) hx hb hts (fun w hw => List.mem_cons_of_mem _ (am_uws4 w hw)) tyX4 tyX4_ok nmX4 hown hK hP hD hS 0 rfl rfl 1 (by decide) (hts _ (List.mem_cons_of_mem _ (am_c3 (i := 14) rfl rfl))) (fun _ h9 => h9) rfl hin rfl (by decide +kernel) rfl rfl (Nat.le_of_ble_eq_true rfl) dX4_init_17 (fun H locs hPn hDn hSn => ?_)
  clear hP hD hS
  have hP : va_P D vwCl [(h0, .inr (4, [.ref q1, .ref q2, .null, .null, .int 0])), (q1, .inl (cy.1, 8, .inl (fun _ => 0))), (q2, .inl (cy.1, 40, .inl (fun _ => 0)))] H := hPn
  have hD : va_D A [(h0, .inr (4, [.ref q1, .ref q2, .null, .null, .int 0])), (q1, .inl (cy.1, 8, .inl (fun _ => 0))), (q2, .inl (cy.1, 40, .inl (fun _ => 0)))] := hDn
  have hS := hSn
  clear hPn hDn hSn
  refine lv_aload_n hx hb dX4_init_20 rfl (lv_at hl 0 rfl) ?_
  refine lv_bipush (v := 8) hx hb dX4_init_21 (by decide) ?_
  refine c_newa_int (N := 8) hx hb (hts _ (List.mem_cons_of_mem _ (am_c3 (i := 6) rfl rfl))) hK hP hD hS hA (by decide) (by decide) (by decide) (Nat.le_of_ble_eq_true rfl) (Nat.le_of_ble_eq_true rfl) dX4_init_23 (fun q3 H hPn hDn hSn => ?_)
  clear hP hD hS
  have hP : va_P D vwCl [(h0, .inr (4, [.ref q1, .ref q2, .null, .null, .int 0])), (q1, .inl (cy.1, 8, .inl (fun _ => 0))), (q2, .inl (cy.1, 40, .inl (fun _ => 0))), (q3, .inl (cy.1, 8, .inl (fun _ => 0)))] H := hPn
  have hD : va_D A [(h0, .inr (4, [.ref q1, .ref q2, .null, .null, .int 0])), (q1, .inl (cy.1, 8, .inl (fun _ => 0))), (q2, .inl (cy.1, 40, .inl (fun _ => 0))), (q3, .inl (cy.1, 8, .inl (fun _ => 0)))] := hDn
  have hS := hSn
  clear hPn hDn hSn
  refine W.widen (k := 3) (n := 56) (Nat.le_refl _) (Nat.le_refl _) ?_
  refine va_putF (ci := 4) (v := .ref q3) (ty := .array .int) (C := RX4) (T := TX4) (N := 5) hx hb hts (fun w hw => List.mem_cons_of_mem _ (am_uws4 w hw)) tyX4 tyX4_ok nmX4 hown hK hP hD hS 0 rfl rfl 2 (by decide) (hts _ (List.mem_cons_of_mem _ (am_c3 (i := 15) rfl rfl))) (fun _ h9 => h9) rfl hin rfl (by decide +kernel) rfl rfl (Nat.le_of_ble_eq_true rfl) dX4_init_25 (fun H locs hPn hDn hSn => ?_)
  clear hP hD hS
  have hP : va_P D vwCl [(h0, .inr (4, [.ref q1, .ref q2, .ref q3, .null, .int 0])), (q1, .inl (cy.1, 8, .inl (fun _ => 0))), (q2, .inl (cy.1, 40, .inl (fun _ => 0))), (q3, .inl (cy.1, 8, .inl (fun _ => 0)))] H := hPn
  have hD : va_D A [(h0, .inr (4, [.ref q1, .ref q2, .ref q3, .null, .int 0])), (q1, .inl (cy.1, 8, .inl (fun _ => 0))), (q2, .inl (cy.1, 40, .inl (fun _ => 0))), (q3, .inl (cy.1, 8, .inl (fun _ => 0)))] := hDn
  have hS := hSn
  clear hPn hDn hSn
  refine lv_aload_n hx hb dX4_init_28 rfl (lv_at hl 0 rfl) ?_
  refine lv_bipush (v := 8) hx hb dX4_init_29 (by decide) ?_
  refine c_newa_int (N := 8) hx hb (hts _ (List.mem_cons_of_mem _ (am_c3 (i := 6) rfl rfl))) hK hP hD hS hA (by decide) (by decide) (by decide) (Nat.le_of_ble_eq_true rfl) (Nat.le_of_ble_eq_true rfl) dX4_init_31 (fun q4 H hPn hDn hSn => ?_)
  clear hP hD hS
  have hP : va_P D vwCl [(h0, .inr (4, [.ref q1, .ref q2, .ref q3, .null, .int 0])), (q1, .inl (cy.1, 8, .inl (fun _ => 0))), (q2, .inl (cy.1, 40, .inl (fun _ => 0))), (q3, .inl (cy.1, 8, .inl (fun _ => 0))), (q4, .inl (cy.1, 8, .inl (fun _ => 0)))] H := hPn
  have hD : va_D A [(h0, .inr (4, [.ref q1, .ref q2, .ref q3, .null, .int 0])), (q1, .inl (cy.1, 8, .inl (fun _ => 0))), (q2, .inl (cy.1, 40, .inl (fun _ => 0))), (q3, .inl (cy.1, 8, .inl (fun _ => 0))), (q4, .inl (cy.1, 8, .inl (fun _ => 0)))] := hDn
  have hS := hSn
  clear hPn hDn hSn
  refine W.widen (k := 4) (n := 64) (Nat.le_refl _) (Nat.le_refl _) ?_
  refine va_putF (ci := 4) (v := .ref q4) (ty := .array .int) (C := RX4) (T := TX4) (N := 5) hx hb hts (fun w hw => List.mem_cons_of_mem _ (am_uws4 w hw)) tyX4 tyX4_ok nmX4 hown hK hP hD hS 0 rfl rfl 3 (by decide) (hts _ (List.mem_cons_of_mem _ (am_c3 (i := 16) rfl rfl))) (fun _ h9 => h9) rfl hin rfl (by decide +kernel) rfl rfl (Nat.le_of_ble_eq_true rfl) dX4_init_33 (fun H locs hPn hDn hSn => ?_)
  clear hP hD hS
  have hP : va_P D vwCl [(h0, .inr (4, [.ref q1, .ref q2, .ref q3, .ref q4, .int 0])), (q1, .inl (cy.1, 8, .inl (fun _ => 0))), (q2, .inl (cy.1, 40, .inl (fun _ => 0))), (q3, .inl (cy.1, 8, .inl (fun _ => 0))), (q4, .inl (cy.1, 8, .inl (fun _ => 0)))] H := hPn
  have hD : va_D A [(h0, .inr (4, [.ref q1, .ref q2, .ref q3, .ref q4, .int 0])), (q1, .inl (cy.1, 8, .inl (fun _ => 0))), (q2, .inl (cy.1, 40, .inl (fun _ => 0))), (q3, .inl (cy.1, 8, .inl (fun _ => 0))), (q4, .inl (cy.1, 8, .inl (fun _ => 0)))] := hDn
  have hS := hSn
  clear hPn hDn hSn
  refine lv_aload_n hx hb dX4_init_36 rfl (lv_at hl 0 rfl) ?_
  refine lv_iconst (v := 0) hx hb dX4_init_37 (by decide) ?_
  refine va_put (ci := 4) (v := .int 0) (ty := .int) (C := RX4) (T := TX4) (N := 5) hx hb hts (fun w hw => List.mem_cons_of_mem _ (am_uws4 w hw)) tyX4 tyX4_ok nmX4 hown hK hP hD hS 0 rfl rfl 4 (by decide) (hts _ (List.mem_cons_of_mem _ (am_c3 (i := 17) rfl rfl))) (fun _ h9 => h9) rfl (by decide +kernel) rfl rfl (Nat.le_of_ble_eq_true rfl) dX4_init_38 (fun H locs hPn hDn hSn => ?_)
  clear hP hD hS
  have hP : va_P D vwCl [(h0, .inr (4, [.ref q1, .ref q2, .ref q3, .ref q4, .int 0])), (q1, .inl (cy.1, 8, .inl (fun _ => 0))), (q2, .inl (cy.1, 40, .inl (fun _ => 0))), (q3, .inl (cy.1, 8, .inl (fun _ => 0))), (q4, .inl (cy.1, 8, .inl (fun _ => 0)))] H := hPn
  have hD : va_D A [(h0, .inr (4, [.ref q1, .ref q2, .ref q3, .ref q4, .int 0])), (q1, .inl (cy.1, 8, .inl (fun _ => 0))), (q2, .inl (cy.1, 40, .inl (fun _ => 0))), (q3, .inl (cy.1, 8, .inl (fun _ => 0))), (q4, .inl (cy.1, 8, .inl (fun _ => 0)))] := hDn
  have hS := hSn
  clear hPn hDn hSn
  subst hAe
  exact W.vret hx hb hr (fun t ht hW => ⟨⟨(q1, q2, q3, q4), rfl, trivial, by rw [ht]; exact hP, hD⟩, hS.F ht⟩) hS.2.2 dX4_init_41
abbrev KX1_init : MK := (yX1_init, cX1_init, 1, none, 1, 12)
theorem mw_X1_init : am_mw KX1_init := ⟨am_c4 (i := 1) rfl rfl, am_c2 (i := 8) rfl rfl⟩
set_option maxHeartbeats 4000000 in
set_option maxRecDepth 100000 in
theorem c_X1_init (l : Launch) (D : va_G) (cy : ClassId × ClassId × ClassId) (h0 sz : Nat) : Met l yX1_init (am_ws KX1_init) ({ frames := 1, cells := 4, slots := 80, locals := 12 } : Room) (va_Pc [.ref h0] (am_P0 D cy [(h0, .inr (1, [.null, .null, .null, .null, .int 0, .int 0]))] sz)) (va_Qv (S := Nat × Nat × Nat × Nat) (fun _ => True) (fun u t => match u with | (q1, q2, q3, q4) => va_P D vwCl [(h0, .inr (1, [.ref q1, .ref q2, .ref q3, .ref q4, .int 0, .int 0])), (q1, .inl (cy.1, 20, .inl (fun _ => 0))), (q2, .inl (cy.1, 20, .inl (fun _ => 0))), (q3, .inl (cy.1, 20, .inl (fun _ => 0))), (q4, .inl (cy.1, 20, .inl (fun _ => 0)))] t.heap ∧ va_D (va_A [(h0, .inr (1, [.null, .null, .null, .null, .int 0, .int 0]))] sz) [(h0, .inr (1, [.ref q1, .ref q2, .ref q3, .ref q4, .int 0, .int 0])), (q1, .inl (cy.1, 20, .inl (fun _ => 0))), (q2, .inl (cy.1, 20, .inl (fun _ => 0))), (q3, .inl (cy.1, 20, .inl (fun _ => 0))), (q4, .inl (cy.1, 20, .inl (fun _ => 0)))]) (va_A [(h0, .inr (1, [.null, .null, .null, .null, .int 0, .int 0]))] sz)) 4 80 (va_A [(h0, .inr (1, [.null, .null, .null, .null, .int 0, .int 0]))] sz) := by
  refine Met.ofW (cc := cX1_init) (maxL := 1) (ret := none) (by decide) rfl ?_
  intro p e s m args below meth c s₁ B hml hv
  obtain ⟨rfl, hsz, hP, hK, hD0, hAO, hN⟩ := hv
  have hx := B.exec
  have hb := B.bytes
  have hr := B.returns
  have hts := atoms_spec (ws := am_ws KX1_init) B.pre
  have hown : s.vm.findClass RX1 = some m.cls := findClass_of_methodNamed B.named
  have hlocks := B.notSynchronized
  have hin : meth.name = "<init>" := (name_of_methodNamed B.named B.method).1
  subst hsz
  have hD := hD0.self (sz := s.heap.size)
  generalize hAe : va_A [(h0, .inr (1, [.null, .null, .null, .null, .int 0, .int 0]))] s.heap.size = A at hD ⊢
  have hA : ∀ q : Nat, s.heap.size ≤ q → A q := fun q h => by rw [← hAe]; exact Or.inr h
  have hS : va_S A s.heap s.heap [] := va_S.rf
  have hP : va_P D vwCl [(h0, .inr (1, [.null, .null, .null, .null, .int 0, .int 0]))] s.heap := hP
  have hl := lv_entry ([.ref h0]) (n := 1) (Nat.le_of_ble_eq_true rfl)
  rw [lg_entry_eq]
  generalize (lg_sl ([.ref h0]) ++ List.replicate (1 - (lg_sl ([.ref h0])).length) Slot.unset).toArray = ls at hl ⊢
  have hl : lv_has ls 1 [(0, .ref h0)] := hl
  refine lv_aload_n hx hb dX1_init_0 rfl (lv_at hl 0 rfl) ?_
  refine W.objInit hx hb hown (hts _ (List.mem_cons_of_mem _ (am_c4 (i := 2) rfl rfl))) (hts _ (List.mem_cons_of_mem _ (am_c2 (i := 20) rfl rfl))) (hts _ (List.mem_cons_of_mem _ (am_c2 (i := 21) rfl rfl))) rfl (by rw [hml]; exact hl.1) rfl dX1_init_1 (Nat.le_of_ble_eq_true rfl) (Nat.le_of_ble_eq_true rfl) ?_
  refine W.eq (g2 := F0 m 4 ls []) rfl ?_
  refine lv_aload_n hx hb dX1_init_4 rfl (lv_at hl 0 rfl) ?_
  refine lv_bipush (v := 20) hx hb dX1_init_5 (by decide) ?_
  refine c_newa_int (N := 20) hx hb (hts _ (List.mem_cons_of_mem _ (am_c3 (i := 6) rfl rfl))) hK hP hD hS hA (by decide) (by decide) (by decide) (Nat.le_of_ble_eq_true rfl) (Nat.le_of_ble_eq_true rfl) dX1_init_7 (fun q1 H hPn hDn hSn => ?_)
  clear hP hD hS
  have hP : va_P D vwCl [(h0, .inr (1, [.null, .null, .null, .null, .int 0, .int 0])), (q1, .inl (cy.1, 20, .inl (fun _ => 0)))] H := hPn
  have hD : va_D A [(h0, .inr (1, [.null, .null, .null, .null, .int 0, .int 0])), (q1, .inl (cy.1, 20, .inl (fun _ => 0)))] := hDn
  have hS := hSn
  clear hPn hDn hSn
  refine W.widen (k := 1) (n := 20) (Nat.le_refl _) (Nat.le_refl _) ?_
  refine va_putF (ci := 1) (v := .ref q1) (ty := .array .int) (C := RX1) (T := TX1) (N := 6) hx hb hts (fun w hw => List.mem_cons_of_mem _ (am_uws1 w hw)) tyX1 tyX1_ok nmX1 hown hK hP hD hS 0 rfl rfl 0 (by decide) (hts _ (List.mem_cons_of_mem _ (am_c4 (i := 3) rfl rfl))) (fun _ h9 => h9) rfl hin rfl (by decide +kernel) rfl rfl (Nat.le_of_ble_eq_true rfl) dX1_init_9 (fun H locs hPn hDn hSn => ?_)
  clear hP hD hS
  have hP : va_P D vwCl [(h0, .inr (1, [.ref q1, .null, .null, .null, .int 0, .int 0])), (q1, .inl (cy.1, 20, .inl (fun _ => 0)))] H := hPn
  have hD : va_D A [(h0, .inr (1, [.ref q1, .null, .null, .null, .int 0, .int 0])), (q1, .inl (cy.1, 20, .inl (fun _ => 0)))] := hDn
  have hS := hSn
  clear hPn hDn hSn
  refine lv_aload_n hx hb dX1_init_12 rfl (lv_at hl 0 rfl) ?_
  refine lv_bipush (v := 20) hx hb dX1_init_13 (by decide) ?_
  refine c_newa_int (N := 20) hx hb (hts _ (List.mem_cons_of_mem _ (am_c3 (i := 6) rfl rfl))) hK hP hD hS hA (by decide) (by decide) (by decide) (Nat.le_of_ble_eq_true rfl) (Nat.le_of_ble_eq_true rfl) dX1_init_15 (fun q2 H hPn hDn hSn => ?_)
  clear hP hD hS
  have hP : va_P D vwCl [(h0, .inr (1, [.ref q1, .null, .null, .null, .int 0, .int 0])), (q1, .inl (cy.1, 20, .inl (fun _ => 0))), (q2, .inl (cy.1, 20, .inl (fun _ => 0)))] H := hPn
  have hD : va_D A [(h0, .inr (1, [.ref q1, .null, .null, .null, .int 0, .int 0])), (q1, .inl (cy.1, 20, .inl (fun _ => 0))), (q2, .inl (cy.1, 20, .inl (fun _ => 0)))] := hDn
  have hS := hSn
  clear hPn hDn hSn
  refine W.widen (k := 2) (n := 40) (Nat.le_refl _) (Nat.le_refl _) ?_
  refine va_putF (ci := 1) (v := .ref q2) (ty := .array .int) (C := RX1) (T := TX1) (N := 6) hx hb hts (fun w hw => List.mem_cons_of_mem _ (am_uws1 w hw)) tyX1 tyX1_ok nmX1 hown hK hP hD hS 0 rfl rfl 1 (by decide) (hts _ (List.mem_cons_of_mem _ (am_c4 (i := 4) rfl rfl))) (fun _ h9 => h9) rfl hin rfl (by decide +kernel) rfl rfl (Nat.le_of_ble_eq_true rfl) dX1_init_17 (fun H locs hPn hDn hSn => ?_)
  clear hP hD hS
  have hP : va_P D vwCl [(h0, .inr (1, [.ref q1, .ref q2, .null, .null, .int 0, .int 0])), (q1, .inl (cy.1, 20, .inl (fun _ => 0))), (q2, .inl (cy.1, 20, .inl (fun _ => 0)))] H := hPn
  have hD : va_D A [(h0, .inr (1, [.ref q1, .ref q2, .null, .null, .int 0, .int 0])), (q1, .inl (cy.1, 20, .inl (fun _ => 0))), (q2, .inl (cy.1, 20, .inl (fun _ => 0)))] := hDn
  have hS := hSn
  clear hPn hDn hSn
  refine lv_aload_n hx hb dX1_init_20 rfl (lv_at hl 0 rfl) ?_
  refine lv_bipush (v := 20) hx hb dX1_init_21 (by decide) ?_
  refine c_newa_int (N := 20) hx hb (hts _ (List.mem_cons_of_mem _ (am_c3 (i := 6) rfl rfl))) hK hP hD hS hA (by decide) (by decide) (by decide) (Nat.le_of_ble_eq_true rfl) (Nat.le_of_ble_eq_true rfl) dX1_init_23 (fun q3 H hPn hDn hSn => ?_)
  clear hP hD hS
  have hP : va_P D vwCl [(h0, .inr (1, [.ref q1, .ref q2, .null, .null, .int 0, .int 0])), (q1, .inl (cy.1, 20, .inl (fun _ => 0))), (q2, .inl (cy.1, 20, .inl (fun _ => 0))), (q3, .inl (cy.1, 20, .inl (fun _ => 0)))] H := hPn
  have hD : va_D A [(h0, .inr (1, [.ref q1, .ref q2, .null, .null, .int 0, .int 0])), (q1, .inl (cy.1, 20, .inl (fun _ => 0))), (q2, .inl (cy.1, 20, .inl (fun _ => 0))), (q3, .inl (cy.1, 20, .inl (fun _ => 0)))] := hDn
  have hS := hSn
  clear hPn hDn hSn
  refine W.widen (k := 3) (n := 60) (Nat.le_refl _) (Nat.le_refl _) ?_
  refine va_putF (ci := 1) (v := .ref q3) (ty := .array .int) (C := RX1) (T := TX1) (N := 6) hx hb hts (fun w hw => List.mem_cons_of_mem _ (am_uws1 w hw)) tyX1 tyX1_ok nmX1 hown hK hP hD hS 0 rfl rfl 2 (by decide) (hts _ (List.mem_cons_of_mem _ (am_c4 (i := 5) rfl rfl))) (fun _ h9 => h9) rfl hin rfl (by decide +kernel) rfl rfl (Nat.le_of_ble_eq_true rfl) dX1_init_25 (fun H locs hPn hDn hSn => ?_)
  clear hP hD hS
  have hP : va_P D vwCl [(h0, .inr (1, [.ref q1, .ref q2, .ref q3, .null, .int 0, .int 0])), (q1, .inl (cy.1, 20, .inl (fun _ => 0))), (q2, .inl (cy.1, 20, .inl (fun _ => 0))), (q3, .inl (cy.1, 20, .inl (fun _ => 0)))] H := hPn
  have hD : va_D A [(h0, .inr (1, [.ref q1, .ref q2, .ref q3, .null, .int 0, .int 0])), (q1, .inl (cy.1, 20, .inl (fun _ => 0))), (q2, .inl (cy.1, 20, .inl (fun _ => 0))), (q3, .inl (cy.1, 20, .inl (fun _ => 0)))] := hDn
  have hS := hSn
  clear hPn hDn hSn
  refine lv_aload_n hx hb dX1_init_28 rfl (lv_at hl 0 rfl) ?_
  refine lv_bipush (v := 20) hx hb dX1_init_29 (by decide) ?_
  refine c_newa_int (N := 20) hx hb (hts _ (List.mem_cons_of_mem _ (am_c3 (i := 6) rfl rfl))) hK hP hD hS hA (by decide) (by decide) (by decide) (Nat.le_of_ble_eq_true rfl) (Nat.le_of_ble_eq_true rfl) dX1_init_31 (fun q4 H hPn hDn hSn => ?_)
  clear hP hD hS
  have hP : va_P D vwCl [(h0, .inr (1, [.ref q1, .ref q2, .ref q3, .null, .int 0, .int 0])), (q1, .inl (cy.1, 20, .inl (fun _ => 0))), (q2, .inl (cy.1, 20, .inl (fun _ => 0))), (q3, .inl (cy.1, 20, .inl (fun _ => 0))), (q4, .inl (cy.1, 20, .inl (fun _ => 0)))] H := hPn
  have hD : va_D A [(h0, .inr (1, [.ref q1, .ref q2, .ref q3, .null, .int 0, .int 0])), (q1, .inl (cy.1, 20, .inl (fun _ => 0))), (q2, .inl (cy.1, 20, .inl (fun _ => 0))), (q3, .inl (cy.1, 20, .inl (fun _ => 0))), (q4, .inl (cy.1, 20, .inl (fun _ => 0)))] := hDn
  have hS := hSn
  clear hPn hDn hSn
  refine W.widen (k := 4) (n := 80) (Nat.le_refl _) (Nat.le_refl _) ?_
  refine va_putF (ci := 1) (v := .ref q4) (ty := .array .int) (C := RX1) (T := TX1) (N := 6) hx hb hts (fun w hw => List.mem_cons_of_mem _ (am_uws1 w hw)) tyX1 tyX1_ok nmX1 hown hK hP hD hS 0 rfl rfl 3 (by decide) (hts _ (List.mem_cons_of_mem _ (am_c4 (i := 6) rfl rfl))) (fun _ h9 => h9) rfl hin rfl (by decide +kernel) rfl rfl (Nat.le_of_ble_eq_true rfl) dX1_init_33 (fun H locs hPn hDn hSn => ?_)
  clear hP hD hS
  have hP : va_P D vwCl [(h0, .inr (1, [.ref q1, .ref q2, .ref q3, .ref q4, .int 0, .int 0])), (q1, .inl (cy.1, 20, .inl (fun _ => 0))), (q2, .inl (cy.1, 20, .inl (fun _ => 0))), (q3, .inl (cy.1, 20, .inl (fun _ => 0))), (q4, .inl (cy.1, 20, .inl (fun _ => 0)))] H := hPn
  have hD : va_D A [(h0, .inr (1, [.ref q1, .ref q2, .ref q3, .ref q4, .int 0, .int 0])), (q1, .inl (cy.1, 20, .inl (fun _ => 0))), (q2, .inl (cy.1, 20, .inl (fun _ => 0))), (q3, .inl (cy.1, 20, .inl (fun _ => 0))), (q4, .inl (cy.1, 20, .inl (fun _ => 0)))] := hDn
  have hS := hSn
  clear hPn hDn hSn
  refine lv_aload_n hx hb dX1_init_36 rfl (lv_at hl 0 rfl) ?_
  refine lv_iconst (v := 0) hx hb dX1_init_37 (by decide) ?_
  refine va_put (ci := 1) (v := .int 0) (ty := .int) (C := RX1) (T := TX1) (N := 6) hx hb hts (fun w hw => List.mem_cons_of_mem _ (am_uws1 w hw)) tyX1 tyX1_ok nmX1 hown hK hP hD hS 0 rfl rfl 4 (by decide) (hts _ (List.mem_cons_of_mem _ (am_c4 (i := 7) rfl rfl))) (fun _ h9 => h9) rfl (by decide +kernel) rfl rfl (Nat.le_of_ble_eq_true rfl) dX1_init_38 (fun H locs hPn hDn hSn => ?_)
  clear hP hD hS
  have hP : va_P D vwCl [(h0, .inr (1, [.ref q1, .ref q2, .ref q3, .ref q4, .int 0, .int 0])), (q1, .inl (cy.1, 20, .inl (fun _ => 0))), (q2, .inl (cy.1, 20, .inl (fun _ => 0))), (q3, .inl (cy.1, 20, .inl (fun _ => 0))), (q4, .inl (cy.1, 20, .inl (fun _ => 0)))] H := hPn
  have hD : va_D A [(h0, .inr (1, [.ref q1, .ref q2, .ref q3, .ref q4, .int 0, .int 0])), (q1, .inl (cy.1, 20, .inl (fun _ => 0))), (q2, .inl (cy.1, 20, .inl (fun _ => 0))), (q3, .inl (cy.1, 20, .inl (fun _ => 0))), (q4, .inl (cy.1, 20, .inl (fun _ => 0)))] := hDn
  have hS := hSn
  clear hPn hDn hSn
  refine lv_aload_n hx hb dX1_init_41 rfl (lv_at hl 0 rfl) ?_
  refine lv_iconst (v := 0) hx hb dX1_init_42 (by decide) ?_
  refine va_put (ci := 1) (v := .int 0) (ty := .int) (C := RX1) (T := TX1) (N := 6) hx hb hts (fun w hw => List.mem_cons_of_mem _ (am_uws1 w hw)) tyX1 tyX1_ok nmX1 hown hK hP hD hS 0 rfl rfl 5 (by decide) (hts _ (List.mem_cons_of_mem _ (am_c4 (i := 8) rfl rfl))) (fun _ h9 => h9) rfl (by decide +kernel) rfl rfl (Nat.le_of_ble_eq_true rfl) dX1_init_43 (fun H locs hPn hDn hSn => ?_)
  clear hP hD hS
  have hP : va_P D vwCl [(h0, .inr (1, [.ref q1, .ref q2, .ref q3, .ref q4, .int 0, .int 0])), (q1, .inl (cy.1, 20, .inl (fun _ => 0))), (q2, .inl (cy.1, 20, .inl (fun _ => 0))), (q3, .inl (cy.1, 20, .inl (fun _ => 0))), (q4, .inl (cy.1, 20, .inl (fun _ => 0)))] H := hPn
  have hD : va_D A [(h0, .inr (1, [.ref q1, .ref q2, .ref q3, .ref q4, .int 0, .int 0])), (q1, .inl (cy.1, 20, .inl (fun _ => 0))), (q2, .inl (cy.1, 20, .inl (fun _ => 0))), (q3, .inl (cy.1, 20, .inl (fun _ => 0))), (q4, .inl (cy.1, 20, .inl (fun _ => 0)))] := hDn
  have hS := hSn
  clear hPn hDn hSn
  subst hAe
  exact W.vret hx hb hr (fun t ht hW => ⟨⟨(q1, q2, q3, q4), rfl, trivial, by rw [ht]; exact hP, hD⟩, hS.F ht⟩) hS.2.2 dX1_init_46
abbrev KX3_init : MK := (yX3_init, cX3_init, 1, none, 1, 12)
theorem mw_X3_init : am_mw KX3_init := ⟨am_c4 (i := 26) rfl rfl, am_c2 (i := 9) rfl rfl⟩
set_option maxHeartbeats 4000000 in
set_option maxRecDepth 100000 in
theorem c_X3_init (l : Launch) (D : va_G) (cy : ClassId × ClassId × ClassId) (h0 sz : Nat) : Met l yX3_init (am_ws KX3_init) ({ frames := 1, cells := 7, slots := 5282, locals := 12 } : Room) (va_Pc [.ref h0] (am_P0 D cy [(h0, .inr (3, [.null, .null, .null, .null, .null, .null, .null, .int 0, .int 0, .int 0, .int 0, .int 0, .int 0, .int 0]))] sz)) (va_Qv (S := Nat × Nat × Nat × Nat × Nat × Nat × Nat) (fun _ => True) (fun u t => match u with | (q1, q2, q3, q4, q5, q6, q7) => va_P D vwCl [(h0, .inr (3, [.ref q1, .ref q2, .ref q3, .ref q4, .ref q5, .ref q6, .ref q7, .int 0, .int 0, .int 0, .int 0, .int 0, .int 0, .int 0])), (q1, .inl (cy.1, 81, .inl (fun _ => 0))), (q2, .inl (cy.1, 81, .inl (fun _ => 0))), (q3, .inl (cy.1, 1024, .inl (fun _ => 0))), (q4, .inl (cy.1, 1024, .inl (fun _ => 0))), (q5, .inl (cy.1, 1024, .inl (fun _ => 0))), (q6, .inl (cy.1, 1024, .inl (fun _ => 0))), (q7, .inl (cy.1, 1024, .inl (fun _ => 0)))] t.heap ∧ va_D (va_A [(h0, .inr (3, [.null, .null, .null, .null, .null, .null, .null, .int 0, .int 0, .int 0, .int 0, .int 0, .int 0, .int 0]))] sz) [(h0, .inr (3, [.ref q1, .ref q2, .ref q3, .ref q4, .ref q5, .ref q6, .ref q7, .int 0, .int 0, .int 0, .int 0, .int 0, .int 0, .int 0])), (q1, .inl (cy.1, 81, .inl (fun _ => 0))), (q2, .inl (cy.1, 81, .inl (fun _ => 0))), (q3, .inl (cy.1, 1024, .inl (fun _ => 0))), (q4, .inl (cy.1, 1024, .inl (fun _ => 0))), (q5, .inl (cy.1, 1024, .inl (fun _ => 0))), (q6, .inl (cy.1, 1024, .inl (fun _ => 0))), (q7, .inl (cy.1, 1024, .inl (fun _ => 0)))]) (va_A [(h0, .inr (3, [.null, .null, .null, .null, .null, .null, .null, .int 0, .int 0, .int 0, .int 0, .int 0, .int 0, .int 0]))] sz)) 7 5282 (va_A [(h0, .inr (3, [.null, .null, .null, .null, .null, .null, .null, .int 0, .int 0, .int 0, .int 0, .int 0, .int 0, .int 0]))] sz) := by
  refine Met.ofW (cc := cX3_init) (maxL := 1) (ret := none) (by decide) rfl ?_
  intro p e s m args below meth c s₁ B hml hv
  obtain ⟨rfl, hsz, hP, hK, hD0, hAO, hN⟩ := hv
  have hx := B.exec
  have hb := B.bytes
  have hr := B.returns
  have hts := atoms_spec (ws := am_ws KX3_init) B.pre
  have hown : s.vm.findClass RX3 = some m.cls := findClass_of_methodNamed B.named
  have hlocks := B.notSynchronized
  have hin : meth.name = "<init>" := (name_of_methodNamed B.named B.method).1
  subst hsz
  have hD := hD0.self (sz := s.heap.size)
  generalize hAe : va_A [(h0, .inr (3, [.null, .null, .null, .null, .null, .null, .null, .int 0, .int 0, .int 0, .int 0, .int 0, .int 0, .int 0]))] s.heap.size = A at hD ⊢
  have hA : ∀ q : Nat, s.heap.size ≤ q → A q := fun q h => by rw [← hAe]; exact Or.inr h
  have hS : va_S A s.heap s.heap [] := va_S.rf
  have hP : va_P D vwCl [(h0, .inr (3, [.null, .null, .null, .null, .null, .null, .null, .int 0, .int 0, .int 0, .int 0, .int 0, .int 0, .int 0]))] s.heap := hP
  have hl := lv_entry ([.ref h0]) (n := 1) (Nat.le_of_ble_eq_true rfl)
  rw [lg_entry_eq]
  generalize (lg_sl ([.ref h0]) ++ List.replicate (1 - (lg_sl ([.ref h0])).length) Slot.unset).toArray = ls at hl ⊢
  have hl : lv_has ls 1 [(0, .ref h0)] := hl
  refine lv_aload_n hx hb dX3_init_0 rfl (lv_at hl 0 rfl) ?_
  refine W.objInit hx hb hown (hts _ (List.mem_cons_of_mem _ (am_c4 (i := 27) rfl rfl))) (hts _ (List.mem_cons_of_mem _ (am_c2 (i := 20) rfl rfl))) (hts _ (List.mem_cons_of_mem _ (am_c2 (i := 21) rfl rfl))) rfl (by rw [hml]; exact hl.1) rfl dX3_init_1 (Nat.le_of_ble_eq_true rfl) (Nat.le_of_ble_eq_true rfl) ?_
  refine W.eq (g2 := F0 m 4 ls []) rfl ?_
  refine lv_aload_n hx hb dX3_init_4 rfl (lv_at hl 0 rfl) ?_
  refine lv_bipush (v := 81) hx hb dX3_init_5 (by decide) ?_
  refine c_newa_int (N := 81) hx hb (hts _ (List.mem_cons_of_mem _ (am_c3 (i := 6) rfl rfl))) hK hP hD hS hA (by decide) (by decide) (by decide) (Nat.le_of_ble_eq_true rfl) (Nat.le_of_ble_eq_true rfl) dX3_init_7 (fun q1 H hPn hDn hSn => ?_)
  clear hP hD hS
  have hP : va_P D vwCl [(h0, .inr (3, [.null, .null, .null, .null, .null, .null, .null, .int 0, .int 0, .int 0, .int 0, .int 0, .int 0, .int 0])), (q1, .inl (cy.1, 81, .inl (fun _ => 0)))] H := hPn
  have hD : va_D A [(h0, .inr (3, [.null, .null, .null, .null, .null, .null, .null, .int 0, .int 0, .int 0, .int 0, .int 0, .int 0, .int 0])), (q1, .inl (cy.1, 81, .inl (fun _ => 0)))] := hDn
  have hS := hSn
  clear hPn hDn hSn
  refine W.widen (k := 1) (n := 81) (Nat.le_refl _) (Nat.le_refl _) ?_
  refine va_putF (ci := 3) (v := .ref q1) (ty := .array .int) (C := RX3) (T := TX3) (N := 14) hx hb hts (fun w hw => List.mem_cons_of_mem _ (am_uws3 w hw)) tyX3 tyX3_ok nmX3 hown hK hP hD hS 0 rfl rfl 0 (by decide) (hts _ (List.mem_cons_of_mem _ (am_c4 (i := 28) rfl rfl))) (fun _ h9 => h9) rfl hin rfl (by decide +kernel) rfl rfl (Nat.le_of_ble_eq_true rfl) dX3_init_9 (fun H locs hPn hDn hSn => ?_)
  clear hP hD hS
  have hP : va_P D vwCl [(h0, .inr (3, [.ref q1, .null, .null, .null, .null, .null, .null, .int 0, .int 0, .int 0, .int 0, .int 0, .int 0, .int 0])), (q1, .inl (cy.1, 81, .inl (fun _ => 0)))] H := hPn
  have hD : va_D A [(h0, .inr (3, [.ref q1, .null, .null, .null, .null, .null, .null, .int 0, .int 0, .int 0, .int 0, .int 0, .int 0, .int 0])), (q1, .inl (cy.1, 81, .inl (fun _ => 0)))] := hDn
  have hS := hSn
  clear hPn hDn hSn
  refine lv_aload_n hx hb dX3_init_12 rfl (lv_at hl 0 rfl) ?_
  refine lv_bipush (v := 81) hx hb dX3_init_13 (by decide) ?_
  refine c_newa_int (N := 81) hx hb (hts _ (List.mem_cons_of_mem _ (am_c3 (i := 6) rfl rfl))) hK hP hD hS hA (by decide) (by decide) (by decide) (Nat.le_of_ble_eq_true rfl) (Nat.le_of_ble_eq_true rfl) dX3_init_15 (fun q2 H hPn hDn hSn => ?_)
  clear hP hD hS
  have hP : va_P D vwCl [(h0, .inr (3, [.ref q1, .null, .null, .null, .null, .null, .null, .int 0, .int 0, .int 0, .int 0, .int 0, .int 0, .int 0])), (q1, .inl (cy.1, 81, .inl (fun _ => 0))), (q2, .inl (cy.1, 81, .inl (fun _ => 0)))] H := hPn
  have hD : va_D A [(h0, .inr (3, [.ref q1, .null, .null, .null, .null, .null, .null, .int 0, .int 0, .int 0, .int 0, .int 0, .int 0, .int 0])), (q1, .inl (cy.1, 81, .inl (fun _ => 0))), (q2, .inl (cy.1, 81, .inl (fun _ => 0)))] := hDn
  have hS := hSn
  clear hPn hDn hSn
  refine W.widen (k := 2) (n := 162) (Nat.le_refl _) (Nat.le_refl _) ?_
  refine va_putF (ci := 3) (v := .ref q2) (ty := .array .int) (C := RX3) (T := TX3) (N := 14) hx hb hts (fun w hw => List.mem_cons_of_mem _ (am_uws3 w hw)) tyX3 tyX3_ok nmX3 hown hK hP hD hS 0 rfl rfl 1 (by decide) (hts _ (List.mem_cons_of_mem _ (am_c4 (i := 29) rfl rfl))) (fun _ h9 => h9) rfl hin rfl (by decide +kernel) rfl rfl (Nat.le_of_ble_eq_true rfl) dX3_init_17 (fun H locs hPn hDn hSn => ?_)
  clear hP hD hS
  have hP : va_P D vwCl [(h0, .inr (3, [.ref q1, .ref q2, .null, .null, .null, .null, .null, .int 0, .int 0, .int 0, .int 0, .int 0, .int 0, .int 0])), (q1, .inl (cy.1, 81, .inl (fun _ => 0))), (q2, .inl (cy.1, 81, .inl (fun _ => 0)))] H := hPn
  have hD : va_D A [(h0, .inr (3, [.ref q1, .ref q2, .null, .null, .null, .null, .null, .int 0, .int 0, .int 0, .int 0, .int 0, .int 0, .int 0])), (q1, .inl (cy.1, 81, .inl (fun _ => 0))), (q2, .inl (cy.1, 81, .inl (fun _ => 0)))] := hDn
  have hS := hSn
  clear hPn hDn hSn
  refine lv_aload_n hx hb dX3_init_20 rfl (lv_at hl 0 rfl) ?_
  refine lv_sipush (v := 1024) hx hb dX3_init_21 (by decide) ?_
  refine c_newa_int (N := 1024) hx hb (hts _ (List.mem_cons_of_mem _ (am_c3 (i := 6) rfl rfl))) hK hP hD hS hA (by decide) (by decide) (by decide) (Nat.le_of_ble_eq_true rfl) (Nat.le_of_ble_eq_true rfl) dX3_init_24 (fun q3 H hPn hDn hSn => ?_)
  clear hP hD hS
  have hP : va_P D vwCl [(h0, .inr (3, [.ref q1, .ref q2, .null, .null, .null, .null, .null, .int 0, .int 0, .int 0, .int 0, .int 0, .int 0, .int 0])), (q1, .inl (cy.1, 81, .inl (fun _ => 0))), (q2, .inl (cy.1, 81, .inl (fun _ => 0))), (q3, .inl (cy.1, 1024, .inl (fun _ => 0)))] H := hPn
  have hD : va_D A [(h0, .inr (3, [.ref q1, .ref q2, .null, .null, .null, .null, .null, .int 0, .int 0, .int 0, .int 0, .int 0, .int 0, .int 0])), (q1, .inl (cy.1, 81, .inl (fun _ => 0))), (q2, .inl (cy.1, 81, .inl (fun _ => 0))), (q3, .inl (cy.1, 1024, .inl (fun _ => 0)))] := hDn
  have hS := hSn
  clear hPn hDn hSn
  refine W.widen (k := 3) (n := 1186) (Nat.le_refl _) (Nat.le_refl _) ?_
  refine va_putF (ci := 3) (v := .ref q3) (ty := .array .int) (C := RX3) (T := TX3) (N := 14) hx hb hts (fun w hw => List.mem_cons_of_mem _ (am_uws3 w hw)) tyX3 tyX3_ok nmX3 hown hK hP hD hS 0 rfl rfl 2 (by decide) (hts _ (List.mem_cons_of_mem _ (am_c4 (i := 30) rfl rfl))) (fun _ h9 => h9) rfl hin rfl (by decide +kernel) rfl rfl (Nat.le_of_ble_eq_true rfl) dX3_init_26 (fun H locs hPn hDn hSn => ?_)
  clear hP hD hS
  have hP : va_P D vwCl [(h0, .inr (3, [.ref q1, .ref q2, .ref q3, .null, .null, .null, .null, .int 0, .int 0, .int 0, .int 0, .int 0, .int 0, .int 0])), (q1, .inl (cy.1, 81, .inl (fun _ => 0))), (q2, .inl (cy.1, 81, .inl (fun _ => 0))), (q3, .inl (cy.1, 1024, .inl (fun _ => 0)))] H := hPn
  have hD : va_D A [(h0, .inr (3, [.ref q1, .ref q2, .ref q3, .null, .null, .null, .null, .int 0, .int 0, .int 0, .int 0, .int 0, .int 0, .int 0])), (q1, .inl (cy.1, 81, .inl (fun _ => 0))), (q2, .inl (cy.1, 81, .inl (fun _ => 0))), (q3, .inl (cy.1, 1024, .inl (fun _ => 0)))] := hDn
  have hS := hSn
  clear hPn hDn hSn
  refine lv_aload_n hx hb dX3_init_29 rfl (lv_at hl 0 rfl) ?_
  refine lv_sipush (v := 1024) hx hb dX3_init_30 (by decide) ?_
  refine c_newa_int (N := 1024) hx hb (hts _ (List.mem_cons_of_mem _ (am_c3 (i := 6) rfl rfl))) hK hP hD hS hA (by decide) (by decide) (by decide) (Nat.le_of_ble_eq_true rfl) (Nat.le_of_ble_eq_true rfl) dX3_init_33 (fun q4 H hPn hDn hSn => ?_)
  clear hP hD hS
  have hP : va_P D vwCl [(h0, .inr (3, [.ref q1, .ref q2, .ref q3, .null, .null, .null, .null, .int 0, .int 0, .int 0, .int 0, .int 0, .int 0, .int 0])), (q1, .inl (cy.1, 81, .inl (fun _ => 0))), (q2, .inl (cy.1, 81, .inl (fun _ => 0))), (q3, .inl (cy.1, 1024, .inl (fun _ => 0))), (q4, .inl (cy.1, 1024, .inl (fun _ => 0)))] H := hPn
  have hD : va_D A [(h0, .inr (3, [.ref q1, .ref q2, .ref q3, .null, .null, .null, .null, .int 0, .int 0, .int 0, .int 0, .int 0, .int 0, .int 0])), (q1, .inl (cy.1, 81, .inl (fun _ => 0))), (q2, .inl (cy.1, 81, .inl (fun _ => 0))), (q3, .inl (cy.1, 1024, .inl (fun _ => 0))), (q4, .inl (cy.1, 1024, .inl (fun _ => 0)))] := hDn
  have hS := hSn
  clear hPn hDn hSn
  refine W.widen (k := 4) (n := 2210) (Nat.le_refl _) (Nat.le_refl _) ?_
  refine va_putF (ci := 3) (v := .ref q4) (ty := .array .int) (C := RX3) (T := TX3) (N := 14) hx hb hts (fun w hw => List.mem_cons_of_mem _ (am_uws3 w hw)) tyX3 tyX3_ok nmX3 hown hK hP hD hS 0 rfl rfl 3 (by decide) (hts _ (List.mem_cons_of_mem _ (am_c4 (i := 31) rfl rfl))) (fun _ h9 => h9) rfl hin rfl (by decide +kernel) rfl rfl (Nat.le_of_ble_eq_true rfl) dX3_init_35 (fun H locs hPn hDn hSn => ?_)
  clear hP hD hS
  have hP : va_P D vwCl [(h0, .inr (3, [.ref q1, .ref q2, .ref q3, .ref q4, .null, .null, .null, .int 0, .int 0, .int 0, .int 0, .int 0, .int 0, .int 0])), (q1, .inl (cy.1, 81, .inl (fun _ => 0))), (q2, .inl (cy.1, 81, .inl (fun _ => 0))), (q3, .inl (cy.1, 1024, .inl (fun _ => 0))), (q4, .inl (cy.1, 1024, .inl (fun _ => 0)))] H := hPn
  have hD : va_D A [(h0, .inr (3, [.ref q1, .ref q2, .ref q3, .ref q4, .null, .null, .null, .int 0, .int 0, .int 0, .int 0, .int 0, .int 0, .int 0])), (q1, .inl (cy.1, 81, .inl (fun _ => 0))), (q2, .inl (cy.1, 81, .inl (fun _ => 0))), (q3, .inl (cy.1, 1024, .inl (fun _ => 0))), (q4, .inl (cy.1, 1024, .inl (fun _ => 0)))] := hDn
  have hS := hSn
  clear hPn hDn hSn
  refine lv_aload_n hx hb dX3_init_38 rfl (lv_at hl 0 rfl) ?_
  refine lv_sipush (v := 1024) hx hb dX3_init_39 (by decide) ?_
  refine c_newa_int (N := 1024) hx hb (hts _ (List.mem_cons_of_mem _ (am_c3 (i := 6) rfl rfl))) hK hP hD hS hA (by decide) (by decide) (by decide) (Nat.le_of_ble_eq_true rfl) (Nat.le_of_ble_eq_true rfl) dX3_init_42 (fun q5 H hPn hDn hSn => ?_)
  clear hP hD hS
  have hP : va_P D vwCl [(h0, .inr (3, [.ref q1, .ref q2, .ref q3, .ref q4, .null, .null, .null, .int 0, .int 0, .int 0, .int 0, .int 0, .int 0, .int 0])), (q1, .inl (cy.1, 81, .inl (fun _ => 0))), (q2, .inl (cy.1, 81, .inl (fun _ => 0))), (q3, .inl (cy.1, 1024, .inl (fun _ => 0))), (q4, .inl (cy.1, 1024, .inl (fun _ => 0))), (q5, .inl (cy.1, 1024, .inl (fun _ => 0)))] H := hPn
  have hD : va_D A [(h0, .inr (3, [.ref q1, .ref q2, .ref q3, .ref q4, .null, .null, .null, .int 0, .int 0, .int 0, .int 0, .int 0, .int 0, .int 0])), (q1, .inl (cy.1, 81, .inl (fun _ => 0))), (q2, .inl (cy.1, 81, .inl (fun _ => 0))), (q3, .inl (cy.1, 1024, .inl (fun _ => 0))), (q4, .inl (cy.1, 1024, .inl (fun _ => 0))), (q5, .inl (cy.1, 1024, .inl (fun _ => 0)))] := hDn
  have hS := hSn
  clear hPn hDn hSn
  refine W.widen (k := 5) (n := 3234) (Nat.le_refl _) (Nat.le_refl _) ?_
  refine va_putF (ci := 3) (v := .ref q5) (ty := .array .int) (C := RX3) (T := TX3) (N := 14) hx hb hts (fun w hw => List.mem_cons_of_mem _ (am_uws3 w hw)) tyX3 tyX3_ok nmX3 hown hK hP hD hS 0 rfl rfl 4 (by decide) (hts _ (List.mem_cons_of_mem _ (am_c5 (i := 0) rfl rfl))) (fun _ h9 => h9) rfl hin rfl (by decide +kernel) rfl rfl (Nat.le_of_ble_eq_true rfl) dX3_init_44 (fun H locs hPn hDn hSn => ?_)
  clear hP hD hS
  have hP : va_P D vwCl [(h0, .inr (3, [.ref q1, .ref q2, .ref q3, .ref q4, .ref q5, .null, .null, .int 0, .int 0, .int 0, .int 0, .int 0, .int 0, .int 0])), (q1, .inl (cy.1, 81, .inl (fun _ => 0))), (q2, .inl (cy.1, 81, .inl (fun _ => 0))), (q3, .inl (cy.1, 1024, .inl (fun _ => 0))), (q4, .inl (cy.1, 1024, .inl (fun _ => 0))), (q5, .inl (cy.1, 1024, .inl (fun _ => 0)))] H := hPn
  have hD : va_D A [(h0, .inr (3, [.ref q1, .ref q2, .ref q3, .ref q4, .ref q5, .null, .null, .int 0, .int 0, .int 0, .int 0, .int 0, .int 0, .int 0])), (q1, .inl (cy.1, 81, .inl (fun _ => 0))), (q2, .inl (cy.1, 81, .inl (fun _ => 0))), (q3, .inl (cy.1, 1024, .inl (fun _ => 0))), (q4, .inl (cy.1, 1024, .inl (fun _ => 0))), (q5, .inl (cy.1, 1024, .inl (fun _ => 0)))] := hDn
  have hS := hSn
  clear hPn hDn hSn
  refine lv_aload_n hx hb dX3_init_47 rfl (lv_at hl 0 rfl) ?_
  refine lv_sipush (v := 1024) hx hb dX3_init_48 (by decide) ?_
  refine c_newa_int (N := 1024) hx hb (hts _ (List.mem_cons_of_mem _ (am_c3 (i := 6) rfl rfl))) hK hP hD hS hA (by decide) (by decide) (by decide) (Nat.le_of_ble_eq_true rfl) (Nat.le_of_ble_eq_true rfl) dX3_init_51 (fun q6 H hPn hDn hSn => ?_)
  clear hP hD hS
  have hP : va_P D vwCl [(h0, .inr (3, [.ref q1, .ref q2, .ref q3, .ref q4, .ref q5, .null, .null, .int 0, .int 0, .int 0, .int 0, .int 0, .int 0, .int 0])), (q1, .inl (cy.1, 81, .inl (fun _ => 0))), (q2, .inl (cy.1, 81, .inl (fun _ => 0))), (q3, .inl (cy.1, 1024, .inl (fun _ => 0))), (q4, .inl (cy.1, 1024, .inl (fun _ => 0))), (q5, .inl (cy.1, 1024, .inl (fun _ => 0))), (q6, .inl (cy.1, 1024, .inl (fun _ => 0)))] H := hPn
  have hD : va_D A [(h0, .inr (3, [.ref q1, .ref q2, .ref q3, .ref q4, .ref q5, .null, .null, .int 0, .int 0, .int 0, .int 0, .int 0, .int 0, .int 0])), (q1, .inl (cy.1, 81, .inl (fun _ => 0))), (q2, .inl (cy.1, 81, .inl (fun _ => 0))), (q3, .inl (cy.1, 1024, .inl (fun _ => 0))), (q4, .inl (cy.1, 1024, .inl (fun _ => 0))), (q5, .inl (cy.1, 1024, .inl (fun _ => 0))), (q6, .inl (cy.1, 1024, .inl (fun _ => 0)))] := hDn
  have hS := hSn
  clear hPn hDn hSn
  refine W.widen (k := 6) (n := 4258) (Nat.le_refl _) (Nat.le_refl _) ?_
  refine va_putF (ci := 3) (v := .ref q6) (ty := .array .int) (C := RX3) (T := TX3) (N := 14) hx hb hts (fun w hw => List.mem_cons_of_mem _ (am_uws3 w hw)) tyX3 tyX3_ok nmX3 hown hK hP hD hS 0 rfl rfl 5 (by decide) (hts _ (List.mem_cons_of_mem _ (am_c5 (i := 1) rfl rfl))) (fun _ h9 => h9) rfl hin rfl (by decide +kernel) rfl rfl (Nat.le_of_ble_eq_true rfl) dX3_init_53 (fun H locs hPn hDn hSn => ?_)
  clear hP hD hS
  have hP : va_P D vwCl [(h0, .inr (3, [.ref q1, .ref q2, .ref q3, .ref q4, .ref q5, .ref q6, .null, .int 0, .int 0, .int 0, .int 0, .int 0, .int 0, .int 0])), (q1, .inl (cy.1, 81, .inl (fun _ => 0))), (q2, .inl (cy.1, 81, .inl (fun _ => 0))), (q3, .inl (cy.1, 1024, .inl (fun _ => 0))), (q4, .inl (cy.1, 1024, .inl (fun _ => 0))), (q5, .inl (cy.1, 1024, .inl (fun _ => 0))), (q6, .inl (cy.1, 1024, .inl (fun _ => 0)))] H := hPn
  have hD : va_D A [(h0, .inr (3, [.ref q1, .ref q2, .ref q3, .ref q4, .ref q5, .ref q6, .null, .int 0, .int 0, .int 0, .int 0, .int 0, .int 0, .int 0])), (q1, .inl (cy.1, 81, .inl (fun _ => 0))), (q2, .inl (cy.1, 81, .inl (fun _ => 0))), (q3, .inl (cy.1, 1024, .inl (fun _ => 0))), (q4, .inl (cy.1, 1024, .inl (fun _ => 0))), (q5, .inl (cy.1, 1024, .inl (fun _ => 0))), (q6, .inl (cy.1, 1024, .inl (fun _ => 0)))] := hDn
  have hS := hSn
  clear hPn hDn hSn
  refine lv_aload_n hx hb dX3_init_56 rfl (lv_at hl 0 rfl) ?_
  refine lv_sipush (v := 1024) hx hb dX3_init_57 (by decide) ?_
  refine c_newa_int (N := 1024) hx hb (hts _ (List.mem_cons_of_mem _ (am_c3 (i := 6) rfl rfl))) hK hP hD hS hA (by decide) (by decide) (by decide) (Nat.le_of_ble_eq_true rfl) (Nat.le_of_ble_eq_true rfl) dX3_init_60 (fun q7 H hPn hDn hSn => ?_)
  clear hP hD hS
  have hP : va_P D vwCl [(h0, .inr (3, [.ref q1, .ref q2, .ref q3, .ref q4, .ref q5, .ref q6, .null, .int 0, .int 0, .int 0, .int 0, .int 0, .int 0, .int 0])), (q1, .inl (cy.1, 81, .inl (fun _ => 0))), (q2, .inl (cy.1, 81, .inl (fun _ => 0))), (q3, .inl (cy.1, 1024, .inl (fun _ => 0))), (q4, .inl (cy.1, 1024, .inl (fun _ => 0))), (q5, .inl (cy.1, 1024, .inl (fun _ => 0))), (q6, .inl (cy.1, 1024, .inl (fun _ => 0))), (q7, .inl (cy.1, 1024, .inl (fun _ => 0)))] H := hPn
  have hD : va_D A [(h0, .inr (3, [.ref q1, .ref q2, .ref q3, .ref q4, .ref q5, .ref q6, .null, .int 0, .int 0, .int 0, .int 0, .int 0, .int 0, .int 0])), (q1, .inl (cy.1, 81, .inl (fun _ => 0))), (q2, .inl (cy.1, 81, .inl (fun _ => 0))), (q3, .inl (cy.1, 1024, .inl (fun _ => 0))), (q4, .inl (cy.1, 1024, .inl (fun _ => 0))), (q5, .inl (cy.1, 1024, .inl (fun _ => 0))), (q6, .inl (cy.1, 1024, .inl (fun _ => 0))), (q7, .inl (cy.1, 1024, .inl (fun _ => 0)))] := hDn
  have hS := hSn
  clear hPn hDn hSn
  refine W.widen (k := 7) (n := 5282) (Nat.le_refl _) (Nat.le_refl _) ?_
  refine va_putF (ci := 3) (v := .ref q7) (ty := .array .int) (C := RX3) (T := TX3) (N := 14) hx hb hts (fun w hw => List.mem_cons_of_mem _ (am_uws3 w hw)) tyX3 tyX3_ok nmX3 hown hK hP hD hS 0 rfl rfl 6 (by decide) (hts _ (List.mem_cons_of_mem _ (am_c5 (i := 2) rfl rfl))) (fun _ h9 => h9) rfl hin rfl (by decide +kernel) rfl rfl (Nat.le_of_ble_eq_true rfl) dX3_init_62 (fun H locs hPn hDn hSn => ?_)
  clear hP hD hS
  have hP : va_P D vwCl [(h0, .inr (3, [.ref q1, .ref q2, .ref q3, .ref q4, .ref q5, .ref q6, .ref q7, .int 0, .int 0, .int 0, .int 0, .int 0, .int 0, .int 0])), (q1, .inl (cy.1, 81, .inl (fun _ => 0))), (q2, .inl (cy.1, 81, .inl (fun _ => 0))), (q3, .inl (cy.1, 1024, .inl (fun _ => 0))), (q4, .inl (cy.1, 1024, .inl (fun _ => 0))), (q5, .inl (cy.1, 1024, .inl (fun _ => 0))), (q6, .inl (cy.1, 1024, .inl (fun _ => 0))), (q7, .inl (cy.1, 1024, .inl (fun _ => 0)))] H := hPn
  have hD : va_D A [(h0, .inr (3, [.ref q1, .ref q2, .ref q3, .ref q4, .ref q5, .ref q6, .ref q7, .int 0, .int 0, .int 0, .int 0, .int 0, .int 0, .int 0])), (q1, .inl (cy.1, 81, .inl (fun _ => 0))), (q2, .inl (cy.1, 81, .inl (fun _ => 0))), (q3, .inl (cy.1, 1024, .inl (fun _ => 0))), (q4, .inl (cy.1, 1024, .inl (fun _ => 0))), (q5, .inl (cy.1, 1024, .inl (fun _ => 0))), (q6, .inl (cy.1, 1024, .inl (fun _ => 0))), (q7, .inl (cy.1, 1024, .inl (fun _ => 0)))] := hDn
  have hS := hSn
  clear hPn hDn hSn
  refine lv_aload_n hx hb dX3_init_65 rfl (lv_at hl 0 rfl) ?_
  refine lv_iconst (v := 0) hx hb dX3_init_66 (by decide) ?_
  refine va_put (ci := 3) (v := .int 0) (ty := .int) (C := RX3) (T := TX3) (N := 14) hx hb hts (fun w hw => List.mem_cons_of_mem _ (am_uws3 w hw)) tyX3 tyX3_ok nmX3 hown hK hP hD hS 0 rfl rfl 7 (by decide) (hts _ (List.mem_cons_of_mem _ (am_c5 (i := 3) rfl rfl))) (fun _ h9 => h9) rfl (by decide +kernel) rfl rfl (Nat.le_of_ble_eq_true rfl) dX3_init_67 (fun H locs hPn hDn hSn => ?_)
  clear hP hD hS
  have hP : va_P D vwCl [(h0, .inr (3, [.ref q1, .ref q2, .ref q3, .ref q4, .ref q5, .ref q6, .ref q7, .int 0, .int 0, .int 0, .int 0, .int 0, .int 0, .int 0])), (q1, .inl (cy.1, 81, .inl (fun _ => 0))), (q2, .inl (cy.1, 81, .inl (fun _ => 0))), (q3, .inl (cy.1, 1024, .inl (fun _ => 0))), (q4, .inl (cy.1, 1024, .inl (fun _ => 0))), (q5, .inl (cy.1, 1024, .inl (fun _ => 0))), (q6, .inl (cy.1, 1024, .inl (fun _ => 0))), (q7, .inl (cy.1, 1024, .inl (fun _ => 0)))] H := hPn
  have hD : va_D A [(h0, .inr (3, [.ref q1, .ref q2, .ref q3, .ref q4, .ref q5, .ref q6, .ref q7, .int 0, .int 0, .int 0, .int 0, .int 0, .int 0, .int 0])), (q1, .inl (cy.1, 81, .inl (fun _ => 0))), (q2, .inl (cy.1, 81, .inl (fun _ => 0))), (q3, .inl (cy.1, 1024, .inl (fun _ => 0))), (q4, .inl (cy.1, 1024, .inl (fun _ => 0))), (q5, .inl (cy.1, 1024, .inl (fun _ => 0))), (q6, .inl (cy.1, 1024, .inl (fun _ => 0))), (q7, .inl (cy.1, 1024, .inl (fun _ => 0)))] := hDn
  have hS := hSn
  clear hPn hDn hSn
  refine lv_aload_n hx hb dX3_init_70 rfl (lv_at hl 0 rfl) ?_
  refine lv_iconst (v := 0) hx hb dX3_init_71 (by decide) ?_
  refine va_put (ci := 3) (v := .int 0) (ty := .int) (C := RX3) (T := TX3) (N := 14) hx hb hts (fun w hw => List.mem_cons_of_mem _ (am_uws3 w hw)) tyX3 tyX3_ok nmX3 hown hK hP hD hS 0 rfl rfl 8 (by decide) (hts _ (List.mem_cons_of_mem _ (am_c5 (i := 4) rfl rfl))) (fun _ h9 => h9) rfl (by decide +kernel) rfl rfl (Nat.le_of_ble_eq_true rfl) dX3_init_72 (fun H locs hPn hDn hSn => ?_)
  clear hP hD hS
  have hP : va_P D vwCl [(h0, .inr (3, [.ref q1, .ref q2, .ref q3, .ref q4, .ref q5, .ref q6, .ref q7, .int 0, .int 0, .int 0, .int 0, .int 0, .int 0, .int 0])), (q1, .inl (cy.1, 81, .inl (fun _ => 0))), (q2, .inl (cy.1, 81, .inl (fun _ => 0))), (q3, .inl (cy.1, 1024, .inl (fun _ => 0))), (q4, .inl (cy.1, 1024, .inl (fun _ => 0))), (q5, .inl (cy.1, 1024, .inl (fun _ => 0))), (q6, .inl (cy.1, 1024, .inl (fun _ => 0))), (q7, .inl (cy.1, 1024, .inl (fun _ => 0)))] H := hPn
  have hD : va_D A [(h0, .inr (3, [.ref q1, .ref q2, .ref q3, .ref q4, .ref q5, .ref q6, .ref q7, .int 0, .int 0, .int 0, .int 0, .int 0, .int 0, .int 0])), (q1, .inl (cy.1, 81, .inl (fun _ => 0))), (q2, .inl (cy.1, 81, .inl (fun _ => 0))), (q3, .inl (cy.1, 1024, .inl (fun _ => 0))), (q4, .inl (cy.1, 1024, .inl (fun _ => 0))), (q5, .inl (cy.1, 1024, .inl (fun _ => 0))), (q6, .inl (cy.1, 1024, .inl (fun _ => 0))), (q7, .inl (cy.1, 1024, .inl (fun _ => 0)))] := hDn
  have hS := hSn
  clear hPn hDn hSn
  refine lv_aload_n hx hb dX3_init_75 rfl (lv_at hl 0 rfl) ?_
  refine lv_iconst (v := 0) hx hb dX3_init_76 (by decide) ?_
  refine va_put (ci := 3) (v := .int 0) (ty := .int) (C := RX3) (T := TX3) (N := 14) hx hb hts (fun w hw => List.mem_cons_of_mem _ (am_uws3 w hw)) tyX3 tyX3_ok nmX3 hown hK hP hD hS 0 rfl rfl 9 (by decide) (hts _ (List.mem_cons_of_mem _ (am_c5 (i := 5) rfl rfl))) (fun _ h9 => h9) rfl (by decide +kernel) rfl rfl (Nat.le_of_ble_eq_true rfl) dX3_init_77 (fun H locs hPn hDn hSn => ?_)
  clear hP hD hS
  have hP : va_P D vwCl [(h0, .inr (3, [.ref q1, .ref q2, .ref q3, .ref q4, .ref q5, .ref q6, .ref q7, .int 0, .int 0, .int 0, .int 0, .int 0, .int 0, .int 0])), (q1, .inl (cy.1, 81, .inl (fun _ => 0))), (q2, .inl (cy.1, 81, .inl (fun _ => 0))), (q3, .inl (cy.1, 1024, .inl (fun _ => 0))), (q4, .inl (cy.1, 1024, .inl (fun _ => 0))), (q5, .inl (cy.1, 1024, .inl (fun _ => 0))), (q6, .inl (cy.1, 1024, .inl (fun _ => 0))), (q7, .inl (cy.1, 1024, .inl (fun _ => 0)))] H := hPn
  have hD : va_D A [(h0, .inr (3, [.ref q1, .ref q2, .ref q3, .ref q4, .ref q5, .ref q6, .ref q7, .int 0, .int 0, .int 0, .int 0, .int 0, .int 0, .int 0])), (q1, .inl (cy.1, 81, .inl (fun _ => 0))), (q2, .inl (cy.1, 81, .inl (fun _ => 0))), (q3, .inl (cy.1, 1024, .inl (fun _ => 0))), (q4, .inl (cy.1, 1024, .inl (fun _ => 0))), (q5, .inl (cy.1, 1024, .inl (fun _ => 0))), (q6, .inl (cy.1, 1024, .inl (fun _ => 0))), (q7, .inl (cy.1, 1024, .inl (fun _ => 0)))] := hDn
  have hS := hSn
  clear hPn hDn hSn
  refine lv_aload_n hx hb dX3_init_80 rfl (lv_at hl 0 rfl) ?_
  refine lv_iconst (v := 0) hx hb dX3_init_81 (by decide) ?_
  refine va_put (ci := 3) (v := .int 0) (ty := .int) (C := RX3) (T := TX3) (N := 14) hx hb hts (fun w hw => List.mem_cons_of_mem _ (am_uws3 w hw)) tyX3 tyX3_ok nmX3 hown hK hP hD hS 0 rfl rfl 10 (by decide) (hts _ (List.mem_cons_of_mem _ (am_c5 (i := 6) rfl rfl))) (fun _ h9 => h9) rfl (by decide +kernel) rfl rfl (Nat.le_of_ble_eq_true rfl) dX3_init_82 (fun H locs hPn hDn hSn => ?_)
  clear hP hD hS
  have hP : va_P D vwCl [(h0, .inr (3, [.ref q1, .ref q2, .ref q3, .ref q4, .ref q5, .ref q6, .ref q7, .int 0, .int 0, .int 0, .int 0, .int 0, .int 0, .int 0])), (q1, .inl (cy.1, 81, .inl (fun _ => 0))), (q2, .inl (cy.1, 81, .inl (fun _ => 0))), (q3, .inl (cy.1, 1024, .inl (fun _ => 0))), (q4, .inl (cy.1, 1024, .inl (fun _ => 0))), (q5, .inl (cy.1, 1024, .inl (fun _ => 0))), (q6, .inl (cy.1, 1024, .inl (fun _ => 0))), (q7, .inl (cy.1, 1024, .inl (fun _ => 0)))] H := hPn
  have hD : va_D A [(h0, .inr (3, [.ref q1, .ref q2, .ref q3, .ref q4, .ref q5, .ref q6, .ref q7, .int 0, .int 0, .int 0, .int 0, .int 0, .int 0, .int 0])), (q1, .inl (cy.1, 81, .inl (fun _ => 0))), (q2, .inl (cy.1, 81, .inl (fun _ => 0))), (q3, .inl (cy.1, 1024, .inl (fun _ => 0))), (q4, .inl (cy.1, 1024, .inl (fun _ => 0))), (q5, .inl (cy.1, 1024, .inl (fun _ => 0))), (q6, .inl (cy.1, 1024, .inl (fun _ => 0))), (q7, .inl (cy.1, 1024, .inl (fun _ => 0)))] := hDn
  have hS := hSn
  clear hPn hDn hSn
  refine lv_aload_n hx hb dX3_init_85 rfl (lv_at hl 0 rfl) ?_
  refine lv_iconst (v := 0) hx hb dX3_init_86 (by decide) ?_
  refine va_put (ci := 3) (v := .int 0) (ty := .int) (C := RX3) (T := TX3) (N := 14) hx hb hts (fun w hw => List.mem_cons_of_mem _ (am_uws3 w hw)) tyX3 tyX3_ok nmX3 hown hK hP hD hS 0 rfl rfl 11 (by decide) (hts _ (List.mem_cons_of_mem _ (am_c5 (i := 7) rfl rfl))) (fun _ h9 => h9) rfl (by decide +kernel) rfl rfl (Nat.le_of_ble_eq_true rfl) dX3_init_87 (fun H locs hPn hDn hSn => ?_)
  clear hP hD hS
  have hP : va_P D vwCl [(h0, .inr (3, [.ref q1, .ref q2, .ref q3, .ref q4, .ref q5, .ref q6, .ref q7, .int 0, .int 0, .int 0, .int 0, .int 0, .int 0, .int 0])), (q1, .inl (cy.1, 81, .inl (fun _ => 0))), (q2, .inl (cy.1, 81, .inl (fun _ => 0))), (q3, .inl (cy.1, 1024, .inl (fun _ => 0))), (q4, .inl (cy.1, 1024, .inl (fun _ => 0))), (q5, .inl (cy.1, 1024, .inl (fun _ => 0))), (q6, .inl (cy.1, 1024, .inl (fun _ => 0))), (q7, .inl (cy.1, 1024, .inl (fun _ => 0)))] H := hPn
  have hD : va_D A [(h0, .inr (3, [.ref q1, .ref q2, .ref q3, .ref q4, .ref q5, .ref q6, .ref q7, .int 0, .int 0, .int 0, .int 0, .int 0, .int 0, .int 0])), (q1, .inl (cy.1, 81, .inl (fun _ => 0))), (q2, .inl (cy.1, 81, .inl (fun _ => 0))), (q3, .inl (cy.1, 1024, .inl (fun _ => 0))), (q4, .inl (cy.1, 1024, .inl (fun _ => 0))), (q5, .inl (cy.1, 1024, .inl (fun _ => 0))), (q6, .inl (cy.1, 1024, .inl (fun _ => 0))), (q7, .inl (cy.1, 1024, .inl (fun _ => 0)))] := hDn
  have hS := hSn
  clear hPn hDn hSn
  refine lv_aload_n hx hb dX3_init_90 rfl (lv_at hl 0 rfl) ?_
  refine lv_iconst (v := 0) hx hb dX3_init_91 (by decide) ?_
  refine va_put (ci := 3) (v := .int 0) (ty := .int) (C := RX3) (T := TX3) (N := 14) hx hb hts (fun w hw => List.mem_cons_of_mem _ (am_uws3 w hw)) tyX3 tyX3_ok nmX3 hown hK hP hD hS 0 rfl rfl 12 (by decide) (hts _ (List.mem_cons_of_mem _ (am_c5 (i := 8) rfl rfl))) (fun _ h9 => h9) rfl (by decide +kernel) rfl rfl (Nat.le_of_ble_eq_true rfl) dX3_init_92 (fun H locs hPn hDn hSn => ?_)
  clear hP hD hS
  have hP : va_P D vwCl [(h0, .inr (3, [.ref q1, .ref q2, .ref q3, .ref q4, .ref q5, .ref q6, .ref q7, .int 0, .int 0, .int 0, .int 0, .int 0, .int 0, .int 0])), (q1, .inl (cy.1, 81, .inl (fun _ => 0))), (q2, .inl (cy.1, 81, .inl (fun _ => 0))), (q3, .inl (cy.1, 1024, .inl (fun _ => 0))), (q4, .inl (cy.1, 1024, .inl (fun _ => 0))), (q5, .inl (cy.1, 1024, .inl (fun _ => 0))), (q6, .inl (cy.1, 1024, .inl (fun _ => 0))), (q7, .inl (cy.1, 1024, .inl (fun _ => 0)))] H := hPn
  have hD : va_D A [(h0, .inr (3, [.ref q1, .ref q2, .ref q3, .ref q4, .ref q5, .ref q6, .ref q7, .int 0, .int 0, .int 0, .int 0, .int 0, .int 0, .int 0])), (q1, .inl (cy.1, 81, .inl (fun _ => 0))), (q2, .inl (cy.1, 81, .inl (fun _ => 0))), (q3, .inl (cy.1, 1024, .inl (fun _ => 0))), (q4, .inl (cy.1, 1024, .inl (fun _ => 0))), (q5, .inl (cy.1, 1024, .inl (fun _ => 0))), (q6, .inl (cy.1, 1024, .inl (fun _ => 0))), (q7, .inl (cy.1, 1024, .inl (fun _ => 0)))] := hDn
  have hS := hSn
  clear hPn hDn hSn
  refine lv_aload_n hx hb dX3_init_95 rfl (lv_at hl 0 rfl) ?_
  refine lv_iconst (v := 0) hx hb dX3_init_96 (by decide) ?_
  refine va_put (ci := 3) (v := .int 0) (ty := .int) (C := RX3) (T := TX3) (N := 14) hx hb hts (fun w hw => List.mem_cons_of_mem _ (am_uws3 w hw)) tyX3 tyX3_ok nmX3 hown hK hP hD hS 0 rfl rfl 13 (by decide) (hts _ (List.mem_cons_of_mem _ (am_c5 (i := 9) rfl rfl))) (fun _ h9 => h9) rfl (by decide +kernel) rfl rfl (Nat.le_of_ble_eq_true rfl) dX3_init_97 (fun H locs hPn hDn hSn => ?_)
  clear hP hD hS
  have hP : va_P D vwCl [(h0, .inr (3, [.ref q1, .ref q2, .ref q3, .ref q4, .ref q5, .ref q6, .ref q7, .int 0, .int 0, .int 0, .int 0, .int 0, .int 0, .int 0])), (q1, .inl (cy.1, 81, .inl (fun _ => 0))), (q2, .inl (cy.1, 81, .inl (fun _ => 0))), (q3, .inl (cy.1, 1024, .inl (fun _ => 0))), (q4, .inl (cy.1, 1024, .inl (fun _ => 0))), (q5, .inl (cy.1, 1024, .inl (fun _ => 0))), (q6, .inl (cy.1, 1024, .inl (fun _ => 0))), (q7, .inl (cy.1, 1024, .inl (fun _ => 0)))] H := hPn
  have hD : va_D A [(h0, .inr (3, [.ref q1, .ref q2, .ref q3, .ref q4, .ref q5, .ref q6, .ref q7, .int 0, .int 0, .int 0, .int 0, .int 0, .int 0, .int 0])), (q1, .inl (cy.1, 81, .inl (fun _ => 0))), (q2, .inl (cy.1, 81, .inl (fun _ => 0))), (q3, .inl (cy.1, 1024, .inl (fun _ => 0))), (q4, .inl (cy.1, 1024, .inl (fun _ => 0))), (q5, .inl (cy.1, 1024, .inl (fun _ => 0))), (q6, .inl (cy.1, 1024, .inl (fun _ => 0))), (q7, .inl (cy.1, 1024, .inl (fun _ => 0)))] := hDn
  have hS := hSn
  clear hPn hDn hSn
  subst hAe
  exact W.vret hx hb hr (fun t ht hW => ⟨⟨(q1, q2, q3, q4, q5, q6, q7), rfl, trivial, by rw [ht]; exact hP, hD⟩, hS.F ht⟩) hS.2.2 dX3_init_100
abbrev KX2_init_81 : MK := (yX2_init, cX2_init, 3, none, 1, 21)
theorem mw_X2_init_81 : am_mw KX2_init_81 := ⟨am_c6 (i := 12) rfl rfl, am_c2 (i := 10) rfl rfl⟩
set_option maxHeartbeats 4000000 in
set_option maxRecDepth 100000 in
theorem c_X2_init_81 (l : Launch) (D : va_G) (cy : ClassId × ClassId × ClassId) (h0 sz : Nat) : Met l yX2_init (am_ws KX2_init_81) ({ frames := 1, cells := 5, slots := 405, locals := 21 } : Room) (va_Pc [.ref h0, .int 81] (am_P0 D cy [(h0, .inr (2, [.null, .null, .null, .null, .null, .int 0, .int 0]))] sz)) (va_Qv (S := Nat × Nat × Nat × Nat × Nat) (fun _ => True) (fun u t => match u with | (q1, q2, q3, q4, q5) => va_P D vwCl [(h0, .inr (2, [.ref q1, .ref q2, .ref q3, .ref q4, .ref q5, .int 1, .int 1])), (q1, .inl (cy.1, 81, .inl (upd (fun _ => 0) 0 84))), (q2, .inl (cy.1, 81, .inl (upd (fun _ => 0) 0 (-1)))), (q3, .inl (cy.1, 81, .inl (upd (fun _ => 0) 0 (-1)))), (q4, .inl (cy.1, 81, .inl (fun _ => 0))), (q5, .inl (cy.1, 81, .inl (fun _ => 0)))] t.heap ∧ va_D (va_A [(h0, .inr (2, [.null, .null, .null, .null, .null, .int 0, .int 0]))] sz) [(h0, .inr (2, [.ref q1, .ref q2, .ref q3, .ref q4, .ref q5, .int 1, .int 1])), (q1, .inl (cy.1, 81, .inl (upd (fun _ => 0) 0 84))), (q2, .inl (cy.1, 81, .inl (upd (fun _ => 0) 0 (-1)))), (q3, .inl (cy.1, 81, .inl (upd (fun _ => 0) 0 (-1)))), (q4, .inl (cy.1, 81, .inl (fun _ => 0))), (q5, .inl (cy.1, 81, .inl (fun _ => 0)))]) (va_A [(h0, .inr (2, [.null, .null, .null, .null, .null, .int 0, .int 0]))] sz)) 5 405 (va_A [(h0, .inr (2, [.null, .null, .null, .null, .null, .int 0, .int 0]))] sz) := by
  refine Met.ofW (cc := cX2_init) (maxL := 3) (ret := none) (by decide) rfl ?_
  intro p e s m args below meth c s₁ B hml hv
  obtain ⟨rfl, hsz, hP, hK, hD0, hAO, hN⟩ := hv
  have hx := B.exec
  have hb := B.bytes
  have hr := B.returns
  have hts := atoms_spec (ws := am_ws KX2_init_81) B.pre
  have hown : s.vm.findClass RX2 = some m.cls := findClass_of_methodNamed B.named
  have hlocks := B.notSynchronized
  have hin : meth.name = "<init>" := (name_of_methodNamed B.named B.method).1
  subst hsz
  have hD := hD0.self (sz := s.heap.size)
  generalize hAe : va_A [(h0, .inr (2, [.null, .null, .null, .null, .null, .int 0, .int 0]))] s.heap.size = A at hD ⊢
  have hA : ∀ q : Nat, s.heap.size ≤ q → A q := fun q h => by rw [← hAe]; exact Or.inr h
  have hS : va_S A s.heap s.heap [] := va_S.rf
  have hP : va_P D vwCl [(h0, .inr (2, [.null, .null, .null, .null, .null, .int 0, .int 0]))] s.heap := hP
  have hl := lv_entry ([.ref h0, .int 81]) (n := 3) (Nat.le_of_ble_eq_true rfl)
  rw [lg_entry_eq]
  generalize (lg_sl ([.ref h0, .int 81]) ++ List.replicate (3 - (lg_sl ([.ref h0, .int 81])).length) Slot.unset).toArray = ls at hl ⊢
  have hl : lv_has ls 3 [(0, .ref h0), (1, .int 81)] := hl
  refine lv_aload_n hx hb dX2_init_0 rfl (lv_at hl 0 rfl) ?_
  refine W.objInit hx hb hown (hts _ (List.mem_cons_of_mem _ (am_c6 (i := 13) rfl rfl))) (hts _ (List.mem_cons_of_mem _ (am_c2 (i := 20) rfl rfl))) (hts _ (List.mem_cons_of_mem _ (am_c2 (i := 21) rfl rfl))) rfl (by rw [hml]; exact hl.1) rfl dX2_init_1 (Nat.le_of_ble_eq_true rfl) (Nat.le_of_ble_eq_true rfl) ?_
  refine W.eq (g2 := F0 m 4 ls []) rfl ?_
  refine lv_aload_n hx hb dX2_init_4 rfl (lv_at hl 0 rfl) ?_
  refine lv_iconst (v := 0) hx hb dX2_init_5 (by decide) ?_
  refine va_put (ci := 2) (v := .int 0) (ty := .int) (C := RX2) (T := TX2) (N := 7) hx hb hts (fun w hw => List.mem_cons_of_mem _ (am_uws2 w hw)) tyX2 tyX2_ok nmX2 hown hK hP hD hS 0 rfl rfl 5 (by decide) (hts _ (List.mem_cons_of_mem _ (am_c6 (i := 22) rfl rfl))) (fun _ h9 => h9) rfl (by decide +kernel) rfl rfl (Nat.le_of_ble_eq_true rfl) dX2_init_6 (fun H locs hPn hDn hSn => ?_)
  clear hP hD hS
  have hP : va_P D vwCl [(h0, .inr (2, [.null, .null, .null, .null, .null, .int 0, .int 0]))] H := hPn
  have hD : va_D A [(h0, .inr (2, [.null, .null, .null, .null, .null, .int 0, .int 0]))] := hDn
  have hS := hSn
  clear hPn hDn hSn
  refine lv_aload_n hx hb dX2_init_9 rfl (lv_at hl 0 rfl) ?_
  refine lv_iconst (v := 0) hx hb dX2_init_10 (by decide) ?_
  refine va_put (ci := 2) (v := .int 0) (ty := .int) (C := RX2) (T := TX2) (N := 7) hx hb hts (fun w hw => List.mem_cons_of_mem _ (am_uws2 w hw)) tyX2 tyX2_ok nmX2 hown hK hP hD hS 0 rfl rfl 6 (by decide) (hts _ (List.mem_cons_of_mem _ (am_c6 (i := 23) rfl rfl))) (fun _ h9 => h9) rfl (by decide +kernel) rfl rfl (Nat.le_of_ble_eq_true rfl) dX2_init_11 (fun H locs hPn hDn hSn => ?_)
  clear hP hD hS
  have hP : va_P D vwCl [(h0, .inr (2, [.null, .null, .null, .null, .null, .int 0, .int 0]))] H := hPn
  have hD : va_D A [(h0, .inr (2, [.null, .null, .null, .null, .null, .int 0, .int 0]))] := hDn
  have hS := hSn
  clear hPn hDn hSn
  refine lv_iconst (v := 1) hx hb dX2_init_14 (by decide) ?_
  refine lv_iload_n hx hb dX2_init_15 rfl (lv_at hl 1 rfl) ?_
  refine va_mmax hx hb (hml.trans hl.1.symm) hown (hts _ (List.mem_cons_of_mem _ (am_c6 (i := 14) rfl rfl))) (hts _ (List.mem_cons_of_mem _ mm_max.1)) (hts _ (List.mem_cons_of_mem _ mm_max.2.1)) (hts _ (List.mem_cons_of_mem _ mm_max.2.2)) (Nat.le_of_ble_eq_true rfl) (Nat.le_of_ble_eq_true rfl) (Nat.le_of_ble_eq_true rfl) (Nat.le_of_ble_eq_true rfl) dX2_init_16 ?_
  refine lv_topi (fun xm em => ?_)
  have em : xm = 81 := em.trans (by decide)
  subst em
  refine lv_istore_n (lv' := [(2, .int 81), (0, .ref h0), (1, .int 81)]) hx hb dX2_init_19 rfl hl (by decide) rfl (fun ls hl => ?_)
  refine lv_aload_n hx hb dX2_init_20 rfl (lv_at hl 1 rfl) ?_
  refine lv_iload_n hx hb dX2_init_21 rfl (lv_at hl 0 rfl) ?_
  refine c_newa_int (N := 81) hx hb (hts _ (List.mem_cons_of_mem _ (am_c3 (i := 6) rfl rfl))) hK hP hD hS hA (by decide) (by decide) (by decide) (Nat.le_of_ble_eq_true rfl) (Nat.le_of_ble_eq_true rfl) dX2_init_22 (fun q1 H hPn hDn hSn => ?_)
  clear hP hD hS
  have hP : va_P D vwCl [(h0, .inr (2, [.null, .null, .null, .null, .null, .int 0, .int 0])), (q1, .inl (cy.1, 81, .inl (fun _ => 0)))] H := hPn
  have hD : va_D A [(h0, .inr (2, [.null, .null, .null, .null, .null, .int 0, .int 0])), (q1, .inl (cy.1, 81, .inl (fun _ => 0)))] := hDn
  have hS := hSn
  clear hPn hDn hSn
  refine W.widen (k := 1) (n := 81) (Nat.le_refl _) (Nat.le_refl _) ?_
  refine va_putF (ci := 2) (v := .ref q1) (ty := .array .int) (C := RX2) (T := TX2) (N := 7) hx hb hts (fun w hw => List.mem_cons_of_mem _ (am_uws2 w hw)) tyX2 tyX2_ok nmX2 hown hK hP hD hS 0 rfl rfl 0 (by decide) (hts _ (List.mem_cons_of_mem _ (am_c6 (i := 17) rfl rfl))) (fun _ h9 => h9) rfl hin rfl (by decide +kernel) rfl rfl (Nat.le_of_ble_eq_true rfl) dX2_init_24 (fun H locs hPn hDn hSn => ?_)
  clear hP hD hS
  have hP : va_P D vwCl [(h0, .inr (2, [.ref q1, .null, .null, .null, .null, .int 0, .int 0])), (q1, .inl (cy.1, 81, .inl (fun _ => 0)))] H := hPn
  have hD : va_D A [(h0, .inr (2, [.ref q1, .null, .null, .null, .null, .int 0, .int 0])), (q1, .inl (cy.1, 81, .inl (fun _ => 0)))] := hDn
  have hS := hSn
  clear hPn hDn hSn
  refine lv_aload_n hx hb dX2_init_27 rfl (lv_at hl 1 rfl) ?_
  refine lv_iload_n hx hb dX2_init_28 rfl (lv_at hl 0 rfl) ?_
  refine c_newa_int (N := 81) hx hb (hts _ (List.mem_cons_of_mem _ (am_c3 (i := 6) rfl rfl))) hK hP hD hS hA (by decide) (by decide) (by decide) (Nat.le_of_ble_eq_true rfl) (Nat.le_of_ble_eq_true rfl) dX2_init_29 (fun q2 H hPn hDn hSn => ?_)
  clear hP hD hS
  have hP : va_P D vwCl [(h0, .inr (2, [.ref q1, .null, .null, .null, .null, .int 0, .int 0])), (q1, .inl (cy.1, 81, .inl (fun _ => 0))), (q2, .inl (cy.1, 81, .inl (fun _ => 0)))] H := hPn
  have hD : va_D A [(h0, .inr (2, [.ref q1, .null, .null, .null, .null, .int 0, .int 0])), (q1, .inl (cy.1, 81, .inl (fun _ => 0))), (q2, .inl (cy.1, 81, .inl (fun _ => 0)))] := hDn
  have hS := hSn
  clear hPn hDn hSn
  refine W.widen (k := 2) (n := 162) (Nat.le_refl _) (Nat.le_refl _) ?_
  refine va_putF (ci := 2) (v := .ref q2) (ty := .array .int) (C := RX2) (T := TX2) (N := 7) hx hb hts (fun w hw => List.mem_cons_of_mem _ (am_uws2 w hw)) tyX2 tyX2_ok nmX2 hown hK hP hD hS 0 rfl rfl 1 (by decide) (hts _ (List.mem_cons_of_mem _ (am_c6 (i := 18) rfl rfl))) (fun _ h9 => h9) rfl hin rfl (by decide +kernel) rfl rfl (Nat.le_of_ble_eq_true rfl) dX2_init_31 (fun H locs hPn hDn hSn => ?_)
  clear hP hD hS
  have hP : va_P D vwCl [(h0, .inr (2, [.ref q1, .ref q2, .null, .null, .null, .int 0, .int 0])), (q1, .inl (cy.1, 81, .inl (fun _ => 0))), (q2, .inl (cy.1, 81, .inl (fun _ => 0)))] H := hPn
  have hD : va_D A [(h0, .inr (2, [.ref q1, .ref q2, .null, .null, .null, .int 0, .int 0])), (q1, .inl (cy.1, 81, .inl (fun _ => 0))), (q2, .inl (cy.1, 81, .inl (fun _ => 0)))] := hDn
  have hS := hSn
  clear hPn hDn hSn
  refine lv_aload_n hx hb dX2_init_34 rfl (lv_at hl 1 rfl) ?_
  refine lv_iload_n hx hb dX2_init_35 rfl (lv_at hl 0 rfl) ?_
  refine c_newa_int (N := 81) hx hb (hts _ (List.mem_cons_of_mem _ (am_c3 (i := 6) rfl rfl))) hK hP hD hS hA (by decide) (by decide) (by decide) (Nat.le_of_ble_eq_true rfl) (Nat.le_of_ble_eq_true rfl) dX2_init_36 (fun q3 H hPn hDn hSn => ?_)
  clear hP hD hS
  have hP : va_P D vwCl [(h0, .inr (2, [.ref q1, .ref q2, .null, .null, .null, .int 0, .int 0])), (q1, .inl (cy.1, 81, .inl (fun _ => 0))), (q2, .inl (cy.1, 81, .inl (fun _ => 0))), (q3, .inl (cy.1, 81, .inl (fun _ => 0)))] H := hPn
  have hD : va_D A [(h0, .inr (2, [.ref q1, .ref q2, .null, .null, .null, .int 0, .int 0])), (q1, .inl (cy.1, 81, .inl (fun _ => 0))), (q2, .inl (cy.1, 81, .inl (fun _ => 0))), (q3, .inl (cy.1, 81, .inl (fun _ => 0)))] := hDn
  have hS := hSn
  clear hPn hDn hSn
  refine W.widen (k := 3) (n := 243) (Nat.le_refl _) (Nat.le_refl _) ?_
  refine va_putF (ci := 2) (v := .ref q3) (ty := .array .int) (C := RX2) (T := TX2) (N := 7) hx hb hts (fun w hw => List.mem_cons_of_mem _ (am_uws2 w hw)) tyX2 tyX2_ok nmX2 hown hK hP hD hS 0 rfl rfl 2 (by decide) (hts _ (List.mem_cons_of_mem _ (am_c6 (i := 19) rfl rfl))) (fun _ h9 => h9) rfl hin rfl (by decide +kernel) rfl rfl (Nat.le_of_ble_eq_true rfl) dX2_init_38 (fun H locs hPn hDn hSn => ?_)
  clear hP hD hS
  have hP : va_P D vwCl [(h0, .inr (2, [.ref q1, .ref q2, .ref q3, .null, .null, .int 0, .int 0])), (q1, .inl (cy.1, 81, .inl (fun _ => 0))), (q2, .inl (cy.1, 81, .inl (fun _ => 0))), (q3, .inl (cy.1, 81, .inl (fun _ => 0)))] H := hPn
  have hD : va_D A [(h0, .inr (2, [.ref q1, .ref q2, .ref q3, .null, .null, .int 0, .int 0])), (q1, .inl (cy.1, 81, .inl (fun _ => 0))), (q2, .inl (cy.1, 81, .inl (fun _ => 0))), (q3, .inl (cy.1, 81, .inl (fun _ => 0)))] := hDn
  have hS := hSn
  clear hPn hDn hSn
  refine lv_aload_n hx hb dX2_init_41 rfl (lv_at hl 1 rfl) ?_
  refine lv_iload_n hx hb dX2_init_42 rfl (lv_at hl 0 rfl) ?_
  refine c_newa_int (N := 81) hx hb (hts _ (List.mem_cons_of_mem _ (am_c3 (i := 6) rfl rfl))) hK hP hD hS hA (by decide) (by decide) (by decide) (Nat.le_of_ble_eq_true rfl) (Nat.le_of_ble_eq_true rfl) dX2_init_43 (fun q4 H hPn hDn hSn => ?_)
  clear hP hD hS
  have hP : va_P D vwCl [(h0, .inr (2, [.ref q1, .ref q2, .ref q3, .null, .null, .int 0, .int 0])), (q1, .inl (cy.1, 81, .inl (fun _ => 0))), (q2, .inl (cy.1, 81, .inl (fun _ => 0))), (q3, .inl (cy.1, 81, .inl (fun _ => 0))), (q4, .inl (cy.1, 81, .inl (fun _ => 0)))] H := hPn
  have hD : va_D A [(h0, .inr (2, [.ref q1, .ref q2, .ref q3, .null, .null, .int 0, .int 0])), (q1, .inl (cy.1, 81, .inl (fun _ => 0))), (q2, .inl (cy.1, 81, .inl (fun _ => 0))), (q3, .inl (cy.1, 81, .inl (fun _ => 0))), (q4, .inl (cy.1, 81, .inl (fun _ => 0)))] := hDn
  have hS := hSn
  clear hPn hDn hSn
  refine W.widen (k := 4) (n := 324) (Nat.le_refl _) (Nat.le_refl _) ?_
  refine va_putF (ci := 2) (v := .ref q4) (ty := .array .int) (C := RX2) (T := TX2) (N := 7) hx hb hts (fun w hw => List.mem_cons_of_mem _ (am_uws2 w hw)) tyX2 tyX2_ok nmX2 hown hK hP hD hS 0 rfl rfl 3 (by decide) (hts _ (List.mem_cons_of_mem _ (am_c6 (i := 20) rfl rfl))) (fun _ h9 => h9) rfl hin rfl (by decide +kernel) rfl rfl (Nat.le_of_ble_eq_true rfl) dX2_init_45 (fun H locs hPn hDn hSn => ?_)
  clear hP hD hS
  have hP : va_P D vwCl [(h0, .inr (2, [.ref q1, .ref q2, .ref q3, .ref q4, .null, .int 0, .int 0])), (q1, .inl (cy.1, 81, .inl (fun _ => 0))), (q2, .inl (cy.1, 81, .inl (fun _ => 0))), (q3, .inl (cy.1, 81, .inl (fun _ => 0))), (q4, .inl (cy.1, 81, .inl (fun _ => 0)))] H := hPn
  have hD : va_D A [(h0, .inr (2, [.ref q1, .ref q2, .ref q3, .ref q4, .null, .int 0, .int 0])), (q1, .inl (cy.1, 81, .inl (fun _ => 0))), (q2, .inl (cy.1, 81, .inl (fun _ => 0))), (q3, .inl (cy.1, 81, .inl (fun _ => 0))), (q4, .inl (cy.1, 81, .inl (fun _ => 0)))] := hDn
  have hS := hSn
  clear hPn hDn hSn
  refine lv_aload_n hx hb dX2_init_48 rfl (lv_at hl 1 rfl) ?_
  refine lv_iload_n hx hb dX2_init_49 rfl (lv_at hl 0 rfl) ?_
  refine c_newa_int (N := 81) hx hb (hts _ (List.mem_cons_of_mem _ (am_c3 (i := 6) rfl rfl))) hK hP hD hS hA (by decide) (by decide) (by decide) (Nat.le_of_ble_eq_true rfl) (Nat.le_of_ble_eq_true rfl) dX2_init_50 (fun q5 H hPn hDn hSn => ?_)
  clear hP hD hS
  have hP : va_P D vwCl [(h0, .inr (2, [.ref q1, .ref q2, .ref q3, .ref q4, .null, .int 0, .int 0])), (q1, .inl (cy.1, 81, .inl (fun _ => 0))), (q2, .inl (cy.1, 81, .inl (fun _ => 0))), (q3, .inl (cy.1, 81, .inl (fun _ => 0))), (q4, .inl (cy.1, 81, .inl (fun _ => 0))), (q5, .inl (cy.1, 81, .inl (fun _ => 0)))] H := hPn
  have hD : va_D A [(h0, .inr (2, [.ref q1, .ref q2, .ref q3, .ref q4, .null, .int 0, .int 0])), (q1, .inl (cy.1, 81, .inl (fun _ => 0))), (q2, .inl (cy.1, 81, .inl (fun _ => 0))), (q3, .inl (cy.1, 81, .inl (fun _ => 0))), (q4, .inl (cy.1, 81, .inl (fun _ => 0))), (q5, .inl (cy.1, 81, .inl (fun _ => 0)))] := hDn
  have hS := hSn
  clear hPn hDn hSn
  refine W.widen (k := 5) (n := 405) (Nat.le_refl _) (Nat.le_refl _) ?_
  refine va_putF (ci := 2) (v := .ref q5) (ty := .array .int) (C := RX2) (T := TX2) (N := 7) hx hb hts (fun w hw => List.mem_cons_of_mem _ (am_uws2 w hw)) tyX2 tyX2_ok nmX2 hown hK hP hD hS 0 rfl rfl 4 (by decide) (hts _ (List.mem_cons_of_mem _ (am_c6 (i := 21) rfl rfl))) (fun _ h9 => h9) rfl hin rfl (by decide +kernel) rfl rfl (Nat.le_of_ble_eq_true rfl) dX2_init_52 (fun H locs hPn hDn hSn => ?_)
  clear hP hD hS
  have hP : va_P D vwCl [(h0, .inr (2, [.ref q1, .ref q2, .ref q3, .ref q4, .ref q5, .int 0, .int 0])), (q1, .inl (cy.1, 81, .inl (fun _ => 0))), (q2, .inl (cy.1, 81, .inl (fun _ => 0))), (q3, .inl (cy.1, 81, .inl (fun _ => 0))), (q4, .inl (cy.1, 81, .inl (fun _ => 0))), (q5, .inl (cy.1, 81, .inl (fun _ => 0)))] H := hPn
  have hD : va_D A [(h0, .inr (2, [.ref q1, .ref q2, .ref q3, .ref q4, .ref q5, .int 0, .int 0])), (q1, .inl (cy.1, 81, .inl (fun _ => 0))), (q2, .inl (cy.1, 81, .inl (fun _ => 0))), (q3, .inl (cy.1, 81, .inl (fun _ => 0))), (q4, .inl (cy.1, 81, .inl (fun _ => 0))), (q5, .inl (cy.1, 81, .inl (fun _ => 0)))] := hDn
  have hS := hSn
  clear hPn hDn hSn
  refine lv_aload_n hx hb dX2_init_55 rfl (lv_at hl 1 rfl) ?_
  refine va_get (ci := 2) (v := .ref q1) (C := RX2) (T := TX2) (N := 7) hx hb hts (fun w hw => List.mem_cons_of_mem _ (am_uws2 w hw)) hown hK hP 0 rfl rfl 0 (by decide) (hts _ (List.mem_cons_of_mem _ (am_c6 (i := 17) rfl rfl))) (fun _ h9 => h9) rfl dX2_init_56 ?_
  refine lv_iconst (v := 0) hx hb dX2_init_59 (by decide) ?_
  refine lv_bipush (v := 84) hx hb dX2_init_60 (by decide) ?_
  refine va_iast hx hb hK hP hD hS 1 0 rfl rfl (show ¬ ((0 : Int32) < 0 ∨ 81 ≤ (0 : Int32).toNatClampNeg) by decide) dX2_init_62 (fun H locs hPn hDn hSn => ?_)
  clear hP hD hS
  have hP : va_P D vwCl [(h0, .inr (2, [.ref q1, .ref q2, .ref q3, .ref q4, .ref q5, .int 0, .int 0])), (q1, .inl (cy.1, 81, .inl (upd (fun _ => 0) 0 84))), (q2, .inl (cy.1, 81, .inl (fun _ => 0))), (q3, .inl (cy.1, 81, .inl (fun _ => 0))), (q4, .inl (cy.1, 81, .inl (fun _ => 0))), (q5, .inl (cy.1, 81, .inl (fun _ => 0)))] H := hPn
  have hD : va_D A [(h0, .inr (2, [.ref q1, .ref q2, .ref q3, .ref q4, .ref q5, .int 0, .int 0])), (q1, .inl (cy.1, 81, .inl (upd (fun _ => 0) 0 84))), (q2, .inl (cy.1, 81, .inl (fun _ => 0))), (q3, .inl (cy.1, 81, .inl (fun _ => 0))), (q4, .inl (cy.1, 81, .inl (fun _ => 0))), (q5, .inl (cy.1, 81, .inl (fun _ => 0)))] := hDn
  have hS := hSn
  clear hPn hDn hSn
  refine lv_aload_n hx hb dX2_init_63 rfl (lv_at hl 1 rfl) ?_
  refine va_get (ci := 2) (v := .ref q2) (C := RX2) (T := TX2) (N := 7) hx hb hts (fun w hw => List.mem_cons_of_mem _ (am_uws2 w hw)) hown hK hP 0 rfl rfl 1 (by decide) (hts _ (List.mem_cons_of_mem _ (am_c6 (i := 18) rfl rfl))) (fun _ h9 => h9) rfl dX2_init_64 ?_
  refine lv_iconst (v := 0) hx hb dX2_init_67 (by decide) ?_
  refine lv_iconst (v := (-1)) hx hb dX2_init_68 (by decide) ?_
  refine va_iast hx hb hK hP hD hS 2 0 rfl rfl (show ¬ ((0 : Int32) < 0 ∨ 81 ≤ (0 : Int32).toNatClampNeg) by decide) dX2_init_69 (fun H locs hPn hDn hSn => ?_)
  clear hP hD hS
  have hP : va_P D vwCl [(h0, .inr (2, [.ref q1, .ref q2, .ref q3, .ref q4, .ref q5, .int 0, .int 0])), (q1, .inl (cy.1, 81, .inl (upd (fun _ => 0) 0 84))), (q2, .inl (cy.1, 81, .inl (upd (fun _ => 0) 0 (-1)))), (q3, .inl (cy.1, 81, .inl (fun _ => 0))), (q4, .inl (cy.1, 81, .inl (fun _ => 0))), (q5, .inl (cy.1, 81, .inl (fun _ => 0)))] H := hPn
  have hD : va_D A [(h0, .inr (2, [.ref q1, .ref q2, .ref q3, .ref q4, .ref q5, .int 0, .int 0])), (q1, .inl (cy.1, 81, .inl (upd (fun _ => 0) 0 84))), (q2, .inl (cy.1, 81, .inl (upd (fun _ => 0) 0 (-1)))), (q3, .inl (cy.1, 81, .inl (fun _ => 0))), (q4, .inl (cy.1, 81, .inl (fun _ => 0))), (q5, .inl (cy.1, 81, .inl (fun _ => 0)))] := hDn
  have hS := hSn
  clear hPn hDn hSn
  refine lv_aload_n hx hb dX2_init_70 rfl (lv_at hl 1 rfl) ?_
  refine va_get (ci := 2) (v := .ref q3) (C := RX2) (T := TX2) (N := 7) hx hb hts (fun w hw => List.mem_cons_of_mem _ (am_uws2 w hw)) hown hK hP 0 rfl rfl 2 (by decide) (hts _ (List.mem_cons_of_mem _ (am_c6 (i := 19) rfl rfl))) (fun _ h9 => h9) rfl dX2_init_71 ?_
  refine lv_iconst (v := 0) hx hb dX2_init_74 (by decide) ?_
  refine lv_iconst (v := (-1)) hx hb dX2_init_75 (by decide) ?_
  refine va_iast hx hb hK hP hD hS 3 0 rfl rfl (show ¬ ((0 : Int32) < 0 ∨ 81 ≤ (0 : Int32).toNatClampNeg) by decide) dX2_init_76 (fun H locs hPn hDn hSn => ?_)
  clear hP hD hS
  have hP : va_P D vwCl [(h0, .inr (2, [.ref q1, .ref q2, .ref q3, .ref q4, .ref q5, .int 0, .int 0])), (q1, .inl (cy.1, 81, .inl (upd (fun _ => 0) 0 84))), (q2, .inl (cy.1, 81, .inl (upd (fun _ => 0) 0 (-1)))), (q3, .inl (cy.1, 81, .inl (upd (fun _ => 0) 0 (-1)))), (q4, .inl (cy.1, 81, .inl (fun _ => 0))), (q5, .inl (cy.1, 81, .inl (fun _ => 0)))] H := hPn
  have hD : va_D A [(h0, .inr (2, [.ref q1, .ref q2, .ref q3, .ref q4, .ref q5, .int 0, .int 0])), (q1, .inl (cy.1, 81, .inl (upd (fun _ => 0) 0 84))), (q2, .inl (cy.1, 81, .inl (upd (fun _ => 0) 0 (-1)))), (q3, .inl (cy.1, 81, .inl (upd (fun _ => 0) 0 (-1)))), (q4, .inl (cy.1, 81, .inl (fun _ => 0))), (q5, .inl (cy.1, 81, .inl (fun _ => 0)))] := hDn
  have hS := hSn
  clear hPn hDn hSn
  refine lv_aload_n hx hb dX2_init_77 rfl (lv_at hl 1 rfl) ?_
  refine lv_iconst (v := 1) hx hb dX2_init_78 (by decide) ?_
  refine va_put (ci := 2) (v := .int 1) (ty := .int) (C := RX2) (T := TX2) (N := 7) hx hb hts (fun w hw => List.mem_cons_of_mem _ (am_uws2 w hw)) tyX2 tyX2_ok nmX2 hown hK hP hD hS 0 rfl rfl 5 (by decide) (hts _ (List.mem_cons_of_mem _ (am_c6 (i := 22) rfl rfl))) (fun _ h9 => h9) rfl (by decide +kernel) rfl rfl (Nat.le_of_ble_eq_true rfl) dX2_init_79 (fun H locs hPn hDn hSn => ?_)
  clear hP hD hS
  have hP : va_P D vwCl [(h0, .inr (2, [.ref q1, .ref q2, .ref q3, .ref q4, .ref q5, .int 1, .int 0])), (q1, .inl (cy.1, 81, .inl (upd (fun _ => 0) 0 84))), (q2, .inl (cy.1, 81, .inl (upd (fun _ => 0) 0 (-1)))), (q3, .inl (cy.1, 81, .inl (upd (fun _ => 0) 0 (-1)))), (q4, .inl (cy.1, 81, .inl (fun _ => 0))), (q5, .inl (cy.1, 81, .inl (fun _ => 0)))] H := hPn
  have hD : va_D A [(h0, .inr (2, [.ref q1, .ref q2, .ref q3, .ref q4, .ref q5, .int 1, .int 0])), (q1, .inl (cy.1, 81, .inl (upd (fun _ => 0) 0 84))), (q2, .inl (cy.1, 81, .inl (upd (fun _ => 0) 0 (-1)))), (q3, .inl (cy.1, 81, .inl (upd (fun _ => 0) 0 (-1)))), (q4, .inl (cy.1, 81, .inl (fun _ => 0))), (q5, .inl (cy.1, 81, .inl (fun _ => 0)))] := hDn
  have hS := hSn
  clear hPn hDn hSn
  refine lv_aload_n hx hb dX2_init_82 rfl (lv_at hl 1 rfl) ?_
  refine lv_iconst (v := 1) hx hb dX2_init_83 (by decide) ?_
  refine va_put (ci := 2) (v := .int 1) (ty := .int) (C := RX2) (T := TX2) (N := 7) hx hb hts (fun w hw => List.mem_cons_of_mem _ (am_uws2 w hw)) tyX2 tyX2_ok nmX2 hown hK hP hD hS 0 rfl rfl 6 (by decide) (hts _ (List.mem_cons_of_mem _ (am_c6 (i := 23) rfl rfl))) (fun _ h9 => h9) rfl (by decide +kernel) rfl rfl (Nat.le_of_ble_eq_true rfl) dX2_init_84 (fun H locs hPn hDn hSn => ?_)
  clear hP hD hS
  have hP : va_P D vwCl [(h0, .inr (2, [.ref q1, .ref q2, .ref q3, .ref q4, .ref q5, .int 1, .int 1])), (q1, .inl (cy.1, 81, .inl (upd (fun _ => 0) 0 84))), (q2, .inl (cy.1, 81, .inl (upd (fun _ => 0) 0 (-1)))), (q3, .inl (cy.1, 81, .inl (upd (fun _ => 0) 0 (-1)))), (q4, .inl (cy.1, 81, .inl (fun _ => 0))), (q5, .inl (cy.1, 81, .inl (fun _ => 0)))] H := hPn
  have hD : va_D A [(h0, .inr (2, [.ref q1, .ref q2, .ref q3, .ref q4, .ref q5, .int 1, .int 1])), (q1, .inl (cy.1, 81, .inl (upd (fun _ => 0) 0 84))), (q2, .inl (cy.1, 81, .inl (upd (fun _ => 0) 0 (-1)))), (q3, .inl (cy.1, 81, .inl (upd (fun _ => 0) 0 (-1)))), (q4, .inl (cy.1, 81, .inl (fun _ => 0))), (q5, .inl (cy.1, 81, .inl (fun _ => 0)))] := hDn
  have hS := hSn
  clear hPn hDn hSn
  subst hAe
  exact W.vret hx hb hr (fun t ht hW => ⟨⟨(q1, q2, q3, q4, q5), rfl, trivial, by rw [ht]; exact hP, hD⟩, hS.F ht⟩) hS.2.2 dX2_init_87
abbrev KX2_init_40 : MK := (yX2_init, cX2_init, 3, none, 1, 21)
theorem mw_X2_init_40 : am_mw KX2_init_40 := ⟨am_c6 (i := 12) rfl rfl, am_c2 (i := 10) rfl rfl⟩
set_option maxHeartbeats 4000000 in
set_option maxRecDepth 100000 in
theorem c_X2_init_40 (l : Launch) (D : va_G) (cy : ClassId × ClassId × ClassId) (h0 sz : Nat) : Met l yX2_init (am_ws KX2_init_40) ({ frames := 1, cells := 5, slots := 200, locals := 21 } : Room) (va_Pc [.ref h0, .int 40] (am_P0 D cy [(h0, .inr (2, [.null, .null, .null, .null, .null, .int 0, .int 0]))] sz)) (va_Qv (S := Nat × Nat × Nat × Nat × Nat) (fun _ => True) (fun u t => match u with | (q1, q2, q3, q4, q5) => va_P D vwCl [(h0, .inr (2, [.ref q1, .ref q2, .ref q3, .ref q4, .ref q5, .int 1, .int 1])), (q1, .inl (cy.1, 40, .inl (upd (fun _ => 0) 0 84))), (q2, .inl (cy.1, 40, .inl (upd (fun _ => 0) 0 (-1)))), (q3, .inl (cy.1, 40, .inl (upd (fun _ => 0) 0 (-1)))), (q4, .inl (cy.1, 40, .inl (fun _ => 0))), (q5, .inl (cy.1, 40, .inl (fun _ => 0)))] t.heap ∧ va_D (va_A [(h0, .inr (2, [.null, .null, .null, .null, .null, .int 0, .int 0]))] sz) [(h0, .inr (2, [.ref q1, .ref q2, .ref q3, .ref q4, .ref q5, .int 1, .int 1])), (q1, .inl (cy.1, 40, .inl (upd (fun _ => 0) 0 84))), (q2, .inl (cy.1, 40, .inl (upd (fun _ => 0) 0 (-1)))), (q3, .inl (cy.1, 40, .inl (upd (fun _ => 0) 0 (-1)))), (q4, .inl (cy.1, 40, .inl (fun _ => 0))), (q5, .inl (cy.1, 40, .inl (fun _ => 0)))]) (va_A [(h0, .inr (2, [.null, .null, .null, .null, .null, .int 0, .int 0]))] sz)) 5 200 (va_A [(h0, .inr (2, [.null, .null, .null, .null, .null, .int 0, .int 0]))] sz) := by
  refine Met.ofW (cc := cX2_init) (maxL := 3) (ret := none) (by decide) rfl ?_
  intro p e s m args below meth c s₁ B hml hv
  obtain ⟨rfl, hsz, hP, hK, hD0, hAO, hN⟩ := hv
  have hx := B.exec
  have hb := B.bytes
  have hr := B.returns
  have hts := atoms_spec (ws := am_ws KX2_init_40) B.pre
  have hown : s.vm.findClass RX2 = some m.cls := findClass_of_methodNamed B.named
  have hlocks := B.notSynchronized
  have hin : meth.name = "<init>" := (name_of_methodNamed B.named B.method).1
  subst hsz
  have hD := hD0.self (sz := s.heap.size)
  generalize hAe : va_A [(h0, .inr (2, [.null, .null, .null, .null, .null, .int 0, .int 0]))] s.heap.size = A at hD ⊢
  have hA : ∀ q : Nat, s.heap.size ≤ q → A q := fun q h => by rw [← hAe]; exact Or.inr h
  have hS : va_S A s.heap s.heap [] := va_S.rf
  have hP : va_P D vwCl [(h0, .inr (2, [.null, .null, .null, .null, .null, .int 0, .int 0]))] s.heap := hP
  have hl := lv_entry ([.ref h0, .int 40]) (n := 3) (Nat.le_of_ble_eq_true rfl)
  rw [lg_entry_eq]
  generalize (lg_sl ([.ref h0, .int 40]) ++ List.replicate (3 - (lg_sl ([.ref h0, .int 40])).length) Slot.unset).toArray = ls at hl ⊢
  have hl : lv_has ls 3 [(0, .ref h0), (1, .int 40)] := hl
  refine lv_aload_n hx hb dX2_init_0 rfl (lv_at hl 0 rfl) ?_
  refine W.objInit hx hb hown (hts _ (List.mem_cons_of_mem _ (am_c6 (i := 13) rfl rfl))) (hts _ (List.mem_cons_of_mem _ (am_c2 (i := 20) rfl rfl))) (hts _ (List.mem_cons_of_mem _ (am_c2 (i := 21) rfl rfl))) rfl (by rw [hml]; exact hl.1) rfl dX2_init_1 (Nat.le_of_ble_eq_true rfl) (Nat.le_of_ble_eq_true rfl) ?_
  refine W.eq (g2 := F0 m 4 ls []) rfl ?_
  refine lv_aload_n hx hb dX2_init_4 rfl (lv_at hl 0 rfl) ?_
  refine lv_iconst (v := 0) hx hb dX2_init_5 (by decide) ?_
  refine va_put (ci := 2) (v := .int 0) (ty := .int) (C := RX2) (T := TX2) (N := 7) hx hb hts (fun w hw => List.mem_cons_of_mem _ (am_uws2 w hw)) tyX2 tyX2_ok nmX2 hown hK hP hD hS 0 rfl rfl 5 (by decide) (hts _ (List.mem_cons_of_mem _ (am_c6 (i := 22) rfl rfl))) (fun _ h9 => h9) rfl (by decide +kernel) rfl rfl (Nat.le_of_ble_eq_true rfl) dX2_init_6 (fun H locs hPn hDn hSn => ?_)
  clear hP hD hS
  have hP : va_P D vwCl [(h0, .inr (2, [.null, .null, .null, .null, .null, .int 0, .int 0]))] H := hPn
  have hD : va_D A [(h0, .inr (2, [.null, .null, .null, .null, .null, .int 0, .int 0]))] := hDn
  have hS := hSn
  clear hPn hDn hSn
  refine lv_aload_n hx hb dX2_init_9 rfl (lv_at hl 0 rfl) ?_
  refine lv_iconst (v := 0) hx hb dX2_init_10 (by decide) ?_
  refine va_put (ci := 2) (v := .int 0) (ty := .int) (C := RX2) (T := TX2) (N := 7) hx hb hts (fun w hw => List.mem_cons_of_mem _ (am_uws2 w hw)) tyX2 tyX2_ok nmX2 hown hK hP hD hS 0 rfl rfl 6 (by decide) (hts _ (List.mem_cons_of_mem _ (am_c6 (i := 23) rfl rfl))) (fun _ h9 => h9) rfl (by decide +kernel) rfl rfl (Nat.le_of_ble_eq_true rfl) dX2_init_11 (fun H locs hPn hDn hSn => ?_)
  clear hP hD hS
  have hP : va_P D vwCl [(h0, .inr (2, [.null, .null, .null, .null, .null, .int 0, .int 0]))] H := hPn
  have hD : va_D A [(h0, .inr (2, [.null, .null, .null, .null, .null, .int 0, .int 0]))] := hDn
  have hS := hSn
  clear hPn hDn hSn
  refine lv_iconst (v := 1) hx hb dX2_init_14 (by decide) ?_
  refine lv_iload_n hx hb dX2_init_15 rfl (lv_at hl 1 rfl) ?_
  refine va_mmax hx hb (hml.trans hl.1.symm) hown (hts _ (List.mem_cons_of_mem _ (am_c6 (i := 14) rfl rfl))) (hts _ (List.mem_cons_of_mem _ mm_max.1)) (hts _ (List.mem_cons_of_mem _ mm_max.2.1)) (hts _ (List.mem_cons_of_mem _ mm_max.2.2)) (Nat.le_of_ble_eq_true rfl) (Nat.le_of_ble_eq_true rfl) (Nat.le_of_ble_eq_true rfl) (Nat.le_of_ble_eq_true rfl) dX2_init_16 ?_
  refine lv_topi (fun xm em => ?_)
  have em : xm = 40 := em.trans (by decide)
  subst em
  refine lv_istore_n (lv' := [(2, .int 40), (0, .ref h0), (1, .int 40)]) hx hb dX2_init_19 rfl hl (by decide) rfl (fun ls hl => ?_)
  refine lv_aload_n hx hb dX2_init_20 rfl (lv_at hl 1 rfl) ?_
  refine lv_iload_n hx hb dX2_init_21 rfl (lv_at hl 0 rfl) ?_
  refine c_newa_int (N := 40) hx hb (hts _ (List.mem_cons_of_mem _ (am_c3 (i := 6) rfl rfl))) hK hP hD hS hA (by decide) (by decide) (by decide) (Nat.le_of_ble_eq_true rfl) (Nat.le_of_ble_eq_true rfl) dX2_init_22 (fun q1 H hPn hDn hSn => ?_)
  clear hP hD hS
  have hP : va_P D vwCl [(h0, .inr (2, [.null, .null, .null, .null, .null, .int 0, .int 0])), (q1, .inl (cy.1, 40, .inl (fun _ => 0)))] H := hPn
  have hD : va_D A [(h0, .inr (2, [.null, .null, .null, .null, .null, .int 0, .int 0])), (q1, .inl (cy.1, 40, .inl (fun _ => 0)))] := hDn
  have hS := hSn
  clear hPn hDn hSn
  refine W.widen (k := 1) (n := 40) (Nat.le_refl _) (Nat.le_refl _) ?_
  refine va_putF (ci := 2) (v := .ref q1) (ty := .array .int) (C := RX2) (T := TX2) (N := 7) hx hb hts (fun w hw => List.mem_cons_of_mem _ (am_uws2 w hw)) tyX2 tyX2_ok nmX2 hown hK hP hD hS 0 rfl rfl 0 (by decide) (hts _ (List.mem_cons_of_mem _ (am_c6 (i := 17) rfl rfl))) (fun _ h9 => h9) rfl hin rfl (by decide +kernel) rfl rfl (Nat.le_of_ble_eq_true rfl) dX2_init_24 (fun H locs hPn hDn hSn => ?_)
  clear hP hD hS
  have hP : va_P D vwCl [(h0, .inr (2, [.ref q1, .null, .null, .null, .null, .int 0, .int 0])), (q1, .inl (cy.1, 40, .inl (fun _ => 0)))] H := hPn
  have hD : va_D A [(h0, .inr (2, [.ref q1, .null, .null, .null, .null, .int 0, .int 0])), (q1, .inl (cy.1, 40, .inl (fun _ => 0)))] := hDn
  have hS := hSn
  clear hPn hDn hSn
  refine lv_aload_n hx hb dX2_init_27 rfl (lv_at hl 1 rfl) ?_
  refine lv_iload_n hx hb dX2_init_28 rfl (lv_at hl 0 rfl) ?_
  refine c_newa_int (N := 40) hx hb (hts _ (List.mem_cons_of_mem _ (am_c3 (i := 6) rfl rfl))) hK hP hD hS hA (by decide) (by decide) (by decide) (Nat.le_of_ble_eq_true rfl) (Nat.le_of_ble_eq_true rfl) dX2_init_29 (fun q2 H hPn hDn hSn => ?_)
  clear hP hD hS
  have hP : va_P D vwCl [(h0, .inr (2, [.ref q1, .null, .null, .null, .null, .int 0, .int 0])), (q1, .inl (cy.1, 40, .inl (fun _ => 0))), (q2, .inl (cy.1, 40, .inl (fun _ => 0)))] H := hPn
  have hD : va_D A [(h0, .inr (2, [.ref q1, .null, .null, .null, .null, .int 0, .int 0])), (q1, .inl (cy.1, 40, .inl (fun _ => 0))), (q2, .inl (cy.1, 40, .inl (fun _ => 0)))] := hDn
  have hS := hSn
  clear hPn hDn hSn
  refine W.widen (k := 2) (n := 80) (Nat.le_refl _) (Nat.le_refl _) ?_
  refine va_putF (ci := 2) (v := .ref q2) (ty := .array .int) (C := RX2) (T := TX2) (N := 7) hx hb hts (fun w hw => List.mem_cons_of_mem _ (am_uws2 w hw)) tyX2 tyX2_ok nmX2 hown hK hP hD hS 0 rfl rfl 1 (by decide) (hts _ (List.mem_cons_of_mem _ (am_c6 (i := 18) rfl rfl))) (fun _ h9 => h9) rfl hin rfl (by decide +kernel) rfl rfl (Nat.le_of_ble_eq_true rfl) dX2_init_31 (fun H locs hPn hDn hSn => ?_)
  clear hP hD hS
  have hP : va_P D vwCl [(h0, .inr (2, [.ref q1, .ref q2, .null, .null, .null, .int 0, .int 0])), (q1, .inl (cy.1, 40, .inl (fun _ => 0))), (q2, .inl (cy.1, 40, .inl (fun _ => 0)))] H := hPn
  have hD : va_D A [(h0, .inr (2, [.ref q1, .ref q2, .null, .null, .null, .int 0, .int 0])), (q1, .inl (cy.1, 40, .inl (fun _ => 0))), (q2, .inl (cy.1, 40, .inl (fun _ => 0)))] := hDn
  have hS := hSn
  clear hPn hDn hSn
  refine lv_aload_n hx hb dX2_init_34 rfl (lv_at hl 1 rfl) ?_
  refine lv_iload_n hx hb dX2_init_35 rfl (lv_at hl 0 rfl) ?_
  refine c_newa_int (N := 40) hx hb (hts _ (List.mem_cons_of_mem _ (am_c3 (i := 6) rfl rfl))) hK hP hD hS hA (by decide) (by decide) (by decide) (Nat.le_of_ble_eq_true rfl) (Nat.le_of_ble_eq_true rfl) dX2_init_36 (fun q3 H hPn hDn hSn => ?_)
  clear hP hD hS
  have hP : va_P D vwCl [(h0, .inr (2, [.ref q1, .ref q2, .null, .null, .null, .int 0, .int 0])), (q1, .inl (cy.1, 40, .inl (fun _ => 0))), (q2, .inl (cy.1, 40, .inl (fun _ => 0))), (q3, .inl (cy.1, 40, .inl (fun _ => 0)))] H := hPn
  have hD : va_D A [(h0, .inr (2, [.ref q1, .ref q2, .null, .null, .null, .int 0, .int 0])), (q1, .inl (cy.1, 40, .inl (fun _ => 0))), (q2, .inl (cy.1, 40, .inl (fun _ => 0))), (q3, .inl (cy.1, 40, .inl (fun _ => 0)))] := hDn
  have hS := hSn
  clear hPn hDn hSn
  refine W.widen (k := 3) (n := 120) (Nat.le_refl _) (Nat.le_refl _) ?_
  refine va_putF (ci := 2) (v := .ref q3) (ty := .array .int) (C := RX2) (T := TX2) (N := 7) hx hb hts (fun w hw => List.mem_cons_of_mem _ (am_uws2 w hw)) tyX2 tyX2_ok nmX2 hown hK hP hD hS 0 rfl rfl 2 (by decide) (hts _ (List.mem_cons_of_mem _ (am_c6 (i := 19) rfl rfl))) (fun _ h9 => h9) rfl hin rfl (by decide +kernel) rfl rfl (Nat.le_of_ble_eq_true rfl) dX2_init_38 (fun H locs hPn hDn hSn => ?_)
  clear hP hD hS
  have hP : va_P D vwCl [(h0, .inr (2, [.ref q1, .ref q2, .ref q3, .null, .null, .int 0, .int 0])), (q1, .inl (cy.1, 40, .inl (fun _ => 0))), (q2, .inl (cy.1, 40, .inl (fun _ => 0))), (q3, .inl (cy.1, 40, .inl (fun _ => 0)))] H := hPn
  have hD : va_D A [(h0, .inr (2, [.ref q1, .ref q2, .ref q3, .null, .null, .int 0, .int 0])), (q1, .inl (cy.1, 40, .inl (fun _ => 0))), (q2, .inl (cy.1, 40, .inl (fun _ => 0))), (q3, .inl (cy.1, 40, .inl (fun _ => 0)))] := hDn
  have hS := hSn
  clear hPn hDn hSn
  refine lv_aload_n hx hb dX2_init_41 rfl (lv_at hl 1 rfl) ?_
  refine lv_iload_n hx hb dX2_init_42 rfl (lv_at hl 0 rfl) ?_
  refine c_newa_int (N := 40) hx hb (hts _ (List.mem_cons_of_mem _ (am_c3 (i := 6) rfl rfl))) hK hP hD hS hA (by decide) (by decide) (by decide) (Nat.le_of_ble_eq_true rfl) (Nat.le_of_ble_eq_true rfl) dX2_init_43 (fun q4 H hPn hDn hSn => ?_)
  clear hP hD hS
  have hP : va_P D vwCl [(h0, .inr (2, [.ref q1, .ref q2, .ref q3, .null, .null, .int 0, .int 0])), (q1, .inl (cy.1, 40, .inl (fun _ => 0))), (q2, .inl (cy.1, 40, .inl (fun _ => 0))), (q3, .inl (cy.1, 40, .inl (fun _ => 0))), (q4, .inl (cy.1, 40, .inl (fun _ => 0)))] H := hPn
  have hD : va_D A [(h0, .inr (2, [.ref q1, .ref q2, .ref q3, .null, .null, .int 0, .int 0])), (q1, .inl (cy.1, 40, .inl (fun _ => 0))), (q2, .inl (cy.1, 40, .inl (fun _ => 0))), (q3, .inl (cy.1, 40, .inl (fun _ => 0))), (q4, .inl (cy.1, 40, .inl (fun _ => 0)))] := hDn
  have hS := hSn
  clear hPn hDn hSn
  refine W.widen (k := 4) (n := 160) (Nat.le_refl _) (Nat.le_refl _) ?_
  refine va_putF (ci := 2) (v := .ref q4) (ty := .array .int) (C := RX2) (T := TX2) (N := 7) hx hb hts (fun w hw => List.mem_cons_of_mem _ (am_uws2 w hw)) tyX2 tyX2_ok nmX2 hown hK hP hD hS 0 rfl rfl 3 (by decide) (hts _ (List.mem_cons_of_mem _ (am_c6 (i := 20) rfl rfl))) (fun _ h9 => h9) rfl hin rfl (by decide +kernel) rfl rfl (Nat.le_of_ble_eq_true rfl) dX2_init_45 (fun H locs hPn hDn hSn => ?_)
  clear hP hD hS
  have hP : va_P D vwCl [(h0, .inr (2, [.ref q1, .ref q2, .ref q3, .ref q4, .null, .int 0, .int 0])), (q1, .inl (cy.1, 40, .inl (fun _ => 0))), (q2, .inl (cy.1, 40, .inl (fun _ => 0))), (q3, .inl (cy.1, 40, .inl (fun _ => 0))), (q4, .inl (cy.1, 40, .inl (fun _ => 0)))] H := hPn
  have hD : va_D A [(h0, .inr (2, [.ref q1, .ref q2, .ref q3, .ref q4, .null, .int 0, .int 0])), (q1, .inl (cy.1, 40, .inl (fun _ => 0))), (q2, .inl (cy.1, 40, .inl (fun _ => 0))), (q3, .inl (cy.1, 40, .inl (fun _ => 0))), (q4, .inl (cy.1, 40, .inl (fun _ => 0)))] := hDn
  have hS := hSn
  clear hPn hDn hSn
  refine lv_aload_n hx hb dX2_init_48 rfl (lv_at hl 1 rfl) ?_
  refine lv_iload_n hx hb dX2_init_49 rfl (lv_at hl 0 rfl) ?_
  refine c_newa_int (N := 40) hx hb (hts _ (List.mem_cons_of_mem _ (am_c3 (i := 6) rfl rfl))) hK hP hD hS hA (by decide) (by decide) (by decide) (Nat.le_of_ble_eq_true rfl) (Nat.le_of_ble_eq_true rfl) dX2_init_50 (fun q5 H hPn hDn hSn => ?_)
  clear hP hD hS
  have hP : va_P D vwCl [(h0, .inr (2, [.ref q1, .ref q2, .ref q3, .ref q4, .null, .int 0, .int 0])), (q1, .inl (cy.1, 40, .inl (fun _ => 0))), (q2, .inl (cy.1, 40, .inl (fun _ => 0))), (q3, .inl (cy.1, 40, .inl (fun _ => 0))), (q4, .inl (cy.1, 40, .inl (fun _ => 0))), (q5, .inl (cy.1, 40, .inl (fun _ => 0)))] H := hPn
  have hD : va_D A [(h0, .inr (2, [.ref q1, .ref q2, .ref q3, .ref q4, .null, .int 0, .int 0])), (q1, .inl (cy.1, 40, .inl (fun _ => 0))), (q2, .inl (cy.1, 40, .inl (fun _ => 0))), (q3, .inl (cy.1, 40, .inl (fun _ => 0))), (q4, .inl (cy.1, 40, .inl (fun _ => 0))), (q5, .inl (cy.1, 40, .inl (fun _ => 0)))] := hDn
  have hS := hSn
  clear hPn hDn hSn
  refine W.widen (k := 5) (n := 200) (Nat.le_refl _) (Nat.le_refl _) ?_
  refine va_putF (ci := 2) (v := .ref q5) (ty := .array .int) (C := RX2) (T := TX2) (N := 7) hx hb hts (fun w hw => List.mem_cons_of_mem _ (am_uws2 w hw)) tyX2 tyX2_ok nmX2 hown hK hP hD hS 0 rfl rfl 4 (by decide) (hts _ (List.mem_cons_of_mem _ (am_c6 (i := 21) rfl rfl))) (fun _ h9 => h9) rfl hin rfl (by decide +kernel) rfl rfl (Nat.le_of_ble_eq_true rfl) dX2_init_52 (fun H locs hPn hDn hSn => ?_)
  clear hP hD hS
  have hP : va_P D vwCl [(h0, .inr (2, [.ref q1, .ref q2, .ref q3, .ref q4, .ref q5, .int 0, .int 0])), (q1, .inl (cy.1, 40, .inl (fun _ => 0))), (q2, .inl (cy.1, 40, .inl (fun _ => 0))), (q3, .inl (cy.1, 40, .inl (fun _ => 0))), (q4, .inl (cy.1, 40, .inl (fun _ => 0))), (q5, .inl (cy.1, 40, .inl (fun _ => 0)))] H := hPn
  have hD : va_D A [(h0, .inr (2, [.ref q1, .ref q2, .ref q3, .ref q4, .ref q5, .int 0, .int 0])), (q1, .inl (cy.1, 40, .inl (fun _ => 0))), (q2, .inl (cy.1, 40, .inl (fun _ => 0))), (q3, .inl (cy.1, 40, .inl (fun _ => 0))), (q4, .inl (cy.1, 40, .inl (fun _ => 0))), (q5, .inl (cy.1, 40, .inl (fun _ => 0)))] := hDn
  have hS := hSn
  clear hPn hDn hSn
  refine lv_aload_n hx hb dX2_init_55 rfl (lv_at hl 1 rfl) ?_
  refine va_get (ci := 2) (v := .ref q1) (C := RX2) (T := TX2) (N := 7) hx hb hts (fun w hw => List.mem_cons_of_mem _ (am_uws2 w hw)) hown hK hP 0 rfl rfl 0 (by decide) (hts _ (List.mem_cons_of_mem _ (am_c6 (i := 17) rfl rfl))) (fun _ h9 => h9) rfl dX2_init_56 ?_
  refine lv_iconst (v := 0) hx hb dX2_init_59 (by decide) ?_
  refine lv_bipush (v := 84) hx hb dX2_init_60 (by decide) ?_
  refine va_iast hx hb hK hP hD hS 1 0 rfl rfl (show ¬ ((0 : Int32) < 0 ∨ 40 ≤ (0 : Int32).toNatClampNeg) by decide) dX2_init_62 (fun H locs hPn hDn hSn => ?_)
  clear hP hD hS
  have hP : va_P D vwCl [(h0, .inr (2, [.ref q1, .ref q2, .ref q3, .ref q4, .ref q5, .int 0, .int 0])), (q1, .inl (cy.1, 40, .inl (upd (fun _ => 0) 0 84))), (q2, .inl (cy.1, 40, .inl (fun _ => 0))), (q3, .inl (cy.1, 40, .inl (fun _ => 0))), (q4, .inl (cy.1, 40, .inl (fun _ => 0))), (q5, .inl (cy.1, 40, .inl (fun _ => 0)))] H := hPn
  have hD : va_D A [(h0, .inr (2, [.ref q1, .ref q2, .ref q3, .ref q4, .ref q5, .int 0, .int 0])), (q1, .inl (cy.1, 40, .inl (upd (fun _ => 0) 0 84))), (q2, .inl (cy.1, 40, .inl (fun _ => 0))), (q3, .inl (cy.1, 40, .inl (fun _ => 0))), (q4, .inl (cy.1, 40, .inl (fun _ => 0))), (q5, .inl (cy.1, 40, .inl (fun _ => 0)))] := hDn
  have hS := hSn
  clear hPn hDn hSn
  refine lv_aload_n hx hb dX2_init_63 rfl (lv_at hl 1 rfl) ?_
  refine va_get (ci := 2) (v := .ref q2) (C := RX2) (T := TX2) (N := 7) hx hb hts (fun w hw => List.mem_cons_of_mem _ (am_uws2 w hw)) hown hK hP 0 rfl rfl 1 (by decide) (hts _ (List.mem_cons_of_mem _ (am_c6 (i := 18) rfl rfl))) (fun _ h9 => h9) rfl dX2_init_64 ?_
  refine lv_iconst (v := 0) hx hb dX2_init_67 (by decide) ?_
  refine lv_iconst (v := (-1)) hx hb dX2_init_68 (by decide) ?_
  refine va_iast hx hb hK hP hD hS 2 0 rfl rfl (show ¬ ((0 : Int32) < 0 ∨ 40 ≤ (0 : Int32).toNatClampNeg) by decide) dX2_init_69 (fun H locs hPn hDn hSn => ?_)
  clear hP hD hS
  have hP : va_P D vwCl [(h0, .inr (2, [.ref q1, .ref q2, .ref q3, .ref q4, .ref q5, .int 0, .int 0])), (q1, .inl (cy.1, 40, .inl (upd (fun _ => 0) 0 84))), (q2, .inl (cy.1, 40, .inl (upd (fun _ => 0) 0 (-1)))), (q3, .inl (cy.1, 40, .inl (fun _ => 0))), (q4, .inl (cy.1, 40, .inl (fun _ => 0))), (q5, .inl (cy.1, 40, .inl (fun _ => 0)))] H := hPn
  have hD : va_D A [(h0, .inr (2, [.ref q1, .ref q2, .ref q3, .ref q4, .ref q5, .int 0, .int 0])), (q1, .inl (cy.1, 40, .inl (upd (fun _ => 0) 0 84))), (q2, .inl (cy.1, 40, .inl (upd (fun _ => 0) 0 (-1)))), (q3, .inl (cy.1, 40, .inl (fun _ => 0))), (q4, .inl (cy.1, 40, .inl (fun _ => 0))), (q5, .inl (cy.1, 40, .inl (fun _ => 0)))] := hDn
  have hS := hSn
  clear hPn hDn hSn
  refine lv_aload_n hx hb dX2_init_70 rfl (lv_at hl 1 rfl) ?_
  refine va_get (ci := 2) (v := .ref q3) (C := RX2) (T := TX2) (N := 7) hx hb hts (fun w hw => List.mem_cons_of_mem _ (am_uws2 w hw)) hown hK hP 0 rfl rfl 2 (by decide) (hts _ (List.mem_cons_of_mem _ (am_c6 (i := 19) rfl rfl))) (fun _ h9 => h9) rfl dX2_init_71 ?_
  refine lv_iconst (v := 0) hx hb dX2_init_74 (by decide) ?_
  refine lv_iconst (v := (-1)) hx hb dX2_init_75 (by decide) ?_
  refine va_iast hx hb hK hP hD hS 3 0 rfl rfl (show ¬ ((0 : Int32) < 0 ∨ 40 ≤ (0 : Int32).toNatClampNeg) by decide) dX2_init_76 (fun H locs hPn hDn hSn => ?_)
  clear hP hD hS
  have hP : va_P D vwCl [(h0, .inr (2, [.ref q1, .ref q2, .ref q3, .ref q4, .ref q5, .int 0, .int 0])), (q1, .inl (cy.1, 40, .inl (upd (fun _ => 0) 0 84))), (q2, .inl (cy.1, 40, .inl (upd (fun _ => 0) 0 (-1)))), (q3, .inl (cy.1, 40, .inl (upd (fun _ => 0) 0 (-1)))), (q4, .inl (cy.1, 40, .inl (fun _ => 0))), (q5, .inl (cy.1, 40, .inl (fun _ => 0)))] H := hPn
  have hD : va_D A [(h0, .inr (2, [.ref q1, .ref q2, .ref q3, .ref q4, .ref q5, .int 0, .int 0])), (q1, .inl (cy.1, 40, .inl (upd (fun _ => 0) 0 84))), (q2, .inl (cy.1, 40, .inl (upd (fun _ => 0) 0 (-1)))), (q3, .inl (cy.1, 40, .inl (upd (fun _ => 0) 0 (-1)))), (q4, .inl (cy.1, 40, .inl (fun _ => 0))), (q5, .inl (cy.1, 40, .inl (fun _ => 0)))] := hDn
  have hS := hSn
  clear hPn hDn hSn
  refine lv_aload_n hx hb dX2_init_77 rfl (lv_at hl 1 rfl) ?_
  refine lv_iconst (v := 1) hx hb dX2_init_78 (by decide) ?_
  refine va_put (ci := 2) (v := .int 1) (ty := .int) (C := RX2) (T := TX2) (N := 7) hx hb hts (fun w hw => List.mem_cons_of_mem _ (am_uws2 w hw)) tyX2 tyX2_ok nmX2 hown hK hP hD hS 0 rfl rfl 5 (by decide) (hts _ (List.mem_cons_of_mem _ (am_c6 (i := 22) rfl rfl))) (fun _ h9 => h9) rfl (by decide +kernel) rfl rfl (Nat.le_of_ble_eq_true rfl) dX2_init_79 (fun H locs hPn hDn hSn => ?_)
  clear hP hD hS
  have hP : va_P D vwCl [(h0, .inr (2, [.ref q1, .ref q2, .ref q3, .ref q4, .ref q5, .int 1, .int 0])), (q1, .inl (cy.1, 40, .inl (upd (fun _ => 0) 0 84))), (q2, .inl (cy.1, 40, .inl (upd (fun _ => 0) 0 (-1)))), (q3, .inl (cy.1, 40, .inl (upd (fun _ => 0) 0 (-1)))), (q4, .inl (cy.1, 40, .inl (fun _ => 0))), (q5, .inl (cy.1, 40, .inl (fun _ => 0)))] H := hPn
  have hD : va_D A [(h0, .inr (2, [.ref q1, .ref q2, .ref q3, .ref q4, .ref q5, .int 1, .int 0])), (q1, .inl (cy.1, 40, .inl (upd (fun _ => 0) 0 84))), (q2, .inl (cy.1, 40, .inl (upd (fun _ => 0) 0 (-1)))), (q3, .inl (cy.1, 40, .inl (upd (fun _ => 0) 0 (-1)))), (q4, .inl (cy.1, 40, .inl (fun _ => 0))), (q5, .inl (cy.1, 40, .inl (fun _ => 0)))] := hDn
  have hS := hSn
  clear hPn hDn hSn
  refine lv_aload_n hx hb dX2_init_82 rfl (lv_at hl 1 rfl) ?_
  refine lv_iconst (v := 1) hx hb dX2_init_83 (by decide) ?_
  refine va_put (ci := 2) (v := .int 1) (ty := .int) (C := RX2) (T := TX2) (N := 7) hx hb hts (fun w hw => List.mem_cons_of_mem _ (am_uws2 w hw)) tyX2 tyX2_ok nmX2 hown hK hP hD hS 0 rfl rfl 6 (by decide) (hts _ (List.mem_cons_of_mem _ (am_c6 (i := 23) rfl rfl))) (fun _ h9 => h9) rfl (by decide +kernel) rfl rfl (Nat.le_of_ble_eq_true rfl) dX2_init_84 (fun H locs hPn hDn hSn => ?_)
  clear hP hD hS
  have hP : va_P D vwCl [(h0, .inr (2, [.ref q1, .ref q2, .ref q3, .ref q4, .ref q5, .int 1, .int 1])), (q1, .inl (cy.1, 40, .inl (upd (fun _ => 0) 0 84))), (q2, .inl (cy.1, 40, .inl (upd (fun _ => 0) 0 (-1)))), (q3, .inl (cy.1, 40, .inl (upd (fun _ => 0) 0 (-1)))), (q4, .inl (cy.1, 40, .inl (fun _ => 0))), (q5, .inl (cy.1, 40, .inl (fun _ => 0)))] H := hPn
  have hD : va_D A [(h0, .inr (2, [.ref q1, .ref q2, .ref q3, .ref q4, .ref q5, .int 1, .int 1])), (q1, .inl (cy.1, 40, .inl (upd (fun _ => 0) 0 84))), (q2, .inl (cy.1, 40, .inl (upd (fun _ => 0) 0 (-1)))), (q3, .inl (cy.1, 40, .inl (upd (fun _ => 0) 0 (-1)))), (q4, .inl (cy.1, 40, .inl (fun _ => 0))), (q5, .inl (cy.1, 40, .inl (fun _ => 0)))] := hDn
  have hS := hSn
  clear hPn hDn hSn
  subst hAe
  exact W.vret hx hb hr (fun t ht hW => ⟨⟨(q1, q2, q3, q4, q5), rfl, trivial, by rw [ht]; exact hP, hD⟩, hS.F ht⟩) hS.2.2 dX2_init_87
