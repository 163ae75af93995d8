theorem am_static {args : Array Value} {s : State} (hg : ∀ c, c ∈ [Cond.isRef (.static "SeenWorlds" "ASKED" "[I"), Cond.arrayOf (.static "SeenWorlds" "ASKED" "[I") .int, Cond.eq (.length (.static "SeenWorlds" "ASKED" "[I")) (.int 4), Cond.eq (.elem (.static "SeenWorlds" "ASKED" "[I") (.int 0)) (.int 1), Cond.eq (.elem (.static "SeenWorlds" "ASKED" "[I") (.int 1)) (.int 11), Cond.eq (.elem (.static "SeenWorlds" "ASKED" "[I") (.int 2)) (.int 111), Cond.eq (.elem (.static "SeenWorlds" "ASKED" "[I") (.int 3)) (.int 1111)] → c.before args s = true) :
    ∃ b0, (Term.static "SeenWorlds" "ASKED" "[I").eval args s none [] s = some (.ref b0) ∧ va_X b0 4 am_ask s s.heap ∧ b0 < s.heap.size := by
  have h2 := hg _ (List.mem_of_getElem? (i := 1) rfl)
  have h3 := hg _ (List.mem_of_getElem? (i := 2) rfl)
  have hv : (Term.length (.static "SeenWorlds" "ASKED" "[I")).eval args s none [] s = some (.int 4) := Cond.eq_int h3 rfl
  obtain ⟨b0, cell, ht, harr, -⟩ := Term.length_spec hv
  have hsz : cell.slots.size = 4 := by
    simp only [Term.eval, Option.bind_eq_bind] at hv ht
    simp only [ht, harr, Option.bind_some] at hv
    by_cases hlt : cell.slots.size < 2147483648
    · simp only [hlt, if_true] at hv
      have e : Int32.ofNat cell.slots.size = 4 := by
        have := Option.some.inj hv
        exact Value.int.inj this
      have e2 := nI_toInt (n := cell.slots.size) (by omega)
      unfold nI at e2
      rw [e] at e2
      have e3 : (4 : Int32).toInt = 4 := by decide
      omega
    · simp [hlt] at hv
  obtain ⟨hcell, hkn, -, -⟩ := State.arrayAt?_spec harr
  refine ⟨b0, ht, ⟨cell, hcell, (Cond.arrayOf_spec h2 ht hcell).1, hkn, hsz, ?_⟩, (Array.getElem?_eq_some_iff.mp hcell).1⟩
  have get : ∀ (j : Int32) (n : Nat) (v : Int32), (Cond.eq (.elem (.static "SeenWorlds" "ASKED" "[I") (.int j)) (.int v)).before args s = true → ¬ j < 0 → j.toNatClampNeg = n → cell.slots[n]? = some (.int v) := by
    intro j n v h hj hn
    have he : (Term.elem (.static "SeenWorlds" "ASKED" "[I") (.int j)).eval args s none [] s = some (.int v) := Cond.eq_int h rfl
    simp only [Term.eval, Option.bind_eq_bind] at he ht
    simp only [ht, harr, Option.bind_some, if_neg hj, hn] at he
    exact he
  intro j hj
  match j, hj with
  | 0, _ => exact get 0 0 1 (hg _ (List.mem_of_getElem? (i := 3) rfl)) (by decide) (by decide)
  | 1, _ => exact get 1 1 11 (hg _ (List.mem_of_getElem? (i := 4) rfl)) (by decide) (by decide)
  | 2, _ => exact get 2 2 111 (hg _ (List.mem_of_getElem? (i := 5) rfl)) (by decide) (by decide)
  | 3, _ => exact get 3 3 1111 (hg _ (List.mem_of_getElem? (i := 6) rfl)) (by decide) (by decide)
  | n + 4, hj => omega
set_option maxHeartbeats 4000000 in
set_option maxRecDepth 100000 in
theorem start_of {b L : Nat} {Rel : Nat → AW → AW → Prop} (hPub : ∀ i, i + 4 ≤ L → PubOK (Rel i) (Rel (i + 4))) (hSkip : ∀ i, i + 4 ≤ L → ∀ wX wM, Rel i wX wM → Rel (i + 4) wX wM) (h0 : Rel 0 wX0 wM1) {p : Program} {e : Env} {s : State} {m : MethodId} {below : List Frame} {meth : Method} {c : Code} (l : Launch) {xs : Nat → Int32} (hL : L ≤ 2048) (C0 : lw_At p s m meth c b L xs) : W p l e room_1 s m #[Value.ref b] below meth c s.heap [] 0 0 (lw_Z below #[Value.ref b] s) (entryFrame m ([Value.ref b] : List Value).toArray 4) := by
  obtain ⟨hx, hb, hr, hml, hown, hts, hX, hbl, hlocks, hgv⟩ := id C0
  have hA : ∀ q : Nat, s.heap.size ≤ q → (fun q : Nat => s.heap.size ≤ q) q := fun _ h => h
  obtain ⟨c0, iS0, hKn0⟩ := u_known (C := RX0) (T := TX0) (N := 3) (n := 3) hts (fun w hw => am_inT (am_uws0 w hw)) (hts _ (am_inT (am_mem (i := 87) (by decide +kernel) rfl)))
  obtain ⟨c1, iS1, hKn1⟩ := u_known (C := RX1) (T := TX1) (N := 6) (n := 6) hts (fun w hw => am_inT (am_uws1 w hw)) (hts _ (am_inT (am_mem (i := 126) (by decide +kernel) rfl)))
  obtain ⟨c2, iS2, hKn2⟩ := u_known (C := RX2) (T := TX2) (N := 7) (n := 7) hts (fun w hw => am_inT (am_uws2 w hw)) (hts _ (am_inT (am_mem (i := 201) (by decide +kernel) rfl)))
  obtain ⟨c3, iS3, hKn3⟩ := u_known (C := RX3) (T := TX3) (N := 14) (n := 14) hts (fun w hw => am_inT (am_uws3 w hw)) (hts _ (am_inT (am_mem (i := 151) (by decide +kernel) rfl)))
  obtain ⟨c4, iS4, hKn4⟩ := u_known (C := RX4) (T := TX4) (N := 5) (n := 5) hts (fun w hw => am_inT (am_uws4 w hw)) (hts _ (am_inT (am_mem (i := 104) (by decide +kernel) rfl)))
  obtain ⟨c5, iS5, hKn5⟩ := u_known (C := RX5) (T := TX5) (N := 11) (n := 11) hts (fun w hw => am_inT (am_uws5 w hw)) (hts _ (am_inT (am_mem (i := 79) (by decide +kernel) rfl)))
  obtain ⟨c6, iS6, hKn6⟩ := u_known (C := RX6) (T := TX6) (N := 50) (n := 50) hts (fun w hw => am_inT (am_uws6 w hw)) (hts _ (am_inT (am_mem (i := 748) (by decide +kernel) rfl)))
  obtain ⟨D, hKc⟩ : ∃ D : va_G, ∀ (k : Nat) (q : vw_C), vwCl[k]? = some q → u_Kn s q.1 q.2.1 q.2.2 (D.1 k) (D.2 k) := by
    refine ⟨(fun k => [c0, c1, c2, c3, c4, c5, c6].getD k c0, fun k => [iS0, iS1, iS2, iS3, iS4, iS5, iS6].getD k iS0), ?_⟩
    intro k q hq
    match k, hq with
    | 0, hq => cases hq; exact hKn0
    | 1, hq => cases hq; exact hKn1
    | 2, hq => cases hq; exact hKn2
    | 3, hq => cases hq; exact hKn3
    | 4, hq => cases hq; exact hKn4
    | 5, hq => cases hq; exact hKn5
    | 6, hq => cases hq; exact hKn6
    | k + 7, hq => simp [vwCl] at hq
  clear hKn0 hKn1 hKn2 hKn3 hKn4 hKn5 hKn6
  obtain ⟨cI, kI, compI, i1, i2, i3⟩ := Cond.arrayClass_spec (hts _ (am_inT (am_mem (i := 102) (by decide +kernel) rfl)) : (Cond.arrayClass .int).before #[Value.ref b] s = true)
  obtain ⟨cZ, kZ, compZ, z1, z2, z3⟩ := Cond.arrayClass_spec (hts _ (am_inT (am_mem (i := 904) (by decide +kernel) rfl)) : (Cond.arrayClass .boolean).before #[Value.ref b] s = true)
  have hAO : va_AO "SeenWorlds$Sentence" s := va_AO.of (A := #[Value.ref b]) (hts (.arrayOver (.object "SeenWorlds$Sentence")) (List.mem_of_getElem? (i := 200) (by decide +kernel)))
  obtain ⟨compO, cO, kO, o1, o2, o3, o4, o5⟩ := Cond.arrayOver_spec hAO
  have hK : va_K D vwCl (am_tys (cI, cZ, cO)) s := by
    refine ⟨hKc, fun k q h => ?_⟩
    match k, h with
    | 0, h => cases h; exact ⟨fun n z => ⟨(fun k h => by cases h), kI, i2, compI, i3⟩, i1⟩
    | 1, h => cases h; exact ⟨fun n z => ⟨(fun k h => by cases h), kZ, z2, compZ, z3⟩, z1⟩
    | 2, h => cases h; exact ⟨fun n z => ⟨(fun k h => by cases h), kO, o3, compO, o4⟩, kO, compO, o3, o4, o1, o5⟩
    | n + 3, h => simp [am_tys] at h
  generalize (cI, cZ, cO) = cy at hK
  have hN : am_Ns s := by
    intro w hw
    obtain ⟨a, i, y, bb, rfl⟩ := am_nest_of hw
    exact va_Nw.of rfl (hts _ (List.mem_filter.mp hw).1)
  have hfl := flat_of_before _ hgv
  obtain ⟨b0, hev, hXs, hb0⟩ := am_static (args := #[Value.ref b]) (s := s) (fun c hc => by
    rcases List.mem_cons.mp hc with rfl | hc
    · exact hfl _ (by decide +kernel)
    rcases List.mem_cons.mp hc with rfl | hc
    · exact hfl _ (by decide +kernel)
    rcases List.mem_cons.mp hc with rfl | hc
    · exact hfl _ (by decide +kernel)
    rcases List.mem_cons.mp hc with rfl | hc
    · exact hfl _ (by decide +kernel)
    rcases List.mem_cons.mp hc with rfl | hc
    · exact hfl _ (by decide +kernel)
    rcases List.mem_cons.mp hc with rfl | hc
    · exact hfl _ (by decide +kernel)
    rcases List.mem_cons.mp hc with rfl | hc
    · exact hfl _ (by decide +kernel)
    · exact absurd hc List.not_mem_nil)
  have hZ : am_Zs (fun _ _ => b0) (fun q => s.heap.size ≤ q) s := ⟨va_Zref (args := #[Value.ref b]) (hts _ (List.mem_of_getElem? (i := 344) (by decide +kernel))) (hts _ (am_inT (am_mem (i := 69) (by decide +kernel) rfl))) hev (fun a ha => Nat.not_le.mpr ha), hXs, hb0, Nat.not_le.mpr hb0⟩
  have hS : va_S (fun q : Nat => s.heap.size ≤ q) s.heap s.heap [] := va_S.rf
  have hP : va_P D vwCl [] s.heap := fun k q h => by simp at h
  have hD : va_D (fun q : Nat => s.heap.size ≤ q) [] := ⟨fun i j p q h => by simp at h, fun k q h => by simp at h⟩
  have hl := lv_entry ([.ref b]) (n := 4) (Nat.le_of_ble_eq_true rfl)
  rw [lg_entry_eq]
  generalize (lg_sl ([.ref b]) ++ List.replicate (4 - (lg_sl ([.ref b])).length) Slot.unset).toArray = ls at hl ⊢
  have hl : lv_has ls 4 [(0, .ref b)] := hl
  refine va_new (ci := 5) (fs := [.null, .null, .null, .null, .null, .null, .null, .null, .null, .int 0, .long 0]) (C := RX5) (T := TX5) (N := 11) hx hb hts (fun w hw => am_inT (am_uws5 w hw)) tyX5 tyX5_ok hown (hts _ (am_inT (am_mem (i := 78) (by decide +kernel) rfl))) (hts _ (am_inT (am_mem (i := 79) (by decide +kernel) rfl))) (hts _ (am_inT (am_mem (i := 69) (by decide +kernel) rfl))) hK hP hD hS hA rfl (fun j hj => by rcases (show j = 0 ∨ j = 1 ∨ j = 2 ∨ j = 3 ∨ j = 4 ∨ j = 5 ∨ j = 6 ∨ j = 7 ∨ j = 8 ∨ j = 9 ∨ j = 10 by omega) with rfl | rfl | rfl | rfl | rfl | rfl | rfl | rfl | rfl | rfl | rfl <;> rfl) (Nat.le_of_ble_eq_true rfl) (Nat.le_of_ble_eq_true rfl) dL_law_0 (fun qx H hPn hDn hSn => ?_)
  clear hP hD hS
  have hP : va_P D vwCl [(qx, .inr (5, [.null, .null, .null, .null, .null, .null, .null, .null, .null, .int 0, .long 0]))] H := hPn
  have hD : va_D (fun q : Nat => s.heap.size ≤ q) [(qx, .inr (5, [.null, .null, .null, .null, .null, .null, .null, .null, .null, .int 0, .long 0]))] := hDn
  have hS := hSn
  clear hPn hDn hSn
  refine W.widen (k := 1) (n := 11) (Nat.le_refl _) (Nat.le_refl _) ?_
  refine lv_dup hx hb dL_law_3 rfl ?_
  have hFc := va_free (wc := [(qx, .inr (5, [.null, .null, .null, .null, .null, .null, .null, .null, .null, .int 0, .long 0]))]) hD hS hA [0] rfl
  have hAr : ∀ {K2 : MK}, am_mw K2 → GoodIn lw_tbl (am_ws K2) := fun {K2} hm w hw => by
    rcases List.mem_cons.mp hw with rfl | h
    · exact ⟨am_inT hm.1, am_good _ hm.1⟩
    · exact ⟨am_inT h, am_good _ h⟩
  refine va_callv (va_runI (As := []) (rest := [.ref qx]) ⟨hx, hb, hml, hown, hts⟩ (c_X5_init l D cy b0 qx H.size) (cwI 0 hts (hAr mw_X5_init) rfl rfl rfl (hts _ (am_inT mw_X5_init.2)) (hts _ (am_inT (am_mem (i := 80) (by decide +kernel) rfl))) (hts _ (am_inT (am_mem (i := 81) (by decide +kernel) rfl))) rfl (by decide +kernel) ⟨Nat.le_of_ble_eq_true rfl, Nat.le_of_ble_eq_true rfl⟩) ⟨c_blind, fun U hU hW => ⟨rfl, by rw [hU], by rw [hU]; exact hP, va_K.moved hW.alike hK, hD.weaken (fun _ _ _ _ => trivial), va_AO.moved hW.alike hAO, am_Ns.warm hW hN⟩⟩ rfl rfl hl.1 rfl (lv_room (Nat.le_of_ble_eq_true rfl)) dL_law_4 ⟨Nat.le_of_ble_eq_true rfl, Nat.le_of_ble_eq_true rfl⟩) hS (fun q _ h => hFc q h) hFc (fun adX t H1 locs ht hvm hw hB hz1 hk1 hSn => ?_)
  obtain ⟨hPX, hDX⟩ := hB
  obtain ⟨eX1, eX2⟩ := hw
  rw [ht] at hPX
  have hDX : va_D (fun q : Nat => s.heap.size ≤ q) (am_cw cy false adX wX0) := hDX.weaken (fun _ _ _ h => hFc _ h)
  clear hP hD hS hFc hk1 hz1 hvm ht
  have hS := hSn
  clear hSn
  refine W.widen (k := 68) (n := 7381) (Nat.le_refl _) (Nat.le_refl _) ?_
  refine lv_astore_n (lv' := [(1, .ref qx), (0, .ref b)]) hx hb dL_law_7 rfl hl (by decide) rfl (fun ls hl => ?_)
  refine va_new (ci := 6) (fs := [.int 0, .long 0, .int 0, .null, .null, .null, .int 0, .null, .null, .null, .null, .null, .null, .null, .null, .int 0, .int 0, .null, .null, .null, .null, .null, .null, .null, .null, .null, .int 0, .int 0, .null, .null, .null, .null, .null, .null, .null, .int 0, .null, .null, .null, .null, .null, .null, .null, .null, .int 0, .int 0, .null, .null, .null, .null]) (C := RX6) (T := TX6) (N := 50) hx hb hts (fun w hw => am_inT (am_uws6 w hw)) tyX6 tyX6_ok hown (hts _ (am_inT (am_mem (i := 747) (by decide +kernel) rfl))) (hts _ (am_inT (am_mem (i := 748) (by decide +kernel) rfl))) (hts _ (am_inT (am_mem (i := 76) (by decide +kernel) rfl))) hK hPX hDX hS hA rfl (fun j hj => by rcases (show j = 0 ∨ j = 1 ∨ j = 2 ∨ j = 3 ∨ j = 4 ∨ j = 5 ∨ j = 6 ∨ j = 7 ∨ j = 8 ∨ j = 9 ∨ j = 10 ∨ j = 11 ∨ j = 12 ∨ j = 13 ∨ j = 14 ∨ j = 15 ∨ j = 16 ∨ j = 17 ∨ j = 18 ∨ j = 19 ∨ j = 20 ∨ j = 21 ∨ j = 22 ∨ j = 23 ∨ j = 24 ∨ j = 25 ∨ j = 26 ∨ j = 27 ∨ j = 28 ∨ j = 29 ∨ j = 30 ∨ j = 31 ∨ j = 32 ∨ j = 33 ∨ j = 34 ∨ j = 35 ∨ j = 36 ∨ j = 37 ∨ j = 38 ∨ j = 39 ∨ j = 40 ∨ j = 41 ∨ j = 42 ∨ j = 43 ∨ j = 44 ∨ j = 45 ∨ j = 46 ∨ j = 47 ∨ j = 48 ∨ j = 49 by omega) with rfl | rfl | rfl | rfl | rfl | rfl | rfl | rfl | rfl | rfl | rfl | rfl | rfl | rfl | rfl | rfl | rfl | rfl | rfl | rfl | rfl | rfl | rfl | rfl | rfl | rfl | rfl | rfl | rfl | rfl | rfl | rfl | rfl | rfl | rfl | rfl | rfl | rfl | rfl | rfl | rfl | rfl | rfl | rfl | rfl | rfl | rfl | rfl | rfl | rfl <;> rfl) (Nat.le_of_ble_eq_true rfl) (Nat.le_of_ble_eq_true rfl) dL_law_8 (fun qm H hPn hDn hSn => ?_)
  have hPm0 : va_P D vwCl [(qm, .inr (6, [.int 0, .long 0, .int 0, .null, .null, .null, .int 0, .null, .null, .null, .null, .null, .null, .null, .null, .int 0, .int 0, .null, .null, .null, .null, .null, .null, .null, .null, .null, .int 0, .int 0, .null, .null, .null, .null, .null, .null, .null, .int 0, .null, .null, .null, .null, .null, .null, .null, .null, .int 0, .int 0, .null, .null, .null, .null]))] H := hPn.sub (ws' := [(qm, .inr (6, [.int 0, .long 0, .int 0, .null, .null, .null, .int 0, .null, .null, .null, .null, .null, .null, .null, .null, .int 0, .int 0, .null, .null, .null, .null, .null, .null, .null, .null, .null, .int 0, .int 0, .null, .null, .null, .null, .null, .null, .null, .int 0, .null, .null, .null, .null, .null, .null, .null, .null, .int 0, .int 0, .null, .null, .null, .null]))]) [68] rfl
  have hDm0 : va_D (fun q : Nat => s.heap.size ≤ q) [(qm, .inr (6, [.int 0, .long 0, .int 0, .null, .null, .null, .int 0, .null, .null, .null, .null, .null, .null, .null, .null, .int 0, .int 0, .null, .null, .null, .null, .null, .null, .null, .null, .null, .int 0, .int 0, .null, .null, .null, .null, .null, .null, .null, .int 0, .null, .null, .null, .null, .null, .null, .null, .null, .int 0, .int 0, .null, .null, .null, .null]))] := hDn.sub (ws' := [(qm, .inr (6, [.int 0, .long 0, .int 0, .null, .null, .null, .int 0, .null, .null, .null, .null, .null, .null, .null, .null, .int 0, .int 0, .null, .null, .null, .null, .null, .null, .null, .null, .null, .int 0, .int 0, .null, .null, .null, .null, .null, .null, .null, .int 0, .null, .null, .null, .null, .null, .null, .null, .null, .int 0, .int 0, .null, .null, .null, .null]))]) [68] (by decide) rfl
  have hFc := va_free (wc := [(qm, .inr (6, [.int 0, .long 0, .int 0, .null, .null, .null, .int 0, .null, .null, .null, .null, .null, .null, .null, .null, .int 0, .int 0, .null, .null, .null, .null, .null, .null, .null, .null, .null, .int 0, .int 0, .null, .null, .null, .null, .null, .null, .null, .int 0, .null, .null, .null, .null, .null, .null, .null, .null, .int 0, .int 0, .null, .null, .null, .null]))]) hDn hSn hA [68] rfl
  refine W.widen (k := 69) (n := 7431) (Nat.le_refl _) (Nat.le_refl _) ?_
  refine lv_dup hx hb dL_law_11 rfl ?_
  refine va_callv (va_runI (As := []) (rest := [.ref qm]) ⟨hx, hb, hml, hown, hts⟩ (c_X6_init l D cy b0 qm H.size) (cwI 0 hts (hAr mw_X6_init) rfl rfl rfl (hts _ (am_inT mw_X6_init.2)) (hts _ (am_inT (am_mem (i := 749) (by decide +kernel) rfl))) (hts _ (am_inT (am_mem (i := 750) (by decide +kernel) rfl))) rfl (by decide +kernel) ⟨Nat.le_of_ble_eq_true rfl, Nat.le_of_ble_eq_true rfl⟩) ⟨c_blind1, fun U hU hW => ⟨rfl, by rw [hU], by rw [hU]; exact hPm0, va_K.moved hW.alike hK, hDm0.weaken (fun _ _ _ _ => trivial), hZ.go hSn (fun q h => hFc q h) hW.alike hU, am_Ns.warm hW hN⟩⟩ rfl rfl hl.1 rfl (lv_room (Nat.le_of_ble_eq_true rfl)) dL_law_12 ⟨Nat.le_of_ble_eq_true rfl, Nat.le_of_ble_eq_true rfl⟩) hSn (fun q _ h => hFc q h) hFc (fun adM t H1 locs ht hvm hw hB hz1 hk1 hS2 => ?_)
  obtain ⟨hPM, hDM⟩ := hB
  obtain ⟨eM1, eM2⟩ := hw
  rw [ht] at hPM
  have hPX0 : va_P D vwCl (am_cw cy false adX wX0) H := fun k q hk => hPn k q (by rw [List.getElem?_append_left (List.getElem?_eq_some_iff.mp hk).1]; exact hk)
  have apart : ∀ (k : Nat) (q : Nat × va_E), (am_cw cy false adX wX0)[k]? = some q → ¬ va_A [(qm, .inr (6, [.int 0, .long 0, .int 0, .null, .null, .null, .int 0, .null, .null, .null, .null, .null, .null, .null, .null, .int 0, .int 0, .null, .null, .null, .null, .null, .null, .null, .null, .null, .int 0, .int 0, .null, .null, .null, .null, .null, .null, .null, .int 0, .null, .null, .null, .null, .null, .null, .null, .null, .int 0, .int 0, .null, .null, .null, .null]))] H.size q.1 := by
    rintro k q hk (⟨k2, e2, h2⟩ | h2)
    · have hlt := (List.getElem?_eq_some_iff.mp hk).1
      match k2, h2 with
      | 0, h2 =>
        have := hDn.1 k (am_cw cy false adX wX0).length q (q.1, e2) (by rw [List.getElem?_append_left hlt]; exact hk) (by rw [List.getElem?_append_right (Nat.le_refl _), Nat.sub_self]; exact h2) rfl
        omega
      | n + 1, h2 => simp at h2
    · exact absurd (hPX0 k q hk).lt (Nat.not_lt.mpr h2)
  have hPX1 : va_P D vwCl (am_cw cy false adX wX0) H1 := hPX0.kept (fun k q hk => hk1 q.1 (hPX0 k q hk).lt (apart k q hk))
  have hdj : ∀ q1 ∈ am_cells false, ∀ q2 ∈ am_cells true, adX q1.1 q1.2 ≠ adM q2.1 q2.2 := by
    intro q1 h1 q2 h2 e
    obtain ⟨k1, -, g1⟩ := am_cw_at (cy := cy) (ad := adX) (w := wX0) h1
    obtain ⟨k2, -, g2⟩ := am_cw_at (cy := cy) (ad := adM) (w := wM1) h2
    have := hDM.2 k2 _ g2
    exact apart k1 _ g1 (by show va_A _ _ (adX q1.1 q1.2); rw [e]; exact this)
  have hDM : va_D (fun q : Nat => s.heap.size ≤ q) (am_cw cy true adM wM1) := hDM.weaken (fun _ _ _ h => hFc _ h)
  have hF : lw_F p s m c b D cy adX adM := ⟨hx, hb, hml, hown, hts, hK, fun w => am_D w hDX, fun w => am_D w hDM, hdj, by unfold am_Zs at hZ ⊢; rw [eX2]; exact hZ, by unfold am_Zs at hZ ⊢; rw [eM2]; exact hZ, hN⟩
  have hSt : lw_S s D cy adX adM wX0 wM1 H1 locs := ⟨rfl, rfl, hPX1, hPM, hS2⟩
  refine W.widen (k := 108) (n := 17627) (Nat.le_refl _) (Nat.le_refl _) ?_
  refine lv_astore_n (lv' := [(2, .ref qm), (1, .ref qx), (0, .ref b)]) hx hb dL_law_15 rfl hl (by decide) rfl (fun ls hl => ?_)
  refine lv_iconst (v := 0) hx hb dL_law_16 (by decide) ?_
  refine lv_istore_n (lv' := [(3, .int 0), (2, .ref qm), (1, .ref qx), (0, .ref b)]) hx hb dL_law_17 rfl hl (by decide) rfl (fun ls hl => ?_)
  have hl2 : lv_has ls 4 [(3, .int 0), (0, .ref b), (1, .ref (adX 0 0)), (2, .ref (adM 0 0))] := by
    rw [eX1, eM1]
    exact lv_sub hl [0, 3, 2, 1] rfl
  exact lw_loop hPub hSkip hL hF hX hbl hr hlocks (L + 5) 0 0 wX0 wM1 h0 (Nat.zero_le _) (by omega) nI_0.symm H1 locs ls hSt hl2
