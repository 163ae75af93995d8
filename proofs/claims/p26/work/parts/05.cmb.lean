
/-! combinators of the shallow functions -/
section CMB
variable {α β : Type}
def rd (n : Nat) (f : Nat → Int32) (i : Int32) (k : Int32 → Option α) : Option α := if i < 0 ∨ n ≤ i.toNatClampNeg then none else k (f i.toNatClampNeg)
def rdq (n : Nat) (i : Int32) (k : Nat → Option α) : Option α := if i < 0 ∨ n ≤ i.toNatClampNeg then none else k (6 + i.toNatClampNeg)
def wr (n : Nat) (w : AW) (o a : Nat) (i x : Int32) (k : AW → Option α) : Option α := if i < 0 ∨ n ≤ i.toNatClampNeg then none else k (am_set w o a i.toNatClampNeg x)
def pu (w : AW) (o j : Nat) (x : Int32) (k : AW → Option α) : Option α := k (am_set w o 0 j x)
def puL (w : AW) (x : Int64) (k : AW → Option α) : Option α := k (am_setL w x)
def nm (x : Int32) (k : Int32 → Option α) : Option α := k x
def cl (x : Option (β × AW)) (k : β → AW → Option α) : Option α := match x with | none => none | some r => k r.1 r.2
def nS (s : Option (Nat × Nat)) (X : Option α) (k : Nat → Option α) : Option α := match s with | none => X | some q => if q.2 = 0 ∧ am_cls false q.1 = 2 then k q.1 else none
def zr (x : Int32) (w : AW) : Option (Int32 × AW) := if vp_nar .boolean x = x then some (x, w) else none
theorem rd_some {n : Nat} {f : Nat → Int32} {i : Int32} {k : Int32 → Option α} {r : α} (h : rd n f i k = some r) : vp_in i n ∧ k (f i.toNatClampNeg) = some r := by
  unfold rd at h
  split at h
  · cases h
  · rename_i q
    exact ⟨q, h⟩
theorem rdq_some {n : Nat} {i : Int32} {k : Nat → Option α} {r : α} (h : rdq n i k = some r) : vp_in i n ∧ k (6 + i.toNatClampNeg) = some r := by
  unfold rdq at h
  split at h
  · cases h
  · rename_i q
    exact ⟨q, h⟩
theorem wr_some {n : Nat} {w : AW} {o a : Nat} {i x : Int32} {k : AW → Option α} {r : α} (h : wr n w o a i x k = some r) : vp_in i n ∧ k (am_set w o a i.toNatClampNeg x) = some r := by
  unfold wr at h
  split at h
  · cases h
  · rename_i q
    exact ⟨q, h⟩
theorem cl_some {x : Option (β × AW)} {k : β → AW → Option α} {r : α} (h : cl x k = some r) : ∃ v w, x = some (v, w) ∧ k v w = some r := by
  cases x with
  | none => cases h
  | some q => exact ⟨q.1, q.2, rfl, h⟩
theorem br_pos {c : Prop} [Decidable c] {a b : Option α} {r : α} (h : c) (hf : (if c then a else b) = some r) : a = some r := by rwa [if_pos h] at hf
theorem br_neg {c : Prop} [Decidable c] {a b : Option α} {r : α} (h : ¬ c) (hf : (if c then a else b) = some r) : b = some r := by rwa [if_neg h] at hf
theorem zr_some {x v : Int32} {w w' : AW} (h : zr x w = some (v, w')) : vp_nar .boolean x = x ∧ v = x ∧ w' = w := by
  unfold zr at h
  split at h
  · rename_i q
    cases h
    exact ⟨q, rfl, rfl⟩
  · cases h
theorem ret_I {x v : Int32} {w w' : AW} (h : some (x, w) = some (v, w')) : ((some (vI v), w') : AR) = (some (vI x), w) := by cases h; rfl
theorem ret_L {x v : Int64} {w w' : AW} (h : some (x, w) = some (v, w')) : ((some (vL v), w') : AR) = (some (vL x), w) := by cases h; rfl
theorem ret_O {x v : Option (Nat × Nat)} {w w' : AW} (h : some (x, w) = some (v, w')) : ((some (vO v), w') : AR) = (some (vO x), w) := by cases h; rfl
theorem ret_U {u v : Unit} {w w' : AW} {q : Option AV} (h : some (u, w) = some (v, w')) : ((q, w') : AR) = (q, w) := by cases h; rfl
end CMB
def am_ia (sd : Bool) (o a : Nat) : Prop := am_aK sd o a = 2 ∨ (o = 12 ∧ a = 1)
theorem am_iaW {sd : Bool} {o a : Nat} (h : am_aK sd o a = 2) : am_ia sd o a := Or.inl h
theorem am_ia12 {sd : Bool} : am_ia sd 12 1 := Or.inr ⟨rfl, rfl⟩
theorem am_aKs {sd : Bool} {o : Nat} (h : am_cls sd o = 2) (k : Nat) (hk : (am_fk 2 k).1 = 2) : am_aK sd o (k + 1) = 2 := by
  show (am_fk (am_cls sd o) k).1 = 2
  rw [h]
  exact hk
section GR
variable {α : Type} {sd : Bool} {K : MK} {r : AR} {pc : Nat} {ls : AL} {st : List AV} {w : AW} {z : α}
theorem g_iald {o a n : Nat} {i : Int32} {k : Int32 → Option α} (hd : decode K.2.1 pc = .ok (.iaload, 1)) (hK : am_aK sd o a = 2) (hn : am_aL sd o a = n) (hf : rd n (w.1 o a) i k = some z) (kk : ∀ x, k x = some z → RR sd K r (pc + 1) ls (vI x :: st) w) : RR sd K r pc ls (vI i :: vR o a :: st) w := by
  subst hn
  obtain ⟨h1, h2⟩ := rd_some hf
  exact r_iald hd hK h1 (kk _ h2)
theorem g_ialdG {o a n : Nat} {i : Int32} {k : Int32 → Option α} (hd : decode K.2.1 pc = .ok (.iaload, 1)) (hK : am_ia sd o a) (hn : am_aL sd o a = n) (hf : rd n (w.1 o a) i k = some z) (kk : ∀ x, k x = some z → RR sd K r (pc + 1) ls (vI x :: st) w) : RR sd K r pc ls (vI i :: vR o a :: st) w := by
  rcases hK with hK | ⟨rfl, rfl⟩
  · exact g_iald hd hK hn hf kk
  · subst hn
    obtain ⟨h1, h2⟩ := rd_some hf
    exact r_iald12 hd h1 (kk _ h2)
theorem g_bald {o a n : Nat} {i : Int32} {k : Int32 → Option α} (hd : decode K.2.1 pc = .ok (.baload, 1)) (hK : am_aK sd o a = 4) (hn : am_aL sd o a = n) (hf : rd n (w.1 o a) i k = some z) (kk : ∀ x, k x = some z → RR sd K r (pc + 1) ls (vI x :: st) w) : RR sd K r pc ls (vI i :: vR o a :: st) w := by
  subst hn
  obtain ⟨h1, h2⟩ := rd_some hf
  exact r_bald hd hK h1 (kk _ h2)
theorem g_aald {o a n : Nat} {i : Int32} {k : Nat → Option α} (hd : decode K.2.1 pc = .ok (.aaload, 1)) (hK : am_aK sd o a = 5) (hn : am_aL sd o a = n) (hf : rdq n i k = some z) (kk : ∀ x, k x = some z → RR sd K r (pc + 1) ls (vR x 0 :: st) w) : RR sd K r pc ls (vI i :: vR o a :: st) w := by
  subst hn
  obtain ⟨h1, h2⟩ := rdq_some hf
  exact r_aald hd hK h1 (kk _ h2)
theorem g_alenG {o a : Nat} (hd : decode K.2.1 pc = .ok (.arraylength, 1)) (hK : am_ia sd o a) (kk : RR sd K r (pc + 1) ls (vI (Int32.ofNat (am_aL sd o a)) :: st) w) : RR sd K r pc ls (vR o a :: st) w := by
  rcases hK with hK | ⟨rfl, rfl⟩
  · exact r_alen hd (by rw [hK]; rfl) rfl kk
  · exact r_alen12 hd kk
theorem g_iast {o a n : Nat} {i x : Int32} {k : AW → Option α} (hd : decode K.2.1 pc = .ok (.iastore, 1)) (hK : am_aK sd o a = 2) (hn : am_aL sd o a = n) (hf : wr n w o a i x k = some z) (kk : ∀ w2, k w2 = some z → RR sd K r (pc + 1) ls st w2) : RR sd K r pc ls (vI x :: vI i :: vR o a :: st) w := by
  subst hn
  obtain ⟨h1, h2⟩ := wr_some hf
  exact r_iast hd hK h1 (kk _ h2)
theorem g_bast {o a n : Nat} {i x : Int32} {k : AW → Option α} (hd : decode K.2.1 pc = .ok (.bastore, 1)) (hK : am_aK sd o a = 4) (hn : am_aL sd o a = n) (hf : wr n w o a i (vp_nar .boolean x) k = some z) (kk : ∀ w2, k w2 = some z → RR sd K r (pc + 1) ls st w2) : RR sd K r pc ls (vI x :: vI i :: vR o a :: st) w := by
  subst hn
  obtain ⟨h1, h2⟩ := wr_some hf
  exact r_bast hd hK h1 (kk _ h2)
theorem g_putI {idx ci j o : Nat} {x : Int32} {k : AW → Option α} (hd : decode K.2.1 pc = .ok (.putfield idx, 3)) (hl : am_fld K.1.cls idx ci j) (hk : am_fk ci j = (0, 0)) (hc : am_cls sd o = ci) (hf : pu w o j x k = some z) (kk : ∀ w2, k w2 = some z → RR sd K r (pc + 3) ls st w2) : RR sd K r pc ls (vI x :: vR o 0 :: st) w := r_putI hd hl hk hc (kk _ hf)
theorem g_putL {idx ci j o : Nat} {x : Int64} {k : AW → Option α} (hd : decode K.2.1 pc = .ok (.putfield idx, 3)) (hl : am_fld K.1.cls idx ci j) (hk : am_fk ci j = (1, 0)) (hc : am_cls sd o = ci) (hf : puL w x k = some z) (kk : ∀ w2, k w2 = some z → RR sd K r (pc + 3) ls st w2) : RR sd K r pc ls (vL x :: vR o 0 :: st) w := r_putL hd hl hk hc (kk _ hf)
theorem g_getI {idx ci j o : Nat} (hd : decode K.2.1 pc = .ok (.getfield idx, 3)) (hl : am_fld K.1.cls idx ci j) (hk : am_fk ci j = (0, 0)) (hc : am_cls sd o = ci) (kk : RR sd K r (pc + 3) ls (vI (w.1 o 0 j) :: st) w) : RR sd K r pc ls (vR o 0 :: st) w := r_getI hd hl (by rw [hk]) hc kk
theorem g_getL {idx ci j o : Nat} (hd : decode K.2.1 pc = .ok (.getfield idx, 3)) (hl : am_fld K.1.cls idx ci j) (hk : am_fk ci j = (1, 0)) (hc : am_cls sd o = ci) (kk : RR sd K r (pc + 3) ls (vL w.2 :: st) w) : RR sd K r pc ls (vR o 0 :: st) w := r_getL hd hl (by rw [hk]) hc kk
theorem g_getA {idx ci j o n m : Nat} (hd : decode K.2.1 pc = .ok (.getfield idx, 3)) (hl : am_fld K.1.cls idx ci j) (hk : am_fk ci j = (m, n)) (hm : (m == 2 || m == 4 || m == 5) = true) (hc : am_cls sd o = ci) (kk : RR sd K r (pc + 3) ls (vR o (j + 1) :: st) w) : RR sd K r pc ls (vR o 0 :: st) w := r_getA hd hl (by rw [hk]; exact hm) hc kk
theorem g_istore_n {k : Fin 4} {i : Nat} {x : Int32} {q : Int32 → Option α} (ls2 : Int32 → AL) (hd : decode K.2.1 pc = .ok (.istore_n k, 1)) (hi : (k : Nat) = i) (hn : am_nl ls i = true) (hs : ∀ y, ls.set i (some (vI y)) = ls2 y) (hm : i < K.2.2.1) (hf : nm x q = some z) (kk : ∀ y, q y = some z → RR sd K r (pc + 1) (ls2 y) st w) : RR sd K r pc ls (vI x :: st) w := r_istore_n hd hi hn (hs x) hm (kk x hf)
theorem g_istore {i : Nat} {x : Int32} {q : Int32 → Option α} (ls2 : Int32 → AL) (hd : decode K.2.1 pc = .ok (.istore i, 2)) (hn : am_nl ls i = true) (hs : ∀ y, ls.set i (some (vI y)) = ls2 y) (hm : i < K.2.2.1) (hf : nm x q = some z) (kk : ∀ y, q y = some z → RR sd K r (pc + 2) (ls2 y) st w) : RR sd K r pc ls (vI x :: st) w := r_istore hd hn (hs x) hm (kk x hf)
theorem g_iinc {i : Nat} {n : Int} {x c : Int32} {q : Int32 → Option α} (ls2 : Int32 → AL) (hd : decode K.2.1 pc = .ok (.iinc i n, 3)) (hc : Int32.ofInt n = c) (hx : ls[i]? = some (some (vI x))) (hn : am_nl ls i = true) (hs : ∀ y, ls.set i (some (vI y)) = ls2 y) (hm : i < K.2.2.1) (hf : nm (x + c) q = some z) (kk : ∀ y, q y = some z → RR sd K r (pc + 3) (ls2 y) st w) : RR sd K r pc ls st w := r_iinc hd hx (by rw [hc]) hn (hs (x + c)) hm (kk (x + c) hf)
theorem g_icmp_eq {x y : Int32} {off : Int} {tgt : Nat} {X Y : Option α} (hd : decode K.2.1 pc = .ok (.if_icmp .eq off, 3)) (ht : (pc : Int) + off = (tgt : Int)) (hf : (if x = y then X else Y) = some z) (kt : x = y → X = some z → RR sd K r tgt ls st w) (kf : ¬ x = y → Y = some z → RR sd K r (pc + 3) ls st w) : RR sd K r pc ls (vI y :: vI x :: st) w := r_icmp_eq hd ht (fun h => kt h (br_pos h hf)) (fun h => kf h (br_neg h hf))
theorem g_icmp_ne {x y : Int32} {off : Int} {tgt : Nat} {X Y : Option α} (hd : decode K.2.1 pc = .ok (.if_icmp .ne off, 3)) (ht : (pc : Int) + off = (tgt : Int)) (hf : (if x ≠ y then X else Y) = some z) (kt : x ≠ y → X = some z → RR sd K r tgt ls st w) (kf : x = y → Y = some z → RR sd K r (pc + 3) ls st w) : RR sd K r pc ls (vI y :: vI x :: st) w := r_icmp_ne hd ht (fun h => kt h (br_pos h hf)) (fun h => kf h (br_neg (not_not_intro h) hf))
theorem g_icmp_lt {x y : Int32} {off : Int} {tgt : Nat} {X Y : Option α} (hd : decode K.2.1 pc = .ok (.if_icmp .lt off, 3)) (ht : (pc : Int) + off = (tgt : Int)) (hf : (if x < y then X else Y) = some z) (kt : x < y → X = some z → RR sd K r tgt ls st w) (kf : ¬ x < y → Y = some z → RR sd K r (pc + 3) ls st w) : RR sd K r pc ls (vI y :: vI x :: st) w := r_icmp_lt hd ht (fun h => kt h (br_pos h hf)) (fun h => kf h (br_neg h hf))
theorem g_icmp_ge {x y : Int32} {off : Int} {tgt : Nat} {X Y : Option α} (hd : decode K.2.1 pc = .ok (.if_icmp .ge off, 3)) (ht : (pc : Int) + off = (tgt : Int)) (hf : (if y ≤ x then X else Y) = some z) (kt : y ≤ x → X = some z → RR sd K r tgt ls st w) (kf : ¬ y ≤ x → Y = some z → RR sd K r (pc + 3) ls st w) : RR sd K r pc ls (vI y :: vI x :: st) w := r_icmp_ge hd ht (fun h => kt h (br_pos h hf)) (fun h => kf h (br_neg h hf))
theorem g_icmp_gt {x y : Int32} {off : Int} {tgt : Nat} {X Y : Option α} (hd : decode K.2.1 pc = .ok (.if_icmp .gt off, 3)) (ht : (pc : Int) + off = (tgt : Int)) (hf : (if y < x then X else Y) = some z) (kt : y < x → X = some z → RR sd K r tgt ls st w) (kf : ¬ y < x → Y = some z → RR sd K r (pc + 3) ls st w) : RR sd K r pc ls (vI y :: vI x :: st) w := r_icmp_gt hd ht (fun h => kt h (br_pos h hf)) (fun h => kf h (br_neg h hf))
theorem g_icmp_le {x y : Int32} {off : Int} {tgt : Nat} {X Y : Option α} (hd : decode K.2.1 pc = .ok (.if_icmp .le off, 3)) (ht : (pc : Int) + off = (tgt : Int)) (hf : (if x ≤ y then X else Y) = some z) (kt : x ≤ y → X = some z → RR sd K r tgt ls st w) (kf : ¬ x ≤ y → Y = some z → RR sd K r (pc + 3) ls st w) : RR sd K r pc ls (vI y :: vI x :: st) w := r_icmp_le hd ht (fun h => kt h (br_pos h hf)) (fun h => kf h (br_neg h hf))
theorem g_if_eq {x : Int32} {off : Int} {tgt : Nat} {X Y : Option α} (hd : decode K.2.1 pc = .ok (.ifCond .eq off, 3)) (ht : (pc : Int) + off = (tgt : Int)) (hf : (if x = 0 then X else Y) = some z) (kt : x = 0 → X = some z → RR sd K r tgt ls st w) (kf : ¬ x = 0 → Y = some z → RR sd K r (pc + 3) ls st w) : RR sd K r pc ls (vI x :: st) w := r_if_eq hd ht (fun h => kt h (br_pos h hf)) (fun h => kf h (br_neg h hf))
theorem g_if_ne {x : Int32} {off : Int} {tgt : Nat} {X Y : Option α} (hd : decode K.2.1 pc = .ok (.ifCond .ne off, 3)) (ht : (pc : Int) + off = (tgt : Int)) (hf : (if x ≠ 0 then X else Y) = some z) (kt : x ≠ 0 → X = some z → RR sd K r tgt ls st w) (kf : x = 0 → Y = some z → RR sd K r (pc + 3) ls st w) : RR sd K r pc ls (vI x :: st) w := r_if_ne hd ht (fun h => kt h (br_pos h hf)) (fun h => kf h (br_neg (not_not_intro h) hf))
theorem g_if_lt {x : Int32} {off : Int} {tgt : Nat} {X Y : Option α} (hd : decode K.2.1 pc = .ok (.ifCond .lt off, 3)) (ht : (pc : Int) + off = (tgt : Int)) (hf : (if x < 0 then X else Y) = some z) (kt : x < 0 → X = some z → RR sd K r tgt ls st w) (kf : ¬ x < 0 → Y = some z → RR sd K r (pc + 3) ls st w) : RR sd K r pc ls (vI x :: st) w := r_if_lt hd ht (fun h => kt h (br_pos h hf)) (fun h => kf h (br_neg h hf))
theorem g_if_ge {x : Int32} {off : Int} {tgt : Nat} {X Y : Option α} (hd : decode K.2.1 pc = .ok (.ifCond .ge off, 3)) (ht : (pc : Int) + off = (tgt : Int)) (hf : (if 0 ≤ x then X else Y) = some z) (kt : 0 ≤ x → X = some z → RR sd K r tgt ls st w) (kf : ¬ 0 ≤ x → Y = some z → RR sd K r (pc + 3) ls st w) : RR sd K r pc ls (vI x :: st) w := r_if_ge hd ht (fun h => kt h (br_pos h hf)) (fun h => kf h (br_neg h hf))
theorem g_if_gt {x : Int32} {off : Int} {tgt : Nat} {X Y : Option α} (hd : decode K.2.1 pc = .ok (.ifCond .gt off, 3)) (ht : (pc : Int) + off = (tgt : Int)) (hf : (if 0 < x then X else Y) = some z) (kt : 0 < x → X = some z → RR sd K r tgt ls st w) (kf : ¬ 0 < x → Y = some z → RR sd K r (pc + 3) ls st w) : RR sd K r pc ls (vI x :: st) w := r_if_gt hd ht (fun h => kt h (br_pos h hf)) (fun h => kf h (br_neg h hf))
theorem g_if_le {x : Int32} {off : Int} {tgt : Nat} {X Y : Option α} (hd : decode K.2.1 pc = .ok (.ifCond .le off, 3)) (ht : (pc : Int) + off = (tgt : Int)) (hf : (if x ≤ 0 then X else Y) = some z) (kt : x ≤ 0 → X = some z → RR sd K r tgt ls st w) (kf : ¬ x ≤ 0 → Y = some z → RR sd K r (pc + 3) ls st w) : RR sd K r pc ls (vI x :: st) w := r_if_le hd ht (fun h => kt h (br_pos h hf)) (fun h => kf h (br_neg h hf))
theorem g_ifnullS {s : Option (Nat × Nat)} {off : Int} {tgt : Nat} {X : Option α} {k : Nat → Option α} (hd : decode K.2.1 pc = .ok (.ifnull off, 3)) (ht : (pc : Int) + off = (tgt : Int)) (hf : nS s X k = some z) (k0 : s = none → X = some z → RR sd K r tgt ls st w) (k1 : ∀ o, s = some (o, 0) → am_cls false o = 2 → k o = some z → RR sd K r (pc + 3) ls st w) : RR sd K r pc ls (vO s :: st) w := by
  cases s with
  | none => exact r_ifnullN hd ht (k0 rfl hf)
  | some q =>
    obtain ⟨o, a⟩ := q
    unfold nS at hf
    dsimp only at hf
    split at hf
    · rename_i h
      obtain ⟨h1, h2⟩ := h
      subst h1
      exact r_ifnull hd (k1 o rfl h2 hf)
    · cases hf
theorem g_ifnonnullS {s : Option (Nat × Nat)} {off : Int} {tgt : Nat} {X : Option α} {k : Nat → Option α} (hd : decode K.2.1 pc = .ok (.ifnonnull off, 3)) (ht : (pc : Int) + off = (tgt : Int)) (hf : nS s X k = some z) (k0 : s = none → X = some z → RR sd K r (pc + 3) ls st w) (k1 : ∀ o, s = some (o, 0) → am_cls false o = 2 → k o = some z → RR sd K r tgt ls st w) : RR sd K r pc ls (vO s :: st) w := by
  cases s with
  | none => exact r_ifnonnullN hd (k0 rfl hf)
  | some q =>
    obtain ⟨o, a⟩ := q
    unfold nS at hf
    dsimp only at hf
    split at hf
    · rename_i h
      obtain ⟨h1, h2⟩ := h
      subst h1
      exact r_ifnonnull hd ht (k1 o rfl h2 hf)
    · cases hf
/-! switches -/
theorem g_tabC {dflt lo hi : Int} {offs : Array Int} {len : Nat} {x c : Int32} {off : Int} {tgt : Nat} (hx : x = c) (hd : decode K.2.1 pc = .ok (.tableswitch dflt lo hi offs, len)) (hr : (¬ c.toInt < lo ∧ ¬ hi < c.toInt) ∧ offs[(c.toInt - lo).toNat]? = some off) (ht : (pc : Int) + off = (tgt : Int)) (kk : RR sd K r tgt ls st w) : RR sd K r pc ls (vI x :: st) w := by
  subst hx
  exact r_tabIn hd hr.1.1 hr.1.2 hr.2 ht kk
theorem am_out {x : Int32} {lo hi : Int} (n : Nat) (hn : (n : Int) = hi - lo + 1) (h : ∀ j : Nat, j < n → x.toInt ≠ lo + j) : x.toInt < lo ∨ hi < x.toInt := by
  rcases Int.lt_or_le x.toInt lo with q | q
  · exact Or.inl q
  · rcases Int.lt_or_le hi x.toInt with q2 | q2
    · exact Or.inr q2
    · exact absurd (by omega) (h (x.toInt - lo).toNat (by omega))
theorem am_neI {x c : Int32} (h : ¬ x = c) {v : Int} (hv : c.toInt = v) : x.toInt ≠ v := fun e => h (Int32.toInt_inj.mp (e.trans hv.symm))
theorem g_tabD {dflt lo hi : Int} {offs : Array Int} {len : Nat} {x : Int32} {tgt : Nat} (n : Nat) (hn : (n : Int) = hi - lo + 1) (hx : ∀ j : Nat, j < n → x.toInt ≠ lo + j) (hd : decode K.2.1 pc = .ok (.tableswitch dflt lo hi offs, len)) (ht : (pc : Int) + dflt = (tgt : Int)) (kk : RR sd K r tgt ls st w) : RR sd K r pc ls (vI x :: st) w := r_tabOut hd (am_out n hn hx) ht kk
theorem g_lookC {dflt : Int} {ps : Array (Int × Int)} {len : Nat} {x c : Int32} {off : Int} {tgt : Nat} (hx : x = c) (hd : decode K.2.1 pc = .ok (.lookupswitch dflt ps, len)) (hs : (ps.toList.zip (ps.toList.drop 1)).all (fun (a, next) => a.1 < next.1) = true) (ho : Op.lookupswitch.offset ps.toList dflt c.toInt = off) (ht : (pc : Int) + off = (tgt : Int)) (kk : RR sd K r tgt ls st w) : RR sd K r pc ls (vI x :: st) w := by
  subst hx
  exact r_lookup hd hs ho ht kk
/-! calls -/
theorem g_cS {idx : Nat} (K2 : MK) (As : List AV) {stk : List AV} {w2 : AW} {v : AV} (hd : decode K.2.1 pc = .ok (.invokestatic idx, 3)) (he : am_eS K.1.cls idx K2) (hm : am_mok K2 As.length) (hw : am_mw K2) (hfi : am_fits K K2) (hM : am_Met sd K2 As w (some v, w2)) (hs : stk = As.reverse ++ st) (hc : am_cats st ≤ 8) (kk : RR sd K r (pc + 3) ls (v :: st) w2) : RR sd K r pc ls stk w := r_call ⟨hw, hfi, Or.inr (Or.inl ⟨idx, hd, he, hm⟩)⟩ hM hs hc kk
theorem g_cN {idx : Nat} (K2 : MK) (As : List AV) {stk : List AV} {w2 : AW} {v : AV} (hd : decode K.2.1 pc = .ok (.invokestatic idx, 3)) (he : am_eN K.1.cls idx K2) (hm : am_mok K2 As.length) (hw : am_mw K2) (hfi : am_fits K K2) (hM : am_Met sd K2 As w (some v, w2)) (hs : stk = As.reverse ++ st) (hc : am_cats st ≤ 8) (kk : RR sd K r (pc + 3) ls (v :: st) w2) : RR sd K r pc ls stk w := r_call ⟨hw, hfi, Or.inr (Or.inr ⟨idx, hd, he, hm⟩)⟩ hM hs hc kk
theorem g_cV {idx o ci : Nat} {C : String} {T : u_T} {N : Nat} (K2 : MK) (As : List AV) {stk : List AV} {w2 : AW} {v : AV} (hd : decode K.2.1 pc = .ok (.invokevirtual idx, 3)) (he : am_eV K.1.cls idx K2) (hcl : am_cls sd o = ci) (hC : vwCl[ci]? = some (C, T, N)) (hn : C = K2.1.cls) (hm : am_mok K2 As.length) (hw : am_mw K2) (hfi : am_fits K K2) (hM : am_Met sd K2 (vR o 0 :: As) w (some v, w2)) (hs : stk = As.reverse ++ vR o 0 :: st) (hc : am_cats st ≤ 8) (kk : RR sd K r (pc + 3) ls (v :: st) w2) : RR sd K r pc ls stk w := r_call ⟨hw, hfi, Or.inl ⟨idx, o, As, ci, C, T, N, hd, he, rfl, hcl, hC, hn, hm⟩⟩ hM (by rw [hs, List.reverse_cons, List.append_assoc]; rfl) hc kk
theorem g_cSv {idx : Nat} (K2 : MK) (As : List AV) {stk : List AV} {w2 : AW} (hd : decode K.2.1 pc = .ok (.invokestatic idx, 3)) (he : am_eS K.1.cls idx K2) (hm : am_mok K2 As.length) (hw : am_mw K2) (hfi : am_fits K K2) (hM : am_Met sd K2 As w (none, w2)) (hs : stk = As.reverse ++ st) (hc : am_cats st ≤ 8) (kk : RR sd K r (pc + 3) ls st w2) : RR sd K r pc ls stk w := r_call ⟨hw, hfi, Or.inr (Or.inl ⟨idx, hd, he, hm⟩)⟩ hM hs hc kk
theorem g_cNv {idx : Nat} (K2 : MK) (As : List AV) {stk : List AV} {w2 : AW} (hd : decode K.2.1 pc = .ok (.invokestatic idx, 3)) (he : am_eN K.1.cls idx K2) (hm : am_mok K2 As.length) (hw : am_mw K2) (hfi : am_fits K K2) (hM : am_Met sd K2 As w (none, w2)) (hs : stk = As.reverse ++ st) (hc : am_cats st ≤ 8) (kk : RR sd K r (pc + 3) ls st w2) : RR sd K r pc ls stk w := r_call ⟨hw, hfi, Or.inr (Or.inr ⟨idx, hd, he, hm⟩)⟩ hM hs hc kk
theorem g_cVv {idx o ci : Nat} {C : String} {T : u_T} {N : Nat} (K2 : MK) (As : List AV) {stk : List AV} {w2 : AW} (hd : decode K.2.1 pc = .ok (.invokevirtual idx, 3)) (he : am_eV K.1.cls idx K2) (hcl : am_cls sd o = ci) (hC : vwCl[ci]? = some (C, T, N)) (hn : C = K2.1.cls) (hm : am_mok K2 As.length) (hw : am_mw K2) (hfi : am_fits K K2) (hM : am_Met sd K2 (vR o 0 :: As) w (none, w2)) (hs : stk = As.reverse ++ vR o 0 :: st) (hc : am_cats st ≤ 8) (kk : RR sd K r (pc + 3) ls st w2) : RR sd K r pc ls stk w := r_call ⟨hw, hfi, Or.inl ⟨idx, o, As, ci, C, T, N, hd, he, rfl, hcl, hC, hn, hm⟩⟩ hM (by rw [hs, List.reverse_cons, List.append_assoc]; rfl) hc kk
theorem g_zret {x v : Int32} {w' : AW} (hd : decode K.2.1 pc = .ok (.ireturn, 1)) (h1 : K.2.2.2.1 = some .boolean) (hf : zr x w = some (v, w')) : RR sd K (some (vI v), w') pc ls [vI x] w := by
  obtain ⟨h, rfl, rfl⟩ := zr_some hf
  exact r_zret hd h1 h rfl
end GR
/-- far above any loop's rounds -/
theorem FU_ex : ∃ n : Nat, 5000 ≤ n := ⟨5000, Nat.le_refl _⟩
noncomputable def FU : Nat := Classical.choose FU_ex
theorem FU_le : 5000 ≤ FU := Classical.choose_spec FU_ex
