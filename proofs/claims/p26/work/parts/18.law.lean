-- ===== end of PART A; then your names; then what follows =====
/-! THE CLAIM OUT OF ONE WALK OF THE LAW'S BODY. Your part is whole_start (and what it stands on); all else here is the same for every law, but numbers. -/
def R_law : String := "SeenWorldsLaw"
def lw_P (b : Addr) (xs : List Int32) (args : Array Value) (s : State) : Prop := args = #[.ref b] ∧ s.IntsAt b xs ∧ xs.length ≤ 2048 ∧ (Jvm.Cond.and given_1 narrow_1).before args s = true
def lw_Q (_ : Array Value) (s : State) (o : Outcome) (t : State) : Prop := o = .returned (some (.int 1)) ∧ Framed s o t [] 600000 7302250
def lw_Z (below : List Frame) (a : Array Value) (s : State) : State → Prop := fun t => ∃ o, t.status = .running ∧ Ended t below o ∧ lw_Q a s o t
/-- the law's own end, with 1 on the stack, nothing written that was there before, its room as the claim has it -/
theorem lw_ret {p : Program} {l : Launch} {e : Env} {s : State} {m : MethodId} {below : List Frame} {meth : Method} {c : Code} {b : Nat} (hx : p.tables.exec = Jvm.exec) (hb : c.code = code) (hr : meth.sig.returnType = ret) (hlocks : meth.locks = false) {pc : Nat} {H : Heap} {ls : Array Slot} (hdg : decode code pc = .ok (.ireturn, 1)) : W p l e room_1 s m #[Value.ref b] below meth c H [] 600000 7302250 (lw_Z below #[Value.ref b] s) (F0 m pc ls [.int 1]) := by
  intro T hT X
  obtain ⟨fs, hret, hrun, hended, hW, hframe⟩ := X.leave (v := some (.int 1)) (hlocks := hlocks) (fun h => by rw [hr] at h; cases h)
  have hmeth' : T.vm.method? m = some meth := X.method'
  refine ⟨T.setFrames fs, ?_, .returned (some (.int 1)), hrun, hended, rfl, ⟨_, rfl⟩, hW, hframe⟩
  jvm_step X.here [X.here.top, hx, hb, hdg, hmeth', hr, ret, narrow_b1]
  (try refine ⟨rfl, ?_⟩); (try refine ⟨rfl, ?_⟩)
  first | (intro acts; rw [hret _ acts rfl rfl rfl]) | rw [hret _ _ rfl rfl rfl]
  exact Steps.refl _
/-- what holds at the law's entry: the machine, the code, the tables' words (any of lw_tbl by 'hts w (by decide +kernel)'), the script of L ints xs at the cell b, what the Statement gives of the start (any of its parts by flat_of_before) -/
def lw_At (p : Program) (s : State) (m : MethodId) (meth : Method) (c : Code) (b L : Nat) (xs : Nat → Int32) : Prop :=
  p.tables.exec = Jvm.exec ∧ c.code = code ∧ meth.sig.returnType = ret ∧ c.maxLocals = 4 ∧ s.vm.findClass R_law = some m.cls ∧ (∀ w ∈ lw_tbl, w.before #[Value.ref b] s = true) ∧ va_X b L xs s s.heap ∧ b < s.heap.size ∧ meth.locks = false ∧ (Jvm.Cond.and given_1 narrow_1).before #[Value.ref b] s = true

def Pub_worlds (Rel : AW → AW → Prop) : Prop := ∀ wX wM : AW, Rel wX wM → (∀ (v0 : Int32), ∃ (r : Int32) (wX2 wM2 : AW), mX5_worlds v0 wX = some (r, wX2) ∧ mX6_worlds v0 wM = some (r, wM2) ∧ Rel wX2 wM2)
/-- from Rel to Rel2: the answers alike -/
def PubA_worlds (Rel Rel2 : AW → AW → Prop) : Prop := ∀ wX wM : AW, Rel wX wM → (∀ (v0 : Int32), ∃ (r : Int32) (wX2 wM2 : AW), mX5_worlds v0 wX = some (r, wX2) ∧ mX6_worlds v0 wM = some (r, wM2) ∧ Rel2 wX2 wM2)
/-- both answer -/
def PubV_worlds (Rel Rel2 : AW → AW → Prop) : Prop := ∀ wX wM : AW, Rel wX wM → (∀ (v0 : Int32), ∃ (r s : Int32) (wX2 wM2 : AW), mX5_worlds v0 wX = some (r, wX2) ∧ mX6_worlds v0 wM = some (s, wM2) ∧ Rel2 wX2 wM2)
theorem pubV_of_worlds {Rel Rel2 : AW → AW → Prop} (h : PubA_worlds Rel Rel2) : PubV_worlds Rel Rel2 := fun wX wM hR v0 => match h wX wM hR v0 with | ⟨r, a, b, e1, e2, k⟩ => ⟨r, r, a, b, e1, e2, k⟩
def Pub_see (Rel : AW → AW → Prop) : Prop := ∀ wX wM : AW, Rel wX wM → (∀ (v0 : Int32) (v1 : Int32) (v2 : Int32), ∃ (r : Int32) (wX2 wM2 : AW), mX5_see v0 v1 v2 wX = some (r, wX2) ∧ mX6_see v0 v1 v2 wM = some (r, wM2) ∧ Rel wX2 wM2)
/-- from Rel to Rel2: the answers alike -/
def PubA_see (Rel Rel2 : AW → AW → Prop) : Prop := ∀ wX wM : AW, Rel wX wM → (∀ (v0 : Int32) (v1 : Int32) (v2 : Int32), ∃ (r : Int32) (wX2 wM2 : AW), mX5_see v0 v1 v2 wX = some (r, wX2) ∧ mX6_see v0 v1 v2 wM = some (r, wM2) ∧ Rel2 wX2 wM2)
/-- both answer -/
def PubV_see (Rel Rel2 : AW → AW → Prop) : Prop := ∀ wX wM : AW, Rel wX wM → (∀ (v0 : Int32) (v1 : Int32) (v2 : Int32), ∃ (r s : Int32) (wX2 wM2 : AW), mX5_see v0 v1 v2 wX = some (r, wX2) ∧ mX6_see v0 v1 v2 wM = some (s, wM2) ∧ Rel2 wX2 wM2)
theorem pubV_of_see {Rel Rel2 : AW → AW → Prop} (h : PubA_see Rel Rel2) : PubV_see Rel Rel2 := fun wX wM hR v0 v1 v2 => match h wX wM hR v0 v1 v2 with | ⟨r, a, b, e1, e2, k⟩ => ⟨r, r, a, b, e1, e2, k⟩
def Pub_atom (Rel : AW → AW → Prop) : Prop := ∀ wX wM : AW, Rel wX wM → (∀ (v0 : Int32) (v1 : Int32), ∃ (r : Int32) (wX2 wM2 : AW), mX5_atom v0 v1 wX = some (r, wX2) ∧ mX6_atom v0 v1 wM = some (r, wM2) ∧ Rel wX2 wM2)
/-- from Rel to Rel2: the answers alike -/
def PubA_atom (Rel Rel2 : AW → AW → Prop) : Prop := ∀ wX wM : AW, Rel wX wM → (∀ (v0 : Int32) (v1 : Int32), ∃ (r : Int32) (wX2 wM2 : AW), mX5_atom v0 v1 wX = some (r, wX2) ∧ mX6_atom v0 v1 wM = some (r, wM2) ∧ Rel2 wX2 wM2)
/-- both answer -/
def PubV_atom (Rel Rel2 : AW → AW → Prop) : Prop := ∀ wX wM : AW, Rel wX wM → (∀ (v0 : Int32) (v1 : Int32), ∃ (r s : Int32) (wX2 wM2 : AW), mX5_atom v0 v1 wX = some (r, wX2) ∧ mX6_atom v0 v1 wM = some (s, wM2) ∧ Rel2 wX2 wM2)
theorem pubV_of_atom {Rel Rel2 : AW → AW → Prop} (h : PubA_atom Rel Rel2) : PubV_atom Rel Rel2 := fun wX wM hR v0 v1 => match h wX wM hR v0 v1 with | ⟨r, a, b, e1, e2, k⟩ => ⟨r, r, a, b, e1, e2, k⟩
def Pub_seen (Rel : AW → AW → Prop) : Prop := ∀ wX wM : AW, Rel wX wM → (∀ (v0 : Int32) (v1 : Int32), ∃ (r : Int32) (wX2 wM2 : AW), mX5_seen v0 v1 wX = some (r, wX2) ∧ mX6_seen v0 v1 wM = some (r, wM2) ∧ Rel wX2 wM2)
/-- from Rel to Rel2: the answers alike -/
def PubA_seen (Rel Rel2 : AW → AW → Prop) : Prop := ∀ wX wM : AW, Rel wX wM → (∀ (v0 : Int32) (v1 : Int32), ∃ (r : Int32) (wX2 wM2 : AW), mX5_seen v0 v1 wX = some (r, wX2) ∧ mX6_seen v0 v1 wM = some (r, wM2) ∧ Rel2 wX2 wM2)
/-- both answer -/
def PubV_seen (Rel Rel2 : AW → AW → Prop) : Prop := ∀ wX wM : AW, Rel wX wM → (∀ (v0 : Int32) (v1 : Int32), ∃ (r s : Int32) (wX2 wM2 : AW), mX5_seen v0 v1 wX = some (r, wX2) ∧ mX6_seen v0 v1 wM = some (s, wM2) ∧ Rel2 wX2 wM2)
theorem pubV_of_seen {Rel Rel2 : AW → AW → Prop} (h : PubA_seen Rel Rel2) : PubV_seen Rel Rel2 := fun wX wM hR v0 v1 => match h wX wM hR v0 v1 with | ⟨r, a, b, e1, e2, k⟩ => ⟨r, r, a, b, e1, e2, k⟩
def Pub_sorts (Rel : AW → AW → Prop) : Prop := ∀ wX wM : AW, Rel wX wM → (∃ (r : Int32) (wX2 wM2 : AW), mX5_sorts  wX = some (r, wX2) ∧ mX6_sorts  wM = some (r, wM2) ∧ Rel wX2 wM2)
/-- from Rel to Rel2: the answers alike -/
def PubA_sorts (Rel Rel2 : AW → AW → Prop) : Prop := ∀ wX wM : AW, Rel wX wM → (∃ (r : Int32) (wX2 wM2 : AW), mX5_sorts  wX = some (r, wX2) ∧ mX6_sorts  wM = some (r, wM2) ∧ Rel2 wX2 wM2)
/-- both answer -/
def PubV_sorts (Rel Rel2 : AW → AW → Prop) : Prop := ∀ wX wM : AW, Rel wX wM → (∃ (r s : Int32) (wX2 wM2 : AW), mX5_sorts  wX = some (r, wX2) ∧ mX6_sorts  wM = some (s, wM2) ∧ Rel2 wX2 wM2)
theorem pubV_of_sorts {Rel Rel2 : AW → AW → Prop} (h : PubA_sorts Rel Rel2) : PubV_sorts Rel Rel2 := fun wX wM hR => match h wX wM hR with | ⟨r, a, b, e1, e2, k⟩ => ⟨r, r, a, b, e1, e2, k⟩
def Pub_type (Rel : AW → AW → Prop) : Prop := ∀ wX wM : AW, Rel wX wM → (∀ (v0 : Int64) (v1 : Int32), ∃ (r : Int32) (wX2 wM2 : AW), mX5_type v0 v1 wX = some (r, wX2) ∧ mX6_type v0 v1 wM = some (r, wM2) ∧ Rel wX2 wM2)
/-- from Rel to Rel2: the answers alike -/
def PubA_type (Rel Rel2 : AW → AW → Prop) : Prop := ∀ wX wM : AW, Rel wX wM → (∀ (v0 : Int64) (v1 : Int32), ∃ (r : Int32) (wX2 wM2 : AW), mX5_type v0 v1 wX = some (r, wX2) ∧ mX6_type v0 v1 wM = some (r, wM2) ∧ Rel2 wX2 wM2)
/-- both answer -/
def PubV_type (Rel Rel2 : AW → AW → Prop) : Prop := ∀ wX wM : AW, Rel wX wM → (∀ (v0 : Int64) (v1 : Int32), ∃ (r s : Int32) (wX2 wM2 : AW), mX5_type v0 v1 wX = some (r, wX2) ∧ mX6_type v0 v1 wM = some (s, wM2) ∧ Rel2 wX2 wM2)
theorem pubV_of_type {Rel Rel2 : AW → AW → Prop} (h : PubA_type Rel Rel2) : PubV_type Rel Rel2 := fun wX wM hR v0 v1 => match h wX wM hR v0 v1 with | ⟨r, a, b, e1, e2, k⟩ => ⟨r, r, a, b, e1, e2, k⟩
def Pub_clear (Rel : AW → AW → Prop) : Prop := ∀ wX wM : AW, Rel wX wM → (∃ (r : Int32) (wX2 wM2 : AW), mX5_clear  wX = some (r, wX2) ∧ mX6_clear  wM = some (r, wM2) ∧ Rel wX2 wM2)
/-- from Rel to Rel2: the answers alike -/
def PubA_clear (Rel Rel2 : AW → AW → Prop) : Prop := ∀ wX wM : AW, Rel wX wM → (∃ (r : Int32) (wX2 wM2 : AW), mX5_clear  wX = some (r, wX2) ∧ mX6_clear  wM = some (r, wM2) ∧ Rel2 wX2 wM2)
/-- both answer -/
def PubV_clear (Rel Rel2 : AW → AW → Prop) : Prop := ∀ wX wM : AW, Rel wX wM → (∃ (r s : Int32) (wX2 wM2 : AW), mX5_clear  wX = some (r, wX2) ∧ mX6_clear  wM = some (s, wM2) ∧ Rel2 wX2 wM2)
theorem pubV_of_clear {Rel Rel2 : AW → AW → Prop} (h : PubA_clear Rel Rel2) : PubV_clear Rel Rel2 := fun wX wM hR => match h wX wM hR with | ⟨r, a, b, e1, e2, k⟩ => ⟨r, r, a, b, e1, e2, k⟩
def Pub_read (Rel : AW → AW → Prop) : Prop := ∀ wX wM : AW, Rel wX wM → (∀ (v0 : Int32), ∃ (r : Int32) (wX2 wM2 : AW), mX5_read v0 wX = some (r, wX2) ∧ mX6_read v0 wM = some (r, wM2) ∧ Rel wX2 wM2)
/-- from Rel to Rel2: the answers alike -/
def PubA_read (Rel Rel2 : AW → AW → Prop) : Prop := ∀ wX wM : AW, Rel wX wM → (∀ (v0 : Int32), ∃ (r : Int32) (wX2 wM2 : AW), mX5_read v0 wX = some (r, wX2) ∧ mX6_read v0 wM = some (r, wM2) ∧ Rel2 wX2 wM2)
/-- both answer -/
def PubV_read (Rel Rel2 : AW → AW → Prop) : Prop := ∀ wX wM : AW, Rel wX wM → (∀ (v0 : Int32), ∃ (r s : Int32) (wX2 wM2 : AW), mX5_read v0 wX = some (r, wX2) ∧ mX6_read v0 wM = some (s, wM2) ∧ Rel2 wX2 wM2)
theorem pubV_of_read {Rel Rel2 : AW → AW → Prop} (h : PubA_read Rel Rel2) : PubV_read Rel Rel2 := fun wX wM hR v0 => match h wX wM hR v0 with | ⟨r, a, b, e1, e2, k⟩ => ⟨r, r, a, b, e1, e2, k⟩
def Pub_about (Rel : AW → AW → Prop) : Prop := ∀ wX wM : AW, Rel wX wM → (∀ (v0 : Int32) (v1 : Int32), ∃ (r : Int32) (wX2 wM2 : AW), mX5_about v0 v1 wX = some (r, wX2) ∧ mX6_about v0 v1 wM = some (r, wM2) ∧ Rel wX2 wM2)
/-- from Rel to Rel2: the answers alike -/
def PubA_about (Rel Rel2 : AW → AW → Prop) : Prop := ∀ wX wM : AW, Rel wX wM → (∀ (v0 : Int32) (v1 : Int32), ∃ (r : Int32) (wX2 wM2 : AW), mX5_about v0 v1 wX = some (r, wX2) ∧ mX6_about v0 v1 wM = some (r, wM2) ∧ Rel2 wX2 wM2)
/-- both answer -/
def PubV_about (Rel Rel2 : AW → AW → Prop) : Prop := ∀ wX wM : AW, Rel wX wM → (∀ (v0 : Int32) (v1 : Int32), ∃ (r s : Int32) (wX2 wM2 : AW), mX5_about v0 v1 wX = some (r, wX2) ∧ mX6_about v0 v1 wM = some (s, wM2) ∧ Rel2 wX2 wM2)
theorem pubV_of_about {Rel Rel2 : AW → AW → Prop} (h : PubA_about Rel Rel2) : PubV_about Rel Rel2 := fun wX wM hR v0 v1 => match h wX wM hR v0 v1 with | ⟨r, a, b, e1, e2, k⟩ => ⟨r, r, a, b, e1, e2, k⟩
def Pub_holds (Rel : AW → AW → Prop) : Prop := ∀ wX wM : AW, Rel wX wM → (∀ (v0 : Int32) (v1 : Int32), ∃ (r : Int32) (wX2 wM2 : AW), mX5_holds v0 v1 wX = some (r, wX2) ∧ mX6_holds v0 v1 wM = some (r, wM2) ∧ Rel wX2 wM2)
/-- from Rel to Rel2: the answers alike -/
def PubA_holds (Rel Rel2 : AW → AW → Prop) : Prop := ∀ wX wM : AW, Rel wX wM → (∀ (v0 : Int32) (v1 : Int32), ∃ (r : Int32) (wX2 wM2 : AW), mX5_holds v0 v1 wX = some (r, wX2) ∧ mX6_holds v0 v1 wM = some (r, wM2) ∧ Rel2 wX2 wM2)
/-- both answer -/
def PubV_holds (Rel Rel2 : AW → AW → Prop) : Prop := ∀ wX wM : AW, Rel wX wM → (∀ (v0 : Int32) (v1 : Int32), ∃ (r s : Int32) (wX2 wM2 : AW), mX5_holds v0 v1 wX = some (r, wX2) ∧ mX6_holds v0 v1 wM = some (s, wM2) ∧ Rel2 wX2 wM2)
theorem pubV_of_holds {Rel Rel2 : AW → AW → Prop} (h : PubA_holds Rel Rel2) : PubV_holds Rel Rel2 := fun wX wM hR v0 v1 => match h wX wM hR v0 v1 with | ⟨r, a, b, e1, e2, k⟩ => ⟨r, r, a, b, e1, e2, k⟩
def Pub_sure (Rel : AW → AW → Prop) : Prop := ∀ wX wM : AW, Rel wX wM → (∀ (v0 : Int32) (v1 : Int32), ∃ (r : Int32) (wX2 wM2 : AW), mX5_sure v0 v1 wX = some (r, wX2) ∧ mX6_sure v0 v1 wM = some (r, wM2) ∧ Rel wX2 wM2)
/-- from Rel to Rel2: the answers alike -/
def PubA_sure (Rel Rel2 : AW → AW → Prop) : Prop := ∀ wX wM : AW, Rel wX wM → (∀ (v0 : Int32) (v1 : Int32), ∃ (r : Int32) (wX2 wM2 : AW), mX5_sure v0 v1 wX = some (r, wX2) ∧ mX6_sure v0 v1 wM = some (r, wM2) ∧ Rel2 wX2 wM2)
/-- both answer -/
def PubV_sure (Rel Rel2 : AW → AW → Prop) : Prop := ∀ wX wM : AW, Rel wX wM → (∀ (v0 : Int32) (v1 : Int32), ∃ (r s : Int32) (wX2 wM2 : AW), mX5_sure v0 v1 wX = some (r, wX2) ∧ mX6_sure v0 v1 wM = some (s, wM2) ∧ Rel2 wX2 wM2)
theorem pubV_of_sure {Rel Rel2 : AW → AW → Prop} (h : PubA_sure Rel Rel2) : PubV_sure Rel Rel2 := fun wX wM hR v0 v1 => match h wX wM hR v0 v1 with | ⟨r, a, b, e1, e2, k⟩ => ⟨r, r, a, b, e1, e2, k⟩
def Pub_logic (Rel : AW → AW → Prop) : Prop := ∀ wX wM : AW, Rel wX wM → (∀ (v0 : Int32) (v1 : Int32) (v2 : Int32), ∃ (r : Int32) (wX2 wM2 : AW), mX5_logic v0 v1 v2 wX = some (r, wX2) ∧ mX6_logic v0 v1 v2 wM = some (r, wM2) ∧ Rel wX2 wM2)
/-- from Rel to Rel2: the answers alike -/
def PubA_logic (Rel Rel2 : AW → AW → Prop) : Prop := ∀ wX wM : AW, Rel wX wM → (∀ (v0 : Int32) (v1 : Int32) (v2 : Int32), ∃ (r : Int32) (wX2 wM2 : AW), mX5_logic v0 v1 v2 wX = some (r, wX2) ∧ mX6_logic v0 v1 v2 wM = some (r, wM2) ∧ Rel2 wX2 wM2)
/-- both answer -/
def PubV_logic (Rel Rel2 : AW → AW → Prop) : Prop := ∀ wX wM : AW, Rel wX wM → (∀ (v0 : Int32) (v1 : Int32) (v2 : Int32), ∃ (r s : Int32) (wX2 wM2 : AW), mX5_logic v0 v1 v2 wX = some (r, wX2) ∧ mX6_logic v0 v1 v2 wM = some (s, wM2) ∧ Rel2 wX2 wM2)
theorem pubV_of_logic {Rel Rel2 : AW → AW → Prop} (h : PubA_logic Rel Rel2) : PubV_logic Rel Rel2 := fun wX wM hR v0 v1 v2 => match h wX wM hR v0 v1 v2 with | ⟨r, a, b, e1, e2, k⟩ => ⟨r, r, a, b, e1, e2, k⟩
def Pub_falls (Rel : AW → AW → Prop) : Prop := ∀ wX wM : AW, Rel wX wM → (∀ (v0 : Int32) (v1 : Int32) (v2 : Int32), ∃ (r : Int32) (wX2 wM2 : AW), mX5_falls v0 v1 v2 wX = some (r, wX2) ∧ mX6_falls v0 v1 v2 wM = some (r, wM2) ∧ Rel wX2 wM2)
/-- from Rel to Rel2: the answers alike -/
def PubA_falls (Rel Rel2 : AW → AW → Prop) : Prop := ∀ wX wM : AW, Rel wX wM → (∀ (v0 : Int32) (v1 : Int32) (v2 : Int32), ∃ (r : Int32) (wX2 wM2 : AW), mX5_falls v0 v1 v2 wX = some (r, wX2) ∧ mX6_falls v0 v1 v2 wM = some (r, wM2) ∧ Rel2 wX2 wM2)
/-- both answer -/
def PubV_falls (Rel Rel2 : AW → AW → Prop) : Prop := ∀ wX wM : AW, Rel wX wM → (∀ (v0 : Int32) (v1 : Int32) (v2 : Int32), ∃ (r s : Int32) (wX2 wM2 : AW), mX5_falls v0 v1 v2 wX = some (r, wX2) ∧ mX6_falls v0 v1 v2 wM = some (s, wM2) ∧ Rel2 wX2 wM2)
theorem pubV_of_falls {Rel Rel2 : AW → AW → Prop} (h : PubA_falls Rel Rel2) : PubV_falls Rel Rel2 := fun wX wM hR v0 v1 v2 => match h wX wM hR v0 v1 v2 with | ⟨r, a, b, e1, e2, k⟩ => ⟨r, r, a, b, e1, e2, k⟩
def Pub_follows (Rel : AW → AW → Prop) : Prop := ∀ wX wM : AW, Rel wX wM → (∀ (v0 : Int32) (v1 : Int32) (v2 : Int32), ∃ (r : Int32) (wX2 wM2 : AW), mX5_follows v0 v1 v2 wX = some (r, wX2) ∧ mX6_follows v0 v1 v2 wM = some (r, wM2) ∧ Rel wX2 wM2)
/-- from Rel to Rel2: the answers alike -/
def PubA_follows (Rel Rel2 : AW → AW → Prop) : Prop := ∀ wX wM : AW, Rel wX wM → (∀ (v0 : Int32) (v1 : Int32) (v2 : Int32), ∃ (r : Int32) (wX2 wM2 : AW), mX5_follows v0 v1 v2 wX = some (r, wX2) ∧ mX6_follows v0 v1 v2 wM = some (r, wM2) ∧ Rel2 wX2 wM2)
/-- both answer -/
def PubV_follows (Rel Rel2 : AW → AW → Prop) : Prop := ∀ wX wM : AW, Rel wX wM → (∀ (v0 : Int32) (v1 : Int32) (v2 : Int32), ∃ (r s : Int32) (wX2 wM2 : AW), mX5_follows v0 v1 v2 wX = some (r, wX2) ∧ mX6_follows v0 v1 v2 wM = some (s, wM2) ∧ Rel2 wX2 wM2)
theorem pubV_of_follows {Rel Rel2 : AW → AW → Prop} (h : PubA_follows Rel Rel2) : PubV_follows Rel Rel2 := fun wX wM hR v0 v1 v2 => match h wX wM hR v0 v1 v2 with | ⟨r, a, b, e1, e2, k⟩ => ⟨r, r, a, b, e1, e2, k⟩
def Pub_heaps (Rel : AW → AW → Prop) : Prop := ∀ wX wM : AW, Rel wX wM → (∀ (v0 : Int32), ∃ (r : Int32) (wX2 wM2 : AW), mX5_heaps v0 wX = some (r, wX2) ∧ mX6_heaps v0 wM = some (r, wM2) ∧ Rel wX2 wM2)
/-- from Rel to Rel2: the answers alike -/
def PubA_heaps (Rel Rel2 : AW → AW → Prop) : Prop := ∀ wX wM : AW, Rel wX wM → (∀ (v0 : Int32), ∃ (r : Int32) (wX2 wM2 : AW), mX5_heaps v0 wX = some (r, wX2) ∧ mX6_heaps v0 wM = some (r, wM2) ∧ Rel2 wX2 wM2)
/-- both answer -/
def PubV_heaps (Rel Rel2 : AW → AW → Prop) : Prop := ∀ wX wM : AW, Rel wX wM → (∀ (v0 : Int32), ∃ (r s : Int32) (wX2 wM2 : AW), mX5_heaps v0 wX = some (r, wX2) ∧ mX6_heaps v0 wM = some (s, wM2) ∧ Rel2 wX2 wM2)
theorem pubV_of_heaps {Rel Rel2 : AW → AW → Prop} (h : PubA_heaps Rel Rel2) : PubV_heaps Rel Rel2 := fun wX wM hR v0 => match h wX wM hR v0 with | ⟨r, a, b, e1, e2, k⟩ => ⟨r, r, a, b, e1, e2, k⟩
def Pub_alike (Rel : AW → AW → Prop) : Prop := ∀ wX wM : AW, Rel wX wM → (∀ (v0 : Int32) (v1 : Int32) (v2 : Int32), ∃ (r : Int32) (wX2 wM2 : AW), mX5_alike v0 v1 v2 wX = some (r, wX2) ∧ mX6_alike v0 v1 v2 wM = some (r, wM2) ∧ Rel wX2 wM2)
/-- from Rel to Rel2: the answers alike -/
def PubA_alike (Rel Rel2 : AW → AW → Prop) : Prop := ∀ wX wM : AW, Rel wX wM → (∀ (v0 : Int32) (v1 : Int32) (v2 : Int32), ∃ (r : Int32) (wX2 wM2 : AW), mX5_alike v0 v1 v2 wX = some (r, wX2) ∧ mX6_alike v0 v1 v2 wM = some (r, wM2) ∧ Rel2 wX2 wM2)
/-- both answer -/
def PubV_alike (Rel Rel2 : AW → AW → Prop) : Prop := ∀ wX wM : AW, Rel wX wM → (∀ (v0 : Int32) (v1 : Int32) (v2 : Int32), ∃ (r s : Int32) (wX2 wM2 : AW), mX5_alike v0 v1 v2 wX = some (r, wX2) ∧ mX6_alike v0 v1 v2 wM = some (s, wM2) ∧ Rel2 wX2 wM2)
theorem pubV_of_alike {Rel Rel2 : AW → AW → Prop} (h : PubA_alike Rel Rel2) : PubV_alike Rel Rel2 := fun wX wM hR v0 v1 v2 => match h wX wM hR v0 v1 v2 with | ⟨r, a, b, e1, e2, k⟩ => ⟨r, r, a, b, e1, e2, k⟩
def Pub_apart (Rel : AW → AW → Prop) : Prop := ∀ wX wM : AW, Rel wX wM → (∀ (v0 : Int32) (v1 : Int32) (v2 : Int32), ∃ (r : Int32) (wX2 wM2 : AW), mX5_apart v0 v1 v2 wX = some (r, wX2) ∧ mX6_apart v0 v1 v2 wM = some (r, wM2) ∧ Rel wX2 wM2)
/-- from Rel to Rel2: the answers alike -/
def PubA_apart (Rel Rel2 : AW → AW → Prop) : Prop := ∀ wX wM : AW, Rel wX wM → (∀ (v0 : Int32) (v1 : Int32) (v2 : Int32), ∃ (r : Int32) (wX2 wM2 : AW), mX5_apart v0 v1 v2 wX = some (r, wX2) ∧ mX6_apart v0 v1 v2 wM = some (r, wM2) ∧ Rel2 wX2 wM2)
/-- both answer -/
def PubV_apart (Rel Rel2 : AW → AW → Prop) : Prop := ∀ wX wM : AW, Rel wX wM → (∀ (v0 : Int32) (v1 : Int32) (v2 : Int32), ∃ (r s : Int32) (wX2 wM2 : AW), mX5_apart v0 v1 v2 wX = some (r, wX2) ∧ mX6_apart v0 v1 v2 wM = some (s, wM2) ∧ Rel2 wX2 wM2)
theorem pubV_of_apart {Rel Rel2 : AW → AW → Prop} (h : PubA_apart Rel Rel2) : PubV_apart Rel Rel2 := fun wX wM hR v0 v1 v2 => match h wX wM hR v0 v1 v2 with | ⟨r, a, b, e1, e2, k⟩ => ⟨r, r, a, b, e1, e2, k⟩
def Pub_growing (Rel : AW → AW → Prop) : Prop := ∀ wX wM : AW, Rel wX wM → (∃ (r : Int32) (wX2 wM2 : AW), mX5_growing  wX = some (r, wX2) ∧ mX6_growing  wM = some (r, wM2) ∧ Rel wX2 wM2)
/-- from Rel to Rel2: the answers alike -/
def PubA_growing (Rel Rel2 : AW → AW → Prop) : Prop := ∀ wX wM : AW, Rel wX wM → (∃ (r : Int32) (wX2 wM2 : AW), mX5_growing  wX = some (r, wX2) ∧ mX6_growing  wM = some (r, wM2) ∧ Rel2 wX2 wM2)
/-- both answer -/
def PubV_growing (Rel Rel2 : AW → AW → Prop) : Prop := ∀ wX wM : AW, Rel wX wM → (∃ (r s : Int32) (wX2 wM2 : AW), mX5_growing  wX = some (r, wX2) ∧ mX6_growing  wM = some (s, wM2) ∧ Rel2 wX2 wM2)
theorem pubV_of_growing {Rel Rel2 : AW → AW → Prop} (h : PubA_growing Rel Rel2) : PubV_growing Rel Rel2 := fun wX wM hR => match h wX wM hR with | ⟨r, a, b, e1, e2, k⟩ => ⟨r, r, a, b, e1, e2, k⟩
def Pub_grows (Rel : AW → AW → Prop) : Prop := ∀ wX wM : AW, Rel wX wM → (∀ (v0 : Int32), ∃ (r : Int32) (wX2 wM2 : AW), mX5_grows v0 wX = some (r, wX2) ∧ mX6_grows v0 wM = some (r, wM2) ∧ Rel wX2 wM2)
/-- from Rel to Rel2: the answers alike -/
def PubA_grows (Rel Rel2 : AW → AW → Prop) : Prop := ∀ wX wM : AW, Rel wX wM → (∀ (v0 : Int32), ∃ (r : Int32) (wX2 wM2 : AW), mX5_grows v0 wX = some (r, wX2) ∧ mX6_grows v0 wM = some (r, wM2) ∧ Rel2 wX2 wM2)
/-- both answer -/
def PubV_grows (Rel Rel2 : AW → AW → Prop) : Prop := ∀ wX wM : AW, Rel wX wM → (∀ (v0 : Int32), ∃ (r s : Int32) (wX2 wM2 : AW), mX5_grows v0 wX = some (r, wX2) ∧ mX6_grows v0 wM = some (s, wM2) ∧ Rel2 wX2 wM2)
theorem pubV_of_grows {Rel Rel2 : AW → AW → Prop} (h : PubA_grows Rel Rel2) : PubV_grows Rel Rel2 := fun wX wM hR v0 => match h wX wM hR v0 with | ⟨r, a, b, e1, e2, k⟩ => ⟨r, r, a, b, e1, e2, k⟩
def Pub_shown (Rel : AW → AW → Prop) : Prop := ∀ wX wM : AW, Rel wX wM → (∀ (v0 : Int32) (v1 : Int32), ∃ (r : Int32) (wX2 wM2 : AW), mX5_shown v0 v1 wX = some (r, wX2) ∧ mX6_shown v0 v1 wM = some (r, wM2) ∧ Rel wX2 wM2)
/-- from Rel to Rel2: the answers alike -/
def PubA_shown (Rel Rel2 : AW → AW → Prop) : Prop := ∀ wX wM : AW, Rel wX wM → (∀ (v0 : Int32) (v1 : Int32), ∃ (r : Int32) (wX2 wM2 : AW), mX5_shown v0 v1 wX = some (r, wX2) ∧ mX6_shown v0 v1 wM = some (r, wM2) ∧ Rel2 wX2 wM2)
/-- both answer -/
def PubV_shown (Rel Rel2 : AW → AW → Prop) : Prop := ∀ wX wM : AW, Rel wX wM → (∀ (v0 : Int32) (v1 : Int32), ∃ (r s : Int32) (wX2 wM2 : AW), mX5_shown v0 v1 wX = some (r, wX2) ∧ mX6_shown v0 v1 wM = some (s, wM2) ∧ Rel2 wX2 wM2)
theorem pubV_of_shown {Rel Rel2 : AW → AW → Prop} (h : PubA_shown Rel Rel2) : PubV_shown Rel Rel2 := fun wX wM hR v0 v1 => match h wX wM hR v0 v1 with | ⟨r, a, b, e1, e2, k⟩ => ⟨r, r, a, b, e1, e2, k⟩
def Pub_tell (Rel : AW → AW → Prop) : Prop := ∀ wX wM : AW, Rel wX wM → (∀ (v0 : Int32), ∃ (r : Int32) (wX2 wM2 : AW), mX5_tell v0 wX = some (r, wX2) ∧ mX6_tell v0 wM = some (r, wM2) ∧ Rel wX2 wM2)
/-- from Rel to Rel2: the answers alike -/
def PubA_tell (Rel Rel2 : AW → AW → Prop) : Prop := ∀ wX wM : AW, Rel wX wM → (∀ (v0 : Int32), ∃ (r : Int32) (wX2 wM2 : AW), mX5_tell v0 wX = some (r, wX2) ∧ mX6_tell v0 wM = some (r, wM2) ∧ Rel2 wX2 wM2)
/-- both answer -/
def PubV_tell (Rel Rel2 : AW → AW → Prop) : Prop := ∀ wX wM : AW, Rel wX wM → (∀ (v0 : Int32), ∃ (r s : Int32) (wX2 wM2 : AW), mX5_tell v0 wX = some (r, wX2) ∧ mX6_tell v0 wM = some (s, wM2) ∧ Rel2 wX2 wM2)
theorem pubV_of_tell {Rel Rel2 : AW → AW → Prop} (h : PubA_tell Rel Rel2) : PubV_tell Rel Rel2 := fun wX wM hR v0 => match h wX wM hR v0 with | ⟨r, a, b, e1, e2, k⟩ => ⟨r, r, a, b, e1, e2, k⟩
def Pub_known (Rel : AW → AW → Prop) : Prop := ∀ wX wM : AW, Rel wX wM → (∀ (v0 : Int32), ∃ (r : Int32) (wX2 wM2 : AW), mX5_known v0 wX = some (r, wX2) ∧ mX6_known v0 wM = some (r, wM2) ∧ Rel wX2 wM2)
/-- from Rel to Rel2: the answers alike -/
def PubA_known (Rel Rel2 : AW → AW → Prop) : Prop := ∀ wX wM : AW, Rel wX wM → (∀ (v0 : Int32), ∃ (r : Int32) (wX2 wM2 : AW), mX5_known v0 wX = some (r, wX2) ∧ mX6_known v0 wM = some (r, wM2) ∧ Rel2 wX2 wM2)
/-- both answer -/
def PubV_known (Rel Rel2 : AW → AW → Prop) : Prop := ∀ wX wM : AW, Rel wX wM → (∀ (v0 : Int32), ∃ (r s : Int32) (wX2 wM2 : AW), mX5_known v0 wX = some (r, wX2) ∧ mX6_known v0 wM = some (s, wM2) ∧ Rel2 wX2 wM2)
theorem pubV_of_known {Rel Rel2 : AW → AW → Prop} (h : PubA_known Rel Rel2) : PubV_known Rel Rel2 := fun wX wM hR v0 => match h wX wM hR v0 with | ⟨r, a, b, e1, e2, k⟩ => ⟨r, r, a, b, e1, e2, k⟩
def Pub_steps (Rel : AW → AW → Prop) : Prop := ∀ wX wM : AW, Rel wX wM → (∀ (v0 : Int32) (v1 : Int32), ∃ (r : Int32) (wX2 wM2 : AW), mX5_steps v0 v1 wX = some (r, wX2) ∧ mX6_steps v0 v1 wM = some (r, wM2) ∧ Rel wX2 wM2)
/-- from Rel to Rel2: the answers alike -/
def PubA_steps (Rel Rel2 : AW → AW → Prop) : Prop := ∀ wX wM : AW, Rel wX wM → (∀ (v0 : Int32) (v1 : Int32), ∃ (r : Int32) (wX2 wM2 : AW), mX5_steps v0 v1 wX = some (r, wX2) ∧ mX6_steps v0 v1 wM = some (r, wM2) ∧ Rel2 wX2 wM2)
/-- both answer -/
def PubV_steps (Rel Rel2 : AW → AW → Prop) : Prop := ∀ wX wM : AW, Rel wX wM → (∀ (v0 : Int32) (v1 : Int32), ∃ (r s : Int32) (wX2 wM2 : AW), mX5_steps v0 v1 wX = some (r, wX2) ∧ mX6_steps v0 v1 wM = some (s, wM2) ∧ Rel2 wX2 wM2)
theorem pubV_of_steps {Rel Rel2 : AW → AW → Prop} (h : PubA_steps Rel Rel2) : PubV_steps Rel Rel2 := fun wX wM hR v0 v1 => match h wX wM hR v0 v1 with | ⟨r, a, b, e1, e2, k⟩ => ⟨r, r, a, b, e1, e2, k⟩
def Pub_count (Rel : AW → AW → Prop) : Prop := ∀ wX wM : AW, Rel wX wM → (∀ (v0 : Int32), ∃ (r : Int32) (wX2 wM2 : AW), mX5_count v0 wX = some (r, wX2) ∧ mX6_count v0 wM = some (r, wM2) ∧ Rel wX2 wM2)
/-- from Rel to Rel2: the answers alike -/
def PubA_count (Rel Rel2 : AW → AW → Prop) : Prop := ∀ wX wM : AW, Rel wX wM → (∀ (v0 : Int32), ∃ (r : Int32) (wX2 wM2 : AW), mX5_count v0 wX = some (r, wX2) ∧ mX6_count v0 wM = some (r, wM2) ∧ Rel2 wX2 wM2)
/-- both answer -/
def PubV_count (Rel Rel2 : AW → AW → Prop) : Prop := ∀ wX wM : AW, Rel wX wM → (∀ (v0 : Int32), ∃ (r s : Int32) (wX2 wM2 : AW), mX5_count v0 wX = some (r, wX2) ∧ mX6_count v0 wM = some (s, wM2) ∧ Rel2 wX2 wM2)
theorem pubV_of_count {Rel Rel2 : AW → AW → Prop} (h : PubA_count Rel Rel2) : PubV_count Rel Rel2 := fun wX wM hR v0 => match h wX wM hR v0 with | ⟨r, a, b, e1, e2, k⟩ => ⟨r, r, a, b, e1, e2, k⟩
def Pub_trace (Rel : AW → AW → Prop) : Prop := ∀ wX wM : AW, Rel wX wM → (∃ (r : Int64) (wX2 wM2 : AW), mX5_trace  wX = some (r, wX2) ∧ mX6_trace  wM = some (r, wM2) ∧ Rel wX2 wM2)
/-- from Rel to Rel2: the answers alike -/
def PubA_trace (Rel Rel2 : AW → AW → Prop) : Prop := ∀ wX wM : AW, Rel wX wM → (∃ (r : Int64) (wX2 wM2 : AW), mX5_trace  wX = some (r, wX2) ∧ mX6_trace  wM = some (r, wM2) ∧ Rel2 wX2 wM2)
/-- both answer -/
def PubV_trace (Rel Rel2 : AW → AW → Prop) : Prop := ∀ wX wM : AW, Rel wX wM → (∃ (r s : Int64) (wX2 wM2 : AW), mX5_trace  wX = some (r, wX2) ∧ mX6_trace  wM = some (s, wM2) ∧ Rel2 wX2 wM2)
theorem pubV_of_trace {Rel Rel2 : AW → AW → Prop} (h : PubA_trace Rel Rel2) : PubV_trace Rel Rel2 := fun wX wM hR => match h wX wM hR with | ⟨r, a, b, e1, e2, k⟩ => ⟨r, r, a, b, e1, e2, k⟩
/-- what the law asks of each method -/
def PubOK (Rel Rel2 : AW → AW → Prop) : Prop := PubV_worlds Rel Rel2 ∧ PubV_see Rel Rel2 ∧ PubV_atom Rel Rel2 ∧ PubV_seen Rel Rel2 ∧ PubV_sorts Rel Rel2 ∧ PubV_type Rel Rel2 ∧ PubV_clear Rel Rel2 ∧ PubV_read Rel Rel2 ∧ PubV_about Rel Rel2 ∧ PubV_holds Rel Rel2 ∧ PubV_sure Rel Rel2 ∧ PubV_logic Rel Rel2 ∧ PubV_falls Rel Rel2 ∧ PubV_follows Rel Rel2 ∧ PubV_heaps Rel Rel2 ∧ PubV_alike Rel Rel2 ∧ PubV_apart Rel Rel2 ∧ PubV_growing Rel Rel2 ∧ PubV_grows Rel Rel2 ∧ PubV_shown Rel Rel2 ∧ PubV_tell Rel Rel2 ∧ PubV_known Rel Rel2 ∧ PubV_steps Rel Rel2 ∧ PubV_count Rel Rel2 ∧ PubA_trace Rel Rel2
theorem eL_13 : am_eV RL 13 KX5_worlds := ⟨am_c8 (i := 9) rfl rfl, am_c8 (i := 10) rfl rfl, am_c8 (i := 11) rfl rfl⟩
theorem eL_17 : am_eV RL 17 KX6_worlds := ⟨am_c28 (i := 9) rfl rfl, am_c28 (i := 10) rfl rfl, am_c28 (i := 11) rfl rfl⟩
theorem eL_18 : am_eV RL 18 KX5_see := ⟨am_c8 (i := 24) rfl rfl, am_c8 (i := 25) rfl rfl, am_c8 (i := 26) rfl rfl⟩
theorem eL_22 : am_eV RL 22 KX6_see := ⟨am_c28 (i := 16) rfl rfl, am_c28 (i := 17) rfl rfl, am_c28 (i := 18) rfl rfl⟩
theorem eL_23 : am_eV RL 23 KX5_atom := ⟨am_c10 (i := 2) rfl rfl, am_c10 (i := 3) rfl rfl, am_c10 (i := 4) rfl rfl⟩
theorem eL_27 : am_eV RL 27 KX6_atom := ⟨am_c28 (i := 24) rfl rfl, am_c28 (i := 25) rfl rfl, am_c28 (i := 26) rfl rfl⟩
theorem eL_28 : am_eV RL 28 KX5_seen := ⟨am_c10 (i := 16) rfl rfl, am_c10 (i := 17) rfl rfl, am_c10 (i := 18) rfl rfl⟩
theorem eL_31 : am_eV RL 31 KX6_seen := ⟨am_c29 (i := 0) rfl rfl, am_c29 (i := 1) rfl rfl, am_c29 (i := 2) rfl rfl⟩
theorem eL_32 : am_eV RL 32 KX5_sorts := ⟨am_c10 (i := 25) rfl rfl, am_c10 (i := 26) rfl rfl, am_c10 (i := 27) rfl rfl⟩
theorem eL_36 : am_eV RL 36 KX6_sorts := ⟨am_c29 (i := 18) rfl rfl, am_c29 (i := 19) rfl rfl, am_c29 (i := 20) rfl rfl⟩
theorem eL_39 : am_eV RL 39 KX5_type := ⟨am_c11 (i := 14) rfl rfl, am_c11 (i := 15) rfl rfl, am_c11 (i := 16) rfl rfl⟩
theorem eL_43 : am_eV RL 43 KX6_type := ⟨am_c29 (i := 25) rfl rfl, am_c29 (i := 26) rfl rfl, am_c29 (i := 27) rfl rfl⟩
theorem eL_44 : am_eV RL 44 KX5_clear := ⟨am_c11 (i := 18) rfl rfl, am_c11 (i := 19) rfl rfl, am_c11 (i := 20) rfl rfl⟩
theorem eL_47 : am_eV RL 47 KX6_clear := ⟨am_c29 (i := 30) rfl rfl, am_c29 (i := 31) rfl rfl, am_c30 (i := 0) rfl rfl⟩
theorem eL_48 : am_eV RL 48 KX5_read := ⟨am_c11 (i := 22) rfl rfl, am_c11 (i := 23) rfl rfl, am_c11 (i := 24) rfl rfl⟩
theorem eL_51 : am_eV RL 51 KX6_read := ⟨am_c30 (i := 2) rfl rfl, am_c30 (i := 3) rfl rfl, am_c30 (i := 4) rfl rfl⟩
theorem eL_52 : am_eV RL 52 KX5_about := ⟨am_c14 (i := 2) rfl rfl, am_c14 (i := 3) rfl rfl, am_c14 (i := 4) rfl rfl⟩
theorem eL_55 : am_eV RL 55 KX6_about := ⟨am_c30 (i := 26) rfl rfl, am_c30 (i := 27) rfl rfl, am_c30 (i := 28) rfl rfl⟩
theorem eL_56 : am_eV RL 56 KX5_holds := ⟨am_c14 (i := 25) rfl rfl, am_c14 (i := 26) rfl rfl, am_c14 (i := 27) rfl rfl⟩
theorem eL_59 : am_eV RL 59 KX6_holds := ⟨am_c31 (i := 26) rfl rfl, am_c31 (i := 27) rfl rfl, am_c31 (i := 28) rfl rfl⟩
theorem eL_60 : am_eV RL 60 KX5_sure := ⟨am_c16 (i := 3) rfl rfl, am_c16 (i := 4) rfl rfl, am_c16 (i := 5) rfl rfl⟩
theorem eL_63 : am_eV RL 63 KX6_sure := ⟨am_c32 (i := 10) rfl rfl, am_c32 (i := 11) rfl rfl, am_c32 (i := 12) rfl rfl⟩
theorem eL_64 : am_eV RL 64 KX5_logic := ⟨am_c16 (i := 12) rfl rfl, am_c16 (i := 13) rfl rfl, am_c16 (i := 14) rfl rfl⟩
theorem eL_67 : am_eV RL 67 KX6_logic := ⟨am_c32 (i := 14) rfl rfl, am_c32 (i := 15) rfl rfl, am_c32 (i := 16) rfl rfl⟩
theorem eL_68 : am_eV RL 68 KX5_falls := ⟨am_c19 (i := 8) rfl rfl, am_c19 (i := 9) rfl rfl, am_c19 (i := 10) rfl rfl⟩
theorem eL_71 : am_eV RL 71 KX6_falls := ⟨am_c33 (i := 29) rfl rfl, am_c33 (i := 30) rfl rfl, am_c33 (i := 31) rfl rfl⟩
theorem eL_72 : am_eV RL 72 KX5_follows := ⟨am_c19 (i := 20) rfl rfl, am_c19 (i := 21) rfl rfl, am_c19 (i := 22) rfl rfl⟩
theorem eL_75 : am_eV RL 75 KX6_follows := ⟨am_c34 (i := 1) rfl rfl, am_c34 (i := 2) rfl rfl, am_c34 (i := 3) rfl rfl⟩
theorem eL_76 : am_eV RL 76 KX5_heaps := ⟨am_c20 (i := 2) rfl rfl, am_c20 (i := 3) rfl rfl, am_c20 (i := 4) rfl rfl⟩
theorem eL_79 : am_eV RL 79 KX6_heaps := ⟨am_c34 (i := 5) rfl rfl, am_c34 (i := 6) rfl rfl, am_c34 (i := 7) rfl rfl⟩
theorem eL_80 : am_eV RL 80 KX5_alike := ⟨am_c21 (i := 3) rfl rfl, am_c21 (i := 4) rfl rfl, am_c21 (i := 5) rfl rfl⟩
theorem eL_83 : am_eV RL 83 KX6_alike := ⟨am_c34 (i := 21) rfl rfl, am_c34 (i := 22) rfl rfl, am_c34 (i := 23) rfl rfl⟩
theorem eL_84 : am_eV RL 84 KX5_apart := ⟨am_c21 (i := 15) rfl rfl, am_c21 (i := 16) rfl rfl, am_c21 (i := 17) rfl rfl⟩
theorem eL_87 : am_eV RL 87 KX6_apart := ⟨am_c34 (i := 25) rfl rfl, am_c34 (i := 26) rfl rfl, am_c34 (i := 27) rfl rfl⟩
theorem eL_88 : am_eV RL 88 KX5_growing := ⟨am_c21 (i := 19) rfl rfl, am_c21 (i := 20) rfl rfl, am_c21 (i := 21) rfl rfl⟩
theorem eL_91 : am_eV RL 91 KX6_growing := ⟨am_c34 (i := 29) rfl rfl, am_c34 (i := 30) rfl rfl, am_c34 (i := 31) rfl rfl⟩
theorem eL_92 : am_eV RL 92 KX5_grows := ⟨am_c21 (i := 27) rfl rfl, am_c21 (i := 28) rfl rfl, am_c21 (i := 29) rfl rfl⟩
theorem eL_95 : am_eV RL 95 KX6_grows := ⟨am_c35 (i := 5) rfl rfl, am_c35 (i := 6) rfl rfl, am_c35 (i := 7) rfl rfl⟩
theorem eL_96 : am_eV RL 96 KX5_shown := ⟨am_c21 (i := 31) rfl rfl, am_c22 (i := 0) rfl rfl, am_c22 (i := 1) rfl rfl⟩
theorem eL_99 : am_eV RL 99 KX6_shown := ⟨am_c35 (i := 9) rfl rfl, am_c35 (i := 10) rfl rfl, am_c35 (i := 11) rfl rfl⟩
theorem eL_100 : am_eV RL 100 KX5_tell := ⟨am_c22 (i := 3) rfl rfl, am_c22 (i := 4) rfl rfl, am_c22 (i := 5) rfl rfl⟩
theorem eL_103 : am_eV RL 103 KX6_tell := ⟨am_c35 (i := 29) rfl rfl, am_c35 (i := 30) rfl rfl, am_c35 (i := 31) rfl rfl⟩
theorem eL_104 : am_eV RL 104 KX5_known := ⟨am_c22 (i := 15) rfl rfl, am_c22 (i := 16) rfl rfl, am_c22 (i := 17) rfl rfl⟩
theorem eL_107 : am_eV RL 107 KX6_known := ⟨am_c36 (i := 8) rfl rfl, am_c36 (i := 9) rfl rfl, am_c36 (i := 10) rfl rfl⟩
theorem eL_108 : am_eV RL 108 KX5_steps := ⟨am_c22 (i := 23) rfl rfl, am_c22 (i := 24) rfl rfl, am_c22 (i := 25) rfl rfl⟩
theorem eL_111 : am_eV RL 111 KX6_steps := ⟨am_c36 (i := 12) rfl rfl, am_c36 (i := 13) rfl rfl, am_c36 (i := 14) rfl rfl⟩
theorem eL_112 : am_eV RL 112 KX5_count := ⟨am_c22 (i := 31) rfl rfl, am_c23 (i := 0) rfl rfl, am_c23 (i := 1) rfl rfl⟩
theorem eL_115 : am_eV RL 115 KX6_count := ⟨am_c36 (i := 16) rfl rfl, am_c36 (i := 17) rfl rfl, am_c36 (i := 18) rfl rfl⟩
theorem eL_116 : am_eV RL 116 KX5_trace := ⟨am_c23 (i := 7) rfl rfl, am_c23 (i := 8) rfl rfl, am_c23 (i := 9) rfl rfl⟩
theorem eL_120 : am_eV RL 120 KX6_trace := ⟨am_c36 (i := 20) rfl rfl, am_c36 (i := 21) rfl rfl, am_c36 (i := 22) rfl rfl⟩
theorem am_inT {w : Cond} (h : w ∈ am_AWS) : w ∈ lw_tbl := (List.mem_filter.mp h).1
section LAW
variable {p : Program} {l : Launch} {e : Env} {s : State} {m : MethodId} {below : List Frame} {meth : Method} {c : Code} {b L : Nat} {xs : Nat → Int32} {D : va_G} {cy : ClassId × ClassId × ClassId} {adX adM : Nat → Nat → Nat}
/-- what stays as it is behind the two constructors -/
def lw_F (p : Program) (s : State) (m : MethodId) (c : Code) (b : Nat) (D : va_G) (cy : ClassId × ClassId × ClassId) (adX adM : Nat → Nat → Nat) : Prop :=
  p.tables.exec = Jvm.exec ∧ c.code = cL_law ∧ c.maxLocals = 4 ∧ s.vm.findClass RL = some m.cls ∧ (∀ w ∈ lw_tbl, w.before #[Value.ref b] s = true) ∧ va_K D vwCl (am_tys cy) s ∧ (∀ w, va_D (fun q => s.heap.size ≤ q) (am_cw cy false adX w)) ∧ (∀ w, va_D (fun q => s.heap.size ≤ q) (am_cw cy true adM w)) ∧
  (∀ q1 ∈ am_cells false, ∀ q2 ∈ am_cells true, adX q1.1 q1.2 ≠ adM q2.1 q2.2) ∧ am_Zs adX (fun q => s.heap.size ≤ q) s ∧ am_Zs adM (fun q => s.heap.size ≤ q) s ∧ am_Ns s
/-- the two worlds -/
def lw_S (s : State) (D : va_G) (cy : ClassId × ClassId × ClassId) (adX adM : Nat → Nat → Nat) (wX wM : AW) (H : Heap) (locs : List Loc) : Prop :=
  am_ok wX ∧ am_ok wM ∧ va_P D vwCl (am_cw cy false adX wX) H ∧ va_P D vwCl (am_cw cy true adM wM) H ∧ va_S (fun q => s.heap.size ≤ q) s.heap H locs
theorem lw_call {sd : Bool} {ad : Nat → Nat → Nat} {wA : AW} {H : Heap} {locs : List Loc} {kc ks : Nat} {Q : State → Prop} {pc idx ci N : Nat} {T : u_T} {ls : Array Slot} {rest stk : List Value} {r2 : AR} (K2 : MK) (As : List AV)
    (hx : p.tables.exec = Jvm.exec) (hb : c.code = cL_law) (hml : c.maxLocals = 4) (hown : s.vm.findClass RL = some m.cls) (hts : ∀ w ∈ lw_tbl, w.before #[Value.ref b] s = true) (hK : va_K D vwCl (am_tys cy) s) (hD : ∀ w, va_D (fun q => s.heap.size ≤ q) (am_cw cy sd ad w)) (hZ : am_Zs ad (fun q => s.heap.size ≤ q) s) (hN : am_Ns s)
    (hok : am_ok wA) (hP : va_P D vwCl (am_cw cy sd ad wA) H) (hS : va_S (fun q => s.heap.size ≤ q) s.heap H locs) (hl : ls.size = 4) (hkc : kc ≤ 600000 ∧ ks ≤ 7302250)
    (hdg : decode cL_law pc = .ok (.invokevirtual idx, 3)) (he : am_eV RL idx K2) (hcl : am_cls sd 0 = ci) (hci : vwCl[ci]? = some (K2.1.cls, T, N)) (hmk : am_mok K2 As.length) (hmw : am_mw K2) (hfit : K2.2.2.2.2.1 + 1 ≤ 9 ∧ 8 + (K2.2.2.1 + 11) + K2.2.2.2.2.2 ≤ 326) (hM : am_Met sd K2 (vR 0 0 :: As) wA r2) (hs : stk = (As.map (am_cv ad)).reverse ++ .ref (ad 0 0) :: rest) (hcat : (rest.map fun v => v.category).sum ≤ 8)
    (kk : ∀ (H1 : Heap) (locs1 : List Loc), am_ok r2.2 → va_P D vwCl (am_cw cy sd ad r2.2) H1 → va_S (fun q => s.heap.size ≤ q) s.heap H1 locs1 → H.size ≤ H1.size → (∀ q, q < H.size → ¬ va_A (am_cw cy sd ad wA) H.size q → H1[q]? = H[q]?) → W p l e room_1 s m #[Value.ref b] below meth c H1 locs1 kc ks Q (F0 m (pc + 3) ls ((r2.1.map (am_cv ad)).toList ++ rest))) :
    W p l e room_1 s m #[Value.ref b] below meth c H locs kc ks Q (F0 m pc ls stk) := by
  subst hs
  subst hcl
  obtain ⟨hc7, rfl⟩ := am_clT hci
  obtain ⟨q0, -, hce⟩ := am_cw_at (cy := cy) (ad := ad) (w := wA) (am_cell_o hc7)
  obtain ⟨e1, e2, e3⟩ := he
  obtain ⟨hmc, hmi⟩ := hmw
  obtain ⟨-, m1, m2, m3⟩ := hmk
  have hMm := hM l D cy ad H.size
  have hAA : ∀ q, va_A (am_cw cy sd ad wA) H.size q → s.heap.size ≤ q := am_A (A := fun q => s.heap.size ≤ q) (hD wA) (fun q hq => Nat.le_trans hS.1 hq)
  have hFb : FrameBlind (va_Pc ((vR 0 0 :: As).map (am_cv ad)) (fun U => U.heap.size = H.size ∧ am_ok wA ∧ va_P D vwCl (am_cw cy sd ad wA) U.heap ∧ va_K D vwCl (am_tys cy) U ∧ va_D (fun _ => True) (am_cw cy sd ad wA) ∧ am_Zs ad (va_A (am_cw cy sd ad wA) H.size) U ∧ am_Ns U)) := by
    intro a U g mk q
    obtain ⟨q1, q2, q3, q4, q5, q6, ⟨z1, z2, z3, z4⟩, q8⟩ := q
    exact ⟨q1, q2, q3, q4, va_K.moved (u := U) (U := U.calling g mk a) (Vm.Alike.refl U.vm) q5, q6, ⟨va_Z.moved (u := U) (U := U.calling g mk a) (Vm.Alike.refl U.vm) z1, va_X.moved (u := U) (U := U.calling g mk a) (Vm.Alike.refl U.vm) z2, z3, z4⟩, am_Ns.same (u := U) (U := U.calling g mk a) rfl q8⟩
  have hGo : ∀ {x : Cond}, x ∈ am_AWS → x ∈ lw_tbl ∧ ((x.onTables && x.keeps) = true ∨ ∃ ty, x = .arrayClass ty) := fun {x} hx => ⟨am_inT hx, am_good x hx⟩
  have hGV : GoodIn lw_tbl (wsV RL idx K2.1.cls K2.1 (am_ws K2)) := by
    intro x hx
    unfold wsV at hx
    simp only [List.cons_append, List.nil_append, List.mem_cons] at hx
    rcases hx with rfl | rfl | rfl | rfl | hx
    · exact hGo e1
    · exact hGo e2
    · exact hGo e3
    · exact hGo hmi
    · rcases List.mem_cons.mp hx with rfl | h
      · exact hGo hmc
      · exact hGo h
  have hrun := va_runV (p := p) (l := l) (e := e) (below := below) (meth := meth) (locs := locs) (cells := kc) (slots := ks) (R := room_1) (As := As.map (am_cv ad)) (rest := rest) (g := F0 m pc ls ((As.map (am_cv ad)).reverse ++ .ref (ad 0 0) :: rest)) ⟨hx, hb, hml, hown, hts⟩ hMm (cwV As.length hts hGV rfl rfl rfl ⟨rfl, m1, m2, m3⟩ hfit) ⟨hFb, va_recv hK hP hci hce, fun U hU hW => ⟨rfl, by rw [hU], hok, by rw [hU]; exact hP, va_K.moved hW.alike hK, (hD wA).weaken (fun _ _ _ _ => trivial), hZ.go hS hAA hW.alike hU, am_Ns.warm hW hN⟩⟩ rfl (by rw [List.length_map]) hl rfl (lv_room hcat) hdg hkc
  intro T hT X
  obtain ⟨v, st₀, t, T', L1, h0, X', hL, e1, e2, ⟨z1, z2, z3, z4⟩, st⟩ := hrun T hT X
  cases z1
  obtain ⟨zk1, zk2⟩ := z4
  rw [h0] at zk1 zk2
  obtain ⟨t2, a1, b1⟩ := kk t.heap (locs ++ L1) z2 z3
    ⟨Nat.le_trans hS.1 zk1, fun q h1 h2 => by rw [zk2 q (Nat.lt_of_lt_of_le h1 hS.1) (fun z => h2 (hAA q z))]; exact hS.2.1 q h1 h2, fun q hq => by
      rcases List.mem_append.mp hq with h | h
      · exact hS.2.2 q h
      · exact hAA _ (hL q h)⟩ zk1 zk2 T' e1 X'
  exact ⟨t2, st t2 a1, b1⟩
/-- a cell of the other side isn't the callee's -/
theorem lw_other {sd1 sd2 : Bool} {ad1 ad2 : Nat → Nat → Nat} {w1 w2 : AW} {H H1 : Heap} (hd : ∀ q1 ∈ am_cells sd1, ∀ q2 ∈ am_cells sd2, ad1 q1.1 q1.2 ≠ ad2 q2.1 q2.2) (hP : va_P D vwCl (am_cw cy sd2 ad2 w2) H) (hk : ∀ q, q < H.size → ¬ va_A (am_cw cy sd1 ad1 w1) H.size q → H1[q]? = H[q]?) : va_P D vwCl (am_cw cy sd2 ad2 w2) H1 := by
  refine hP.kept (fun k q hq => hk q.1 (hP k q hq).lt ?_)
  rintro (⟨k1, e1, h1⟩ | h1)
  · unfold am_cw at hq h1
    rw [List.getElem?_map] at hq h1
    cases ha : (am_cells sd2)[k]? with
    | none => rw [ha] at hq; cases hq
    | some z2 =>
      cases hb : (am_cells sd1)[k1]? with
      | none => rw [hb] at h1; cases h1
      | some z1 =>
        rw [ha] at hq
        rw [hb] at h1
        cases hq
        have h2 := congrArg Prod.fst (Option.some.inj h1)
        exact hd z1 (List.mem_of_getElem? hb) z2 (List.mem_of_getElem? ha) h2
  · exact absurd (hP k q hq).lt (Nat.not_lt.mpr h1)
theorem lw_callX {wX wM : AW} {H : Heap} {locs : List Loc} {Q : State → Prop} {pc idx : Nat} {ls : Array Slot} {rest stk : List Value} {r2 : AR} (K2 : MK) (As : List AV) (hF : lw_F p s m c b D cy adX adM) (hSt : lw_S s D cy adX adM wX wM H locs) (hl : ls.size = 4)
    (hdg : decode cL_law pc = .ok (.invokevirtual idx, 3)) (he : am_eV RL idx K2) (hC : K2.1.cls = RX5) (hmk : am_mok K2 As.length) (hmw : am_mw K2) (hfit : K2.2.2.2.2.1 + 1 ≤ 9 ∧ 8 + (K2.2.2.1 + 11) + K2.2.2.2.2.2 ≤ 326) (hM : am_Met false K2 (vR 0 0 :: As) wX r2) (hs : stk = (As.map (am_cv adX)).reverse ++ .ref (adX 0 0) :: rest) (hcat : (rest.map fun v => v.category).sum ≤ 8)
    (kk : ∀ (H1 : Heap) (locs1 : List Loc), lw_S s D cy adX adM r2.2 wM H1 locs1 → W p l e room_1 s m #[Value.ref b] below meth c H1 locs1 108 17627 Q (F0 m (pc + 3) ls ((r2.1.map (am_cv adX)).toList ++ rest))) :
    W p l e room_1 s m #[Value.ref b] below meth c H locs 108 17627 Q (F0 m pc ls stk) := by
  obtain ⟨hx, hb, hml, hown, hts, hK, hDX, hDM, hdj, hZX, hZM, hN⟩ := hF
  obtain ⟨o1, o2, p1, p2, hS⟩ := hSt
  refine lw_call K2 As hx hb hml hown hts hK hDX hZX hN o1 p1 hS hl ⟨Nat.le_of_ble_eq_true rfl, Nat.le_of_ble_eq_true rfl⟩ hdg he (rfl : am_cls false 0 = 5) (by rw [hC]; rfl) hmk hmw hfit hM hs hcat (fun H1 locs1 a1 a2 a3 a4 a5 => ?_)
  exact kk H1 locs1 ⟨a1, o2, a2, lw_other hdj p2 a5, a3⟩
theorem lw_callM {wX wM : AW} {H : Heap} {locs : List Loc} {Q : State → Prop} {pc idx : Nat} {ls : Array Slot} {rest stk : List Value} {r2 : AR} (K2 : MK) (As : List AV) (hF : lw_F p s m c b D cy adX adM) (hSt : lw_S s D cy adX adM wX wM H locs) (hl : ls.size = 4)
    (hdg : decode cL_law pc = .ok (.invokevirtual idx, 3)) (he : am_eV RL idx K2) (hC : K2.1.cls = RX6) (hmk : am_mok K2 As.length) (hmw : am_mw K2) (hfit : K2.2.2.2.2.1 + 1 ≤ 9 ∧ 8 + (K2.2.2.1 + 11) + K2.2.2.2.2.2 ≤ 326) (hM : am_Met true K2 (vR 0 0 :: As) wM r2) (hs : stk = (As.map (am_cv adM)).reverse ++ .ref (adM 0 0) :: rest) (hcat : (rest.map fun v => v.category).sum ≤ 8)
    (kk : ∀ (H1 : Heap) (locs1 : List Loc), lw_S s D cy adX adM wX r2.2 H1 locs1 → W p l e room_1 s m #[Value.ref b] below meth c H1 locs1 108 17627 Q (F0 m (pc + 3) ls ((r2.1.map (am_cv adM)).toList ++ rest))) :
    W p l e room_1 s m #[Value.ref b] below meth c H locs 108 17627 Q (F0 m pc ls stk) := by
  obtain ⟨hx, hb, hml, hown, hts, hK, hDX, hDM, hdj, hZX, hZM, hN⟩ := hF
  obtain ⟨o1, o2, p1, p2, hS⟩ := hSt
  refine lw_call K2 As hx hb hml hown hts hK hDM hZM hN o2 p2 hS hl ⟨Nat.le_of_ble_eq_true rfl, Nat.le_of_ble_eq_true rfl⟩ hdg he (rfl : am_cls true 0 = 6) (by rw [hC]; rfl) hmk hmw hfit hM hs hcat (fun H1 locs1 a1 a2 a3 a4 a5 => ?_)
  exact kk H1 locs1 ⟨o1, a1, lw_other (fun q1 h1 q2 h2 e => hdj q2 h2 q1 h1 e.symm) p1 a5, a2, a3⟩
theorem lw_out {n : Nat} (hL : L ≤ 2048) (hn : n ≤ 4096) (h : ¬ Int32.ofNat L - 4 < nI n) : n + 4 ≤ L := by
  have e : (Int32.ofNat L - 4).toInt = (L : Int) - 4 := pk_sub_toInt (a := L) (b := 4) (by omega) (by decide)
  have e2 : (nI n).toInt = (n : Int) := nI_toInt (by omega)
  rw [Int32.lt_iff_toInt_lt, e, e2] at h
  omega
theorem lw_cmp_self (x : Int64) : lg_cmp x x = 0 := by
  unfold lg_cmp
  simp

set_option maxHeartbeats 4000000 in
set_option maxRecDepth 100000 in
theorem lw_case_0 {Rel Rel2 : AW → AW → Prop} {wX wM : AW} {H : Heap} {locs : List Loc} {ls : Array Slot} {x3 : Int32} (hPub : PubV_worlds Rel Rel2) (hR : Rel wX wM) (hF : lw_F p s m c b D cy adX adM) (hX : va_X b L xs s s.heap) (hbl : b < s.heap.size) (hSt : lw_S s D cy adX adM wX wM H locs) (hl : lv_has ls 4 [(3, .int x3), (0, .ref b), (1, .ref (adX 0 0)), (2, .ref (adM 0 0))]) (hi1 : vp_in (x3 + 1) L) (hi2 : vp_in (x3 + 2) L) (hi3 : vp_in (x3 + 3) L)
    (kk : ∀ (wX2 wM2 : AW), Rel2 wX2 wM2 → ∀ (H : Heap) (locs : List Loc) (ls : Array Slot), lw_S s D cy adX adM wX2 wM2 H locs → lv_has ls 4 [(3, .int x3), (0, .ref b), (1, .ref (adX 0 0)), (2, .ref (adM 0 0))] → W p l e room_1 s m #[Value.ref b] below meth c H locs 108 17627 (lw_Z below #[Value.ref b] s) (F0 m 914 ls [])) : W p l e room_1 s m #[Value.ref b] below meth c H locs 108 17627 (lw_Z below #[Value.ref b] s) (F0 m 148 ls []) := by
  obtain ⟨hx, hb, hml, hown, hts, -, -, -, -, -, -, -⟩ := id hF
  obtain ⟨r, r2, wX2, wM2, h1, h2, hR2⟩ := hPub wX wM hR (xs (x3 + 1).toNatClampNeg)
  refine lv_aload_n hx hb dL_law_148 rfl (lv_at hl 2 rfl) ?_
  refine lv_aload_n hx hb dL_law_149 rfl (lv_at hl 1 rfl) ?_
  refine lv_iload_n hx hb dL_law_150 rfl (lv_at hl 0 rfl) ?_
  refine lv_iconst (v := 1) hx hb dL_law_151 (by decide) ?_
  refine lv_iadd hx hb dL_law_152 ?_
  refine va_sld hx hb hX hbl (Nat.not_le.mpr hbl) hSt.2.2.2.2 hi1 dL_law_153 ?_
  refine lw_callX (rest := []) KX5_worlds [vI (xs (x3 + 1).toNatClampNeg)] hF hSt hl.1 dL_law_154 eL_13 rfl mok_X5_worlds mw_X5_worlds ⟨Nat.le_of_ble_eq_true rfl, Nat.le_of_ble_eq_true rfl⟩ (met_X5_worlds h1) rfl (Nat.le_of_ble_eq_true rfl) (fun H locs hSn => ?_)
  clear hSt
  have hSt := hSn
  clear hSn
  refine lv_pop hx hb dL_law_157 rfl ?_
  refine lv_aload_n hx hb dL_law_158 rfl (lv_at hl 3 rfl) ?_
  refine lv_aload_n hx hb dL_law_159 rfl (lv_at hl 1 rfl) ?_
  refine lv_iload_n hx hb dL_law_160 rfl (lv_at hl 0 rfl) ?_
  refine lv_iconst (v := 1) hx hb dL_law_161 (by decide) ?_
  refine lv_iadd hx hb dL_law_162 ?_
  refine va_sld hx hb hX hbl (Nat.not_le.mpr hbl) hSt.2.2.2.2 hi1 dL_law_163 ?_
  refine lw_callM (rest := []) KX6_worlds [vI (xs (x3 + 1).toNatClampNeg)] hF hSt hl.1 dL_law_164 eL_17 rfl mok_X6_worlds mw_X6_worlds ⟨Nat.le_of_ble_eq_true rfl, Nat.le_of_ble_eq_true rfl⟩ (met_X6_worlds h2) rfl (Nat.le_of_ble_eq_true rfl) (fun H locs hSn => ?_)
  clear hSt
  have hSt := hSn
  clear hSn
  refine lv_pop hx hb dL_law_167 rfl ?_
  refine lv_goto (tgt := 914) hx hb dL_law_168 (by decide) ?_
  exact kk wX2 wM2 hR2 H locs ls hSt hl
set_option maxHeartbeats 4000000 in
set_option maxRecDepth 100000 in
theorem lw_case_1 {Rel Rel2 : AW → AW → Prop} {wX wM : AW} {H : Heap} {locs : List Loc} {ls : Array Slot} {x3 : Int32} (hPub : PubV_see Rel Rel2) (hR : Rel wX wM) (hF : lw_F p s m c b D cy adX adM) (hX : va_X b L xs s s.heap) (hbl : b < s.heap.size) (hSt : lw_S s D cy adX adM wX wM H locs) (hl : lv_has ls 4 [(3, .int x3), (0, .ref b), (1, .ref (adX 0 0)), (2, .ref (adM 0 0))]) (hi1 : vp_in (x3 + 1) L) (hi2 : vp_in (x3 + 2) L) (hi3 : vp_in (x3 + 3) L)
    (kk : ∀ (wX2 wM2 : AW), Rel2 wX2 wM2 → ∀ (H : Heap) (locs : List Loc) (ls : Array Slot), lw_S s D cy adX adM wX2 wM2 H locs → lv_has ls 4 [(3, .int x3), (0, .ref b), (1, .ref (adX 0 0)), (2, .ref (adM 0 0))] → W p l e room_1 s m #[Value.ref b] below meth c H locs 108 17627 (lw_Z below #[Value.ref b] s) (F0 m 914 ls [])) : W p l e room_1 s m #[Value.ref b] below meth c H locs 108 17627 (lw_Z below #[Value.ref b] s) (F0 m 171 ls []) := by
  obtain ⟨hx, hb, hml, hown, hts, -, -, -, -, -, -, -⟩ := id hF
  obtain ⟨r, r2, wX2, wM2, h1, h2, hR2⟩ := hPub wX wM hR (xs (x3 + 1).toNatClampNeg) (xs (x3 + 2).toNatClampNeg) (xs (x3 + 3).toNatClampNeg)
  refine lv_aload_n hx hb dL_law_171 rfl (lv_at hl 2 rfl) ?_
  refine lv_aload_n hx hb dL_law_172 rfl (lv_at hl 1 rfl) ?_
  refine lv_iload_n hx hb dL_law_173 rfl (lv_at hl 0 rfl) ?_
  refine lv_iconst (v := 1) hx hb dL_law_174 (by decide) ?_
  refine lv_iadd hx hb dL_law_175 ?_
  refine va_sld hx hb hX hbl (Nat.not_le.mpr hbl) hSt.2.2.2.2 hi1 dL_law_176 ?_
  refine lv_aload_n hx hb dL_law_177 rfl (lv_at hl 1 rfl) ?_
  refine lv_iload_n hx hb dL_law_178 rfl (lv_at hl 0 rfl) ?_
  refine lv_iconst (v := 2) hx hb dL_law_179 (by decide) ?_
  refine lv_iadd hx hb dL_law_180 ?_
  refine va_sld hx hb hX hbl (Nat.not_le.mpr hbl) hSt.2.2.2.2 hi2 dL_law_181 ?_
  refine lv_aload_n hx hb dL_law_182 rfl (lv_at hl 1 rfl) ?_
  refine lv_iload_n hx hb dL_law_183 rfl (lv_at hl 0 rfl) ?_
  refine lv_iconst (v := 3) hx hb dL_law_184 (by decide) ?_
  refine lv_iadd hx hb dL_law_185 ?_
  refine va_sld hx hb hX hbl (Nat.not_le.mpr hbl) hSt.2.2.2.2 hi3 dL_law_186 ?_
  refine lw_callX (rest := []) KX5_see [vI (xs (x3 + 1).toNatClampNeg), vI (xs (x3 + 2).toNatClampNeg), vI (xs (x3 + 3).toNatClampNeg)] hF hSt hl.1 dL_law_187 eL_18 rfl mok_X5_see mw_X5_see ⟨Nat.le_of_ble_eq_true rfl, Nat.le_of_ble_eq_true rfl⟩ (met_X5_see h1) rfl (Nat.le_of_ble_eq_true rfl) (fun H locs hSn => ?_)
  clear hSt
  have hSt := hSn
  clear hSn
  refine lv_pop hx hb dL_law_190 rfl ?_
  refine lv_aload_n hx hb dL_law_191 rfl (lv_at hl 3 rfl) ?_
  refine lv_aload_n hx hb dL_law_192 rfl (lv_at hl 1 rfl) ?_
  refine lv_iload_n hx hb dL_law_193 rfl (lv_at hl 0 rfl) ?_
  refine lv_iconst (v := 1) hx hb dL_law_194 (by decide) ?_
  refine lv_iadd hx hb dL_law_195 ?_
  refine va_sld hx hb hX hbl (Nat.not_le.mpr hbl) hSt.2.2.2.2 hi1 dL_law_196 ?_
  refine lv_aload_n hx hb dL_law_197 rfl (lv_at hl 1 rfl) ?_
  refine lv_iload_n hx hb dL_law_198 rfl (lv_at hl 0 rfl) ?_
  refine lv_iconst (v := 2) hx hb dL_law_199 (by decide) ?_
  refine lv_iadd hx hb dL_law_200 ?_
  refine va_sld hx hb hX hbl (Nat.not_le.mpr hbl) hSt.2.2.2.2 hi2 dL_law_201 ?_
  refine lv_aload_n hx hb dL_law_202 rfl (lv_at hl 1 rfl) ?_
  refine lv_iload_n hx hb dL_law_203 rfl (lv_at hl 0 rfl) ?_
  refine lv_iconst (v := 3) hx hb dL_law_204 (by decide) ?_
  refine lv_iadd hx hb dL_law_205 ?_
  refine va_sld hx hb hX hbl (Nat.not_le.mpr hbl) hSt.2.2.2.2 hi3 dL_law_206 ?_
  refine lw_callM (rest := []) KX6_see [vI (xs (x3 + 1).toNatClampNeg), vI (xs (x3 + 2).toNatClampNeg), vI (xs (x3 + 3).toNatClampNeg)] hF hSt hl.1 dL_law_207 eL_22 rfl mok_X6_see mw_X6_see ⟨Nat.le_of_ble_eq_true rfl, Nat.le_of_ble_eq_true rfl⟩ (met_X6_see h2) rfl (Nat.le_of_ble_eq_true rfl) (fun H locs hSn => ?_)
  clear hSt
  have hSt := hSn
  clear hSn
  refine lv_pop hx hb dL_law_210 rfl ?_
  refine lv_goto (tgt := 914) hx hb dL_law_211 (by decide) ?_
  exact kk wX2 wM2 hR2 H locs ls hSt hl
set_option maxHeartbeats 4000000 in
set_option maxRecDepth 100000 in
theorem lw_case_2 {Rel Rel2 : AW → AW → Prop} {wX wM : AW} {H : Heap} {locs : List Loc} {ls : Array Slot} {x3 : Int32} (hPub : PubV_atom Rel Rel2) (hR : Rel wX wM) (hF : lw_F p s m c b D cy adX adM) (hX : va_X b L xs s s.heap) (hbl : b < s.heap.size) (hSt : lw_S s D cy adX adM wX wM H locs) (hl : lv_has ls 4 [(3, .int x3), (0, .ref b), (1, .ref (adX 0 0)), (2, .ref (adM 0 0))]) (hi1 : vp_in (x3 + 1) L) (hi2 : vp_in (x3 + 2) L) (hi3 : vp_in (x3 + 3) L)
    (kk : ∀ (wX2 wM2 : AW), Rel2 wX2 wM2 → ∀ (H : Heap) (locs : List Loc) (ls : Array Slot), lw_S s D cy adX adM wX2 wM2 H locs → lv_has ls 4 [(3, .int x3), (0, .ref b), (1, .ref (adX 0 0)), (2, .ref (adM 0 0))] → W p l e room_1 s m #[Value.ref b] below meth c H locs 108 17627 (lw_Z below #[Value.ref b] s) (F0 m 914 ls [])) : W p l e room_1 s m #[Value.ref b] below meth c H locs 108 17627 (lw_Z below #[Value.ref b] s) (F0 m 214 ls []) := by
  obtain ⟨hx, hb, hml, hown, hts, -, -, -, -, -, -, -⟩ := id hF
  obtain ⟨r, r2, wX2, wM2, h1, h2, hR2⟩ := hPub wX wM hR (xs (x3 + 1).toNatClampNeg) (xs (x3 + 2).toNatClampNeg)
  refine lv_aload_n hx hb dL_law_214 rfl (lv_at hl 2 rfl) ?_
  refine lv_aload_n hx hb dL_law_215 rfl (lv_at hl 1 rfl) ?_
  refine lv_iload_n hx hb dL_law_216 rfl (lv_at hl 0 rfl) ?_
  refine lv_iconst (v := 1) hx hb dL_law_217 (by decide) ?_
  refine lv_iadd hx hb dL_law_218 ?_
  refine va_sld hx hb hX hbl (Nat.not_le.mpr hbl) hSt.2.2.2.2 hi1 dL_law_219 ?_
  refine lv_aload_n hx hb dL_law_220 rfl (lv_at hl 1 rfl) ?_
  refine lv_iload_n hx hb dL_law_221 rfl (lv_at hl 0 rfl) ?_
  refine lv_iconst (v := 2) hx hb dL_law_222 (by decide) ?_
  refine lv_iadd hx hb dL_law_223 ?_
  refine va_sld hx hb hX hbl (Nat.not_le.mpr hbl) hSt.2.2.2.2 hi2 dL_law_224 ?_
  refine lw_callX (rest := []) KX5_atom [vI (xs (x3 + 1).toNatClampNeg), vI (xs (x3 + 2).toNatClampNeg)] hF hSt hl.1 dL_law_225 eL_23 rfl mok_X5_atom mw_X5_atom ⟨Nat.le_of_ble_eq_true rfl, Nat.le_of_ble_eq_true rfl⟩ (met_X5_atom h1) rfl (Nat.le_of_ble_eq_true rfl) (fun H locs hSn => ?_)
  clear hSt
  have hSt := hSn
  clear hSn
  refine lv_pop hx hb dL_law_228 rfl ?_
  refine lv_aload_n hx hb dL_law_229 rfl (lv_at hl 3 rfl) ?_
  refine lv_aload_n hx hb dL_law_230 rfl (lv_at hl 1 rfl) ?_
  refine lv_iload_n hx hb dL_law_231 rfl (lv_at hl 0 rfl) ?_
  refine lv_iconst (v := 1) hx hb dL_law_232 (by decide) ?_
  refine lv_iadd hx hb dL_law_233 ?_
  refine va_sld hx hb hX hbl (Nat.not_le.mpr hbl) hSt.2.2.2.2 hi1 dL_law_234 ?_
  refine lv_aload_n hx hb dL_law_235 rfl (lv_at hl 1 rfl) ?_
  refine lv_iload_n hx hb dL_law_236 rfl (lv_at hl 0 rfl) ?_
  refine lv_iconst (v := 2) hx hb dL_law_237 (by decide) ?_
  refine lv_iadd hx hb dL_law_238 ?_
  refine va_sld hx hb hX hbl (Nat.not_le.mpr hbl) hSt.2.2.2.2 hi2 dL_law_239 ?_
  refine lw_callM (rest := []) KX6_atom [vI (xs (x3 + 1).toNatClampNeg), vI (xs (x3 + 2).toNatClampNeg)] hF hSt hl.1 dL_law_240 eL_27 rfl mok_X6_atom mw_X6_atom ⟨Nat.le_of_ble_eq_true rfl, Nat.le_of_ble_eq_true rfl⟩ (met_X6_atom h2) rfl (Nat.le_of_ble_eq_true rfl) (fun H locs hSn => ?_)
  clear hSt
  have hSt := hSn
  clear hSn
  refine lv_pop hx hb dL_law_243 rfl ?_
  refine lv_goto (tgt := 914) hx hb dL_law_244 (by decide) ?_
  exact kk wX2 wM2 hR2 H locs ls hSt hl
set_option maxHeartbeats 4000000 in
set_option maxRecDepth 100000 in
theorem lw_case_3 {Rel Rel2 : AW → AW → Prop} {wX wM : AW} {H : Heap} {locs : List Loc} {ls : Array Slot} {x3 : Int32} (hPub : PubV_seen Rel Rel2) (hR : Rel wX wM) (hF : lw_F p s m c b D cy adX adM) (hX : va_X b L xs s s.heap) (hbl : b < s.heap.size) (hSt : lw_S s D cy adX adM wX wM H locs) (hl : lv_has ls 4 [(3, .int x3), (0, .ref b), (1, .ref (adX 0 0)), (2, .ref (adM 0 0))]) (hi1 : vp_in (x3 + 1) L) (hi2 : vp_in (x3 + 2) L) (hi3 : vp_in (x3 + 3) L)
    (kk : ∀ (wX2 wM2 : AW), Rel2 wX2 wM2 → ∀ (H : Heap) (locs : List Loc) (ls : Array Slot), lw_S s D cy adX adM wX2 wM2 H locs → lv_has ls 4 [(3, .int x3), (0, .ref b), (1, .ref (adX 0 0)), (2, .ref (adM 0 0))] → W p l e room_1 s m #[Value.ref b] below meth c H locs 108 17627 (lw_Z below #[Value.ref b] s) (F0 m 914 ls [])) : W p l e room_1 s m #[Value.ref b] below meth c H locs 108 17627 (lw_Z below #[Value.ref b] s) (F0 m 247 ls []) := by
  obtain ⟨hx, hb, hml, hown, hts, -, -, -, -, -, -, -⟩ := id hF
  obtain ⟨r, r2, wX2, wM2, h1, h2, hR2⟩ := hPub wX wM hR (xs (x3 + 1).toNatClampNeg) (xs (x3 + 2).toNatClampNeg)
  refine lv_aload_n hx hb dL_law_247 rfl (lv_at hl 2 rfl) ?_
  refine lv_aload_n hx hb dL_law_248 rfl (lv_at hl 1 rfl) ?_
  refine lv_iload_n hx hb dL_law_249 rfl (lv_at hl 0 rfl) ?_
  refine lv_iconst (v := 1) hx hb dL_law_250 (by decide) ?_
  refine lv_iadd hx hb dL_law_251 ?_
  refine va_sld hx hb hX hbl (Nat.not_le.mpr hbl) hSt.2.2.2.2 hi1 dL_law_252 ?_
  refine lv_aload_n hx hb dL_law_253 rfl (lv_at hl 1 rfl) ?_
  refine lv_iload_n hx hb dL_law_254 rfl (lv_at hl 0 rfl) ?_
  refine lv_iconst (v := 2) hx hb dL_law_255 (by decide) ?_
  refine lv_iadd hx hb dL_law_256 ?_
  refine va_sld hx hb hX hbl (Nat.not_le.mpr hbl) hSt.2.2.2.2 hi2 dL_law_257 ?_
  refine lw_callX (rest := []) KX5_seen [vI (xs (x3 + 1).toNatClampNeg), vI (xs (x3 + 2).toNatClampNeg)] hF hSt hl.1 dL_law_258 eL_28 rfl mok_X5_seen mw_X5_seen ⟨Nat.le_of_ble_eq_true rfl, Nat.le_of_ble_eq_true rfl⟩ (met_X5_seen h1) rfl (Nat.le_of_ble_eq_true rfl) (fun H locs hSn => ?_)
  clear hSt
  have hSt := hSn
  clear hSn
  refine lv_pop hx hb dL_law_261 rfl ?_
  refine lv_aload_n hx hb dL_law_262 rfl (lv_at hl 3 rfl) ?_
  refine lv_aload_n hx hb dL_law_263 rfl (lv_at hl 1 rfl) ?_
  refine lv_iload_n hx hb dL_law_264 rfl (lv_at hl 0 rfl) ?_
  refine lv_iconst (v := 1) hx hb dL_law_265 (by decide) ?_
  refine lv_iadd hx hb dL_law_266 ?_
  refine va_sld hx hb hX hbl (Nat.not_le.mpr hbl) hSt.2.2.2.2 hi1 dL_law_267 ?_
  refine lv_aload_n hx hb dL_law_268 rfl (lv_at hl 1 rfl) ?_
  refine lv_iload_n hx hb dL_law_269 rfl (lv_at hl 0 rfl) ?_
  refine lv_iconst (v := 2) hx hb dL_law_270 (by decide) ?_
  refine lv_iadd hx hb dL_law_271 ?_
  refine va_sld hx hb hX hbl (Nat.not_le.mpr hbl) hSt.2.2.2.2 hi2 dL_law_272 ?_
  refine lw_callM (rest := []) KX6_seen [vI (xs (x3 + 1).toNatClampNeg), vI (xs (x3 + 2).toNatClampNeg)] hF hSt hl.1 dL_law_273 eL_31 rfl mok_X6_seen mw_X6_seen ⟨Nat.le_of_ble_eq_true rfl, Nat.le_of_ble_eq_true rfl⟩ (met_X6_seen h2) rfl (Nat.le_of_ble_eq_true rfl) (fun H locs hSn => ?_)
  clear hSt
  have hSt := hSn
  clear hSn
  refine lv_pop hx hb dL_law_276 rfl ?_
  refine lv_goto (tgt := 914) hx hb dL_law_277 (by decide) ?_
  exact kk wX2 wM2 hR2 H locs ls hSt hl
set_option maxHeartbeats 4000000 in
set_option maxRecDepth 100000 in
theorem lw_case_4 {Rel Rel2 : AW → AW → Prop} {wX wM : AW} {H : Heap} {locs : List Loc} {ls : Array Slot} {x3 : Int32} (hPub : PubV_sorts Rel Rel2) (hR : Rel wX wM) (hF : lw_F p s m c b D cy adX adM) (hX : va_X b L xs s s.heap) (hbl : b < s.heap.size) (hSt : lw_S s D cy adX adM wX wM H locs) (hl : lv_has ls 4 [(3, .int x3), (0, .ref b), (1, .ref (adX 0 0)), (2, .ref (adM 0 0))]) (hi1 : vp_in (x3 + 1) L) (hi2 : vp_in (x3 + 2) L) (hi3 : vp_in (x3 + 3) L)
    (kk : ∀ (wX2 wM2 : AW), Rel2 wX2 wM2 → ∀ (H : Heap) (locs : List Loc) (ls : Array Slot), lw_S s D cy adX adM wX2 wM2 H locs → lv_has ls 4 [(3, .int x3), (0, .ref b), (1, .ref (adX 0 0)), (2, .ref (adM 0 0))] → W p l e room_1 s m #[Value.ref b] below meth c H locs 108 17627 (lw_Z below #[Value.ref b] s) (F0 m 914 ls [])) : W p l e room_1 s m #[Value.ref b] below meth c H locs 108 17627 (lw_Z below #[Value.ref b] s) (F0 m 280 ls []) := by
  obtain ⟨hx, hb, hml, hown, hts, -, -, -, -, -, -, -⟩ := id hF
  obtain ⟨r, r2, wX2, wM2, h1, h2, hR2⟩ := hPub wX wM hR
  refine lv_aload_n hx hb dL_law_280 rfl (lv_at hl 2 rfl) ?_
  refine lw_callX (rest := []) KX5_sorts [] hF hSt hl.1 dL_law_281 eL_32 rfl mok_X5_sorts mw_X5_sorts ⟨Nat.le_of_ble_eq_true rfl, Nat.le_of_ble_eq_true rfl⟩ (met_X5_sorts h1) rfl (Nat.le_of_ble_eq_true rfl) (fun H locs hSn => ?_)
  clear hSt
  have hSt := hSn
  clear hSn
  refine lv_pop hx hb dL_law_284 rfl ?_
  refine lv_aload_n hx hb dL_law_285 rfl (lv_at hl 3 rfl) ?_
  refine lw_callM (rest := []) KX6_sorts [] hF hSt hl.1 dL_law_286 eL_36 rfl mok_X6_sorts mw_X6_sorts ⟨Nat.le_of_ble_eq_true rfl, Nat.le_of_ble_eq_true rfl⟩ (met_X6_sorts h2) rfl (Nat.le_of_ble_eq_true rfl) (fun H locs hSn => ?_)
  clear hSt
  have hSt := hSn
  clear hSn
  refine lv_pop hx hb dL_law_289 rfl ?_
  refine lv_goto (tgt := 914) hx hb dL_law_290 (by decide) ?_
  exact kk wX2 wM2 hR2 H locs ls hSt hl
set_option maxHeartbeats 4000000 in
set_option maxRecDepth 100000 in
theorem lw_case_5 {Rel Rel2 : AW → AW → Prop} {wX wM : AW} {H : Heap} {locs : List Loc} {ls : Array Slot} {x3 : Int32} (hPub : PubV_type Rel Rel2) (hR : Rel wX wM) (hF : lw_F p s m c b D cy adX adM) (hX : va_X b L xs s s.heap) (hbl : b < s.heap.size) (hSt : lw_S s D cy adX adM wX wM H locs) (hl : lv_has ls 4 [(3, .int x3), (0, .ref b), (1, .ref (adX 0 0)), (2, .ref (adM 0 0))]) (hi1 : vp_in (x3 + 1) L) (hi2 : vp_in (x3 + 2) L) (hi3 : vp_in (x3 + 3) L)
    (kk : ∀ (wX2 wM2 : AW), Rel2 wX2 wM2 → ∀ (H : Heap) (locs : List Loc) (ls : Array Slot), lw_S s D cy adX adM wX2 wM2 H locs → lv_has ls 4 [(3, .int x3), (0, .ref b), (1, .ref (adX 0 0)), (2, .ref (adM 0 0))] → W p l e room_1 s m #[Value.ref b] below meth c H locs 108 17627 (lw_Z below #[Value.ref b] s) (F0 m 914 ls [])) : W p l e room_1 s m #[Value.ref b] below meth c H locs 108 17627 (lw_Z below #[Value.ref b] s) (F0 m 293 ls []) := by
  obtain ⟨hx, hb, hml, hown, hts, -, -, -, -, -, -, -⟩ := id hF
  obtain ⟨r, r2, wX2, wM2, h1, h2, hR2⟩ := hPub wX wM hR (((xs (x3 + 1).toNatClampNeg).toInt64 <<< ((32 : Int32).toInt64 &&& 63)) ||| ((xs (x3 + 2).toNatClampNeg).toInt64 &&& (4294967295 : Int64))) (xs (x3 + 3).toNatClampNeg)
  refine lv_aload_n hx hb dL_law_293 rfl (lv_at hl 2 rfl) ?_
  refine lv_aload_n hx hb dL_law_294 rfl (lv_at hl 1 rfl) ?_
  refine lv_iload_n hx hb dL_law_295 rfl (lv_at hl 0 rfl) ?_
  refine lv_iconst (v := 1) hx hb dL_law_296 (by decide) ?_
  refine lv_iadd hx hb dL_law_297 ?_
  refine va_sld hx hb hX hbl (Nat.not_le.mpr hbl) hSt.2.2.2.2 hi1 dL_law_298 ?_
  refine lv_i2l hx hb dL_law_299 rfl ?_
  refine lv_bipush (v := 32) hx hb dL_law_300 (by decide) ?_
  refine lv_lshl hx hb dL_law_302 rfl ?_
  refine lv_aload_n hx hb dL_law_303 rfl (lv_at hl 1 rfl) ?_
  refine lv_iload_n hx hb dL_law_304 rfl (lv_at hl 0 rfl) ?_
  refine lv_iconst (v := 2) hx hb dL_law_305 (by decide) ?_
  refine lv_iadd hx hb dL_law_306 ?_
  refine va_sld hx hb hX hbl (Nat.not_le.mpr hbl) hSt.2.2.2.2 hi2 dL_law_307 ?_
  refine lv_i2l hx hb dL_law_308 rfl ?_
  refine lv_ldc2 (v := 4294967295) hx hb hown (hts _ (am_inT (am_c36 (i := 24) rfl rfl))) dL_law_309 ?_
  refine lv_land hx hb dL_law_312 ?_
  refine lv_lor hx hb dL_law_313 ?_
  refine lv_aload_n hx hb dL_law_314 rfl (lv_at hl 1 rfl) ?_
  refine lv_iload_n hx hb dL_law_315 rfl (lv_at hl 0 rfl) ?_
  refine lv_iconst (v := 3) hx hb dL_law_316 (by decide) ?_
  refine lv_iadd hx hb dL_law_317 ?_
  refine va_sld hx hb hX hbl (Nat.not_le.mpr hbl) hSt.2.2.2.2 hi3 dL_law_318 ?_
  refine lw_callX (rest := []) KX5_type [vL (((xs (x3 + 1).toNatClampNeg).toInt64 <<< ((32 : Int32).toInt64 &&& 63)) ||| ((xs (x3 + 2).toNatClampNeg).toInt64 &&& (4294967295 : Int64))), vI (xs (x3 + 3).toNatClampNeg)] hF hSt hl.1 dL_law_319 eL_39 rfl mok_X5_type mw_X5_type ⟨Nat.le_of_ble_eq_true rfl, Nat.le_of_ble_eq_true rfl⟩ (met_X5_type h1) rfl (Nat.le_of_ble_eq_true rfl) (fun H locs hSn => ?_)
  clear hSt
  have hSt := hSn
  clear hSn
  refine lv_pop hx hb dL_law_322 rfl ?_
  refine lv_aload_n hx hb dL_law_323 rfl (lv_at hl 3 rfl) ?_
  refine lv_aload_n hx hb dL_law_324 rfl (lv_at hl 1 rfl) ?_
  refine lv_iload_n hx hb dL_law_325 rfl (lv_at hl 0 rfl) ?_
  refine lv_iconst (v := 1) hx hb dL_law_326 (by decide) ?_
  refine lv_iadd hx hb dL_law_327 ?_
  refine va_sld hx hb hX hbl (Nat.not_le.mpr hbl) hSt.2.2.2.2 hi1 dL_law_328 ?_
  refine lv_i2l hx hb dL_law_329 rfl ?_
  refine lv_bipush (v := 32) hx hb dL_law_330 (by decide) ?_
  refine lv_lshl hx hb dL_law_332 rfl ?_
  refine lv_aload_n hx hb dL_law_333 rfl (lv_at hl 1 rfl) ?_
  refine lv_iload_n hx hb dL_law_334 rfl (lv_at hl 0 rfl) ?_
  refine lv_iconst (v := 2) hx hb dL_law_335 (by decide) ?_
  refine lv_iadd hx hb dL_law_336 ?_
  refine va_sld hx hb hX hbl (Nat.not_le.mpr hbl) hSt.2.2.2.2 hi2 dL_law_337 ?_
  refine lv_i2l hx hb dL_law_338 rfl ?_
  refine lv_ldc2 (v := 4294967295) hx hb hown (hts _ (am_inT (am_c36 (i := 24) rfl rfl))) dL_law_339 ?_
  refine lv_land hx hb dL_law_342 ?_
  refine lv_lor hx hb dL_law_343 ?_
  refine lv_aload_n hx hb dL_law_344 rfl (lv_at hl 1 rfl) ?_
  refine lv_iload_n hx hb dL_law_345 rfl (lv_at hl 0 rfl) ?_
  refine lv_iconst (v := 3) hx hb dL_law_346 (by decide) ?_
  refine lv_iadd hx hb dL_law_347 ?_
  refine va_sld hx hb hX hbl (Nat.not_le.mpr hbl) hSt.2.2.2.2 hi3 dL_law_348 ?_
  refine lw_callM (rest := []) KX6_type [vL (((xs (x3 + 1).toNatClampNeg).toInt64 <<< ((32 : Int32).toInt64 &&& 63)) ||| ((xs (x3 + 2).toNatClampNeg).toInt64 &&& (4294967295 : Int64))), vI (xs (x3 + 3).toNatClampNeg)] hF hSt hl.1 dL_law_349 eL_43 rfl mok_X6_type mw_X6_type ⟨Nat.le_of_ble_eq_true rfl, Nat.le_of_ble_eq_true rfl⟩ (met_X6_type h2) rfl (Nat.le_of_ble_eq_true rfl) (fun H locs hSn => ?_)
  clear hSt
  have hSt := hSn
  clear hSn
  refine lv_pop hx hb dL_law_352 rfl ?_
  refine lv_goto (tgt := 914) hx hb dL_law_353 (by decide) ?_
  exact kk wX2 wM2 hR2 H locs ls hSt hl
set_option maxHeartbeats 4000000 in
set_option maxRecDepth 100000 in
theorem lw_case_6 {Rel Rel2 : AW → AW → Prop} {wX wM : AW} {H : Heap} {locs : List Loc} {ls : Array Slot} {x3 : Int32} (hPub : PubV_clear Rel Rel2) (hR : Rel wX wM) (hF : lw_F p s m c b D cy adX adM) (hX : va_X b L xs s s.heap) (hbl : b < s.heap.size) (hSt : lw_S s D cy adX adM wX wM H locs) (hl : lv_has ls 4 [(3, .int x3), (0, .ref b), (1, .ref (adX 0 0)), (2, .ref (adM 0 0))]) (hi1 : vp_in (x3 + 1) L) (hi2 : vp_in (x3 + 2) L) (hi3 : vp_in (x3 + 3) L)
    (kk : ∀ (wX2 wM2 : AW), Rel2 wX2 wM2 → ∀ (H : Heap) (locs : List Loc) (ls : Array Slot), lw_S s D cy adX adM wX2 wM2 H locs → lv_has ls 4 [(3, .int x3), (0, .ref b), (1, .ref (adX 0 0)), (2, .ref (adM 0 0))] → W p l e room_1 s m #[Value.ref b] below meth c H locs 108 17627 (lw_Z below #[Value.ref b] s) (F0 m 914 ls [])) : W p l e room_1 s m #[Value.ref b] below meth c H locs 108 17627 (lw_Z below #[Value.ref b] s) (F0 m 356 ls []) := by
  obtain ⟨hx, hb, hml, hown, hts, -, -, -, -, -, -, -⟩ := id hF
  obtain ⟨r, r2, wX2, wM2, h1, h2, hR2⟩ := hPub wX wM hR
  refine lv_aload_n hx hb dL_law_356 rfl (lv_at hl 2 rfl) ?_
  refine lw_callX (rest := []) KX5_clear [] hF hSt hl.1 dL_law_357 eL_44 rfl mok_X5_clear mw_X5_clear ⟨Nat.le_of_ble_eq_true rfl, Nat.le_of_ble_eq_true rfl⟩ (met_X5_clear h1) rfl (Nat.le_of_ble_eq_true rfl) (fun H locs hSn => ?_)
  clear hSt
  have hSt := hSn
  clear hSn
  refine lv_pop hx hb dL_law_360 rfl ?_
  refine lv_aload_n hx hb dL_law_361 rfl (lv_at hl 3 rfl) ?_
  refine lw_callM (rest := []) KX6_clear [] hF hSt hl.1 dL_law_362 eL_47 rfl mok_X6_clear mw_X6_clear ⟨Nat.le_of_ble_eq_true rfl, Nat.le_of_ble_eq_true rfl⟩ (met_X6_clear h2) rfl (Nat.le_of_ble_eq_true rfl) (fun H locs hSn => ?_)
  clear hSt
  have hSt := hSn
  clear hSn
  refine lv_pop hx hb dL_law_365 rfl ?_
  refine lv_goto (tgt := 914) hx hb dL_law_366 (by decide) ?_
  exact kk wX2 wM2 hR2 H locs ls hSt hl
set_option maxHeartbeats 4000000 in
set_option maxRecDepth 100000 in
theorem lw_case_7 {Rel Rel2 : AW → AW → Prop} {wX wM : AW} {H : Heap} {locs : List Loc} {ls : Array Slot} {x3 : Int32} (hPub : PubV_read Rel Rel2) (hR : Rel wX wM) (hF : lw_F p s m c b D cy adX adM) (hX : va_X b L xs s s.heap) (hbl : b < s.heap.size) (hSt : lw_S s D cy adX adM wX wM H locs) (hl : lv_has ls 4 [(3, .int x3), (0, .ref b), (1, .ref (adX 0 0)), (2, .ref (adM 0 0))]) (hi1 : vp_in (x3 + 1) L) (hi2 : vp_in (x3 + 2) L) (hi3 : vp_in (x3 + 3) L)
    (kk : ∀ (wX2 wM2 : AW), Rel2 wX2 wM2 → ∀ (H : Heap) (locs : List Loc) (ls : Array Slot), lw_S s D cy adX adM wX2 wM2 H locs → lv_has ls 4 [(3, .int x3), (0, .ref b), (1, .ref (adX 0 0)), (2, .ref (adM 0 0))] → W p l e room_1 s m #[Value.ref b] below meth c H locs 108 17627 (lw_Z below #[Value.ref b] s) (F0 m 914 ls [])) : W p l e room_1 s m #[Value.ref b] below meth c H locs 108 17627 (lw_Z below #[Value.ref b] s) (F0 m 369 ls []) := by
  obtain ⟨hx, hb, hml, hown, hts, -, -, -, -, -, -, -⟩ := id hF
  obtain ⟨r, r2, wX2, wM2, h1, h2, hR2⟩ := hPub wX wM hR (xs (x3 + 1).toNatClampNeg)
  refine lv_aload_n hx hb dL_law_369 rfl (lv_at hl 2 rfl) ?_
  refine lv_aload_n hx hb dL_law_370 rfl (lv_at hl 1 rfl) ?_
  refine lv_iload_n hx hb dL_law_371 rfl (lv_at hl 0 rfl) ?_
  refine lv_iconst (v := 1) hx hb dL_law_372 (by decide) ?_
  refine lv_iadd hx hb dL_law_373 ?_
  refine va_sld hx hb hX hbl (Nat.not_le.mpr hbl) hSt.2.2.2.2 hi1 dL_law_374 ?_
  refine lw_callX (rest := []) KX5_read [vI (xs (x3 + 1).toNatClampNeg)] hF hSt hl.1 dL_law_375 eL_48 rfl mok_X5_read mw_X5_read ⟨Nat.le_of_ble_eq_true rfl, Nat.le_of_ble_eq_true rfl⟩ (met_X5_read h1) rfl (Nat.le_of_ble_eq_true rfl) (fun H locs hSn => ?_)
  clear hSt
  have hSt := hSn
  clear hSn
  refine lv_pop hx hb dL_law_378 rfl ?_
  refine lv_aload_n hx hb dL_law_379 rfl (lv_at hl 3 rfl) ?_
  refine lv_aload_n hx hb dL_law_380 rfl (lv_at hl 1 rfl) ?_
  refine lv_iload_n hx hb dL_law_381 rfl (lv_at hl 0 rfl) ?_
  refine lv_iconst (v := 1) hx hb dL_law_382 (by decide) ?_
  refine lv_iadd hx hb dL_law_383 ?_
  refine va_sld hx hb hX hbl (Nat.not_le.mpr hbl) hSt.2.2.2.2 hi1 dL_law_384 ?_
  refine lw_callM (rest := []) KX6_read [vI (xs (x3 + 1).toNatClampNeg)] hF hSt hl.1 dL_law_385 eL_51 rfl mok_X6_read mw_X6_read ⟨Nat.le_of_ble_eq_true rfl, Nat.le_of_ble_eq_true rfl⟩ (met_X6_read h2) rfl (Nat.le_of_ble_eq_true rfl) (fun H locs hSn => ?_)
  clear hSt
  have hSt := hSn
  clear hSn
  refine lv_pop hx hb dL_law_388 rfl ?_
  refine lv_goto (tgt := 914) hx hb dL_law_389 (by decide) ?_
  exact kk wX2 wM2 hR2 H locs ls hSt hl
set_option maxHeartbeats 4000000 in
set_option maxRecDepth 100000 in
theorem lw_case_8 {Rel Rel2 : AW → AW → Prop} {wX wM : AW} {H : Heap} {locs : List Loc} {ls : Array Slot} {x3 : Int32} (hPub : PubV_about Rel Rel2) (hR : Rel wX wM) (hF : lw_F p s m c b D cy adX adM) (hX : va_X b L xs s s.heap) (hbl : b < s.heap.size) (hSt : lw_S s D cy adX adM wX wM H locs) (hl : lv_has ls 4 [(3, .int x3), (0, .ref b), (1, .ref (adX 0 0)), (2, .ref (adM 0 0))]) (hi1 : vp_in (x3 + 1) L) (hi2 : vp_in (x3 + 2) L) (hi3 : vp_in (x3 + 3) L)
    (kk : ∀ (wX2 wM2 : AW), Rel2 wX2 wM2 → ∀ (H : Heap) (locs : List Loc) (ls : Array Slot), lw_S s D cy adX adM wX2 wM2 H locs → lv_has ls 4 [(3, .int x3), (0, .ref b), (1, .ref (adX 0 0)), (2, .ref (adM 0 0))] → W p l e room_1 s m #[Value.ref b] below meth c H locs 108 17627 (lw_Z below #[Value.ref b] s) (F0 m 914 ls [])) : W p l e room_1 s m #[Value.ref b] below meth c H locs 108 17627 (lw_Z below #[Value.ref b] s) (F0 m 392 ls []) := by
  obtain ⟨hx, hb, hml, hown, hts, -, -, -, -, -, -, -⟩ := id hF
  obtain ⟨r, r2, wX2, wM2, h1, h2, hR2⟩ := hPub wX wM hR (xs (x3 + 1).toNatClampNeg) (xs (x3 + 2).toNatClampNeg)
  refine lv_aload_n hx hb dL_law_392 rfl (lv_at hl 2 rfl) ?_
  refine lv_aload_n hx hb dL_law_393 rfl (lv_at hl 1 rfl) ?_
  refine lv_iload_n hx hb dL_law_394 rfl (lv_at hl 0 rfl) ?_
  refine lv_iconst (v := 1) hx hb dL_law_395 (by decide) ?_
  refine lv_iadd hx hb dL_law_396 ?_
  refine va_sld hx hb hX hbl (Nat.not_le.mpr hbl) hSt.2.2.2.2 hi1 dL_law_397 ?_
  refine lv_aload_n hx hb dL_law_398 rfl (lv_at hl 1 rfl) ?_
  refine lv_iload_n hx hb dL_law_399 rfl (lv_at hl 0 rfl) ?_
  refine lv_iconst (v := 2) hx hb dL_law_400 (by decide) ?_
  refine lv_iadd hx hb dL_law_401 ?_
  refine va_sld hx hb hX hbl (Nat.not_le.mpr hbl) hSt.2.2.2.2 hi2 dL_law_402 ?_
  refine lw_callX (rest := []) KX5_about [vI (xs (x3 + 1).toNatClampNeg), vI (xs (x3 + 2).toNatClampNeg)] hF hSt hl.1 dL_law_403 eL_52 rfl mok_X5_about mw_X5_about ⟨Nat.le_of_ble_eq_true rfl, Nat.le_of_ble_eq_true rfl⟩ (met_X5_about h1) rfl (Nat.le_of_ble_eq_true rfl) (fun H locs hSn => ?_)
  clear hSt
  have hSt := hSn
  clear hSn
  refine lv_pop hx hb dL_law_406 rfl ?_
  refine lv_aload_n hx hb dL_law_407 rfl (lv_at hl 3 rfl) ?_
  refine lv_aload_n hx hb dL_law_408 rfl (lv_at hl 1 rfl) ?_
  refine lv_iload_n hx hb dL_law_409 rfl (lv_at hl 0 rfl) ?_
  refine lv_iconst (v := 1) hx hb dL_law_410 (by decide) ?_
  refine lv_iadd hx hb dL_law_411 ?_
  refine va_sld hx hb hX hbl (Nat.not_le.mpr hbl) hSt.2.2.2.2 hi1 dL_law_412 ?_
  refine lv_aload_n hx hb dL_law_413 rfl (lv_at hl 1 rfl) ?_
  refine lv_iload_n hx hb dL_law_414 rfl (lv_at hl 0 rfl) ?_
  refine lv_iconst (v := 2) hx hb dL_law_415 (by decide) ?_
  refine lv_iadd hx hb dL_law_416 ?_
  refine va_sld hx hb hX hbl (Nat.not_le.mpr hbl) hSt.2.2.2.2 hi2 dL_law_417 ?_
  refine lw_callM (rest := []) KX6_about [vI (xs (x3 + 1).toNatClampNeg), vI (xs (x3 + 2).toNatClampNeg)] hF hSt hl.1 dL_law_418 eL_55 rfl mok_X6_about mw_X6_about ⟨Nat.le_of_ble_eq_true rfl, Nat.le_of_ble_eq_true rfl⟩ (met_X6_about h2) rfl (Nat.le_of_ble_eq_true rfl) (fun H locs hSn => ?_)
  clear hSt
  have hSt := hSn
  clear hSn
  refine lv_pop hx hb dL_law_421 rfl ?_
  refine lv_goto (tgt := 914) hx hb dL_law_422 (by decide) ?_
  exact kk wX2 wM2 hR2 H locs ls hSt hl
set_option maxHeartbeats 4000000 in
set_option maxRecDepth 100000 in
theorem lw_case_9 {Rel Rel2 : AW → AW → Prop} {wX wM : AW} {H : Heap} {locs : List Loc} {ls : Array Slot} {x3 : Int32} (hPub : PubV_holds Rel Rel2) (hR : Rel wX wM) (hF : lw_F p s m c b D cy adX adM) (hX : va_X b L xs s s.heap) (hbl : b < s.heap.size) (hSt : lw_S s D cy adX adM wX wM H locs) (hl : lv_has ls 4 [(3, .int x3), (0, .ref b), (1, .ref (adX 0 0)), (2, .ref (adM 0 0))]) (hi1 : vp_in (x3 + 1) L) (hi2 : vp_in (x3 + 2) L) (hi3 : vp_in (x3 + 3) L)
    (kk : ∀ (wX2 wM2 : AW), Rel2 wX2 wM2 → ∀ (H : Heap) (locs : List Loc) (ls : Array Slot), lw_S s D cy adX adM wX2 wM2 H locs → lv_has ls 4 [(3, .int x3), (0, .ref b), (1, .ref (adX 0 0)), (2, .ref (adM 0 0))] → W p l e room_1 s m #[Value.ref b] below meth c H locs 108 17627 (lw_Z below #[Value.ref b] s) (F0 m 914 ls [])) : W p l e room_1 s m #[Value.ref b] below meth c H locs 108 17627 (lw_Z below #[Value.ref b] s) (F0 m 425 ls []) := by
  obtain ⟨hx, hb, hml, hown, hts, -, -, -, -, -, -, -⟩ := id hF
  obtain ⟨r, r2, wX2, wM2, h1, h2, hR2⟩ := hPub wX wM hR (xs (x3 + 1).toNatClampNeg) (xs (x3 + 2).toNatClampNeg)
  refine lv_aload_n hx hb dL_law_425 rfl (lv_at hl 2 rfl) ?_
  refine lv_aload_n hx hb dL_law_426 rfl (lv_at hl 1 rfl) ?_
  refine lv_iload_n hx hb dL_law_427 rfl (lv_at hl 0 rfl) ?_
  refine lv_iconst (v := 1) hx hb dL_law_428 (by decide) ?_
  refine lv_iadd hx hb dL_law_429 ?_
  refine va_sld hx hb hX hbl (Nat.not_le.mpr hbl) hSt.2.2.2.2 hi1 dL_law_430 ?_
  refine lv_aload_n hx hb dL_law_431 rfl (lv_at hl 1 rfl) ?_
  refine lv_iload_n hx hb dL_law_432 rfl (lv_at hl 0 rfl) ?_
  refine lv_iconst (v := 2) hx hb dL_law_433 (by decide) ?_
  refine lv_iadd hx hb dL_law_434 ?_
  refine va_sld hx hb hX hbl (Nat.not_le.mpr hbl) hSt.2.2.2.2 hi2 dL_law_435 ?_
  refine lw_callX (rest := []) KX5_holds [vI (xs (x3 + 1).toNatClampNeg), vI (xs (x3 + 2).toNatClampNeg)] hF hSt hl.1 dL_law_436 eL_56 rfl mok_X5_holds mw_X5_holds ⟨Nat.le_of_ble_eq_true rfl, Nat.le_of_ble_eq_true rfl⟩ (met_X5_holds h1) rfl (Nat.le_of_ble_eq_true rfl) (fun H locs hSn => ?_)
  clear hSt
  have hSt := hSn
  clear hSn
  refine lv_pop hx hb dL_law_439 rfl ?_
  refine lv_aload_n hx hb dL_law_440 rfl (lv_at hl 3 rfl) ?_
  refine lv_aload_n hx hb dL_law_441 rfl (lv_at hl 1 rfl) ?_
  refine lv_iload_n hx hb dL_law_442 rfl (lv_at hl 0 rfl) ?_
  refine lv_iconst (v := 1) hx hb dL_law_443 (by decide) ?_
  refine lv_iadd hx hb dL_law_444 ?_
  refine va_sld hx hb hX hbl (Nat.not_le.mpr hbl) hSt.2.2.2.2 hi1 dL_law_445 ?_
  refine lv_aload_n hx hb dL_law_446 rfl (lv_at hl 1 rfl) ?_
  refine lv_iload_n hx hb dL_law_447 rfl (lv_at hl 0 rfl) ?_
  refine lv_iconst (v := 2) hx hb dL_law_448 (by decide) ?_
  refine lv_iadd hx hb dL_law_449 ?_
  refine va_sld hx hb hX hbl (Nat.not_le.mpr hbl) hSt.2.2.2.2 hi2 dL_law_450 ?_
  refine lw_callM (rest := []) KX6_holds [vI (xs (x3 + 1).toNatClampNeg), vI (xs (x3 + 2).toNatClampNeg)] hF hSt hl.1 dL_law_451 eL_59 rfl mok_X6_holds mw_X6_holds ⟨Nat.le_of_ble_eq_true rfl, Nat.le_of_ble_eq_true rfl⟩ (met_X6_holds h2) rfl (Nat.le_of_ble_eq_true rfl) (fun H locs hSn => ?_)
  clear hSt
  have hSt := hSn
  clear hSn
  refine lv_pop hx hb dL_law_454 rfl ?_
  refine lv_goto (tgt := 914) hx hb dL_law_455 (by decide) ?_
  exact kk wX2 wM2 hR2 H locs ls hSt hl
set_option maxHeartbeats 4000000 in
set_option maxRecDepth 100000 in
theorem lw_case_10 {Rel Rel2 : AW → AW → Prop} {wX wM : AW} {H : Heap} {locs : List Loc} {ls : Array Slot} {x3 : Int32} (hPub : PubV_sure Rel Rel2) (hR : Rel wX wM) (hF : lw_F p s m c b D cy adX adM) (hX : va_X b L xs s s.heap) (hbl : b < s.heap.size) (hSt : lw_S s D cy adX adM wX wM H locs) (hl : lv_has ls 4 [(3, .int x3), (0, .ref b), (1, .ref (adX 0 0)), (2, .ref (adM 0 0))]) (hi1 : vp_in (x3 + 1) L) (hi2 : vp_in (x3 + 2) L) (hi3 : vp_in (x3 + 3) L)
    (kk : ∀ (wX2 wM2 : AW), Rel2 wX2 wM2 → ∀ (H : Heap) (locs : List Loc) (ls : Array Slot), lw_S s D cy adX adM wX2 wM2 H locs → lv_has ls 4 [(3, .int x3), (0, .ref b), (1, .ref (adX 0 0)), (2, .ref (adM 0 0))] → W p l e room_1 s m #[Value.ref b] below meth c H locs 108 17627 (lw_Z below #[Value.ref b] s) (F0 m 914 ls [])) : W p l e room_1 s m #[Value.ref b] below meth c H locs 108 17627 (lw_Z below #[Value.ref b] s) (F0 m 458 ls []) := by
  obtain ⟨hx, hb, hml, hown, hts, -, -, -, -, -, -, -⟩ := id hF
  obtain ⟨r, r2, wX2, wM2, h1, h2, hR2⟩ := hPub wX wM hR (xs (x3 + 1).toNatClampNeg) (xs (x3 + 2).toNatClampNeg)
  refine lv_aload_n hx hb dL_law_458 rfl (lv_at hl 2 rfl) ?_
  refine lv_aload_n hx hb dL_law_459 rfl (lv_at hl 1 rfl) ?_
  refine lv_iload_n hx hb dL_law_460 rfl (lv_at hl 0 rfl) ?_
  refine lv_iconst (v := 1) hx hb dL_law_461 (by decide) ?_
  refine lv_iadd hx hb dL_law_462 ?_
  refine va_sld hx hb hX hbl (Nat.not_le.mpr hbl) hSt.2.2.2.2 hi1 dL_law_463 ?_
  refine lv_aload_n hx hb dL_law_464 rfl (lv_at hl 1 rfl) ?_
  refine lv_iload_n hx hb dL_law_465 rfl (lv_at hl 0 rfl) ?_
  refine lv_iconst (v := 2) hx hb dL_law_466 (by decide) ?_
  refine lv_iadd hx hb dL_law_467 ?_
  refine va_sld hx hb hX hbl (Nat.not_le.mpr hbl) hSt.2.2.2.2 hi2 dL_law_468 ?_
  refine lw_callX (rest := []) KX5_sure [vI (xs (x3 + 1).toNatClampNeg), vI (xs (x3 + 2).toNatClampNeg)] hF hSt hl.1 dL_law_469 eL_60 rfl mok_X5_sure mw_X5_sure ⟨Nat.le_of_ble_eq_true rfl, Nat.le_of_ble_eq_true rfl⟩ (met_X5_sure h1) rfl (Nat.le_of_ble_eq_true rfl) (fun H locs hSn => ?_)
  clear hSt
  have hSt := hSn
  clear hSn
  refine lv_pop hx hb dL_law_472 rfl ?_
  refine lv_aload_n hx hb dL_law_473 rfl (lv_at hl 3 rfl) ?_
  refine lv_aload_n hx hb dL_law_474 rfl (lv_at hl 1 rfl) ?_
  refine lv_iload_n hx hb dL_law_475 rfl (lv_at hl 0 rfl) ?_
  refine lv_iconst (v := 1) hx hb dL_law_476 (by decide) ?_
  refine lv_iadd hx hb dL_law_477 ?_
  refine va_sld hx hb hX hbl (Nat.not_le.mpr hbl) hSt.2.2.2.2 hi1 dL_law_478 ?_
  refine lv_aload_n hx hb dL_law_479 rfl (lv_at hl 1 rfl) ?_
  refine lv_iload_n hx hb dL_law_480 rfl (lv_at hl 0 rfl) ?_
  refine lv_iconst (v := 2) hx hb dL_law_481 (by decide) ?_
  refine lv_iadd hx hb dL_law_482 ?_
  refine va_sld hx hb hX hbl (Nat.not_le.mpr hbl) hSt.2.2.2.2 hi2 dL_law_483 ?_
  refine lw_callM (rest := []) KX6_sure [vI (xs (x3 + 1).toNatClampNeg), vI (xs (x3 + 2).toNatClampNeg)] hF hSt hl.1 dL_law_484 eL_63 rfl mok_X6_sure mw_X6_sure ⟨Nat.le_of_ble_eq_true rfl, Nat.le_of_ble_eq_true rfl⟩ (met_X6_sure h2) rfl (Nat.le_of_ble_eq_true rfl) (fun H locs hSn => ?_)
  clear hSt
  have hSt := hSn
  clear hSn
  refine lv_pop hx hb dL_law_487 rfl ?_
  refine lv_goto (tgt := 914) hx hb dL_law_488 (by decide) ?_
  exact kk wX2 wM2 hR2 H locs ls hSt hl
set_option maxHeartbeats 4000000 in
set_option maxRecDepth 100000 in
theorem lw_case_11 {Rel Rel2 : AW → AW → Prop} {wX wM : AW} {H : Heap} {locs : List Loc} {ls : Array Slot} {x3 : Int32} (hPub : PubV_logic Rel Rel2) (hR : Rel wX wM) (hF : lw_F p s m c b D cy adX adM) (hX : va_X b L xs s s.heap) (hbl : b < s.heap.size) (hSt : lw_S s D cy adX adM wX wM H locs) (hl : lv_has ls 4 [(3, .int x3), (0, .ref b), (1, .ref (adX 0 0)), (2, .ref (adM 0 0))]) (hi1 : vp_in (x3 + 1) L) (hi2 : vp_in (x3 + 2) L) (hi3 : vp_in (x3 + 3) L)
    (kk : ∀ (wX2 wM2 : AW), Rel2 wX2 wM2 → ∀ (H : Heap) (locs : List Loc) (ls : Array Slot), lw_S s D cy adX adM wX2 wM2 H locs → lv_has ls 4 [(3, .int x3), (0, .ref b), (1, .ref (adX 0 0)), (2, .ref (adM 0 0))] → W p l e room_1 s m #[Value.ref b] below meth c H locs 108 17627 (lw_Z below #[Value.ref b] s) (F0 m 914 ls [])) : W p l e room_1 s m #[Value.ref b] below meth c H locs 108 17627 (lw_Z below #[Value.ref b] s) (F0 m 491 ls []) := by
  obtain ⟨hx, hb, hml, hown, hts, -, -, -, -, -, -, -⟩ := id hF
  obtain ⟨r, r2, wX2, wM2, h1, h2, hR2⟩ := hPub wX wM hR (xs (x3 + 1).toNatClampNeg) (xs (x3 + 2).toNatClampNeg) (xs (x3 + 3).toNatClampNeg)
  refine lv_aload_n hx hb dL_law_491 rfl (lv_at hl 2 rfl) ?_
  refine lv_aload_n hx hb dL_law_492 rfl (lv_at hl 1 rfl) ?_
  refine lv_iload_n hx hb dL_law_493 rfl (lv_at hl 0 rfl) ?_
  refine lv_iconst (v := 1) hx hb dL_law_494 (by decide) ?_
  refine lv_iadd hx hb dL_law_495 ?_
  refine va_sld hx hb hX hbl (Nat.not_le.mpr hbl) hSt.2.2.2.2 hi1 dL_law_496 ?_
  refine lv_aload_n hx hb dL_law_497 rfl (lv_at hl 1 rfl) ?_
  refine lv_iload_n hx hb dL_law_498 rfl (lv_at hl 0 rfl) ?_
  refine lv_iconst (v := 2) hx hb dL_law_499 (by decide) ?_
  refine lv_iadd hx hb dL_law_500 ?_
  refine va_sld hx hb hX hbl (Nat.not_le.mpr hbl) hSt.2.2.2.2 hi2 dL_law_501 ?_
  refine lv_aload_n hx hb dL_law_502 rfl (lv_at hl 1 rfl) ?_
  refine lv_iload_n hx hb dL_law_503 rfl (lv_at hl 0 rfl) ?_
  refine lv_iconst (v := 3) hx hb dL_law_504 (by decide) ?_
  refine lv_iadd hx hb dL_law_505 ?_
  refine va_sld hx hb hX hbl (Nat.not_le.mpr hbl) hSt.2.2.2.2 hi3 dL_law_506 ?_
  refine lw_callX (rest := []) KX5_logic [vI (xs (x3 + 1).toNatClampNeg), vI (xs (x3 + 2).toNatClampNeg), vI (xs (x3 + 3).toNatClampNeg)] hF hSt hl.1 dL_law_507 eL_64 rfl mok_X5_logic mw_X5_logic ⟨Nat.le_of_ble_eq_true rfl, Nat.le_of_ble_eq_true rfl⟩ (met_X5_logic h1) rfl (Nat.le_of_ble_eq_true rfl) (fun H locs hSn => ?_)
  clear hSt
  have hSt := hSn
  clear hSn
  refine lv_pop hx hb dL_law_510 rfl ?_
  refine lv_aload_n hx hb dL_law_511 rfl (lv_at hl 3 rfl) ?_
  refine lv_aload_n hx hb dL_law_512 rfl (lv_at hl 1 rfl) ?_
  refine lv_iload_n hx hb dL_law_513 rfl (lv_at hl 0 rfl) ?_
  refine lv_iconst (v := 1) hx hb dL_law_514 (by decide) ?_
  refine lv_iadd hx hb dL_law_515 ?_
  refine va_sld hx hb hX hbl (Nat.not_le.mpr hbl) hSt.2.2.2.2 hi1 dL_law_516 ?_
  refine lv_aload_n hx hb dL_law_517 rfl (lv_at hl 1 rfl) ?_
  refine lv_iload_n hx hb dL_law_518 rfl (lv_at hl 0 rfl) ?_
  refine lv_iconst (v := 2) hx hb dL_law_519 (by decide) ?_
  refine lv_iadd hx hb dL_law_520 ?_
  refine va_sld hx hb hX hbl (Nat.not_le.mpr hbl) hSt.2.2.2.2 hi2 dL_law_521 ?_
  refine lv_aload_n hx hb dL_law_522 rfl (lv_at hl 1 rfl) ?_
  refine lv_iload_n hx hb dL_law_523 rfl (lv_at hl 0 rfl) ?_
  refine lv_iconst (v := 3) hx hb dL_law_524 (by decide) ?_
  refine lv_iadd hx hb dL_law_525 ?_
  refine va_sld hx hb hX hbl (Nat.not_le.mpr hbl) hSt.2.2.2.2 hi3 dL_law_526 ?_
  refine lw_callM (rest := []) KX6_logic [vI (xs (x3 + 1).toNatClampNeg), vI (xs (x3 + 2).toNatClampNeg), vI (xs (x3 + 3).toNatClampNeg)] hF hSt hl.1 dL_law_527 eL_67 rfl mok_X6_logic mw_X6_logic ⟨Nat.le_of_ble_eq_true rfl, Nat.le_of_ble_eq_true rfl⟩ (met_X6_logic h2) rfl (Nat.le_of_ble_eq_true rfl) (fun H locs hSn => ?_)
  clear hSt
  have hSt := hSn
  clear hSn
  refine lv_pop hx hb dL_law_530 rfl ?_
  refine lv_goto (tgt := 914) hx hb dL_law_531 (by decide) ?_
  exact kk wX2 wM2 hR2 H locs ls hSt hl
set_option maxHeartbeats 4000000 in
set_option maxRecDepth 100000 in
theorem lw_case_12 {Rel Rel2 : AW → AW → Prop} {wX wM : AW} {H : Heap} {locs : List Loc} {ls : Array Slot} {x3 : Int32} (hPub : PubV_falls Rel Rel2) (hR : Rel wX wM) (hF : lw_F p s m c b D cy adX adM) (hX : va_X b L xs s s.heap) (hbl : b < s.heap.size) (hSt : lw_S s D cy adX adM wX wM H locs) (hl : lv_has ls 4 [(3, .int x3), (0, .ref b), (1, .ref (adX 0 0)), (2, .ref (adM 0 0))]) (hi1 : vp_in (x3 + 1) L) (hi2 : vp_in (x3 + 2) L) (hi3 : vp_in (x3 + 3) L)
    (kk : ∀ (wX2 wM2 : AW), Rel2 wX2 wM2 → ∀ (H : Heap) (locs : List Loc) (ls : Array Slot), lw_S s D cy adX adM wX2 wM2 H locs → lv_has ls 4 [(3, .int x3), (0, .ref b), (1, .ref (adX 0 0)), (2, .ref (adM 0 0))] → W p l e room_1 s m #[Value.ref b] below meth c H locs 108 17627 (lw_Z below #[Value.ref b] s) (F0 m 914 ls [])) : W p l e room_1 s m #[Value.ref b] below meth c H locs 108 17627 (lw_Z below #[Value.ref b] s) (F0 m 534 ls []) := by
  obtain ⟨hx, hb, hml, hown, hts, -, -, -, -, -, -, -⟩ := id hF
  obtain ⟨r, r2, wX2, wM2, h1, h2, hR2⟩ := hPub wX wM hR (xs (x3 + 1).toNatClampNeg) (xs (x3 + 2).toNatClampNeg) (xs (x3 + 3).toNatClampNeg)
  refine lv_aload_n hx hb dL_law_534 rfl (lv_at hl 2 rfl) ?_
  refine lv_aload_n hx hb dL_law_535 rfl (lv_at hl 1 rfl) ?_
  refine lv_iload_n hx hb dL_law_536 rfl (lv_at hl 0 rfl) ?_
  refine lv_iconst (v := 1) hx hb dL_law_537 (by decide) ?_
  refine lv_iadd hx hb dL_law_538 ?_
  refine va_sld hx hb hX hbl (Nat.not_le.mpr hbl) hSt.2.2.2.2 hi1 dL_law_539 ?_
  refine lv_aload_n hx hb dL_law_540 rfl (lv_at hl 1 rfl) ?_
  refine lv_iload_n hx hb dL_law_541 rfl (lv_at hl 0 rfl) ?_
  refine lv_iconst (v := 2) hx hb dL_law_542 (by decide) ?_
  refine lv_iadd hx hb dL_law_543 ?_
  refine va_sld hx hb hX hbl (Nat.not_le.mpr hbl) hSt.2.2.2.2 hi2 dL_law_544 ?_
  refine lv_aload_n hx hb dL_law_545 rfl (lv_at hl 1 rfl) ?_
  refine lv_iload_n hx hb dL_law_546 rfl (lv_at hl 0 rfl) ?_
  refine lv_iconst (v := 3) hx hb dL_law_547 (by decide) ?_
  refine lv_iadd hx hb dL_law_548 ?_
  refine va_sld hx hb hX hbl (Nat.not_le.mpr hbl) hSt.2.2.2.2 hi3 dL_law_549 ?_
  refine lw_callX (rest := []) KX5_falls [vI (xs (x3 + 1).toNatClampNeg), vI (xs (x3 + 2).toNatClampNeg), vI (xs (x3 + 3).toNatClampNeg)] hF hSt hl.1 dL_law_550 eL_68 rfl mok_X5_falls mw_X5_falls ⟨Nat.le_of_ble_eq_true rfl, Nat.le_of_ble_eq_true rfl⟩ (met_X5_falls h1) rfl (Nat.le_of_ble_eq_true rfl) (fun H locs hSn => ?_)
  clear hSt
  have hSt := hSn
  clear hSn
  refine lv_pop hx hb dL_law_553 rfl ?_
  refine lv_aload_n hx hb dL_law_554 rfl (lv_at hl 3 rfl) ?_
  refine lv_aload_n hx hb dL_law_555 rfl (lv_at hl 1 rfl) ?_
  refine lv_iload_n hx hb dL_law_556 rfl (lv_at hl 0 rfl) ?_
  refine lv_iconst (v := 1) hx hb dL_law_557 (by decide) ?_
  refine lv_iadd hx hb dL_law_558 ?_
  refine va_sld hx hb hX hbl (Nat.not_le.mpr hbl) hSt.2.2.2.2 hi1 dL_law_559 ?_
  refine lv_aload_n hx hb dL_law_560 rfl (lv_at hl 1 rfl) ?_
  refine lv_iload_n hx hb dL_law_561 rfl (lv_at hl 0 rfl) ?_
  refine lv_iconst (v := 2) hx hb dL_law_562 (by decide) ?_
  refine lv_iadd hx hb dL_law_563 ?_
  refine va_sld hx hb hX hbl (Nat.not_le.mpr hbl) hSt.2.2.2.2 hi2 dL_law_564 ?_
  refine lv_aload_n hx hb dL_law_565 rfl (lv_at hl 1 rfl) ?_
  refine lv_iload_n hx hb dL_law_566 rfl (lv_at hl 0 rfl) ?_
  refine lv_iconst (v := 3) hx hb dL_law_567 (by decide) ?_
  refine lv_iadd hx hb dL_law_568 ?_
  refine va_sld hx hb hX hbl (Nat.not_le.mpr hbl) hSt.2.2.2.2 hi3 dL_law_569 ?_
  refine lw_callM (rest := []) KX6_falls [vI (xs (x3 + 1).toNatClampNeg), vI (xs (x3 + 2).toNatClampNeg), vI (xs (x3 + 3).toNatClampNeg)] hF hSt hl.1 dL_law_570 eL_71 rfl mok_X6_falls mw_X6_falls ⟨Nat.le_of_ble_eq_true rfl, Nat.le_of_ble_eq_true rfl⟩ (met_X6_falls h2) rfl (Nat.le_of_ble_eq_true rfl) (fun H locs hSn => ?_)
  clear hSt
  have hSt := hSn
  clear hSn
  refine lv_pop hx hb dL_law_573 rfl ?_
  refine lv_goto (tgt := 914) hx hb dL_law_574 (by decide) ?_
  exact kk wX2 wM2 hR2 H locs ls hSt hl
set_option maxHeartbeats 4000000 in
set_option maxRecDepth 100000 in
theorem lw_case_13 {Rel Rel2 : AW → AW → Prop} {wX wM : AW} {H : Heap} {locs : List Loc} {ls : Array Slot} {x3 : Int32} (hPub : PubV_follows Rel Rel2) (hR : Rel wX wM) (hF : lw_F p s m c b D cy adX adM) (hX : va_X b L xs s s.heap) (hbl : b < s.heap.size) (hSt : lw_S s D cy adX adM wX wM H locs) (hl : lv_has ls 4 [(3, .int x3), (0, .ref b), (1, .ref (adX 0 0)), (2, .ref (adM 0 0))]) (hi1 : vp_in (x3 + 1) L) (hi2 : vp_in (x3 + 2) L) (hi3 : vp_in (x3 + 3) L)
    (kk : ∀ (wX2 wM2 : AW), Rel2 wX2 wM2 → ∀ (H : Heap) (locs : List Loc) (ls : Array Slot), lw_S s D cy adX adM wX2 wM2 H locs → lv_has ls 4 [(3, .int x3), (0, .ref b), (1, .ref (adX 0 0)), (2, .ref (adM 0 0))] → W p l e room_1 s m #[Value.ref b] below meth c H locs 108 17627 (lw_Z below #[Value.ref b] s) (F0 m 914 ls [])) : W p l e room_1 s m #[Value.ref b] below meth c H locs 108 17627 (lw_Z below #[Value.ref b] s) (F0 m 577 ls []) := by
  obtain ⟨hx, hb, hml, hown, hts, -, -, -, -, -, -, -⟩ := id hF
  obtain ⟨r, r2, wX2, wM2, h1, h2, hR2⟩ := hPub wX wM hR (xs (x3 + 1).toNatClampNeg) (xs (x3 + 2).toNatClampNeg) (xs (x3 + 3).toNatClampNeg)
  refine lv_aload_n hx hb dL_law_577 rfl (lv_at hl 2 rfl) ?_
  refine lv_aload_n hx hb dL_law_578 rfl (lv_at hl 1 rfl) ?_
  refine lv_iload_n hx hb dL_law_579 rfl (lv_at hl 0 rfl) ?_
  refine lv_iconst (v := 1) hx hb dL_law_580 (by decide) ?_
  refine lv_iadd hx hb dL_law_581 ?_
  refine va_sld hx hb hX hbl (Nat.not_le.mpr hbl) hSt.2.2.2.2 hi1 dL_law_582 ?_
  refine lv_aload_n hx hb dL_law_583 rfl (lv_at hl 1 rfl) ?_
  refine lv_iload_n hx hb dL_law_584 rfl (lv_at hl 0 rfl) ?_
  refine lv_iconst (v := 2) hx hb dL_law_585 (by decide) ?_
  refine lv_iadd hx hb dL_law_586 ?_
  refine va_sld hx hb hX hbl (Nat.not_le.mpr hbl) hSt.2.2.2.2 hi2 dL_law_587 ?_
  refine lv_aload_n hx hb dL_law_588 rfl (lv_at hl 1 rfl) ?_
  refine lv_iload_n hx hb dL_law_589 rfl (lv_at hl 0 rfl) ?_
  refine lv_iconst (v := 3) hx hb dL_law_590 (by decide) ?_
  refine lv_iadd hx hb dL_law_591 ?_
  refine va_sld hx hb hX hbl (Nat.not_le.mpr hbl) hSt.2.2.2.2 hi3 dL_law_592 ?_
  refine lw_callX (rest := []) KX5_follows [vI (xs (x3 + 1).toNatClampNeg), vI (xs (x3 + 2).toNatClampNeg), vI (xs (x3 + 3).toNatClampNeg)] hF hSt hl.1 dL_law_593 eL_72 rfl mok_X5_follows mw_X5_follows ⟨Nat.le_of_ble_eq_true rfl, Nat.le_of_ble_eq_true rfl⟩ (met_X5_follows h1) rfl (Nat.le_of_ble_eq_true rfl) (fun H locs hSn => ?_)
  clear hSt
  have hSt := hSn
  clear hSn
  refine lv_pop hx hb dL_law_596 rfl ?_
  refine lv_aload_n hx hb dL_law_597 rfl (lv_at hl 3 rfl) ?_
  refine lv_aload_n hx hb dL_law_598 rfl (lv_at hl 1 rfl) ?_
  refine lv_iload_n hx hb dL_law_599 rfl (lv_at hl 0 rfl) ?_
  refine lv_iconst (v := 1) hx hb dL_law_600 (by decide) ?_
  refine lv_iadd hx hb dL_law_601 ?_
  refine va_sld hx hb hX hbl (Nat.not_le.mpr hbl) hSt.2.2.2.2 hi1 dL_law_602 ?_
  refine lv_aload_n hx hb dL_law_603 rfl (lv_at hl 1 rfl) ?_
  refine lv_iload_n hx hb dL_law_604 rfl (lv_at hl 0 rfl) ?_
  refine lv_iconst (v := 2) hx hb dL_law_605 (by decide) ?_
  refine lv_iadd hx hb dL_law_606 ?_
  refine va_sld hx hb hX hbl (Nat.not_le.mpr hbl) hSt.2.2.2.2 hi2 dL_law_607 ?_
  refine lv_aload_n hx hb dL_law_608 rfl (lv_at hl 1 rfl) ?_
  refine lv_iload_n hx hb dL_law_609 rfl (lv_at hl 0 rfl) ?_
  refine lv_iconst (v := 3) hx hb dL_law_610 (by decide) ?_
  refine lv_iadd hx hb dL_law_611 ?_
  refine va_sld hx hb hX hbl (Nat.not_le.mpr hbl) hSt.2.2.2.2 hi3 dL_law_612 ?_
  refine lw_callM (rest := []) KX6_follows [vI (xs (x3 + 1).toNatClampNeg), vI (xs (x3 + 2).toNatClampNeg), vI (xs (x3 + 3).toNatClampNeg)] hF hSt hl.1 dL_law_613 eL_75 rfl mok_X6_follows mw_X6_follows ⟨Nat.le_of_ble_eq_true rfl, Nat.le_of_ble_eq_true rfl⟩ (met_X6_follows h2) rfl (Nat.le_of_ble_eq_true rfl) (fun H locs hSn => ?_)
  clear hSt
  have hSt := hSn
  clear hSn
  refine lv_pop hx hb dL_law_616 rfl ?_
  refine lv_goto (tgt := 914) hx hb dL_law_617 (by decide) ?_
  exact kk wX2 wM2 hR2 H locs ls hSt hl
set_option maxHeartbeats 4000000 in
set_option maxRecDepth 100000 in
theorem lw_case_14 {Rel Rel2 : AW → AW → Prop} {wX wM : AW} {H : Heap} {locs : List Loc} {ls : Array Slot} {x3 : Int32} (hPub : PubV_heaps Rel Rel2) (hR : Rel wX wM) (hF : lw_F p s m c b D cy adX adM) (hX : va_X b L xs s s.heap) (hbl : b < s.heap.size) (hSt : lw_S s D cy adX adM wX wM H locs) (hl : lv_has ls 4 [(3, .int x3), (0, .ref b), (1, .ref (adX 0 0)), (2, .ref (adM 0 0))]) (hi1 : vp_in (x3 + 1) L) (hi2 : vp_in (x3 + 2) L) (hi3 : vp_in (x3 + 3) L)
    (kk : ∀ (wX2 wM2 : AW), Rel2 wX2 wM2 → ∀ (H : Heap) (locs : List Loc) (ls : Array Slot), lw_S s D cy adX adM wX2 wM2 H locs → lv_has ls 4 [(3, .int x3), (0, .ref b), (1, .ref (adX 0 0)), (2, .ref (adM 0 0))] → W p l e room_1 s m #[Value.ref b] below meth c H locs 108 17627 (lw_Z below #[Value.ref b] s) (F0 m 914 ls [])) : W p l e room_1 s m #[Value.ref b] below meth c H locs 108 17627 (lw_Z below #[Value.ref b] s) (F0 m 620 ls []) := by
  obtain ⟨hx, hb, hml, hown, hts, -, -, -, -, -, -, -⟩ := id hF
  obtain ⟨r, r2, wX2, wM2, h1, h2, hR2⟩ := hPub wX wM hR (xs (x3 + 1).toNatClampNeg)
  refine lv_aload_n hx hb dL_law_620 rfl (lv_at hl 2 rfl) ?_
  refine lv_aload_n hx hb dL_law_621 rfl (lv_at hl 1 rfl) ?_
  refine lv_iload_n hx hb dL_law_622 rfl (lv_at hl 0 rfl) ?_
  refine lv_iconst (v := 1) hx hb dL_law_623 (by decide) ?_
  refine lv_iadd hx hb dL_law_624 ?_
  refine va_sld hx hb hX hbl (Nat.not_le.mpr hbl) hSt.2.2.2.2 hi1 dL_law_625 ?_
  refine lw_callX (rest := []) KX5_heaps [vI (xs (x3 + 1).toNatClampNeg)] hF hSt hl.1 dL_law_626 eL_76 rfl mok_X5_heaps mw_X5_heaps ⟨Nat.le_of_ble_eq_true rfl, Nat.le_of_ble_eq_true rfl⟩ (met_X5_heaps h1) rfl (Nat.le_of_ble_eq_true rfl) (fun H locs hSn => ?_)
  clear hSt
  have hSt := hSn
  clear hSn
  refine lv_pop hx hb dL_law_629 rfl ?_
  refine lv_aload_n hx hb dL_law_630 rfl (lv_at hl 3 rfl) ?_
  refine lv_aload_n hx hb dL_law_631 rfl (lv_at hl 1 rfl) ?_
  refine lv_iload_n hx hb dL_law_632 rfl (lv_at hl 0 rfl) ?_
  refine lv_iconst (v := 1) hx hb dL_law_633 (by decide) ?_
  refine lv_iadd hx hb dL_law_634 ?_
  refine va_sld hx hb hX hbl (Nat.not_le.mpr hbl) hSt.2.2.2.2 hi1 dL_law_635 ?_
  refine lw_callM (rest := []) KX6_heaps [vI (xs (x3 + 1).toNatClampNeg)] hF hSt hl.1 dL_law_636 eL_79 rfl mok_X6_heaps mw_X6_heaps ⟨Nat.le_of_ble_eq_true rfl, Nat.le_of_ble_eq_true rfl⟩ (met_X6_heaps h2) rfl (Nat.le_of_ble_eq_true rfl) (fun H locs hSn => ?_)
  clear hSt
  have hSt := hSn
  clear hSn
  refine lv_pop hx hb dL_law_639 rfl ?_
  refine lv_goto (tgt := 914) hx hb dL_law_640 (by decide) ?_
  exact kk wX2 wM2 hR2 H locs ls hSt hl
set_option maxHeartbeats 4000000 in
set_option maxRecDepth 100000 in
theorem lw_case_15 {Rel Rel2 : AW → AW → Prop} {wX wM : AW} {H : Heap} {locs : List Loc} {ls : Array Slot} {x3 : Int32} (hPub : PubV_alike Rel Rel2) (hR : Rel wX wM) (hF : lw_F p s m c b D cy adX adM) (hX : va_X b L xs s s.heap) (hbl : b < s.heap.size) (hSt : lw_S s D cy adX adM wX wM H locs) (hl : lv_has ls 4 [(3, .int x3), (0, .ref b), (1, .ref (adX 0 0)), (2, .ref (adM 0 0))]) (hi1 : vp_in (x3 + 1) L) (hi2 : vp_in (x3 + 2) L) (hi3 : vp_in (x3 + 3) L)
    (kk : ∀ (wX2 wM2 : AW), Rel2 wX2 wM2 → ∀ (H : Heap) (locs : List Loc) (ls : Array Slot), lw_S s D cy adX adM wX2 wM2 H locs → lv_has ls 4 [(3, .int x3), (0, .ref b), (1, .ref (adX 0 0)), (2, .ref (adM 0 0))] → W p l e room_1 s m #[Value.ref b] below meth c H locs 108 17627 (lw_Z below #[Value.ref b] s) (F0 m 914 ls [])) : W p l e room_1 s m #[Value.ref b] below meth c H locs 108 17627 (lw_Z below #[Value.ref b] s) (F0 m 643 ls []) := by
  obtain ⟨hx, hb, hml, hown, hts, -, -, -, -, -, -, -⟩ := id hF
  obtain ⟨r, r2, wX2, wM2, h1, h2, hR2⟩ := hPub wX wM hR (xs (x3 + 1).toNatClampNeg) (xs (x3 + 2).toNatClampNeg) (xs (x3 + 3).toNatClampNeg)
  refine lv_aload_n hx hb dL_law_643 rfl (lv_at hl 2 rfl) ?_
  refine lv_aload_n hx hb dL_law_644 rfl (lv_at hl 1 rfl) ?_
  refine lv_iload_n hx hb dL_law_645 rfl (lv_at hl 0 rfl) ?_
  refine lv_iconst (v := 1) hx hb dL_law_646 (by decide) ?_
  refine lv_iadd hx hb dL_law_647 ?_
  refine va_sld hx hb hX hbl (Nat.not_le.mpr hbl) hSt.2.2.2.2 hi1 dL_law_648 ?_
  refine lv_aload_n hx hb dL_law_649 rfl (lv_at hl 1 rfl) ?_
  refine lv_iload_n hx hb dL_law_650 rfl (lv_at hl 0 rfl) ?_
  refine lv_iconst (v := 2) hx hb dL_law_651 (by decide) ?_
  refine lv_iadd hx hb dL_law_652 ?_
  refine va_sld hx hb hX hbl (Nat.not_le.mpr hbl) hSt.2.2.2.2 hi2 dL_law_653 ?_
  refine lv_aload_n hx hb dL_law_654 rfl (lv_at hl 1 rfl) ?_
  refine lv_iload_n hx hb dL_law_655 rfl (lv_at hl 0 rfl) ?_
  refine lv_iconst (v := 3) hx hb dL_law_656 (by decide) ?_
  refine lv_iadd hx hb dL_law_657 ?_
  refine va_sld hx hb hX hbl (Nat.not_le.mpr hbl) hSt.2.2.2.2 hi3 dL_law_658 ?_
  refine lw_callX (rest := []) KX5_alike [vI (xs (x3 + 1).toNatClampNeg), vI (xs (x3 + 2).toNatClampNeg), vI (xs (x3 + 3).toNatClampNeg)] hF hSt hl.1 dL_law_659 eL_80 rfl mok_X5_alike mw_X5_alike ⟨Nat.le_of_ble_eq_true rfl, Nat.le_of_ble_eq_true rfl⟩ (met_X5_alike h1) rfl (Nat.le_of_ble_eq_true rfl) (fun H locs hSn => ?_)
  clear hSt
  have hSt := hSn
  clear hSn
  refine lv_pop hx hb dL_law_662 rfl ?_
  refine lv_aload_n hx hb dL_law_663 rfl (lv_at hl 3 rfl) ?_
  refine lv_aload_n hx hb dL_law_664 rfl (lv_at hl 1 rfl) ?_
  refine lv_iload_n hx hb dL_law_665 rfl (lv_at hl 0 rfl) ?_
  refine lv_iconst (v := 1) hx hb dL_law_666 (by decide) ?_
  refine lv_iadd hx hb dL_law_667 ?_
  refine va_sld hx hb hX hbl (Nat.not_le.mpr hbl) hSt.2.2.2.2 hi1 dL_law_668 ?_
  refine lv_aload_n hx hb dL_law_669 rfl (lv_at hl 1 rfl) ?_
  refine lv_iload_n hx hb dL_law_670 rfl (lv_at hl 0 rfl) ?_
  refine lv_iconst (v := 2) hx hb dL_law_671 (by decide) ?_
  refine lv_iadd hx hb dL_law_672 ?_
  refine va_sld hx hb hX hbl (Nat.not_le.mpr hbl) hSt.2.2.2.2 hi2 dL_law_673 ?_
  refine lv_aload_n hx hb dL_law_674 rfl (lv_at hl 1 rfl) ?_
  refine lv_iload_n hx hb dL_law_675 rfl (lv_at hl 0 rfl) ?_
  refine lv_iconst (v := 3) hx hb dL_law_676 (by decide) ?_
  refine lv_iadd hx hb dL_law_677 ?_
  refine va_sld hx hb hX hbl (Nat.not_le.mpr hbl) hSt.2.2.2.2 hi3 dL_law_678 ?_
  refine lw_callM (rest := []) KX6_alike [vI (xs (x3 + 1).toNatClampNeg), vI (xs (x3 + 2).toNatClampNeg), vI (xs (x3 + 3).toNatClampNeg)] hF hSt hl.1 dL_law_679 eL_83 rfl mok_X6_alike mw_X6_alike ⟨Nat.le_of_ble_eq_true rfl, Nat.le_of_ble_eq_true rfl⟩ (met_X6_alike h2) rfl (Nat.le_of_ble_eq_true rfl) (fun H locs hSn => ?_)
  clear hSt
  have hSt := hSn
  clear hSn
  refine lv_pop hx hb dL_law_682 rfl ?_
  refine lv_goto (tgt := 914) hx hb dL_law_683 (by decide) ?_
  exact kk wX2 wM2 hR2 H locs ls hSt hl
set_option maxHeartbeats 4000000 in
set_option maxRecDepth 100000 in
theorem lw_case_16 {Rel Rel2 : AW → AW → Prop} {wX wM : AW} {H : Heap} {locs : List Loc} {ls : Array Slot} {x3 : Int32} (hPub : PubV_apart Rel Rel2) (hR : Rel wX wM) (hF : lw_F p s m c b D cy adX adM) (hX : va_X b L xs s s.heap) (hbl : b < s.heap.size) (hSt : lw_S s D cy adX adM wX wM H locs) (hl : lv_has ls 4 [(3, .int x3), (0, .ref b), (1, .ref (adX 0 0)), (2, .ref (adM 0 0))]) (hi1 : vp_in (x3 + 1) L) (hi2 : vp_in (x3 + 2) L) (hi3 : vp_in (x3 + 3) L)
    (kk : ∀ (wX2 wM2 : AW), Rel2 wX2 wM2 → ∀ (H : Heap) (locs : List Loc) (ls : Array Slot), lw_S s D cy adX adM wX2 wM2 H locs → lv_has ls 4 [(3, .int x3), (0, .ref b), (1, .ref (adX 0 0)), (2, .ref (adM 0 0))] → W p l e room_1 s m #[Value.ref b] below meth c H locs 108 17627 (lw_Z below #[Value.ref b] s) (F0 m 914 ls [])) : W p l e room_1 s m #[Value.ref b] below meth c H locs 108 17627 (lw_Z below #[Value.ref b] s) (F0 m 686 ls []) := by
  obtain ⟨hx, hb, hml, hown, hts, -, -, -, -, -, -, -⟩ := id hF
  obtain ⟨r, r2, wX2, wM2, h1, h2, hR2⟩ := hPub wX wM hR (xs (x3 + 1).toNatClampNeg) (xs (x3 + 2).toNatClampNeg) (xs (x3 + 3).toNatClampNeg)
  refine lv_aload_n hx hb dL_law_686 rfl (lv_at hl 2 rfl) ?_
  refine lv_aload_n hx hb dL_law_687 rfl (lv_at hl 1 rfl) ?_
  refine lv_iload_n hx hb dL_law_688 rfl (lv_at hl 0 rfl) ?_
  refine lv_iconst (v := 1) hx hb dL_law_689 (by decide) ?_
  refine lv_iadd hx hb dL_law_690 ?_
  refine va_sld hx hb hX hbl (Nat.not_le.mpr hbl) hSt.2.2.2.2 hi1 dL_law_691 ?_
  refine lv_aload_n hx hb dL_law_692 rfl (lv_at hl 1 rfl) ?_
  refine lv_iload_n hx hb dL_law_693 rfl (lv_at hl 0 rfl) ?_
  refine lv_iconst (v := 2) hx hb dL_law_694 (by decide) ?_
  refine lv_iadd hx hb dL_law_695 ?_
  refine va_sld hx hb hX hbl (Nat.not_le.mpr hbl) hSt.2.2.2.2 hi2 dL_law_696 ?_
  refine lv_aload_n hx hb dL_law_697 rfl (lv_at hl 1 rfl) ?_
  refine lv_iload_n hx hb dL_law_698 rfl (lv_at hl 0 rfl) ?_
  refine lv_iconst (v := 3) hx hb dL_law_699 (by decide) ?_
  refine lv_iadd hx hb dL_law_700 ?_
  refine va_sld hx hb hX hbl (Nat.not_le.mpr hbl) hSt.2.2.2.2 hi3 dL_law_701 ?_
  refine lw_callX (rest := []) KX5_apart [vI (xs (x3 + 1).toNatClampNeg), vI (xs (x3 + 2).toNatClampNeg), vI (xs (x3 + 3).toNatClampNeg)] hF hSt hl.1 dL_law_702 eL_84 rfl mok_X5_apart mw_X5_apart ⟨Nat.le_of_ble_eq_true rfl, Nat.le_of_ble_eq_true rfl⟩ (met_X5_apart h1) rfl (Nat.le_of_ble_eq_true rfl) (fun H locs hSn => ?_)
  clear hSt
  have hSt := hSn
  clear hSn
  refine lv_pop hx hb dL_law_705 rfl ?_
  refine lv_aload_n hx hb dL_law_706 rfl (lv_at hl 3 rfl) ?_
  refine lv_aload_n hx hb dL_law_707 rfl (lv_at hl 1 rfl) ?_
  refine lv_iload_n hx hb dL_law_708 rfl (lv_at hl 0 rfl) ?_
  refine lv_iconst (v := 1) hx hb dL_law_709 (by decide) ?_
  refine lv_iadd hx hb dL_law_710 ?_
  refine va_sld hx hb hX hbl (Nat.not_le.mpr hbl) hSt.2.2.2.2 hi1 dL_law_711 ?_
  refine lv_aload_n hx hb dL_law_712 rfl (lv_at hl 1 rfl) ?_
  refine lv_iload_n hx hb dL_law_713 rfl (lv_at hl 0 rfl) ?_
  refine lv_iconst (v := 2) hx hb dL_law_714 (by decide) ?_
  refine lv_iadd hx hb dL_law_715 ?_
  refine va_sld hx hb hX hbl (Nat.not_le.mpr hbl) hSt.2.2.2.2 hi2 dL_law_716 ?_
  refine lv_aload_n hx hb dL_law_717 rfl (lv_at hl 1 rfl) ?_
  refine lv_iload_n hx hb dL_law_718 rfl (lv_at hl 0 rfl) ?_
  refine lv_iconst (v := 3) hx hb dL_law_719 (by decide) ?_
  refine lv_iadd hx hb dL_law_720 ?_
  refine va_sld hx hb hX hbl (Nat.not_le.mpr hbl) hSt.2.2.2.2 hi3 dL_law_721 ?_
  refine lw_callM (rest := []) KX6_apart [vI (xs (x3 + 1).toNatClampNeg), vI (xs (x3 + 2).toNatClampNeg), vI (xs (x3 + 3).toNatClampNeg)] hF hSt hl.1 dL_law_722 eL_87 rfl mok_X6_apart mw_X6_apart ⟨Nat.le_of_ble_eq_true rfl, Nat.le_of_ble_eq_true rfl⟩ (met_X6_apart h2) rfl (Nat.le_of_ble_eq_true rfl) (fun H locs hSn => ?_)
  clear hSt
  have hSt := hSn
  clear hSn
  refine lv_pop hx hb dL_law_725 rfl ?_
  refine lv_goto (tgt := 914) hx hb dL_law_726 (by decide) ?_
  exact kk wX2 wM2 hR2 H locs ls hSt hl
set_option maxHeartbeats 4000000 in
set_option maxRecDepth 100000 in
theorem lw_case_17 {Rel Rel2 : AW → AW → Prop} {wX wM : AW} {H : Heap} {locs : List Loc} {ls : Array Slot} {x3 : Int32} (hPub : PubV_growing Rel Rel2) (hR : Rel wX wM) (hF : lw_F p s m c b D cy adX adM) (hX : va_X b L xs s s.heap) (hbl : b < s.heap.size) (hSt : lw_S s D cy adX adM wX wM H locs) (hl : lv_has ls 4 [(3, .int x3), (0, .ref b), (1, .ref (adX 0 0)), (2, .ref (adM 0 0))]) (hi1 : vp_in (x3 + 1) L) (hi2 : vp_in (x3 + 2) L) (hi3 : vp_in (x3 + 3) L)
    (kk : ∀ (wX2 wM2 : AW), Rel2 wX2 wM2 → ∀ (H : Heap) (locs : List Loc) (ls : Array Slot), lw_S s D cy adX adM wX2 wM2 H locs → lv_has ls 4 [(3, .int x3), (0, .ref b), (1, .ref (adX 0 0)), (2, .ref (adM 0 0))] → W p l e room_1 s m #[Value.ref b] below meth c H locs 108 17627 (lw_Z below #[Value.ref b] s) (F0 m 914 ls [])) : W p l e room_1 s m #[Value.ref b] below meth c H locs 108 17627 (lw_Z below #[Value.ref b] s) (F0 m 729 ls []) := by
  obtain ⟨hx, hb, hml, hown, hts, -, -, -, -, -, -, -⟩ := id hF
  obtain ⟨r, r2, wX2, wM2, h1, h2, hR2⟩ := hPub wX wM hR
  refine lv_aload_n hx hb dL_law_729 rfl (lv_at hl 2 rfl) ?_
  refine lw_callX (rest := []) KX5_growing [] hF hSt hl.1 dL_law_730 eL_88 rfl mok_X5_growing mw_X5_growing ⟨Nat.le_of_ble_eq_true rfl, Nat.le_of_ble_eq_true rfl⟩ (met_X5_growing h1) rfl (Nat.le_of_ble_eq_true rfl) (fun H locs hSn => ?_)
  clear hSt
  have hSt := hSn
  clear hSn
  refine lv_pop hx hb dL_law_733 rfl ?_
  refine lv_aload_n hx hb dL_law_734 rfl (lv_at hl 3 rfl) ?_
  refine lw_callM (rest := []) KX6_growing [] hF hSt hl.1 dL_law_735 eL_91 rfl mok_X6_growing mw_X6_growing ⟨Nat.le_of_ble_eq_true rfl, Nat.le_of_ble_eq_true rfl⟩ (met_X6_growing h2) rfl (Nat.le_of_ble_eq_true rfl) (fun H locs hSn => ?_)
  clear hSt
  have hSt := hSn
  clear hSn
  refine lv_pop hx hb dL_law_738 rfl ?_
  refine lv_goto (tgt := 914) hx hb dL_law_739 (by decide) ?_
  exact kk wX2 wM2 hR2 H locs ls hSt hl
set_option maxHeartbeats 4000000 in
set_option maxRecDepth 100000 in
theorem lw_case_18 {Rel Rel2 : AW → AW → Prop} {wX wM : AW} {H : Heap} {locs : List Loc} {ls : Array Slot} {x3 : Int32} (hPub : PubV_grows Rel Rel2) (hR : Rel wX wM) (hF : lw_F p s m c b D cy adX adM) (hX : va_X b L xs s s.heap) (hbl : b < s.heap.size) (hSt : lw_S s D cy adX adM wX wM H locs) (hl : lv_has ls 4 [(3, .int x3), (0, .ref b), (1, .ref (adX 0 0)), (2, .ref (adM 0 0))]) (hi1 : vp_in (x3 + 1) L) (hi2 : vp_in (x3 + 2) L) (hi3 : vp_in (x3 + 3) L)
    (kk : ∀ (wX2 wM2 : AW), Rel2 wX2 wM2 → ∀ (H : Heap) (locs : List Loc) (ls : Array Slot), lw_S s D cy adX adM wX2 wM2 H locs → lv_has ls 4 [(3, .int x3), (0, .ref b), (1, .ref (adX 0 0)), (2, .ref (adM 0 0))] → W p l e room_1 s m #[Value.ref b] below meth c H locs 108 17627 (lw_Z below #[Value.ref b] s) (F0 m 914 ls [])) : W p l e room_1 s m #[Value.ref b] below meth c H locs 108 17627 (lw_Z below #[Value.ref b] s) (F0 m 742 ls []) := by
  obtain ⟨hx, hb, hml, hown, hts, -, -, -, -, -, -, -⟩ := id hF
  obtain ⟨r, r2, wX2, wM2, h1, h2, hR2⟩ := hPub wX wM hR (xs (x3 + 1).toNatClampNeg)
  refine lv_aload_n hx hb dL_law_742 rfl (lv_at hl 2 rfl) ?_
  refine lv_aload_n hx hb dL_law_743 rfl (lv_at hl 1 rfl) ?_
  refine lv_iload_n hx hb dL_law_744 rfl (lv_at hl 0 rfl) ?_
  refine lv_iconst (v := 1) hx hb dL_law_745 (by decide) ?_
  refine lv_iadd hx hb dL_law_746 ?_
  refine va_sld hx hb hX hbl (Nat.not_le.mpr hbl) hSt.2.2.2.2 hi1 dL_law_747 ?_
  refine lw_callX (rest := []) KX5_grows [vI (xs (x3 + 1).toNatClampNeg)] hF hSt hl.1 dL_law_748 eL_92 rfl mok_X5_grows mw_X5_grows ⟨Nat.le_of_ble_eq_true rfl, Nat.le_of_ble_eq_true rfl⟩ (met_X5_grows h1) rfl (Nat.le_of_ble_eq_true rfl) (fun H locs hSn => ?_)
  clear hSt
  have hSt := hSn
  clear hSn
  refine lv_pop hx hb dL_law_751 rfl ?_
  refine lv_aload_n hx hb dL_law_752 rfl (lv_at hl 3 rfl) ?_
  refine lv_aload_n hx hb dL_law_753 rfl (lv_at hl 1 rfl) ?_
  refine lv_iload_n hx hb dL_law_754 rfl (lv_at hl 0 rfl) ?_
  refine lv_iconst (v := 1) hx hb dL_law_755 (by decide) ?_
  refine lv_iadd hx hb dL_law_756 ?_
  refine va_sld hx hb hX hbl (Nat.not_le.mpr hbl) hSt.2.2.2.2 hi1 dL_law_757 ?_
  refine lw_callM (rest := []) KX6_grows [vI (xs (x3 + 1).toNatClampNeg)] hF hSt hl.1 dL_law_758 eL_95 rfl mok_X6_grows mw_X6_grows ⟨Nat.le_of_ble_eq_true rfl, Nat.le_of_ble_eq_true rfl⟩ (met_X6_grows h2) rfl (Nat.le_of_ble_eq_true rfl) (fun H locs hSn => ?_)
  clear hSt
  have hSt := hSn
  clear hSn
  refine lv_pop hx hb dL_law_761 rfl ?_
  refine lv_goto (tgt := 914) hx hb dL_law_762 (by decide) ?_
  exact kk wX2 wM2 hR2 H locs ls hSt hl
set_option maxHeartbeats 4000000 in
set_option maxRecDepth 100000 in
theorem lw_case_19 {Rel Rel2 : AW → AW → Prop} {wX wM : AW} {H : Heap} {locs : List Loc} {ls : Array Slot} {x3 : Int32} (hPub : PubV_shown Rel Rel2) (hR : Rel wX wM) (hF : lw_F p s m c b D cy adX adM) (hX : va_X b L xs s s.heap) (hbl : b < s.heap.size) (hSt : lw_S s D cy adX adM wX wM H locs) (hl : lv_has ls 4 [(3, .int x3), (0, .ref b), (1, .ref (adX 0 0)), (2, .ref (adM 0 0))]) (hi1 : vp_in (x3 + 1) L) (hi2 : vp_in (x3 + 2) L) (hi3 : vp_in (x3 + 3) L)
    (kk : ∀ (wX2 wM2 : AW), Rel2 wX2 wM2 → ∀ (H : Heap) (locs : List Loc) (ls : Array Slot), lw_S s D cy adX adM wX2 wM2 H locs → lv_has ls 4 [(3, .int x3), (0, .ref b), (1, .ref (adX 0 0)), (2, .ref (adM 0 0))] → W p l e room_1 s m #[Value.ref b] below meth c H locs 108 17627 (lw_Z below #[Value.ref b] s) (F0 m 914 ls [])) : W p l e room_1 s m #[Value.ref b] below meth c H locs 108 17627 (lw_Z below #[Value.ref b] s) (F0 m 765 ls []) := by
  obtain ⟨hx, hb, hml, hown, hts, -, -, -, -, -, -, -⟩ := id hF
  obtain ⟨r, r2, wX2, wM2, h1, h2, hR2⟩ := hPub wX wM hR (xs (x3 + 1).toNatClampNeg) (xs (x3 + 2).toNatClampNeg)
  refine lv_aload_n hx hb dL_law_765 rfl (lv_at hl 2 rfl) ?_
  refine lv_aload_n hx hb dL_law_766 rfl (lv_at hl 1 rfl) ?_
  refine lv_iload_n hx hb dL_law_767 rfl (lv_at hl 0 rfl) ?_
  refine lv_iconst (v := 1) hx hb dL_law_768 (by decide) ?_
  refine lv_iadd hx hb dL_law_769 ?_
  refine va_sld hx hb hX hbl (Nat.not_le.mpr hbl) hSt.2.2.2.2 hi1 dL_law_770 ?_
  refine lv_aload_n hx hb dL_law_771 rfl (lv_at hl 1 rfl) ?_
  refine lv_iload_n hx hb dL_law_772 rfl (lv_at hl 0 rfl) ?_
  refine lv_iconst (v := 2) hx hb dL_law_773 (by decide) ?_
  refine lv_iadd hx hb dL_law_774 ?_
  refine va_sld hx hb hX hbl (Nat.not_le.mpr hbl) hSt.2.2.2.2 hi2 dL_law_775 ?_
  refine lw_callX (rest := []) KX5_shown [vI (xs (x3 + 1).toNatClampNeg), vI (xs (x3 + 2).toNatClampNeg)] hF hSt hl.1 dL_law_776 eL_96 rfl mok_X5_shown mw_X5_shown ⟨Nat.le_of_ble_eq_true rfl, Nat.le_of_ble_eq_true rfl⟩ (met_X5_shown h1) rfl (Nat.le_of_ble_eq_true rfl) (fun H locs hSn => ?_)
  clear hSt
  have hSt := hSn
  clear hSn
  refine lv_pop hx hb dL_law_779 rfl ?_
  refine lv_aload_n hx hb dL_law_780 rfl (lv_at hl 3 rfl) ?_
  refine lv_aload_n hx hb dL_law_781 rfl (lv_at hl 1 rfl) ?_
  refine lv_iload_n hx hb dL_law_782 rfl (lv_at hl 0 rfl) ?_
  refine lv_iconst (v := 1) hx hb dL_law_783 (by decide) ?_
  refine lv_iadd hx hb dL_law_784 ?_
  refine va_sld hx hb hX hbl (Nat.not_le.mpr hbl) hSt.2.2.2.2 hi1 dL_law_785 ?_
  refine lv_aload_n hx hb dL_law_786 rfl (lv_at hl 1 rfl) ?_
  refine lv_iload_n hx hb dL_law_787 rfl (lv_at hl 0 rfl) ?_
  refine lv_iconst (v := 2) hx hb dL_law_788 (by decide) ?_
  refine lv_iadd hx hb dL_law_789 ?_
  refine va_sld hx hb hX hbl (Nat.not_le.mpr hbl) hSt.2.2.2.2 hi2 dL_law_790 ?_
  refine lw_callM (rest := []) KX6_shown [vI (xs (x3 + 1).toNatClampNeg), vI (xs (x3 + 2).toNatClampNeg)] hF hSt hl.1 dL_law_791 eL_99 rfl mok_X6_shown mw_X6_shown ⟨Nat.le_of_ble_eq_true rfl, Nat.le_of_ble_eq_true rfl⟩ (met_X6_shown h2) rfl (Nat.le_of_ble_eq_true rfl) (fun H locs hSn => ?_)
  clear hSt
  have hSt := hSn
  clear hSn
  refine lv_pop hx hb dL_law_794 rfl ?_
  refine lv_goto (tgt := 914) hx hb dL_law_795 (by decide) ?_
  exact kk wX2 wM2 hR2 H locs ls hSt hl
set_option maxHeartbeats 4000000 in
set_option maxRecDepth 100000 in
theorem lw_case_20 {Rel Rel2 : AW → AW → Prop} {wX wM : AW} {H : Heap} {locs : List Loc} {ls : Array Slot} {x3 : Int32} (hPub : PubV_tell Rel Rel2) (hR : Rel wX wM) (hF : lw_F p s m c b D cy adX adM) (hX : va_X b L xs s s.heap) (hbl : b < s.heap.size) (hSt : lw_S s D cy adX adM wX wM H locs) (hl : lv_has ls 4 [(3, .int x3), (0, .ref b), (1, .ref (adX 0 0)), (2, .ref (adM 0 0))]) (hi1 : vp_in (x3 + 1) L) (hi2 : vp_in (x3 + 2) L) (hi3 : vp_in (x3 + 3) L)
    (kk : ∀ (wX2 wM2 : AW), Rel2 wX2 wM2 → ∀ (H : Heap) (locs : List Loc) (ls : Array Slot), lw_S s D cy adX adM wX2 wM2 H locs → lv_has ls 4 [(3, .int x3), (0, .ref b), (1, .ref (adX 0 0)), (2, .ref (adM 0 0))] → W p l e room_1 s m #[Value.ref b] below meth c H locs 108 17627 (lw_Z below #[Value.ref b] s) (F0 m 914 ls [])) : W p l e room_1 s m #[Value.ref b] below meth c H locs 108 17627 (lw_Z below #[Value.ref b] s) (F0 m 798 ls []) := by
  obtain ⟨hx, hb, hml, hown, hts, -, -, -, -, -, -, -⟩ := id hF
  obtain ⟨r, r2, wX2, wM2, h1, h2, hR2⟩ := hPub wX wM hR (xs (x3 + 1).toNatClampNeg)
  refine lv_aload_n hx hb dL_law_798 rfl (lv_at hl 2 rfl) ?_
  refine lv_aload_n hx hb dL_law_799 rfl (lv_at hl 1 rfl) ?_
  refine lv_iload_n hx hb dL_law_800 rfl (lv_at hl 0 rfl) ?_
  refine lv_iconst (v := 1) hx hb dL_law_801 (by decide) ?_
  refine lv_iadd hx hb dL_law_802 ?_
  refine va_sld hx hb hX hbl (Nat.not_le.mpr hbl) hSt.2.2.2.2 hi1 dL_law_803 ?_
  refine lw_callX (rest := []) KX5_tell [vI (xs (x3 + 1).toNatClampNeg)] hF hSt hl.1 dL_law_804 eL_100 rfl mok_X5_tell mw_X5_tell ⟨Nat.le_of_ble_eq_true rfl, Nat.le_of_ble_eq_true rfl⟩ (met_X5_tell h1) rfl (Nat.le_of_ble_eq_true rfl) (fun H locs hSn => ?_)
  clear hSt
  have hSt := hSn
  clear hSn
  refine lv_pop hx hb dL_law_807 rfl ?_
  refine lv_aload_n hx hb dL_law_808 rfl (lv_at hl 3 rfl) ?_
  refine lv_aload_n hx hb dL_law_809 rfl (lv_at hl 1 rfl) ?_
  refine lv_iload_n hx hb dL_law_810 rfl (lv_at hl 0 rfl) ?_
  refine lv_iconst (v := 1) hx hb dL_law_811 (by decide) ?_
  refine lv_iadd hx hb dL_law_812 ?_
  refine va_sld hx hb hX hbl (Nat.not_le.mpr hbl) hSt.2.2.2.2 hi1 dL_law_813 ?_
  refine lw_callM (rest := []) KX6_tell [vI (xs (x3 + 1).toNatClampNeg)] hF hSt hl.1 dL_law_814 eL_103 rfl mok_X6_tell mw_X6_tell ⟨Nat.le_of_ble_eq_true rfl, Nat.le_of_ble_eq_true rfl⟩ (met_X6_tell h2) rfl (Nat.le_of_ble_eq_true rfl) (fun H locs hSn => ?_)
  clear hSt
  have hSt := hSn
  clear hSn
  refine lv_pop hx hb dL_law_817 rfl ?_
  refine lv_goto (tgt := 914) hx hb dL_law_818 (by decide) ?_
  exact kk wX2 wM2 hR2 H locs ls hSt hl
set_option maxHeartbeats 4000000 in
set_option maxRecDepth 100000 in
theorem lw_case_21 {Rel Rel2 : AW → AW → Prop} {wX wM : AW} {H : Heap} {locs : List Loc} {ls : Array Slot} {x3 : Int32} (hPub : PubV_known Rel Rel2) (hR : Rel wX wM) (hF : lw_F p s m c b D cy adX adM) (hX : va_X b L xs s s.heap) (hbl : b < s.heap.size) (hSt : lw_S s D cy adX adM wX wM H locs) (hl : lv_has ls 4 [(3, .int x3), (0, .ref b), (1, .ref (adX 0 0)), (2, .ref (adM 0 0))]) (hi1 : vp_in (x3 + 1) L) (hi2 : vp_in (x3 + 2) L) (hi3 : vp_in (x3 + 3) L)
    (kk : ∀ (wX2 wM2 : AW), Rel2 wX2 wM2 → ∀ (H : Heap) (locs : List Loc) (ls : Array Slot), lw_S s D cy adX adM wX2 wM2 H locs → lv_has ls 4 [(3, .int x3), (0, .ref b), (1, .ref (adX 0 0)), (2, .ref (adM 0 0))] → W p l e room_1 s m #[Value.ref b] below meth c H locs 108 17627 (lw_Z below #[Value.ref b] s) (F0 m 914 ls [])) : W p l e room_1 s m #[Value.ref b] below meth c H locs 108 17627 (lw_Z below #[Value.ref b] s) (F0 m 821 ls []) := by
  obtain ⟨hx, hb, hml, hown, hts, -, -, -, -, -, -, -⟩ := id hF
  obtain ⟨r, r2, wX2, wM2, h1, h2, hR2⟩ := hPub wX wM hR (xs (x3 + 1).toNatClampNeg)
  refine lv_aload_n hx hb dL_law_821 rfl (lv_at hl 2 rfl) ?_
  refine lv_aload_n hx hb dL_law_822 rfl (lv_at hl 1 rfl) ?_
  refine lv_iload_n hx hb dL_law_823 rfl (lv_at hl 0 rfl) ?_
  refine lv_iconst (v := 1) hx hb dL_law_824 (by decide) ?_
  refine lv_iadd hx hb dL_law_825 ?_
  refine va_sld hx hb hX hbl (Nat.not_le.mpr hbl) hSt.2.2.2.2 hi1 dL_law_826 ?_
  refine lw_callX (rest := []) KX5_known [vI (xs (x3 + 1).toNatClampNeg)] hF hSt hl.1 dL_law_827 eL_104 rfl mok_X5_known mw_X5_known ⟨Nat.le_of_ble_eq_true rfl, Nat.le_of_ble_eq_true rfl⟩ (met_X5_known h1) rfl (Nat.le_of_ble_eq_true rfl) (fun H locs hSn => ?_)
  clear hSt
  have hSt := hSn
  clear hSn
  refine lv_pop hx hb dL_law_830 rfl ?_
  refine lv_aload_n hx hb dL_law_831 rfl (lv_at hl 3 rfl) ?_
  refine lv_aload_n hx hb dL_law_832 rfl (lv_at hl 1 rfl) ?_
  refine lv_iload_n hx hb dL_law_833 rfl (lv_at hl 0 rfl) ?_
  refine lv_iconst (v := 1) hx hb dL_law_834 (by decide) ?_
  refine lv_iadd hx hb dL_law_835 ?_
  refine va_sld hx hb hX hbl (Nat.not_le.mpr hbl) hSt.2.2.2.2 hi1 dL_law_836 ?_
  refine lw_callM (rest := []) KX6_known [vI (xs (x3 + 1).toNatClampNeg)] hF hSt hl.1 dL_law_837 eL_107 rfl mok_X6_known mw_X6_known ⟨Nat.le_of_ble_eq_true rfl, Nat.le_of_ble_eq_true rfl⟩ (met_X6_known h2) rfl (Nat.le_of_ble_eq_true rfl) (fun H locs hSn => ?_)
  clear hSt
  have hSt := hSn
  clear hSn
  refine lv_pop hx hb dL_law_840 rfl ?_
  refine lv_goto (tgt := 914) hx hb dL_law_841 (by decide) ?_
  exact kk wX2 wM2 hR2 H locs ls hSt hl
set_option maxHeartbeats 4000000 in
set_option maxRecDepth 100000 in
theorem lw_case_22 {Rel Rel2 : AW → AW → Prop} {wX wM : AW} {H : Heap} {locs : List Loc} {ls : Array Slot} {x3 : Int32} (hPub : PubV_steps Rel Rel2) (hR : Rel wX wM) (hF : lw_F p s m c b D cy adX adM) (hX : va_X b L xs s s.heap) (hbl : b < s.heap.size) (hSt : lw_S s D cy adX adM wX wM H locs) (hl : lv_has ls 4 [(3, .int x3), (0, .ref b), (1, .ref (adX 0 0)), (2, .ref (adM 0 0))]) (hi1 : vp_in (x3 + 1) L) (hi2 : vp_in (x3 + 2) L) (hi3 : vp_in (x3 + 3) L)
    (kk : ∀ (wX2 wM2 : AW), Rel2 wX2 wM2 → ∀ (H : Heap) (locs : List Loc) (ls : Array Slot), lw_S s D cy adX adM wX2 wM2 H locs → lv_has ls 4 [(3, .int x3), (0, .ref b), (1, .ref (adX 0 0)), (2, .ref (adM 0 0))] → W p l e room_1 s m #[Value.ref b] below meth c H locs 108 17627 (lw_Z below #[Value.ref b] s) (F0 m 914 ls [])) : W p l e room_1 s m #[Value.ref b] below meth c H locs 108 17627 (lw_Z below #[Value.ref b] s) (F0 m 844 ls []) := by
  obtain ⟨hx, hb, hml, hown, hts, -, -, -, -, -, -, -⟩ := id hF
  obtain ⟨r, r2, wX2, wM2, h1, h2, hR2⟩ := hPub wX wM hR (xs (x3 + 1).toNatClampNeg) (xs (x3 + 2).toNatClampNeg)
  refine lv_aload_n hx hb dL_law_844 rfl (lv_at hl 2 rfl) ?_
  refine lv_aload_n hx hb dL_law_845 rfl (lv_at hl 1 rfl) ?_
  refine lv_iload_n hx hb dL_law_846 rfl (lv_at hl 0 rfl) ?_
  refine lv_iconst (v := 1) hx hb dL_law_847 (by decide) ?_
  refine lv_iadd hx hb dL_law_848 ?_
  refine va_sld hx hb hX hbl (Nat.not_le.mpr hbl) hSt.2.2.2.2 hi1 dL_law_849 ?_
  refine lv_aload_n hx hb dL_law_850 rfl (lv_at hl 1 rfl) ?_
  refine lv_iload_n hx hb dL_law_851 rfl (lv_at hl 0 rfl) ?_
  refine lv_iconst (v := 2) hx hb dL_law_852 (by decide) ?_
  refine lv_iadd hx hb dL_law_853 ?_
  refine va_sld hx hb hX hbl (Nat.not_le.mpr hbl) hSt.2.2.2.2 hi2 dL_law_854 ?_
  refine lw_callX (rest := []) KX5_steps [vI (xs (x3 + 1).toNatClampNeg), vI (xs (x3 + 2).toNatClampNeg)] hF hSt hl.1 dL_law_855 eL_108 rfl mok_X5_steps mw_X5_steps ⟨Nat.le_of_ble_eq_true rfl, Nat.le_of_ble_eq_true rfl⟩ (met_X5_steps h1) rfl (Nat.le_of_ble_eq_true rfl) (fun H locs hSn => ?_)
  clear hSt
  have hSt := hSn
  clear hSn
  refine lv_pop hx hb dL_law_858 rfl ?_
  refine lv_aload_n hx hb dL_law_859 rfl (lv_at hl 3 rfl) ?_
  refine lv_aload_n hx hb dL_law_860 rfl (lv_at hl 1 rfl) ?_
  refine lv_iload_n hx hb dL_law_861 rfl (lv_at hl 0 rfl) ?_
  refine lv_iconst (v := 1) hx hb dL_law_862 (by decide) ?_
  refine lv_iadd hx hb dL_law_863 ?_
  refine va_sld hx hb hX hbl (Nat.not_le.mpr hbl) hSt.2.2.2.2 hi1 dL_law_864 ?_
  refine lv_aload_n hx hb dL_law_865 rfl (lv_at hl 1 rfl) ?_
  refine lv_iload_n hx hb dL_law_866 rfl (lv_at hl 0 rfl) ?_
  refine lv_iconst (v := 2) hx hb dL_law_867 (by decide) ?_
  refine lv_iadd hx hb dL_law_868 ?_
  refine va_sld hx hb hX hbl (Nat.not_le.mpr hbl) hSt.2.2.2.2 hi2 dL_law_869 ?_
  refine lw_callM (rest := []) KX6_steps [vI (xs (x3 + 1).toNatClampNeg), vI (xs (x3 + 2).toNatClampNeg)] hF hSt hl.1 dL_law_870 eL_111 rfl mok_X6_steps mw_X6_steps ⟨Nat.le_of_ble_eq_true rfl, Nat.le_of_ble_eq_true rfl⟩ (met_X6_steps h2) rfl (Nat.le_of_ble_eq_true rfl) (fun H locs hSn => ?_)
  clear hSt
  have hSt := hSn
  clear hSn
  refine lv_pop hx hb dL_law_873 rfl ?_
  refine lv_goto (tgt := 914) hx hb dL_law_874 (by decide) ?_
  exact kk wX2 wM2 hR2 H locs ls hSt hl
set_option maxHeartbeats 4000000 in
set_option maxRecDepth 100000 in
theorem lw_case_23 {Rel Rel2 : AW → AW → Prop} {wX wM : AW} {H : Heap} {locs : List Loc} {ls : Array Slot} {x3 : Int32} (hPub : PubV_count Rel Rel2) (hR : Rel wX wM) (hF : lw_F p s m c b D cy adX adM) (hX : va_X b L xs s s.heap) (hbl : b < s.heap.size) (hSt : lw_S s D cy adX adM wX wM H locs) (hl : lv_has ls 4 [(3, .int x3), (0, .ref b), (1, .ref (adX 0 0)), (2, .ref (adM 0 0))]) (hi1 : vp_in (x3 + 1) L) (hi2 : vp_in (x3 + 2) L) (hi3 : vp_in (x3 + 3) L)
    (kk : ∀ (wX2 wM2 : AW), Rel2 wX2 wM2 → ∀ (H : Heap) (locs : List Loc) (ls : Array Slot), lw_S s D cy adX adM wX2 wM2 H locs → lv_has ls 4 [(3, .int x3), (0, .ref b), (1, .ref (adX 0 0)), (2, .ref (adM 0 0))] → W p l e room_1 s m #[Value.ref b] below meth c H locs 108 17627 (lw_Z below #[Value.ref b] s) (F0 m 914 ls [])) : W p l e room_1 s m #[Value.ref b] below meth c H locs 108 17627 (lw_Z below #[Value.ref b] s) (F0 m 877 ls []) := by
  obtain ⟨hx, hb, hml, hown, hts, -, -, -, -, -, -, -⟩ := id hF
  obtain ⟨r, r2, wX2, wM2, h1, h2, hR2⟩ := hPub wX wM hR (xs (x3 + 1).toNatClampNeg)
  refine lv_aload_n hx hb dL_law_877 rfl (lv_at hl 2 rfl) ?_
  refine lv_aload_n hx hb dL_law_878 rfl (lv_at hl 1 rfl) ?_
  refine lv_iload_n hx hb dL_law_879 rfl (lv_at hl 0 rfl) ?_
  refine lv_iconst (v := 1) hx hb dL_law_880 (by decide) ?_
  refine lv_iadd hx hb dL_law_881 ?_
  refine va_sld hx hb hX hbl (Nat.not_le.mpr hbl) hSt.2.2.2.2 hi1 dL_law_882 ?_
  refine lw_callX (rest := []) KX5_count [vI (xs (x3 + 1).toNatClampNeg)] hF hSt hl.1 dL_law_883 eL_112 rfl mok_X5_count mw_X5_count ⟨Nat.le_of_ble_eq_true rfl, Nat.le_of_ble_eq_true rfl⟩ (met_X5_count h1) rfl (Nat.le_of_ble_eq_true rfl) (fun H locs hSn => ?_)
  clear hSt
  have hSt := hSn
  clear hSn
  refine lv_pop hx hb dL_law_886 rfl ?_
  refine lv_aload_n hx hb dL_law_887 rfl (lv_at hl 3 rfl) ?_
  refine lv_aload_n hx hb dL_law_888 rfl (lv_at hl 1 rfl) ?_
  refine lv_iload_n hx hb dL_law_889 rfl (lv_at hl 0 rfl) ?_
  refine lv_iconst (v := 1) hx hb dL_law_890 (by decide) ?_
  refine lv_iadd hx hb dL_law_891 ?_
  refine va_sld hx hb hX hbl (Nat.not_le.mpr hbl) hSt.2.2.2.2 hi1 dL_law_892 ?_
  refine lw_callM (rest := []) KX6_count [vI (xs (x3 + 1).toNatClampNeg)] hF hSt hl.1 dL_law_893 eL_115 rfl mok_X6_count mw_X6_count ⟨Nat.le_of_ble_eq_true rfl, Nat.le_of_ble_eq_true rfl⟩ (met_X6_count h2) rfl (Nat.le_of_ble_eq_true rfl) (fun H locs hSn => ?_)
  clear hSt
  have hSt := hSn
  clear hSn
  refine lv_pop hx hb dL_law_896 rfl ?_
  refine lv_goto (tgt := 914) hx hb dL_law_897 (by decide) ?_
  exact kk wX2 wM2 hR2 H locs ls hSt hl
set_option maxHeartbeats 4000000 in
set_option maxRecDepth 100000 in
theorem lw_case_24 {Rel Rel2 : AW → AW → Prop} {wX wM : AW} {H : Heap} {locs : List Loc} {ls : Array Slot} {x3 : Int32} (hPub : PubA_trace Rel Rel2) (hR : Rel wX wM) (hF : lw_F p s m c b D cy adX adM) (hX : va_X b L xs s s.heap) (hbl : b < s.heap.size) (hSt : lw_S s D cy adX adM wX wM H locs) (hl : lv_has ls 4 [(3, .int x3), (0, .ref b), (1, .ref (adX 0 0)), (2, .ref (adM 0 0))]) (hi1 : vp_in (x3 + 1) L) (hi2 : vp_in (x3 + 2) L) (hi3 : vp_in (x3 + 3) L)
    (kk : ∀ (wX2 wM2 : AW), Rel2 wX2 wM2 → ∀ (H : Heap) (locs : List Loc) (ls : Array Slot), lw_S s D cy adX adM wX2 wM2 H locs → lv_has ls 4 [(3, .int x3), (0, .ref b), (1, .ref (adX 0 0)), (2, .ref (adM 0 0))] → W p l e room_1 s m #[Value.ref b] below meth c H locs 108 17627 (lw_Z below #[Value.ref b] s) (F0 m 914 ls [])) : W p l e room_1 s m #[Value.ref b] below meth c H locs 108 17627 (lw_Z below #[Value.ref b] s) (F0 m 900 ls []) := by
  obtain ⟨hx, hb, hml, hown, hts, -, -, -, -, -, -, -⟩ := id hF
  obtain ⟨r, wX2, wM2, h1, h2, hR2⟩ := hPub wX wM hR
  refine lv_aload_n hx hb dL_law_900 rfl (lv_at hl 2 rfl) ?_
  refine lw_callX (rest := []) KX5_trace [] hF hSt hl.1 dL_law_901 eL_116 rfl mok_X5_trace mw_X5_trace ⟨Nat.le_of_ble_eq_true rfl, Nat.le_of_ble_eq_true rfl⟩ (met_X5_trace h1) rfl (Nat.le_of_ble_eq_true rfl) (fun H locs hSn => ?_)
  clear hSt
  have hSt := hSn
  clear hSn
  refine lv_aload_n hx hb dL_law_904 rfl (lv_at hl 3 rfl) ?_
  refine lw_callM (rest := [.long r]) KX6_trace [] hF hSt hl.1 dL_law_905 eL_120 rfl mok_X6_trace mw_X6_trace ⟨Nat.le_of_ble_eq_true rfl, Nat.le_of_ble_eq_true rfl⟩ (met_X6_trace h2) rfl (Nat.le_of_ble_eq_true rfl) (fun H locs hSn => ?_)
  clear hSt
  have hSt := hSn
  clear hSn
  refine W.lcmp hx hb dL_law_908 ?_
  refine lv_if_eq (tgt := 914) hx hb dL_law_909 (by decide) (fun _ => ?_) (fun c9 => absurd (lw_cmp_self r) c9)
  exact kk wX2 wM2 hR2 H locs ls hSt hl
set_option maxHeartbeats 4000000 in
set_option maxRecDepth 100000 in
theorem lw_loop {Rel : Nat → AW → AW → Prop} (hPub : ∀ i, i + 4 ≤ L → PubOK (Rel i) (Rel (i + 4))) (hSkip : ∀ i, i + 4 ≤ L → ∀ wX wM, Rel i wX wM → Rel (i + 4) wX wM) (hL : L ≤ 2048) (hF : lw_F p s m c b D cy adX adM) (hX : va_X b L xs s s.heap) (hbl : b < s.heap.size) (hr : meth.sig.returnType = ret) (hlocks : meth.locks = false) : ∀ (f i : Nat) (x3 : Int32) (wX wM : AW), Rel i wX wM → i ≤ L → L + 4 < f + i → x3 = nI i → ∀ (H : Heap) (locs : List Loc) (ls : Array Slot), lw_S s D cy adX adM wX wM H locs → lv_has ls 4 [(3, .int x3), (0, .ref b), (1, .ref (adX 0 0)), (2, .ref (adM 0 0))] → W p l e room_1 s m #[Value.ref b] below meth c H locs 108 17627 (lw_Z below #[Value.ref b] s) (F0 m 18 ls []) := by
  intro f
  induction f with
  | zero =>
    intro i x3 wX wM hR hi4 hf ex3 H locs ls hSt hl
    omega
  | succ f ih =>
    intro i x3 wX wM hR hi4 hf ex3 H locs ls hSt hl
    obtain ⟨hx, hb, hml, hown, hts, -, -, -, -, -, -, -⟩ := id hF
    refine lv_iload_n hx hb dL_law_18 rfl (lv_at hl 0 rfl) ?_
    refine lv_aload_n hx hb dL_law_19 rfl (lv_at hl 1 rfl) ?_
    refine va_slen hx hb hX hbl (Nat.not_le.mpr hbl) hSt.2.2.2.2 dL_law_20 ?_
    refine lv_iconst (v := 4) hx hb dL_law_21 (by decide) ?_
    refine lv_isub hx hb dL_law_22 ?_
    refine lv_icmp_gt (tgt := 920) hx hb dL_law_23 (by decide) (fun _ => ?_) (fun c10 => ?_)
    · refine lv_iconst (v := 1) hx hb dL_law_920 (by decide) ?_
      refine va_forget (fun q hq => hSt.2.2.2.2.2.2 q hq) ?_
      refine W.widen (k := 600000) (n := 7302250) (Nat.le_of_ble_eq_true rfl) (Nat.le_of_ble_eq_true rfl) ?_
      exact lw_ret hx hb hr hlocks dL_law_921
    have hn4 : i + 4 ≤ L := lw_out hL (by omega) (by rw [ex3] at c10; exact c10)
    have hi0 : vp_in (x3) L := by rw [ex3]; exact vp_in_nI (by omega) (by omega)
    have hi1 : vp_in (x3 + 1) L := by rw [ex3, show nI i + 1 = nI (i + 1) from nI_add i 1]; exact vp_in_nI (by omega) (by omega)
    have hi2 : vp_in (x3 + 2) L := by rw [ex3, show nI i + 2 = nI (i + 2) from nI_add i 2]; exact vp_in_nI (by omega) (by omega)
    have hi3 : vp_in (x3 + 3) L := by rw [ex3, show nI i + 3 = nI (i + 3) from nI_add i 3]; exact vp_in_nI (by omega) (by omega)
    refine lv_aload_n hx hb dL_law_26 rfl (lv_at hl 1 rfl) ?_
    refine lv_iload_n hx hb dL_law_27 rfl (lv_at hl 0 rfl) ?_
    refine va_sld hx hb hX hbl (Nat.not_le.mpr hbl) hSt.2.2.2.2 hi0 dL_law_28 ?_
    refine lv_bipush (v := 31) hx hb dL_law_29 (by decide) ?_
    refine lv_iand hx hb dL_law_31 ?_
    generalize hv : xs x3.toNatClampNeg &&& 31 = v
    have kk : ∀ (wX2 wM2 : AW), Rel (i + 4) wX2 wM2 → ∀ (H : Heap) (locs : List Loc) (ls : Array Slot), lw_S s D cy adX adM wX2 wM2 H locs → lv_has ls 4 [(3, .int x3), (0, .ref b), (1, .ref (adX 0 0)), (2, .ref (adM 0 0))] → W p l e room_1 s m #[Value.ref b] below meth c H locs 108 17627 (lw_Z below #[Value.ref b] s) (F0 m 914 ls []) := by
      intro wX2 wM2 hR2 H locs ls hSt hl
      obtain ⟨x4, ex4⟩ : ∃ y : Int32, y = x3 + 4 := ⟨_, rfl⟩
      refine lv_iinc (v := x4) (lv' := [(3, .int x4), (0, .ref b), (1, .ref (adX 0 0)), (2, .ref (adM 0 0))]) hx hb dL_law_914 hl (k := 0) rfl (by rw [ex4]; rfl) (by decide) rfl (fun ls hl => ?_)
      refine lv_goto (tgt := 18) hx hb dL_law_917 (by decide) ?_
      exact ih (i + 4) x4 wX2 wM2 hR2 hn4 (by omega) (by rw [ex4, ex3]; exact nI_add i 4) H locs ls hSt hl
    rcases Classical.em (v = 0) with c0 | c0
    · subst c0
      refine lv_tableIn (off := 116) (tgt := 148) hx hb dL_law_32 (by decide) (by decide) (by decide) (by decide) ?_
      exact lw_case_0 (hPub i hn4).1 hR hF hX hbl hSt hl hi1 hi2 hi3 kk
    rcases Classical.em (v = 1) with c1 | c1
    · subst c1
      refine lv_tableIn (off := 139) (tgt := 171) hx hb dL_law_32 (by decide) (by decide) (by decide) (by decide) ?_
      exact lw_case_1 (hPub i hn4).2.1 hR hF hX hbl hSt hl hi1 hi2 hi3 kk
    rcases Classical.em (v = 2) with c2 | c2
    · subst c2
      refine lv_tableIn (off := 182) (tgt := 214) hx hb dL_law_32 (by decide) (by decide) (by decide) (by decide) ?_
      exact lw_case_2 (hPub i hn4).2.2.1 hR hF hX hbl hSt hl hi1 hi2 hi3 kk
    rcases Classical.em (v = 3) with c3 | c3
    · subst c3
      refine lv_tableIn (off := 215) (tgt := 247) hx hb dL_law_32 (by decide) (by decide) (by decide) (by decide) ?_
      exact lw_case_3 (hPub i hn4).2.2.2.1 hR hF hX hbl hSt hl hi1 hi2 hi3 kk
    rcases Classical.em (v = 4) with c4 | c4
    · subst c4
      refine lv_tableIn (off := 248) (tgt := 280) hx hb dL_law_32 (by decide) (by decide) (by decide) (by decide) ?_
      exact lw_case_4 (hPub i hn4).2.2.2.2.1 hR hF hX hbl hSt hl hi1 hi2 hi3 kk
    rcases Classical.em (v = 5) with c5 | c5
    · subst c5
      refine lv_tableIn (off := 261) (tgt := 293) hx hb dL_law_32 (by decide) (by decide) (by decide) (by decide) ?_
      exact lw_case_5 (hPub i hn4).2.2.2.2.2.1 hR hF hX hbl hSt hl hi1 hi2 hi3 kk
    rcases Classical.em (v = 6) with c6 | c6
    · subst c6
      refine lv_tableIn (off := 324) (tgt := 356) hx hb dL_law_32 (by decide) (by decide) (by decide) (by decide) ?_
      exact lw_case_6 (hPub i hn4).2.2.2.2.2.2.1 hR hF hX hbl hSt hl hi1 hi2 hi3 kk
    rcases Classical.em (v = 7) with c7 | c7
    · subst c7
      refine lv_tableIn (off := 337) (tgt := 369) hx hb dL_law_32 (by decide) (by decide) (by decide) (by decide) ?_
      exact lw_case_7 (hPub i hn4).2.2.2.2.2.2.2.1 hR hF hX hbl hSt hl hi1 hi2 hi3 kk
    rcases Classical.em (v = 8) with c8 | c8
    · subst c8
      refine lv_tableIn (off := 360) (tgt := 392) hx hb dL_law_32 (by decide) (by decide) (by decide) (by decide) ?_
      exact lw_case_8 (hPub i hn4).2.2.2.2.2.2.2.2.1 hR hF hX hbl hSt hl hi1 hi2 hi3 kk
    rcases Classical.em (v = 9) with c9 | c9
    · subst c9
      refine lv_tableIn (off := 393) (tgt := 425) hx hb dL_law_32 (by decide) (by decide) (by decide) (by decide) ?_
      exact lw_case_9 (hPub i hn4).2.2.2.2.2.2.2.2.2.1 hR hF hX hbl hSt hl hi1 hi2 hi3 kk
    rcases Classical.em (v = 10) with c10 | c10
    · subst c10
      refine lv_tableIn (off := 426) (tgt := 458) hx hb dL_law_32 (by decide) (by decide) (by decide) (by decide) ?_
      exact lw_case_10 (hPub i hn4).2.2.2.2.2.2.2.2.2.2.1 hR hF hX hbl hSt hl hi1 hi2 hi3 kk
    rcases Classical.em (v = 11) with c11 | c11
    · subst c11
      refine lv_tableIn (off := 459) (tgt := 491) hx hb dL_law_32 (by decide) (by decide) (by decide) (by decide) ?_
      exact lw_case_11 (hPub i hn4).2.2.2.2.2.2.2.2.2.2.2.1 hR hF hX hbl hSt hl hi1 hi2 hi3 kk
    rcases Classical.em (v = 12) with c12 | c12
    · subst c12
      refine lv_tableIn (off := 502) (tgt := 534) hx hb dL_law_32 (by decide) (by decide) (by decide) (by decide) ?_
      exact lw_case_12 (hPub i hn4).2.2.2.2.2.2.2.2.2.2.2.2.1 hR hF hX hbl hSt hl hi1 hi2 hi3 kk
    rcases Classical.em (v = 13) with c13 | c13
    · subst c13
      refine lv_tableIn (off := 545) (tgt := 577) hx hb dL_law_32 (by decide) (by decide) (by decide) (by decide) ?_
      exact lw_case_13 (hPub i hn4).2.2.2.2.2.2.2.2.2.2.2.2.2.1 hR hF hX hbl hSt hl hi1 hi2 hi3 kk
    rcases Classical.em (v = 14) with c14 | c14
    · subst c14
      refine lv_tableIn (off := 588) (tgt := 620) hx hb dL_law_32 (by decide) (by decide) (by decide) (by decide) ?_
      exact lw_case_14 (hPub i hn4).2.2.2.2.2.2.2.2.2.2.2.2.2.2.1 hR hF hX hbl hSt hl hi1 hi2 hi3 kk
    rcases Classical.em (v = 15) with c15 | c15
    · subst c15
      refine lv_tableIn (off := 611) (tgt := 643) hx hb dL_law_32 (by decide) (by decide) (by decide) (by decide) ?_
      exact lw_case_15 (hPub i hn4).2.2.2.2.2.2.2.2.2.2.2.2.2.2.2.1 hR hF hX hbl hSt hl hi1 hi2 hi3 kk
    rcases Classical.em (v = 16) with c16 | c16
    · subst c16
      refine lv_tableIn (off := 654) (tgt := 686) hx hb dL_law_32 (by decide) (by decide) (by decide) (by decide) ?_
      exact lw_case_16 (hPub i hn4).2.2.2.2.2.2.2.2.2.2.2.2.2.2.2.2.1 hR hF hX hbl hSt hl hi1 hi2 hi3 kk
    rcases Classical.em (v = 17) with c17 | c17
    · subst c17
      refine lv_tableIn (off := 697) (tgt := 729) hx hb dL_law_32 (by decide) (by decide) (by decide) (by decide) ?_
      exact lw_case_17 (hPub i hn4).2.2.2.2.2.2.2.2.2.2.2.2.2.2.2.2.2.1 hR hF hX hbl hSt hl hi1 hi2 hi3 kk
    rcases Classical.em (v = 18) with c18 | c18
    · subst c18
      refine lv_tableIn (off := 710) (tgt := 742) hx hb dL_law_32 (by decide) (by decide) (by decide) (by decide) ?_
      exact lw_case_18 (hPub i hn4).2.2.2.2.2.2.2.2.2.2.2.2.2.2.2.2.2.2.1 hR hF hX hbl hSt hl hi1 hi2 hi3 kk
    rcases Classical.em (v = 19) with c19 | c19
    · subst c19
      refine lv_tableIn (off := 733) (tgt := 765) hx hb dL_law_32 (by decide) (by decide) (by decide) (by decide) ?_
      exact lw_case_19 (hPub i hn4).2.2.2.2.2.2.2.2.2.2.2.2.2.2.2.2.2.2.2.1 hR hF hX hbl hSt hl hi1 hi2 hi3 kk
    rcases Classical.em (v = 20) with c20 | c20
    · subst c20
      refine lv_tableIn (off := 766) (tgt := 798) hx hb dL_law_32 (by decide) (by decide) (by decide) (by decide) ?_
      exact lw_case_20 (hPub i hn4).2.2.2.2.2.2.2.2.2.2.2.2.2.2.2.2.2.2.2.2.1 hR hF hX hbl hSt hl hi1 hi2 hi3 kk
    rcases Classical.em (v = 21) with c21 | c21
    · subst c21
      refine lv_tableIn (off := 789) (tgt := 821) hx hb dL_law_32 (by decide) (by decide) (by decide) (by decide) ?_
      exact lw_case_21 (hPub i hn4).2.2.2.2.2.2.2.2.2.2.2.2.2.2.2.2.2.2.2.2.2.1 hR hF hX hbl hSt hl hi1 hi2 hi3 kk
    rcases Classical.em (v = 22) with c22 | c22
    · subst c22
      refine lv_tableIn (off := 812) (tgt := 844) hx hb dL_law_32 (by decide) (by decide) (by decide) (by decide) ?_
      exact lw_case_22 (hPub i hn4).2.2.2.2.2.2.2.2.2.2.2.2.2.2.2.2.2.2.2.2.2.2.1 hR hF hX hbl hSt hl hi1 hi2 hi3 kk
    rcases Classical.em (v = 23) with c23 | c23
    · subst c23
      refine lv_tableIn (off := 845) (tgt := 877) hx hb dL_law_32 (by decide) (by decide) (by decide) (by decide) ?_
      exact lw_case_23 (hPub i hn4).2.2.2.2.2.2.2.2.2.2.2.2.2.2.2.2.2.2.2.2.2.2.2.1 hR hF hX hbl hSt hl hi1 hi2 hi3 kk
    rcases Classical.em (v = 24) with c24 | c24
    · subst c24
      refine lv_tableIn (off := 868) (tgt := 900) hx hb dL_law_32 (by decide) (by decide) (by decide) (by decide) ?_
      exact lw_case_24 (hPub i hn4).2.2.2.2.2.2.2.2.2.2.2.2.2.2.2.2.2.2.2.2.2.2.2.2 hR hF hX hbl hSt hl hi1 hi2 hi3 kk
    refine lv_tableOut (tgt := 914) hx hb dL_law_32 (am_out 25 (by decide) (fun j hj => by
      rcases (show j = 0 ∨ j = 1 ∨ j = 2 ∨ j = 3 ∨ j = 4 ∨ j = 5 ∨ j = 6 ∨ j = 7 ∨ j = 8 ∨ j = 9 ∨ j = 10 ∨ j = 11 ∨ j = 12 ∨ j = 13 ∨ j = 14 ∨ j = 15 ∨ j = 16 ∨ j = 17 ∨ j = 18 ∨ j = 19 ∨ j = 20 ∨ j = 21 ∨ j = 22 ∨ j = 23 ∨ j = 24 by omega) with rfl | rfl | rfl | rfl | rfl | rfl | rfl | rfl | rfl | rfl | rfl | rfl | rfl | rfl | rfl | rfl | rfl | rfl | rfl | rfl | rfl | rfl | rfl | rfl | rfl
      · exact am_neI c0 (by decide)
      · exact am_neI c1 (by decide)
      · exact am_neI c2 (by decide)
      · exact am_neI c3 (by decide)
      · exact am_neI c4 (by decide)
      · exact am_neI c5 (by decide)
      · exact am_neI c6 (by decide)
      · exact am_neI c7 (by decide)
      · exact am_neI c8 (by decide)
      · exact am_neI c9 (by decide)
      · exact am_neI c10 (by decide)
      · exact am_neI c11 (by decide)
      · exact am_neI c12 (by decide)
      · exact am_neI c13 (by decide)
      · exact am_neI c14 (by decide)
      · exact am_neI c15 (by decide)
      · exact am_neI c16 (by decide)
      · exact am_neI c17 (by decide)
      · exact am_neI c18 (by decide)
      · exact am_neI c19 (by decide)
      · exact am_neI c20 (by decide)
      · exact am_neI c21 (by decide)
      · exact am_neI c22 (by decide)
      · exact am_neI c23 (by decide)
      · exact am_neI c24 (by decide))) (by decide) ?_
    exact kk wX wM (hSkip i hn4 wX wM hR) H locs ls hSt hl
end LAW
