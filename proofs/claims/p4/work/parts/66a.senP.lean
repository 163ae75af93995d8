/-! a sentence object's parts, its number of signs aside -/
def SenP (w : AW) (o m P : Nat) (c l r ph pl dp : Nat → Nat) : Prop :=
  w.1 o 0 5 = nI P ∧ (∀ k, k < m → w.1 o 1 (ph k) = nI (c k) ∧
    (isLeaf (c k) → w.1 o 2 (ph k) = -1 ∧ w.1 o 3 (ph k) = -1) ∧ (isPre (c k) → w.1 o 2 (ph k) = nI (ph (l k)) ∧ w.1 o 3 (ph k) = -1) ∧ (isJn (c k) → w.1 o 2 (ph k) = nI (ph (l k)) ∧ w.1 o 3 (ph k) = nI (ph (r k)))) ∧
  (∀ p, p < P → w.1 o 4 p = nI (pl p) ∧ w.1 o 5 p = nI (dp p))
section SP
variable {w : AW} {o m P : Nat} {c l r ph pl dp : Nat → Nat}
theorem SenX.p (h : SenX w o m P c l r ph pl dp) : SenP w o m P c l r ph pl dp := ⟨h.1, h.2.2.1, h.2.2.2⟩
theorem SenP.at3 (h : SenP w o m P c l r ph pl dp) (hL : LenOK o P) (hc : ClassOK m P c l r ph) (hs : ShapeOK m c l r) {k : Nat} (hk : k < m) : mX2_sign o (nI (ph k)) w = some (nI (c k), w) ∧ mX2_first o (nI (ph k)) w = some (fsX c l ph k, w) ∧ mX2_second o (nI (ph k)) w = some (ssX c r ph k, w) := by
  have hp := hc.1 k hk
  obtain ⟨g1, g2, g3, g4⟩ := h.2.1 k hk
  have a1 := at_in (o := o) (a := 1) (i := ph k) w (by have := (hL 1 (by decide) (by decide)).1; omega) (hL 1 (by decide) (by decide)).2
  have a2 := at_in (o := o) (a := 2) (i := ph k) w (by have := (hL 2 (by decide) (by decide)).1; omega) (hL 2 (by decide) (by decide)).2
  have a3 := at_in (o := o) (a := 3) (i := ph k) w (by have := (hL 3 (by decide) (by decide)).1; omega) (hL 3 (by decide) (by decide)).2
  unfold mX2_sign mX2_first mX2_second
  rw [a1, a2, a3, g1]
  refine ⟨rfl, ?_, ?_⟩
  · rw [cl_mk]
    unfold fsX
    rcases hs k hk with q | ⟨q, -⟩ | ⟨q, -, -⟩
    · rw [(g2 q).1, kd_leaf q]; rfl
    · rw [(g3 q).1, kd_pre q]; rfl
    · rw [(g4 q).1, kd_jn q]; rfl
  · rw [cl_mk]
    unfold ssX
    rcases hs k hk with q | ⟨q, -⟩ | ⟨q, -, -⟩
    · rw [(g2 q).2, kd_leaf q]; rfl
    · rw [(g3 q).2, kd_pre q]; rfl
    · rw [(g4 q).2, kd_jn q]; rfl
theorem SenP.cg {w2 : AW} (h : SenP w o m P c l r ph pl dp) (e : w2.1 o = w.1 o) : SenP w2 o m P c l r ph pl dp := by
  unfold SenP
  rw [e]
  exact h
end SP
