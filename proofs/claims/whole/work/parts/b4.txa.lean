/-! a text read: the class holds it -/
theorem RC.ts {v : z_V} {W : z_W} (h : RC v 0 W) (hk : wT W < 4) : RC (pI v 9 0 9 (nI (wT W + 1))) 0 (wTs W (wT W + 1)) := by
  obtain ⟨a0, a1, a2, a3, a4, a5, ⟨g, b1, b2, b3⟩, a7, a8, a9⟩ := h
  have f : Fn (fun t n => t = 9 ∧ n = 0) v (pI v 9 0 9 (nI (wT W + 1))) := Fn.rfl.pI ⟨rfl, rfl⟩
  have hR : ∀ {n : Nat} {s : z_St}, RS v n s → RS (pI v 9 0 9 (nI (wT W + 1))) n s := fun h => h.fn f (by omega) (by omega) (by omega)
  exact ⟨okW_ts a0 hk, (gI_pI_k (by decide)).trans a1, gI_pI_s, (gI_pI_k (by decide)).trans a3, (gI_pI_k (by decide)).trans a4, (gI_pI_k (by decide)).trans a5, ⟨g, b1, (gI_pI_k (by decide)).trans b2, fun i hi => hR (b3 i hi)⟩, fun l hl => ⟨(f.i (by omega)).trans (a7 l hl).1, (f.i (by omega)).trans (a7 l hl).2⟩, hR a8, fun i hi => ⟨(f.i (by omega)).trans (a9 i hi).1, (f.i (by omega)).trans (a9 i hi).2⟩⟩
