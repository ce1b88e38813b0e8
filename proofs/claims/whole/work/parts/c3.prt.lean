/-! the pair of calls that reads a text -/
section PRC
variable {v : z_V}
theorem C_text4 {d : Nat} {q : z_Q} (h : InvC v q) (hk : wT (qW q) = 4) : GC (d + 76) m_X10_text [vR 10 0] v (-1) q := fun Q k => E_X10_text (B_X10_text_0 (by
  have h9 : gI v 9 0 9 = nI (wT (qW q)) := h.2.1.2.2.1
  rw [h9, n_nI (by omega), Nat.zero_add]
  exact pk_lt (wT (qW q)) 4 (fun z => absurd z (by omega)) (fun _ => k _ _ ⟨rfl, h, Fn.rfl, Fn.rfl⟩)))
theorem R_text4 {d : Nat} {q : z_Q} (h : InvR v q) (hk : wT (qW q) = 4) : GR (d + 19) m_X11_text [vR 11 0] v (-1) q := fun Q k => E_X11_text (B_X11_text_0 (by
  have h1 : gI v 1200 0 1 = nI (wT (qW q)) := h.2.1.2.2.1
  rw [h1]
  exact pk_ne (wT (qW q)) 4 (fun z => absurd hk z) (fun _ => k _ _ ⟨rfl, h, Fn.rfl⟩)))
theorem P_text (h : Inv v) : PR 100 m_X10_text m_X11_text [] v := by
  obtain ⟨⟨q, hC, hR⟩, hA⟩ := h
  have hT : wT (qW q) ≤ 4 := hC.2.1.1.2.2.2.2.1
  by_cases hk : wT (qW q) = 4
  · exact PR.g hR hA (C_text4 (d := 24) hC hk) (fun u hu => R_text4 (d := 81) hu hk)
  · have hk : wT (qW q) < 4 := by omega
    obtain ⟨Rt, hCl, hRl⟩ := loopB (B := qB q) (n := qL q) (j := wT (qW q)) (kk := wT (qW q)) (by omega) hC.1.2.1 (qL q + 1) 0 T00 (by omega) (Nat.zero_le _)
    refine PR.mk (C_text (d := 24) hC hk hCl) (fun u x hu => ?_)
    have hR2 : InvR (pJ v (gJ u)) q := hR
    have hA2 : CA (pJ v (gJ u)) := hA
    exact ZI.m (R_text (d := 81) (hR2.fc hu.2.2.1) hk hRl) (fun w y hw => ⟨hw.1.trans hu.1.symm, ⟨qTx q Rt, hu.2.1.fr hw.2.2, hw.2.1⟩, (hA2.kc hu.2.2.2).kc (KC.fr hw.2.2)⟩)
end PRC
