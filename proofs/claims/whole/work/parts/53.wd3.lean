/-! the class's world: plated, turned, granted, a day -/
theorem zC_m {d a : Nat} {As : List z_AV} {v : z_V} {Q Q' : z_RT} (h : ∀ v r, Q v r → Q' v r) (k : z_C d a As v Q) : z_C d a As v Q' := z_C_m d a As v Q Q' h k
section WD3
variable {d : Nat} {v : z_V} {w : Nat} {W : z_W} {T : Nat → z_T}
theorem RC.kb {u : z_V} (h : RC v w W) : RC v w (wKb false W) := h
theorem wKp_T {W : z_W} : wT (wKp W) = wT W := rfl
/-- maybe a step is kept: then on -/
theorem s_keepB {b : Bool} {A : z_V → Prop} (hR : RC v w W) (h : ∀ u, RC u w (wKb b W) → Fn (sWo w) v u → A u) : (b = false → A v) ∧ (b = true → z_C (d + 2) m_X9_keepStep [vR 9 w] v (fun u o => o = none ∧ A u)) := by
  refine ⟨fun e => ?_, fun e => ?_⟩
  · subst e
    exact h v hR Fn.rfl
  · subst e
    exact cV (s_keepStep hR) (fun u hu => h u hu.1 hu.2)
theorem plS_ok {n c h x : Nat} {s : z_St} (ho : okS n s) (hh : h < 7) (hx : x ≤ 99) : okS n (plS s c h x) := sWr_ok (sU_ok5 (sU_ok2 ho (by have := ho.2.2.1; omega)) hh hx) (by decide) (by omega) hx
theorem inr_n {a : Int32} {n : Nat} (hn : n < 2 ^ 31) (h : inr a n = true) : ∃ k, k < n ∧ a = nI k ∧ n_ a = k := by
  obtain ⟨k, h1, h2⟩ := inr_t h
  exact ⟨k, h1, h2, by rw [h2, n_nI (by omega)]⟩
theorem s_putPlate {a1 a2 : Int32} {b : Bool} (hR : RC v w W) (hX : TX v w W T) : ZI (d + 6) m_X9_putPlate [vR 9 w, vI a1, vI a2, vI (bI b)] v (fun u r => r = (wPl W T b a1 a2).2 ∧ RC u w (wPl W T b a1 a2).1 ∧ Fn (sWo w) v u) := fun Q k => E_X9_putPlate (B_X9_putPlate_0 (by
  have no : ¬ ((inr a1 7 && inr a2 100) = true ∧ wS W (5 + n_ a1) ≠ n_ a2 ∧ csV W T (n_ a1) (n_ a2) ≤ wS W 2) → ∀ u, RC u w W → Fn (sWo w) v u → Q u (some (vI (-1))) := fun z u hu f => by
    unfold wPl at k
    rw [if_neg z] at k
    exact k _ _ ⟨rfl, hu, f⟩
  refine lt0_nI (n := 7) (by decide) (fun e => no (by rw [e]; simp) _ hR Fn.rfl) (fun e => no (by rw [e]; simp) _ hR Fn.rfl) (fun e1 => ?_)
  refine lt99_nI (n := 99) (by decide) (fun e => no (by rw [e]; simp) _ hR Fn.rfl) (fun e => no (by rw [e]; simp) _ hR Fn.rfl) (fun e2 => ?_)
  obtain ⟨h, hh, rfl, hn1⟩ := inr_n (by decide) e1
  obtain ⟨x, hx, rfl, hn2⟩ := inr_n (by decide) e2
  unfold wPl at k
  rw [hn1, hn2] at no k
  have hs := hR.1.2.1
  have hnu := hs.2.2.2.2.2.1 h hh
  have hcell := hR.2.2.2.2.2.2.2.2.1.2.2.2.2.2.1 h hh
  refine z_ii h rfl hh ?_
  rw [n_nI (by omega), hcell]
  refine pk_ne (wS W (5 + h)) x (fun e3 => ?_) (fun e3 => no (fun z => z.2.1 e3) _ hR Fn.rfl)
  refine s_theText hR (fun q hq => cI (s_tellQC hR hX hq hh (by omega)) (fun u r hu => ?_))
  obtain ⟨rfl, fu⟩ := hu
  have hRu := hR.tl fu
  have hXu : TX u w W T := hX.wo (w := w) (sWo_tl fu)
  have hcs := csV_le (W := W) (T := T) (h := h) (x := x)
  have hfu := hs.2.2.1
  refine pk_le (csV W T h x) (wS W 2) (fun e4 => ?_) (fun e4 => no (fun z => absurd z.2.2 (by omega)) _ hRu (sWo_tl fu)) rfl hRu.2.2.2.2.2.2.2.2.1.2.2.1
  rw [if_pos ⟨by rw [e1, e2]; rfl, e3, e4⟩] at k
  have fin : ∀ u', RC u' w (wKb b W) → Fn (sWo w) u u' → z_C (d + 5) m_X4_write [vR 4 (31 * w), vI 0, vI (nI h), vI (nI x)] (pI (pI u' 4 (31 * w) 4 (gI u' 4 (31 * w) 4 - nI (csV W T h x))) 500 (31 * w) h (nI x)) (fun w7 o8 => o8 = none ∧ Q w7 (some (vI (nI (csV W T h x))))) := by
    intro u' hR' f'
    have hS' := hR'.2.2.2.2.2.2.2.2.1
    rw [wKb_S] at hS'
    rw [hS'.2.2.1, pk_sub e4]
    have hw := (hS'.f (x := wS W 2 - csV W T h x)).h (x := x) hh
    refine cV (s_write4 (what := 0) (which := h) (num := x) hw (sU_ok5 (sU_ok2 hs (by omega)) hh (by omega)) (by decide) (by omega) (by omega)) (fun u2 hu2 => ?_)
    have ff : Fn (sSt (31 * w)) u' u2 := ((Fn.rfl.pI ⟨Or.inl rfl, rfl⟩).pI ⟨Or.inr (Or.inl rfl), rfl⟩).trans hu2.2
    refine k _ _ ⟨rfl, hR'.set ff (by rw [wKb_N]; exact plS_ok hs hh (by omega)) hu2.1, ((sWo_tl fu).trans f').trans (sWo_st (by omega) (by omega) ff)⟩
  have kb := s_keepB (d := d + 3) (b := b) hRu fin
  refine br_z (fun e => z_ii h rfl hh (kb.1 e)) (fun e => ?_)
  refine zC_m (fun w9 o10 z => ⟨z.1, z_ii h rfl hh z.2⟩) (kb.2 e)))
end WD3
