/-! what the class tells by a text, and by none -/
section TLL
variable {d : Nat} {v : z_V} {N : z_N} {nu : Nat → Nat} {w D F : Nat} {wh num : Nat}
theorem s_tell9 {m f : Nat} {Q : z_RT} {x6 : Int32} {r : Bool} {e : z_X} {u : z_V} (hE : CE v w N nu D F) (hwh : wh < 10) (hnum : num ≤ 99) (h1 : r = true → wh < nN N) (h2 : r = false → wh < 7) (hx6 : x6 = bI r) (h3 : f + lC e ≤ 300) (h4 : rC (gI v 700 m) f e) (h5 : ty r e = 1) (h6 : sk e ≤ 64) (hf : Fr sTl v u) (hT : TS u w wh num 0 (fun _ => 0))
    (k : ∀ (u : z_V), Fr sTl v u → Q u (some (vI (nI (hl (ev (fav N nu) (sgv nu) (nmv N nu D F wh num) e 0) (if r = true then 10 else 99)))))) :
    ∀ (u3 u4 u5 u10 u11 : Option z_AV), z_Wp (z_C (d + 4)) 1 k_X5_tell Q 90 [some (vR 5 w), some (vR 9 w), some (vR 6 m), u3, u4, u5, some (vI x6), some (vI (nI f)), some (vI (nI (f + lC e))), some (vI 0), u10, u11] [] u := by
  have hu : ∀ h, h < 7 → nu h ≤ 99 := fun h hh => (hE.1.2.2.2.2 h hh).2
  have hD := hE.2.2.2.1
  have hF := hE.2.2.2.2
  have hb := (ev_bd (fav_bd hE.1.1 hu) (sgv_bd hu) (nmv_bd (wh := wh) (num := num) hE.1.1 hu hD hF (by omega) hnum) r e).1 h5
  refine (s_run (Q := Q) (x6 := x6) (m := m) (en := f + lC e) hE hwh hnum h1 h2 h3 e).1 h5 f 0 0 (fun _ => 0) u h4 (by omega) (Nat.le_refl _) (Nat.zero_le _) hf hT (fun u' i' hi' hf' hT' => ?_)
  intro u3 u4 u5 u10 u11
  have go : ∀ (y1 y2 y3 y4 y5 y6 y7 y8 y9 y10 : Option z_AV), z_Wp (z_C (d + 4)) 1 k_X5_tell Q 204 [some (vR 5 w), y1, y2, y3, y4, y5, some (vI x6), y6, y7, y8, y9, y10] [] u' := by
    intro y1 y2 y3 y4 y5 y6 y7 y8 y9 y10
    refine B_X5_tell_a_204 ?_
    subst hx6
    refine br_z (fun e1 => cI (s_pop hT') (fun u2 x2 hu2 => ?_)) (fun e1 => cI (s_pop hT') (fun u2 x2 hu2 => ?_))
    · rw [hu2.1, ps_s, show (99 : Int32) = nI 99 from rfl, hl_I hb (by decide)]
      have k := k u2 (hf'.trans hu2.2.2)
      rw [if_neg (by rw [e1]; decide)] at k
      exact k
    · rw [hu2.1, ps_s, show (10 : Int32) = nI 10 from rfl, hl_I hb (by decide)]
      have k := k u2 (hf'.trans hu2.2.2)
      rw [if_pos e1] at k
      exact k
  refine B_X5_tell_a_90 ⟨fun _ => go _ _ _ _ _ _ _ _ _ _, fun _ => ⟨fun _ => go _ _ _ _ _ _ _ _ _ _, fun _ => ⟨fun _ => go _ _ _ _ _ _ _ _ _ _, fun q => absurd (nI_le (Nat.le_refl _) (by omega)) q⟩⟩⟩
theorem s_tellR {m : Nat} {law : Option z_X} (hE : CE v w N nu D F) (hl : LC1 v m 6 7 true law) (h1 : wh < nN N) : ZI (d + 5) m_X5_tell [vR 5 w, vR 9 w, vR 6 m, vI 0, vI (nI wh), vI 0] v (fun u x => x = nI (lv N nu D F wh 0 law 5 10) ∧ Fr sTl v u) := fun Q k => E_X5_tell_a (B_X5_tell_a_0 (br_nF (by rfl) (B_X5_tell_a_9 (by
  have hn := hE.1.1.1
  refine cP (s_hasT (r := true) hl (Or.inl ⟨rfl, rfl, rfl⟩)) ?_
  cases law with
  | none => exact br_nF (by rfl) (br_F (by decide) (k _ _ ⟨rfl, Fr.rfl⟩))
  | some e =>
    obtain ⟨f, a1, a2, a3, a4, a5, a6⟩ := hl
    refine br_nT (show ¬ bI true = 0 by decide) (br_F (by decide) (br_F (by decide) ?_))
    rw [a1, a2]
    exact s_tell9 hE (by omega) (by omega) (fun _ => h1) (fun q => by cases q) rfl a3 a4 a5 a6 (((Fr.rfl.pI (sTl_in (by decide))).pI (sTl_in (by decide))).pI (sTl_in (by decide))) ⟨gI_pI_s, by rw [gI_pI_k (by decide), gI_pI_k (by decide)]; exact gI_pI_s, by rw [gI_pI_k (by decide)]; exact gI_pI_s, by decide, fun j hj => absurd hj (by omega)⟩ (fun u hu => k _ _ ⟨rfl, hu⟩) _ _ _ _ _))))
theorem s_tellC {m : Nat} {law : Option z_X} (hE : CE v w N nu D F) (hl : LC1 v m 8 9 false law) (h1 : wh < 7) (h2 : num ≤ 99) : ZI (d + 5) m_X5_tell [vR 5 w, vR 9 w, vR 6 m, vI 1, vI (nI wh), vI (nI num)] v (fun u x => x = nI (lv N nu D F wh num law 1 99) ∧ Fr sTl v u) := fun Q k => E_X5_tell_a (B_X5_tell_a_0 (br_nT (by decide) (B_X5_tell_a_9 (by
  have hn := hE.1.1.1
  refine cP (s_hasT (r := false) hl (Or.inr ⟨rfl, rfl, rfl⟩)) ?_
  cases law with
  | none => exact br_nF (by rfl) (br_T (by rfl) (k _ _ ⟨rfl, Fr.rfl⟩))
  | some e =>
    obtain ⟨f, a1, a2, a3, a4, a5, a6⟩ := hl
    refine br_nT (show ¬ bI true = 0 by decide) (br_T (by rfl) (br_T (by rfl) ?_))
    rw [a1, a2]
    exact s_tell9 hE (by omega) (by omega) (fun q => by cases q) (fun _ => h1) rfl a3 a4 a5 a6 (((Fr.rfl.pI (sTl_in (by decide))).pI (sTl_in (by decide))).pI (sTl_in (by decide))) ⟨gI_pI_s, by rw [gI_pI_k (by decide), gI_pI_k (by decide)]; exact gI_pI_s, by rw [gI_pI_k (by decide)]; exact gI_pI_s, by decide, fun j hj => absurd hj (by omega)⟩ (fun u hu => k _ _ ⟨rfl, hu⟩) _ _ _ _ _))))
theorem s_tellR0 {a : Int32} : ZP (d + 1) m_X5_tell [vR 5 w, vR 9 w, vQ none, vI 0, vI a, vI 0] v 5 := fun Q k => E_X5_tell_b (B_X5_tell_b_0 (br_nF (by rfl) (B_X5_tell_b_9 (br_F (by decide) k))))
theorem s_tellC0 {a b : Int32} : ZP (d + 1) m_X5_tell [vR 5 w, vR 9 w, vQ none, vI 1, vI a, vI b] v 1 := fun Q k => E_X5_tell_b (B_X5_tell_b_0 (br_nT (by decide) (B_X5_tell_b_9 (br_T (by rfl) k))))
end TLL
