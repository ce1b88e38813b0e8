theorem relx_skip {t : Nat} {u : z_V} {D : Nat → Nat} {x y s : Nat} (h : arr t u D) (hx : D x ≤ D y + s) : arr t u (relx D x y s) := by
  intro i hi
  rw [h i hi]
  unfold relx
  by_cases e : i = x
  · rw [if_pos e, e, Nat.min_eq_left hx]
  · rw [if_neg e]
theorem relx_put {t : Nat} {u : z_V} {D : Nat → Nat} {x y s : Nat} (h : arr t u D) (hx : D y + s < D x) : arr t (pI u t 0 x (nI (D y + s))) (relx D x y s) := by
  intro i hi
  unfold relx
  by_cases e : i = x
  · subst e
    rw [gI_pI_s, if_pos rfl, Nat.min_eq_right (by omega)]
  · rw [gI_pI_k e, h i hi, if_neg e]
theorem Cmp.le {N : z_N} {nu : Nat → Nat} {b w r r' : Nat} {D : Nat → Nat} (h : Cmp N nu b w r D) (q : r' ≤ r) : Cmp N nu b w r' D := fun n hn => h n (Nat.le_trans hn q)
section RDR
variable {d : Nat} {v : z_V} {N : z_N} {nu : Nat → Nat}
theorem MS.u {v : z_V} {N : z_N} {nu : Nat → Nat} (h : MS v N nu) : ∀ h, h < 7 → nu h ≤ 99 := fun i hi => (h.2.2.2.2 i hi).2
theorem s_layRides {b : Nat} (hM : MS v N nu) (hb : b < 7) : ZV (d + 3) m_X11_layRides [vR 11 0, vI (nI b)] v (fun u => (∃ D, Dst N nu b 10 D ∧ arr 1237 u D) ∧ Fr (sT [1237]) v u) := fun Q k => E_X11_layRides (B_X11_layRides_0 (by
  have hu := hM.u
  have hW := hM.1
  have rounds : ∀ (u : z_V) (D : Nat → Nat), Fr (sT [1237]) v u → Snd N nu b 10 D → Cmp N nu b 10 0 D → arr 1237 u D → z_Wp (z_C (d + 2)) 0 k_X11_layRides Q 34 [some (vR 11 0), some (vI (nI b)), some (vI 0), none, none] [] u := by
    have main := z_up0 (P := fun j => ∀ (u : z_V) (D : Nat → Nat), Fr (sT [1237]) v u → Snd N nu b 10 D → Cmp N nu b 10 j D → arr 1237 u D → ∀ (u1 u3 u4 : Option z_AV), z_Wp (z_C (d + 2)) 0 k_X11_layRides Q 34 [some (vR 11 0), u1, some (vI (nI j)), u3, u4] [] u) 7 ?_ ?_
    · intro u D f h1 h2 h3
      exact main u D f h1 h2 h3 _ _ _
    · intro u D f h1 h2 h3 u1 u3 u4
      refine B_X11_layRides_34 (pk_le 7 7 (fun _ => ?_) (fun q => absurd q (by decide)))
      exact k _ ⟨⟨D, ⟨h1, h2.le (by omega)⟩, h3⟩, f⟩
    · intro j hj ihj u D0 f h1 h2 h3 u1 u3 u4
      refine B_X11_layRides_34 (pk_le 7 j (fun q => absurd q (by omega)) (fun _ => ?_))
      refine z_up0 (P := fun l => ∀ (u : z_V) (D : Nat → Nat), Fr (sT [1237]) v u → Snd N nu b 10 D → Rnd N nu 10 D0 l D → arr 1237 u D → ∀ (u1 u4 : Option z_AV), z_Wp (z_C (d + 2)) 0 k_X11_layRides Q 42 [some (vR 11 0), u1, some (vI (nI j)), some (vI (nI l)), u4] [] u) (nN N) ?_ ?_ u D0 f h1 Rnd.zero h3 _ _
      · intro u D f h1 hR h3 u1 u4
        have hMu := hM.fr f (fun k => (by decide : ¬ (1200 ∈ [1237])))
        have := hW.1
        refine B_X11_layRides_42 ?_
        rw [hMu.2.1]
        refine pk_le (nN N) (nN N) (fun _ => ?_) (fun q => absurd q (by omega))
        rw [nI_1]
        exact ihj u D f h1 (hR.cmp (Nat.le_refl _) h2) h3 _ _ _
      · intro l hl ih u D f h1 hR h3 u1 u4
        have hMu := hM.fr f (fun k => (by decide : ¬ (1200 ∈ [1237])))
        have := hW.1
        refine B_X11_layRides_42 ?_
        rw [hMu.2.1]
        refine pk_le (nN N) l (fun q => absurd q (by omega)) (fun _ => ?_)
        refine cP (s_isOpen hMu (by omega)) (br_n (fun e => ?_) (fun e => ?_))
        · obtain ⟨hA7, hB7, _⟩ := hW.2.2.1 l hl
          have hf : fare N nu l ≤ 99 := dst_99 (hu _ hA7) (hu _ hB7)
          have hf2 : dst (nu (nA N l)) (nu (nB N l)) ≤ 99 := hf
          refine cP (s_fareOf hMu hl) (cP (s_one hMu hl) (z_ii _ rfl hA7 (cP (s_other hMu hl) (z_ii _ rfl hB7 ?_))))
          rw [show (10 : Int32) = nI 10 from rfl, pk_mul, nI_1, n_nI (n := nA N l) (by omega), n_nI (n := nB N l) (by omega), h3 _ hA7, h3 _ hB7, nI_add]
          have hab : nAdj N (nA N l) (nB N l) = true := nAdj_iff.mpr ⟨l, hl, e, by unfold nEd; simp⟩
          have S1 := Snd_relx h1 hB7 hA7 (nAdj_comm.trans hab)
          rw [dst_comm (nu (nB N l))] at S1
          have S2 := Snd_relx S1 hA7 hB7 hab
          have bA := h1.le hA7
          have bB := h1.le hB7
          have cA := S1.le hA7
          have cB := S1.le hB7
          -- the second half
          have second : ∀ w : z_V, Fr (sT [1237]) v w → arr 1237 w (relx D (nB N l) (nA N l) (10 * dst (nu (nA N l)) (nu (nB N l)) + 1)) → z_Wp (z_C (d + 2)) 0 k_X11_layRides Q 124 [some (vR 11 0), none, some (vI (nI j)), some (vI (nI l)), some (vI (nI (10 * fare N nu l + 1)))] [] w := by
            intro w fw aw
            have hMw := hM.fr fw (fun k => (by decide : ¬ (1200 ∈ [1237])))
            have hgo : ∀ w' : z_V, Fr (sT [1237]) v w' → arr 1237 w' (relx (relx D (nB N l) (nA N l) (10 * dst (nu (nA N l)) (nu (nB N l)) + 1)) (nA N l) (nB N l) (10 * dst (nu (nA N l)) (nu (nB N l)) + 1)) → z_Wp (z_C (d + 2)) 0 k_X11_layRides Q 42 [some (vR 11 0), none, some (vI (nI j)), some (vI (nI l + 1)), some (vI (nI (10 * fare N nu l + 1)))] [] w' := by
              intro w' fw' aw'
              rw [nI_1]
              refine ih w' _ fw' S2 ?_ aw' _ _
              exact hR.line (fun _ => Nat.le_trans relx_le relx_le) (Nat.le_trans relx_x (Nat.add_le_add_right relx_le _)) (Nat.le_trans relx_le relx_x)
            refine B_X11_layRides_124 ?_
            refine cP (s_other hMw hl) (z_ii _ rfl hB7 (cP (s_one hMw hl) (z_ii _ rfl hA7 ?_)))
            rw [n_nI (n := nA N l) (by omega), n_nI (n := nB N l) (by omega), aw _ hA7, aw _ hB7, nI_add]
            refine pk_le _ _ (fun q => hgo w fw (relx_skip aw q)) (fun q => ?_) (ha := by omega) (hb := by omega)
            refine cP (s_one hMw hl) (cP (s_other hMw hl) (z_ii _ rfl hB7 (z_ii _ rfl hA7 ?_)))
            rw [n_nI (n := nA N l) (by omega), n_nI (n := nB N l) (by omega), aw _ hB7, nI_add]
            exact hgo _ (fw.pI (by decide : (1237 ∈ [1237]))) (relx_put aw q)
          refine pk_le _ _ (fun q => second u f (relx_skip h3 q)) (fun q => ?_) (ha := by omega) (hb := by omega)
          refine cP (s_other hMu hl) (cP (s_one hMu hl) (z_ii _ rfl hA7 (z_ii _ rfl hB7 ?_)))
          rw [n_nI (n := nA N l) (by omega), n_nI (n := nB N l) (by omega), h3 _ hA7, nI_add]
          exact second _ (f.pI (by decide : (1237 ∈ [1237]))) (relx_put h3 q)
        · rw [nI_1]
          exact ih u D f h1 (hR.skip (fun _ => e)) h3 _ _
  refine z_up0 (P := fun x => ∀ (u : z_V), Fr (sT [1237]) v u → (∀ h, h < x → gI u 1237 0 h = nI (if h = b then 0 else 1000000)) → ∀ (u3 u4 : Option z_AV), z_Wp (z_C (d + 2)) 0 k_X11_layRides Q 2 [some (vR 11 0), some (vI (nI b)), some (vI (nI x)), u3, u4] [] u) 7 ?_ ?_ v Fr.rfl (fun h hh => absurd hh (by omega)) _ _
  · intro u f h u3 u4
    refine B_X11_layRides_2 (pk_le 7 7 (fun _ => ?_) (fun q => absurd q (by decide)))
    exact rounds u _ f Snd.start Cmp.start h
  · intro x hx ih u f h u3 u4
    have go : ∀ val : Nat, val = (if x = b then 0 else 1000000) → z_Wp (z_C (d + 2)) 0 k_X11_layRides Q 2 [some (vR 11 0), some (vI (nI b)), some (vI (nI x + 1)), none, none] [] (pI u 1237 0 (n_ (nI x)) (nI val)) := by
      intro val hv
      rw [nI_1, n_nI (by omega)]
      refine ih _ (f.pI (by decide : (1237 ∈ [1237]))) (fun i hi => ?_) _ _
      by_cases e : i = x
      · subst e
        rw [gI_pI_s, hv]
      · rw [gI_pI_k e]
        exact h i (by omega)
    refine B_X11_layRides_2 (pk_le 7 x (fun q => absurd q (by omega)) (fun _ => pk_ne x b (fun q => ?_) (fun q => ?_)))
    · exact z_ii x rfl hx (go 1000000 (by rw [if_neg q]))
    · exact z_ii x rfl hx (go 0 (by rw [if_pos q]))))
theorem s_rideR {a b : Int32} (hM : MS v N nu) : ZI (d + 4) m_X11_ride [vR 11 0, vI a, vI b] v (fun u r => (((inr a 7 && inr b 7) = false ∧ r = -1) ∨ ∃ x y, x < 7 ∧ y < 7 ∧ a = nI x ∧ b = nI y ∧ isRd N nu y x r) ∧ Fr (sT [1237]) v u) := fun Q k => E_X11_ride (B_X11_ride_0 (by
  refine cP s_isHalt (br_z (fun e => k _ _ ⟨Or.inl ⟨by rw [e]; rfl, rfl⟩, Fr.rfl⟩) (fun e => ?_))
  refine cP s_isHalt (br_n (fun e2 => ?_) (fun e2 => k _ _ ⟨Or.inl ⟨by rw [e2, Bool.and_false], rfl⟩, Fr.rfl⟩))
  obtain ⟨x, hx, rfl⟩ := inr_t e
  obtain ⟨y, hy, rfl⟩ := inr_t e2
  refine cV (s_layRides hM hy) (fun u hu => ?_)
  obtain ⟨⟨D, hD, h3⟩, f⟩ := hu
  have hle := hD.1.le hx
  refine z_ii x rfl hx ?_
  rw [n_nI (n := x) (by omega), h3 x hx]
  have ho := hD.out (Or.inr rfl) hM.u hx
  refine pk_lt (D x) 1000000 (fun q => ?_) (fun q => ?_)
  · refine z_ii x rfl hx ?_
    refine k _ _ ⟨Or.inr ⟨x, y, hx, hy, rfl, rfl, ?_⟩, f⟩
    rcases ho with ⟨e, _⟩ | ⟨F, n, h1, h2, _⟩
    · omega
    · refine Or.inr ⟨F, n, h1, ?_⟩
      rw [show (10 : Int32) = nI 10 from rfl, pk_d (by omega) (by decide) (by decide)]
      have := h1.2.1
      congr 1
      omega
  · refine k _ _ ⟨Or.inr ⟨x, y, hx, hy, rfl, rfl, ?_⟩, f⟩
    rcases ho with ⟨_, e⟩ | ⟨F, n, h1, h2, _⟩
    · exact Or.inl ⟨e, rfl⟩
    · omega))
end RDR
