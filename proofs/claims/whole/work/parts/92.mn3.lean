/-! MENDING by the reference: the walk over labels -/
section MN3
variable {d D : Nat} {v : z_V} {N : z_N} {nu : Nat → Nat} {s : Nat} {Q : z_RT}
def GM (D : Nat) (Q : z_RT) (s : Nat) (x2 : Int32) (u : z_V) : Prop := ∀ u3, z_Wp (z_C D) 4 k_X11_isMended Q 97 [some (vR 11 0), some (vI (nI s)), some (vI x2), u3] [] u
theorem LM.upd {u : z_V} {L : Nat → Nat} {k c : Nat} (h : LM u s L k) (hk : k < cM s) : LM (pI u 1226 0 (sM s k) (nI c)) s (sU L (sM s k) c) (k + 1) := by
  intro g hg hr
  have hw := sM_ok hk
  by_cases e : g = sM s k
  · subst e
    rw [gI_pI_s, sU_s]
  · rw [gI_pI_k e, sU_n e]
    refine h g hg (fun z => ?_)
    have := hr z
    have : rM s g ≠ k := fun y => e (by rw [← y, sM_rk hg z])
    omega
theorem LM.low {u : z_V} {L L' : Nat → Nat} {k : Nat} (h : LM u s L (k + 1)) (e : ∀ g, g < 7 → (s.testBit g = true → rM s g < k) → L g = L' g) : LM u s L' k := by
  intro g hg hr
  rw [h g hg (fun z => by have := hr z; omega), e g hg hr]
theorem LM.low0 {u : z_V} {L : Nat → Nat} {k : Nat} {x : Int32} (h : LM u s L k) (hk : k < cM s) : LM (pI u 1226 0 (sM s k) x) s L k := by
  intro g hg hr
  have hw := sM_ok hk
  rw [gI_pI_k (fun e => by
    subst e
    have := hr hw.2.1
    rw [hw.2.2] at this
    omega)]
  exact h g hg hr
theorem WM.upd {u : z_V} {k : Nat} {x : Int32} (h : WM u s) : WM (pI u 1226 0 k x) s := ⟨by rw [gI_pI_t (by decide)]; exact h.1, fun p hp => by rw [gI_pI_t (by decide)]; exact h.2 p hp⟩
theorem s_mstep {k c : Nat} {L : Nat → Nat} {u : z_V} (hM : MS v N nu) (f : Fr fWh v u) (hs : s < 128) (hk : k < cM s) (hc : c ≤ 21) (hWM : WM u s) (hLM : LM u s L k) (hlab : gI u 1226 0 (sM s k) = nI c + (-1)) (hpb : ∀ h, h < 7 → (s.testBit h = true → rM s h < k) → L h ≤ 99)
    (g1 : 20 < c → GM (d + 4) Q s (nI k + (-1)) (pI u 1226 0 (sM s k) (nI c)))
    (g2 : c ≤ 20 → (c = nu (sM s k) ∨ frM N s (k + 1) (sU L (sM s k) c) = false) → GM (d + 4) Q s (nI k) (pI u 1226 0 (sM s k) (nI c)))
    (g3 : c ≤ 20 → c ≠ nu (sM s k) → frM N s (k + 1) (sU L (sM s k) c) = true → k + 1 = cM s → GM (d + 4) Q s (nI (k + 1)) (pI u 1226 0 (sM s k) (nI c)))
    (g4 : c ≤ 20 → c ≠ nu (sM s k) → frM N s (k + 1) (sU L (sM s k) c) = true → k + 1 < cM s → GM (d + 4) Q s (nI (k + 1)) (pI (pI u 1226 0 (sM s k) (nI c)) 1226 0 (sM s (k + 1)) (-1))) : GM (d + 4) Q s (nI k) u := by
  intro u3
  have hm7 := cM_le (s := s)
  have hw := sM_ok hk
  have hMu : MS u N nu := hM.wh f
  have hnu := hMu.2.2.2.2 _ hw.1
  refine B_X11_isMended_97 (br_F (nI_pos (by omega)) (pk_le (cM s) k (fun z => absurd z (by omega)) (fun _ => ?_) hWM.1))
  have e10 : (10 : Int32) + nI (sM s k) = nI (10 + sM s k) := nI_add 10 (sM s k)
  rw [n_nI (n := k) (by omega), hWM.2 k hk, n_nI (n := sM s k) (by omega), hlab, Int32.add_assoc, show (-1 : Int32) + 1 = 0 by decide, Int32.add_zero, gI_pI_s, e10, n_nI (n := 10 + sM s k) (by omega), hnu.1, nI_1]
  refine z_ii k rfl (by omega) (z_ii _ rfl hw.1 (z_ii _ rfl hw.1 (z_ii _ rfl hw.1 ?_)))
  have hWM1 := hWM.upd (k := sM s k) (x := nI c)
  have hLM1 := hLM.upd (c := c) hk
  have f1 : Fr fWh v (pI u 1226 0 (sM s k) (nI c)) := f.pI (Or.inl rfl)
  refine pk_le c 20 (fun q => z_ii _ rfl hw.1 (z_ii _ rfl (by omega) ?_)) (fun q => g1 q _)
  refine pk_eq c (nu (sM s k)) (fun e => g2 q (Or.inl e) _) (fun ne => ?_)
  refine cP (s_isFairSoFar (d := d) (hM.wh f1) hWM1 hs hLM1 (by omega) (fun h hh z => ?_)) (br_z (fun e => g2 q (Or.inr e) _) (fun e => ?_))
  · by_cases y : h = sM s k
    · subst y
      rw [sU_s]
      omega
    · rw [sU_n y]
      refine hpb h hh (fun z2 => ?_)
      have := z z2
      have : rM s h ≠ k := fun y2 => y (by rw [← y2, sM_rk hh z2])
      omega
  · refine pk_le (cM s) (k + 1) (fun z => g3 q ne e (by omega) _) (fun z => ?_) hWM1.1
    have hk1 : k + 1 < cM s := by omega
    have hw1 := sM_ok hk1
    refine z_ii (k + 1) rfl (by omega) ?_
    rw [n_nI (n := k + 1) (by omega), hWM1.2 (k + 1) hk1, n_nI (n := sM s (k + 1)) (by omega)]
    exact z_ii _ rfl hw1.1 (g4 q ne e hk1 _)
theorem s_visM (hM : MS v N nu) (hs : s < 128) : ∀ (j k : Nat), k + j = cM s → k < cM s → ∀ (r c : Nat), c + r = 21 → ∀ (L : Nat → Nat) (u : z_V), WM u s → LM u s L k → gI u 1226 0 (sM s k) = nI c + (-1) → Fr fWh v u → (∀ h, h < 7 → s.testBit h = false → L h = nu h) → (∀ p, p < k → L (sM s p) ≤ 20 ∧ L (sM s p) ≠ nu (sM s p)) → (∀ L', solM N nu s L' → (∀ p, p < k → L' (sM s p) = L (sM s p)) → c ≤ L' (sM s k)) →
      (∀ u' : z_V, WM u' s → LM u' s L k → Fr fWh v u' → (∀ L', solM N nu s L' → (∀ p, p < k → L' (sM s p) = L (sM s p)) → False) → GM (d + 4) Q s (nI k + (-1)) u') →
      (∀ u' : z_V, WM u' s → Fr fWh v u' → mdR N nu s → GM (d + 4) Q s (nI (cM s)) u') → GM (d + 4) Q s (nI k) u := by
  have hW := hM.1
  intro j
  induction j with
  | zero => intro k hk hk2; omega
  | succ j ihj =>
    intro k hk hkm r
    have hw := sM_ok hkm
    induction r with
    | zero =>
      intro c hc L u hWM hLM hlab f hout hpre hno kb kf
      refine s_mstep (L := L) (c := c) hM f hs hkm (by omega) hWM hLM hlab (fun h hh z => ?_) (fun q => ?_) (fun q => absurd q (by omega)) (fun q => absurd q (by omega)) (fun q => absurd q (by omega))
      · cases y : s.testBit h
        · rw [hout h hh y]
          exact (hM.2.2.2.2 h hh).2
        · have := hpre _ (z y)
          rw [sM_rk hh y] at this
          omega
      · refine kb _ hWM.upd (hLM.low0 hkm) (f.pI (Or.inl rfl)) (fun L' h1 h2 => ?_)
        have := hno L' h1 h2
        have := (h1.2.1 _ hw.1 hw.2.1).1
        omega
    | succ r ihr =>
      intro c hc L u hWM hLM hlab f hout hpre hno kb kf
      have hWM1 := hWM.upd (k := sM s k) (x := nI c)
      have hLM1 := hLM.upd (c := c) hkm
      have f1 : Fr fWh v (pI u 1226 0 (sM s k) (nI c)) := f.pI (Or.inl rfl)
      have hlab1 : gI (pI u 1226 0 (sM s k) (nI c)) 1226 0 (sM s k) = nI (c + 1) + (-1) := by rw [gI_pI_s, pk_m1]
      have out1 : ∀ h, h < 7 → s.testBit h = false → sU L (sM s k) c h = nu h := fun h hh z => by
        rw [sU_n (fun y => by rw [y, hw.2.1] at z; cases z)]
        exact hout h hh z
      have pre1 : c ≤ 20 → c ≠ nu (sM s k) → ∀ p, p < k + 1 → sU L (sM s k) c (sM s p) ≤ 20 ∧ sU L (sM s k) c (sM s p) ≠ nu (sM s p) := fun h1 h2 p hp => by
        by_cases z : p = k
        · subst z
          rw [sU_s]
          exact ⟨h1, h2⟩
        · rw [sU_n (sM_ne (by omega) hkm z)]
          exact hpre p (by omega)
      refine s_mstep (L := L) (c := c) hM f hs hkm (by omega) hWM hLM hlab (fun h hh z => ?_) (fun q => absurd q (by omega)) (fun q e => ?_) (fun q ne e hm => ?_) (fun q ne e hm => ?_)
      · cases y : s.testBit h
        · rw [hout h hh y]
          exact (hM.2.2.2.2 h hh).2
        · have := hpre _ (z y)
          rw [sM_rk hh y] at this
          omega
      · refine ihr (c + 1) (by omega) L _ hWM1 (hLM.low0 hkm) hlab1 f1 hout hpre (fun L' h1 h2 => ?_) kb kf
        have h3 := hno L' h1 h2
        have h4 : L' (sM s k) ≠ c := fun z => by
          rcases e with e | e
          · exact (h1.2.1 _ hw.1 hw.2.1).2 (z.trans e)
          · have : frM N s (k + 1) (sU L (sM s k) c) = frM N s (k + 1) L' := frM_loc hW (fun h hh hr => by
              cases y : s.testBit h
              · rw [out1 h hh y, h1.1 h hh y]
              · have hr := hr y
                have hk := sM_rk hh y
                by_cases y2 : rM s h = k
                · rw [← hk, y2, sU_s, z]
                · rw [← hk, sU_n (sM_ne (by omega) hkm y2), h2 _ (by omega)])
            rw [this, frM_of hW h1.2.2] at e
            cases e
        omega
      · rw [hm]
        refine kf _ hWM1 f1 ⟨sU L (sM s k) c, out1, fun h hh z => ?_, frM_all hW (by rw [← hm]; exact e)⟩
        have := pre1 q ne (rM s h) (by have := rM_lt hh z; omega)
        rw [sM_rk hh z] at this
        exact this
      · refine ihj (k + 1) (by omega) hm 21 0 (by omega) (sU L (sM s k) c) _ hWM1.upd (hLM1.low0 hm) (by rw [gI_pI_s]; decide) (f1.pI (Or.inl rfl)) out1 (pre1 q ne) (fun _ _ _ => Nat.zero_le _) (fun u' g1 g2 g3 g4 => ?_) kf
        rw [pk_m1]
        have hl2 : gI u' 1226 0 (sM s k) = nI (c + 1) + (-1) := by
          rw [g2 (sM s k) hw.1 (fun _ => by rw [hw.2.2]; omega), sU_s, pk_m1]
        refine ihr (c + 1) (by omega) L u' g1 (g2.low (fun g hg hr => sU_n (fun z => by
          have := hr (by rw [z]; exact hw.2.1)
          rw [z, hw.2.2] at this
          omega))) hl2 g3 hout hpre (fun L' h1 h2 => ?_) kb kf
        have h3 := hno L' h1 h2
        have h4 : L' (sM s k) ≠ c := fun z => g4 L' h1 (fun p hp => by
          by_cases y : p = k
          · subst y
            rw [z, sU_s]
          · rw [h2 p (by omega), sU_n (sM_ne (by omega) hkm y)])
        omega
theorem s_isMended (hM : MS v N nu) (hs : s < 128) : ZI (d + 5) m_X11_isMended [vR 11 0, vI (nI s)] v (fun u r => ((r = 0 ∧ ¬ mdR N nu s) ∨ (r = 1 ∧ mdR N nu s)) ∧ Fr fWh v u) := fun Q k => E_X11_isMended (B_X11_isMended_0 (by
  have hW := hM.1
  have hm7 := cM_le (s := s)
  have walk : ∀ u, WM u s → LM u s nu 0 → Fr fWh v u → (∀ h, h < 7 → gI u 1226 0 h = nI (nu h)) → z_C (d + 4) m_X11_isFairSoFar [vR 11 0, vI (nI s), vI 0] u (fun w1 o2 => ∃ i3 : Int32, o2 = some (vI i3) ∧ ((¬ i3 = 0 → (((gI w1 11 0 28) ≤ 0 → z_Wp (z_C (d + 4)) 4 k_X11_isMended Q 97 [some (vR 11 0), some (vI (nI s)), some (vI 0), none] [] w1) ∧ (¬ (gI w1 11 0 28) ≤ 0 → z_if (z_in (gI w1 1227 0 0) 7) (z_Wp (z_C (d + 4)) 4 k_X11_isMended Q 97 [some (vR 11 0), some (vI (nI s)), some (vI 0), none] [] (pI w1 1226 0 (n_ (gI w1 1227 0 0)) (-1)))))) ∧ (i3 = 0 → Q w1 (some (vI 0))))) := by
    intro u hWM hLM f hrow
    have hMu := hM.wh f
    refine cP (s_isFairSoFar (d := d) (m := 0) hMu hWM hs hLM (by omega) (fun h hh _ => (hM.2.2.2.2 h hh).2)) (br_n (fun e => ?_) (fun e => k _ _ ⟨Or.inl ⟨rfl, fun hm => ?_⟩, f⟩))
    · have fin : ∀ u', WM u' s → Fr fWh v u' → mdR N nu s → GM (d + 4) Q s (nI (cM s)) u' := fun u' h1 h2 h3 u3 => by
        refine B_X11_isMended_97 (br_F (nI_pos (by omega)) (pk_le (cM s) (cM s) (fun _ => ?_) (fun z => absurd z (by omega)) h1.1))
        exact br_nF h1.1.symm (k _ _ ⟨Or.inr ⟨rfl, h3⟩, h2⟩)
      refine pk_le (cM s) 0 (fun z => ?_) (fun z => ?_) hWM.1 rfl
      · have h0 : cM s = 0 := by omega
        have := fin u hWM f ⟨nu, fun _ _ _ => rfl, fun h hh y => absurd (rM_lt hh y) (by omega), frM_all hW (by rw [h0]; exact e)⟩ none
        rw [h0] at this
        exact this
      · have hw := sM_ok z
        rw [hWM.2 0 z, n_nI (by omega)]
        refine z_ii _ rfl hw.1 ?_
        refine s_visM (v := v) hM hs (cM s) 0 (by omega) z 21 0 (by omega) nu _ hWM.upd (hLM.low0 z) (by rw [gI_pI_s]; decide) (f.pI (Or.inl rfl)) (fun _ _ _ => rfl) (fun p hp => absurd hp (by omega)) (fun _ _ _ => Nat.zero_le _) (fun u' h1 h2 h3 h4 u3 => ?_) fin none
        refine B_X11_isMended_97 (br_T (by decide) (br_nT (fun e => nI_nm1 (k := cM s) (by omega) ((h1.1.symm.trans e.symm).trans (by decide))) (k _ _ ⟨Or.inl ⟨rfl, fun hm => ?_⟩, h3⟩)))
        obtain ⟨L, g⟩ := hm
        exact h4 L g (fun p hp => absurd hp (by omega))
    · obtain ⟨L, g1, g2, g3⟩ := hm
      have : frM N s 0 nu = frM N s 0 L := frM_loc hW (fun h hh hr => by
        cases y : s.testBit h
        · exact (g1 h hh y).symm
        · exact absurd (hr y) (by omega))
      rw [this, frM_of hW g3] at e
      cases e
  have fill : ∀ h, h ≤ 7 → ∀ u, Fr fWh v u → gI u 11 0 28 = nI (rM s h) → (∀ g, g < h → s.testBit g = true → gI u 1227 0 (rM s g) = nI g) → (∀ g, g < h → gI u 1226 0 g = nI (nu g)) → ∀ u3, z_Wp (z_C (d + 4)) 4 k_X11_isMended Q 7 [some (vR 11 0), some (vI (nI s)), some (vI (nI h)), u3] [] u := by
    refine z_up 7 (fun u f h1 h2 h3 u3 => ?_) (fun h hh ih u f h1 h2 h3 u3 => ?_)
    · refine B_X11_isMended_7 (pk_le 7 7 (fun _ => walk u ⟨h1, fun p hp => ?_⟩ (fun g hg _ => h3 g hg) f h3) (fun z => absurd z (by omega)))
      have hk := sM_ok hp
      have := h2 _ hk.1 hk.2.1
      rw [hk.2.2] at this
      exact this
    · have hr7 : rM s h ≤ h := cntL_le h _
      have hnu := (hM.wh f).2.2.2.2 h hh
      have e10 : (10 : Int32) + nI h = nI (10 + h) := nI_add 10 h
      refine B_X11_isMended_7 (pk_le 7 h (fun q => absurd q (by omega)) (fun _ => ?_))
      rw [e10, n_nI (n := 10 + h) (by omega), n_nI (n := h) (by omega), hnu.1, nI_1]
      refine z_ii (10 + h) rfl (by omega) (z_ii h rfl hh ?_)
      have f0 : Fr fWh v (pI u 1226 0 h (nI (nu h))) := f.pI (Or.inl rfl)
      have row : ∀ g, g < h + 1 → gI (pI u 1226 0 h (nI (nu h))) 1226 0 g = nI (nu g) := fun g hg => by
        by_cases z : g = h
        · subst z
          rw [gI_pI_s]
        · rw [gI_pI_k z]
          exact h3 g (by omega)
      have e28 : gI (pI u 1226 0 h (nI (nu h))) 11 0 28 = nI (rM s h) := by rw [gI_pI_t (by decide)]; exact h1
      refine cP (s_has (by omega) (by omega)) (br_n (fun e => ?_) (fun e => ?_))
      · refine z_ii (rM s h) e28 (by omega) ?_
        rw [e28, n_nI (by omega), nI_1]
        refine ih _ ((f0.pI (Or.inr (Or.inl rfl))).pI (Or.inr (Or.inr ⟨rfl, rfl⟩))) ?_ (fun g hg hwg => ?_) (fun g hg => ?_) _
        · rw [gI_pI_s]
          show nI (rM s h + 1) = nI (cntL h s.testBit + (if s.testBit h = true then 1 else 0))
          rw [if_pos e]
          rfl
        · rw [gI_pI_t (by decide)]
          by_cases z : g = h
          · subst z
            rw [gI_pI_s]
          · have := cntL_lt2 (show g < h by omega) hwg
            rw [gI_pI_k (show rM s g ≠ rM s h by unfold rM; omega), gI_pI_t (by decide)]
            exact h2 g (by omega) hwg
        · rw [gI_pI_t (by decide), gI_pI_t (by decide)]
          exact row g hg
      · refine ih _ f0 ?_ (fun g hg hwg => ?_) row _
        · rw [e28]
          show nI (rM s h) = nI (cntL h s.testBit + (if s.testBit h = true then 1 else 0))
          rw [e]
          rfl
        · rw [gI_pI_t (by decide)]
          by_cases z : g = h
          · subst z
            rw [e] at hwg
            cases hwg
          · exact h2 g (by omega) hwg
  exact fill 0 (by omega) _ (Fr.rfl.pI (Or.inr (Or.inr ⟨rfl, rfl⟩))) gI_pI_s (fun g hg => absurd hg (by omega)) (fun g hg => absurd hg (by omega)) _))
theorem s_mendR (hM : MS v N nu) : ZI (d + 6) m_X11_mend [vR 11 0] v (fun u r => mnA N nu r ∧ Fr fWh v u) := fun Q k => E_X11_mend (B_X11_mend_0 (by
  have inner : ∀ n, n ≤ 7 → (∀ u, Fr fWh v u → (∀ t, t < 128 → mdR N nu t → n + 1 ≤ pc 7 t) → ∀ u2, z_Wp (z_C (d + 5)) 1 k_X11_mend Q 2 [some (vR 11 0), some (vI (nI (n + 1))), u2] [] u) → ∀ s, s ≤ 128 → ∀ u, Fr fWh v u → (∀ t, t < 128 → mdR N nu t → n ≤ pc 7 t ∧ (n = pc 7 t → s ≤ t)) → z_Wp (z_C (d + 5)) 1 k_X11_mend Q 10 [some (vR 11 0), some (vI (nI n)), some (vI (nI s))] [] u := by
    intro n hn next
    refine z_up 128 (fun u f hno => ?_) (fun s hs ih u f hno => ?_)
    · refine B_X11_mend_10 (pk_lt 127 128 (fun _ => ?_) (fun z => absurd z (by omega)))
      rw [nI_1]
      refine next u f (fun t ht hm => ?_) _
      have := hno t ht hm
      omega
    · have skip : ∀ u', Fr fWh v u' → (pc 7 s = n → ¬ mdR N nu s) → z_Wp (z_C (d + 5)) 1 k_X11_mend Q 10 [some (vR 11 0), some (vI (nI n)), some (vI (nI s + 1))] [] u' := fun u' f' no => by
        rw [nI_1]
        refine ih u' f' (fun t ht hm => ?_)
        have := hno t ht hm
        refine ⟨this.1, fun z => ?_⟩
        have h2 := this.2 z
        by_cases y : t = s
        · subst y
          exact absurd hm (no z.symm)
        · omega
      refine B_X11_mend_10 (pk_lt 127 s (fun z => absurd z (by omega)) (fun _ => ?_))
      refine cP (s_bits (d := d + 4) (by omega)) ?_
      rw [pc10_7 hs]
      have hp := pc_le 7 s
      refine pk_ne (pc 7 s) n (fun y => skip u f (fun e => absurd e y)) (fun y => ?_)
      refine cI (s_isMended (d := d) (hM.wh f) hs) (fun w1 r hr => ?_)
      obtain ⟨hr1, f1⟩ := hr
      rcases hr1 with ⟨rfl, no⟩ | ⟨rfl, yes⟩
      · exact br_T rfl (skip w1 (f.trans f1) (fun _ => no))
      · refine br_F (by decide) (k _ _ ⟨Or.inr ⟨s, hs, rfl, yes, fun t ht hmt => ?_⟩, f.trans f1⟩)
        have := hno t ht hmt
        unfold leM
        omega
  have outer : ∀ n, n ≤ 8 → ∀ u, Fr fWh v u → (∀ t, t < 128 → mdR N nu t → n ≤ pc 7 t) → ∀ u2, z_Wp (z_C (d + 5)) 1 k_X11_mend Q 2 [some (vR 11 0), some (vI (nI n)), u2] [] u := by
    refine z_up 8 (fun u f hno u2 => ?_) (fun n hn ih u f hno u2 => ?_)
    · refine B_X11_mend_2 (pk_lt 7 8 (fun _ => k _ _ ⟨Or.inl ⟨rfl, fun t ht hm => ?_⟩, f⟩) (fun z => absurd z (by omega)))
      have h1 := hno t ht hm
      have h2 := pc_le 7 t
      omega
    · refine B_X11_mend_2 (pk_lt 7 n (fun z => absurd z (by omega)) (fun _ => ?_))
      exact inner n (by omega) ih 0 (by omega) u f (fun t ht hm => ⟨hno t ht hm, fun _ => Nat.zero_le _⟩)
  exact outer 0 (by omega) v Fr.rfl (fun _ _ _ => Nat.zero_le _) _))
end MN3
