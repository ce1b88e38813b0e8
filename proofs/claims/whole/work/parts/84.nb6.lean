/-! SPAN and WHOLE NUMBERS by the class -/
theorem im_tab : ∀ a, a < 11 → ∀ b, b < 8 → i_max (nI a) (nI b - 1) = nI (max a (b - 1)) := by decide +kernel
section NB6
variable {d : Nat} {v : z_V} {N : z_N} {nu : Nat → Nat}
def nbOK (u : z_V) (N : z_N) : Prop := ∃ t L, isOp 1 0 0 N t L ∧ t ≤ 63 ∧ gI u 1 0 1 = nI t ∧ ∀ h, h < 7 → nW N h = true → gI u 200 0 h = nI (L h)
def cNb (v : z_V) : Prop := ∀ N, nWF N → gL v 1 0 3 = lN (kN N 10) → nbOK v N
def fNb : Nat → Nat → Prop := fun t k => t = 200 ∨ t = 202 ∨ (t = 1 ∧ (k = 1 ∨ k = 3 ∨ k = 6 ∨ k = 7 ∨ k = 8 ∨ k = 9 ∨ k = 10 ∨ k = 11 ∨ k = 12 ∨ k = 13 ∨ k = 14))
theorem nbOK.cg {u : z_V} {M : z_N} (hN : nWF N) (hM : nWF M) (h : smN N M) (z : nbOK u N) : nbOK u M := by
  obtain ⟨t, L, h1, h0, h2, h3⟩ := z
  refine ⟨t, L, isOp_cg hN hM h h1, h0, h2, ?_⟩
  rw [← nW_cg hN hM h]
  exact h3
theorem cNb_of {u : z_V} (hW : nWF N) (h4 : gL u 1 0 3 = lN (kN N 10)) (h : nbOK u N) : cNb u := fun M hM k4 => h.cg hW hM (smN_k hW hM (h4.symm.trans k4))
def NBq (v : z_V) (N : z_N) (io : Bool) (u : z_V) : Prop := NS u N ∧ Fr fNb v u ∧ gL u 1 0 3 = lN (kN N 10) ∧ gI u 1 0 8 = bI true ∧ gI u 1 0 10 = bI false ∧ gI u 1 0 9 = bI io
theorem NBq.fr {u w : z_V} {S : Nat → Nat → Prop} {io : Bool} (h : NBq v N io u) (f : Fr S u w) (hs : ∀ t k, S t k → fNb t k) (h3 : ¬ S 1 3) (h8 : ¬ S 1 8) (h9 : ¬ S 1 9) (h10 : ¬ S 1 10) : NBq v N io w := by
  obtain ⟨a1, a2, a3, a4, a5, a6⟩ := h
  have q : ∀ t k, ¬ fNb t k → ¬ S t k := fun t k z y => z (hs t k y)
  exact ⟨a1.fr f (fun k => q _ _ (by unfold fNb; omega)) (fun k => q _ _ (by unfold fNb; omega)) (fun k => q _ _ (by unfold fNb; omega)) (fun k => q _ _ (by unfold fNb; omega)), a2.trans (f.mono hs), (f.l h3).trans a3, (f.i h8).trans a4, (f.i h10).trans a5, (f.i h9).trans a6⟩
theorem fCl_nb : ∀ t k, fCl t k → fNb t k := fun t k z => by
  unfold fCl at z
  unfold fNb
  omega
theorem fGo_nb : ∀ t k, fGo t k → fNb t k := fun t k z => by
  unfold fGo at z
  unfold fNb
  omega
theorem s_solve (hS : NS v N) (hW : nWF N) (hc : cNb v) : ZV (d + 18) m_X1_solve [vR 1 0, vR 0 0] v (fun u => nbOK u N ∧ cNb u ∧ Fr fNb v u) := fun Q k => E_X1_solve (B_X1_solve_0 (by
  refine ⟨fun _ => ?_, fun e => k v ⟨hc N hW ((lg_eq0.mp e).trans hS.2.2.2.2.1), hc, Fr.rfl⟩⟩
  have hm := nM_le (N := N)
  have hp := pc_le 10 (nO N)
  have em : i_max (gI v 0 0 4) (gI v 0 0 6 - 1) = nI (max (pc 10 (nO N)) (nM N - 1)) := by
    rw [hS.2.1, hS.2.2.2.1, pc_bs7]
    exact im_tab _ (by omega) _ (by show nM N < 8; omega)
  rw [em]
  -- the lowest row at the least top
  have last : ∀ t, t ≤ 63 → ∀ u, NBq v N true u → gI u 1 0 1 = nI t → gI u 1 0 7 = nI t → (∀ t', t' < t → ∀ L, ¬ niceL 1 0 0 N t' L) → (∃ L, niceL 1 0 0 N t L) → z_C (d + 17) m_X1_clear [vR 1 0] u (fun w1 o2 => o2 = none ∧ z_C (d + 17) m_X1_goOn [vR 1 0, vR 0 0, vI (gI w1 0 0 5), vI 0] w1 (fun w3 o4 => ∃ i5 : Int32, o4 = some (vI i5) ∧ Q (pC w3 202 0 0 200 0 0 7) none)) := by
    intro t ht u hu h1 h7 hno hex
    refine cV (s_clear (d := d + 16)) (fun w hw => ?_)
    have hu2 := hu.fr hw.2.2 fCl_nb (by unfold fCl; omega) (by unfold fCl; omega) (by unfold fCl; omega) (by unfold fCl; omega)
    refine cI (s_goTop (top := t) hW hu2.1 ht hw.1 hw.2.1 hu2.2.2.2.1 hu2.2.2.2.2.2 ((hw.2.2.i (by unfold fCl; omega)).trans h7) hu2.2.2.2.2.1) (fun w3 r hr => ?_)
    have hu3 := hu2.fr hr.2 fGo_nb (by unfold fGo; omega) (by unfold fGo; omega) (by unfold fGo; omega) (by unfold fGo; omega)
    rcases hr.1 with ⟨_, hn⟩ | ⟨_, L, _, h4, h5⟩
    · obtain ⟨L, hL⟩ := hex
      exact absurd ((sol1 hW).mpr hL) (hn L)
    · have hl : isLF (nW N) (niceL 1 0 0 N t) L := (isLF_cg (fun L => sol1 hW)).mp (h4 rfl)
      have h1' : gI w3 1 0 1 = nI t := (hr.2.i (by unfold fGo; omega)).trans ((hw.2.2.i (by unfold fCl; omega)).trans h1)
      have ok : nbOK (pC w3 202 0 0 200 0 0 7) N := ⟨t, L, ⟨hl, hno⟩, ht, (gI_pC_t (by decide)).trans h1', fun h hh hw => by
        rw [gI_pC_s, pk_cpy_in (by omega) (by omega), show 0 + (h - 0) = h by omega]
        exact h5 h hh hw⟩
      exact k _ ⟨ok, cNb_of hW hu3.2.2.1 ok, hu3.2.1.pC (fun _ => Or.inl rfl)⟩
  have loop : ∀ t, t ≤ 64 → ∀ u, NBq v N false u → (∀ t', t' < t → ∀ L, ¬ niceL 1 0 0 N t' L) → z_Wp (z_C (d + 17)) 0 k_X1_solve Q 51 [some (vR 1 0), some (vR 0 0), some (vI (nI t))] [] u := by
    refine z_up 64 (fun u _ hno => absurd (nice_gol hW) (hno 25 (by omega) _)) (fun t ht ih u hu hno => ?_)
    refine B_X1_solve_51 (pk_lt 63 t (fun z => absurd z (by omega)) (fun _ => ?_))
    have hu1 : NBq v N false (pI u 1 0 7 (nI t)) := hu.fr (Fr.rfl.pI ⟨rfl, rfl⟩ : Fr (fun t k => t = 1 ∧ k = 7) u (pI u 1 0 7 (nI t))) (fun t k z => by unfold fNb; omega) (by omega) (by omega) (by omega) (by omega)
    refine cV (s_clear (d := d + 16)) (fun w hw => ?_)
    have hu2 := hu1.fr hw.2.2 fCl_nb (by unfold fCl; omega) (by unfold fCl; omega) (by unfold fCl; omega) (by unfold fCl; omega)
    refine cI (s_goTop (top := t) hW hu2.1 (by omega) hw.1 hw.2.1 hu2.2.2.2.1 hu2.2.2.2.2.2 ((hw.2.2.i (by unfold fCl; omega)).trans gI_pI_s) hu2.2.2.2.2.1) (fun w3 r hr => ?_)
    have hu3 := hu2.fr hr.2 fGo_nb (by unfold fGo; omega) (by unfold fGo; omega) (by unfold fGo; omega) (by unfold fGo; omega)
    rcases hr.1 with ⟨rfl, hn⟩ | ⟨rfl, L, h3, _, _⟩
    · refine br_T rfl ?_
      rw [nI_1]
      refine ih w3 hu3 (fun t' ht' L => ?_)
      rcases Nat.lt_succ_iff_lt_or_eq.mp ht' with z | z
      · exact hno t' z L
      · subst z
        exact fun hL => hn L ((sol1 hW).mpr hL)
    · refine br_F (by decide) ?_
      have f4 : Fr (fun t k => t = 1 ∧ (k = 1 ∨ k = 9)) w3 (pI (pI w3 1 0 1 (nI t)) 1 0 9 1) := (Fr.rfl.pI ⟨rfl, Or.inl rfl⟩).pI ⟨rfl, Or.inr rfl⟩
      have h7 : gI w3 1 0 7 = nI t := (hr.2.i (by unfold fGo; omega)).trans ((hw.2.2.i (by unfold fCl; omega)).trans gI_pI_s)
      obtain ⟨a1, a2, a3, a4, a5, _⟩ := hu3
      refine last t (by omega) _ ⟨a1.fr f4 (fun k => by omega) (fun k => by omega) (fun k => by omega) (fun k => by omega), a2.trans (f4.mono (fun t k z => by unfold fNb; omega)), (f4.l (by omega)).trans a3, (f4.i (by omega)).trans a4, (f4.i (by omega)).trans a5, gI_pI_s⟩ ?_ ((f4.i (by omega)).trans h7) hno ⟨L, (sol1 hW).mp h3⟩
      rw [gI_pI_k (by decide), gI_pI_s]
  have hb := s_begin (d := d + 15) (v := pL v 1 0 3 (gL v 0 0 7)) (uq := true) (ct := false) (a := nI (max (pc 10 (nO N)) (nM N - 1)))
  refine cV hb (fun w hw => ?_)
  obtain ⟨b1, b2, b3, b4, b5, b6, _, _, b9⟩ := hw
  have f1 := b9 rfl
  have f0 : Fr fNb v (pL v 1 0 3 (gL v 0 0 7)) := Fr.rfl.pL (Or.inr (Or.inr ⟨rfl, by decide⟩))
  have f2 : Fr fNb v (pI w 1 0 1 63) := (f0.trans (f1.mono (fun t k z => by unfold fBn at z; unfold fNb; omega))).pI (Or.inr (Or.inr ⟨rfl, by decide⟩))
  rw [b6]
  refine loop (max (pc 10 (nO N)) (nM N - 1)) (by omega) _ ⟨hS.fr f2 (fun k => by unfold fNb; omega) (fun k => by unfold fNb; omega) (fun k => by unfold fNb; omega) (fun k => by unfold fNb; omega), f2, ?_, (gI_pI_k (by decide)).trans b3, (gI_pI_k (by decide)).trans b4, (gI_pI_k (by decide)).trans b5⟩ (fun t' ht' L hL => ?_)
  · show gL w 1 0 3 = _
    rw [f1.l (by unfold fBn; omega), gL_pL_s]
    exact hS.2.2.2.2.1
  · have := few hW hL
    omega))
theorem s_ofSearchA {h : Nat} {L : Nat → Nat} (hS : NS v N) (hh : h < 7) (hL : nW N h = true → gI v 200 0 h = nI (L h)) : ZP (d + 2) m_X0_ofSearch [vR 0 0, vR 200 0, vI (nI h)] v (lbV N L h) := fun Q k => E_X0_ofSearch_a (B_X0_ofSearch_a_0 (cP (s_isBeside hS hh) (by
  refine br_z (fun e => ?_) (fun e => z_ii h rfl hh ?_)
  · unfold lbV at k
    rw [e] at k
    exact k
  · rw [n_nI (by omega), hL e]
    unfold lbV at k
    rw [e] at k
    exact k)))
theorem cNb.fr {u : z_V} {S : Nat → Nat → Prop} (h : cNb v) (f : Fr S v u) (h1 : ¬ S 1 1) (h3 : ¬ S 1 3) (h2 : ∀ k, ¬ S 200 k) : cNb u := fun N hW k4 => by
  obtain ⟨t, L, a1, a0, a2, a3⟩ := h N hW ((f.l h3).symm.trans k4)
  exact ⟨t, L, a1, a0, (f.i h1).trans a2, fun h hh hw => (f.i (h2 _)).trans (a3 h hh hw)⟩
def fNbC : Nat → Nat → Prop := fun t k => sNet t k ∨ fNb t k
theorem br_r7 {a : Int32} {A B C : Prop} (f : inr a 7 = false → A) (f' : inr a 7 = false → B) (t : inr a 7 = true → C) : (a < 0 → A) ∧ (¬ a < 0 → (a < 7 → C) ∧ (¬ a < 7 → B)) := by
  have e7 : ((7 : Int32)).toInt = 7 := by decide
  refine ⟨fun h => ?_, fun h => ⟨fun h2 => ?_, fun h2 => ?_⟩⟩
  · rw [Int32.lt_iff_toInt_lt, Int32.toInt_zero] at h
    exact f (decide_eq_false (by omega))
  · rw [Int32.lt_iff_toInt_lt, Int32.toInt_zero] at h
    rw [Int32.lt_iff_toInt_lt, e7] at h2
    exact t (decide_eq_true (by omega))
  · rw [Int32.lt_iff_toInt_lt, e7] at h2
    exact f' (decide_eq_false (by omega))
theorem nNb (hS : NS v N) {u : z_V} (f : Fr fNb v u) : NS u N := hS.fr f (fun k => by unfold fNb; omega) (fun k => by unfold fNb; omega) (fun k => by unfold fNb; omega) (fun k => by unfold fNb; omega)
theorem s_spanC {a : Int32} (hC : CW v 0 N nu) (hc : cNb v) : ZI (d + 19) m_X10_span [vR 10 0, vI a] v (fun u r => spA 1 0 0 N a r ∧ cNb u ∧ Fr fNbC v u) := fun Q k => E_X10_span (B_X10_span_0 (by
  refine br_rm (fun z1 z2 => k _ _ ⟨Or.inl ⟨z1, z2, rfl⟩, hc, Fr.rfl⟩) (fun z1 z2 => k _ _ ⟨Or.inl ⟨z1, z2, rfl⟩, hc, Fr.rfl⟩) (fun e3 => ?_)
  refine cV (s_look (d := d + 16) hC) (fun u hu => ?_)
  refine cV (s_solve hu.1 hC.1 (hc.fr hu.2 (sNet_not (by decide)) (sNet_not (by decide)) (fun _ => sNet_not (by decide)))) (fun w hw => ?_)
  obtain ⟨⟨t, L, g1, g0, g2, g3⟩, hcw, f2⟩ := hw
  have fw : Fr fNbC v w := (hu.2.mono (fun t k z => Or.inl z)).trans (f2.mono (fun t k z => Or.inr z))
  refine ⟨fun z => ?_, fun z => ?_⟩
  · rcases e3 with e3 | e3
    · exact absurd e3 z
    · obtain ⟨h, hh, rfl, _⟩ := inr_n (by decide) e3
      exact cP (s_ofSearchA (d := d + 16) (nNb hu.1 f2) hh (g3 h hh)) (k _ _ ⟨Or.inr ⟨t, L, g1, Or.inr ⟨h, hh, rfl, rfl⟩⟩, hcw, fw⟩)
  · rw [g2]
    exact k _ _ ⟨Or.inr ⟨t, L, g1, Or.inl ⟨z, rfl⟩⟩, hcw, fw⟩))
theorem s_wholeC {a : Int32} (hC : CW v 0 N nu) (hc : cNb v) : ZI (d + 19) m_X10_whole [vR 10 0, vI a] v (fun u r => whA N a r ∧ cNb u ∧ Fr fNbC v u) := fun Q k => E_X10_whole (B_X10_whole_0 (by
  refine br_r7 (fun e => k _ _ ⟨Or.inl ⟨e, rfl⟩, hc, Fr.rfl⟩) (fun e => k _ _ ⟨Or.inl ⟨e, rfl⟩, hc, Fr.rfl⟩) (fun e3 => ?_)
  obtain ⟨h, hh, rfl, _⟩ := inr_n (by decide) e3
  refine cV (s_look (d := d + 16) hC) (fun u hu => ?_)
  refine cV (s_solve hu.1 hC.1 (hc.fr hu.2 (sNet_not (by decide)) (sNet_not (by decide)) (fun _ => sNet_not (by decide)))) (fun w hw => ?_)
  obtain ⟨⟨t, L, g1, g0, g2, g3⟩, hcw, f2⟩ := hw
  have fw : Fr fNbC v w := (hu.2.mono (fun t k z => Or.inl z)).trans (f2.mono (fun t k z => Or.inr z))
  have hSw := nNb hu.1 f2
  have hp := pc_le 10 (nO N)
  have hfew := few hC.1 g1.1.1
  rw [g2, hSw.2.1]
  refine pk_ne t (pc 10 (nO N)) (fun ne => k _ _ ⟨Or.inr ⟨h, hh, rfl, Or.inl ⟨fun L' hL' => ?_, rfl⟩⟩, hcw, fw⟩) (fun e => ?_)
  · exact g1.2 (pc 10 (nO N)) (by omega) L' (nice01.mp hL')
  · subst e
    exact cP (s_ofSearchA (d := d + 16) hSw hh (g3 h hh)) (k _ _ ⟨Or.inr ⟨h, hh, rfl, Or.inr ⟨L, (isLF_cg (fun L => nice01)).mpr g1.1, rfl⟩⟩, hcw, fw⟩)))
end NB6
