/-! the reference tells by labels -/
def lbV (N : z_N) (L : Nat → Nat) (h : Nat) : Int32 := nI (if nW N h = true then L h else 0)
def isOp (kind pa pb : Nat) (N : z_N) (t : Nat) (L : Nat → Nat) : Prop := isLF (nW N) (niceL kind pa pb N t) L ∧ ∀ t', t' < t → ∀ L', ¬ niceL kind pa pb N t' L'
theorem isOp.u {kind pa pb : Nat} {N : z_N} {t t' : Nat} {L L' : Nat → Nat} (h : isOp kind pa pb N t L) (h' : isOp kind pa pb N t' L') : t = t' ∧ ∀ g, g < 7 → lbV N L g = lbV N L' g := by
  have e : t = t' := by
    rcases Nat.lt_trichotomy t t' with z | z | z
    · exact absurd h.1.1 (h'.2 t z L)
    · exact z
    · exact absurd h'.1.1 (h.2 t' z L')
  subst e
  refine ⟨rfl, fun g hg => ?_⟩
  unfold lbV
  cases z : nW N g
  · rfl
  · rw [if_pos rfl, if_pos rfl, h.1.u h'.1 g hg z]
/-- what is told of an optimal labelling -/
def spA (kind pa pb : Nat) (N : z_N) (a r : Int32) : Prop := (a ≠ -1 ∧ inr a 7 = false ∧ r = -1) ∨ ∃ t L, isOp kind pa pb N t L ∧ ((a = -1 ∧ r = nI t) ∨ ∃ h, h < 7 ∧ a = nI h ∧ r = lbV N L h)
theorem spA.u {kind pa pb : Nat} {N : z_N} {a r r' : Int32} (h : spA kind pa pb N a r) (h' : spA kind pa pb N a r') : r = r' := by
  have n7 : ∀ h, h < 7 → a = nI h → inr a 7 = true := fun h hh e => by rw [e, inr_nI (by omega)]; exact decide_eq_true hh
  rcases h with ⟨h1, h2, h3⟩ | ⟨t, L, h1, h2⟩
  · rcases h' with ⟨_, _, g3⟩ | ⟨t', L', g1, ⟨g2, _⟩ | ⟨m, g2, g3, _⟩⟩
    · rw [h3, g3]
    · exact absurd g2 h1
    · rw [n7 m g2 g3] at h2
      cases h2
  · rcases h' with ⟨g1, g2, g3⟩ | ⟨t', L', g1, g2⟩
    · rcases h2 with ⟨h2, _⟩ | ⟨m, h3, h4, _⟩
      · exact absurd h2 g1
      · rw [n7 m h3 h4] at g2
        cases g2
    · have hu := h1.u g1
      rcases h2 with ⟨h2, h3⟩ | ⟨m, h3, h4, h5⟩
      · rcases g2 with ⟨g2, g3⟩ | ⟨m', g3, g4, _⟩
        · rw [h3, g3, hu.1]
        · exact absurd (g4.symm.trans h2) (nI_nm1 (by omega))
      · rcases g2 with ⟨g2, g3⟩ | ⟨m', g3, g4, g5⟩
        · exact absurd (h4.symm.trans g2) (nI_nm1 (by omega))
        · obtain rfl : m = m' := (nI_eq (by omega) (by omega)).mp (h4.symm.trans g4)
          rw [h5, g5, hu.2 m h3]
def gol (h : Nat) : Nat := if h = 0 then 0 else if h = 1 then 1 else if h = 2 then 4 else if h = 3 then 10 else if h = 4 then 18 else if h = 5 then 23 else 25
theorem gol_tab0 : ∀ a, a < 7 → ∀ b, b < 7 → ∀ c, c < 7 → ∀ e, e < 7 → (decide (a = b) || decide (c = e) || !decide (dst (gol a) (gol b) = dst (gol c) (gol e)) || (decide (a = c) && decide (b = e)) || (decide (b = c) && decide (a = e))) = true := by decide +kernel
theorem gol_tab (a : Nat) (ha : a < 7) (b : Nat) (hb : b < 7) (c : Nat) (hc : c < 7) (e : Nat) (he : e < 7) (h1 : a ≠ b) (h2 : c ≠ e) (h3 : dst (gol a) (gol b) = dst (gol c) (gol e)) : (a = c ∧ b = e) ∨ (b = c ∧ a = e) := by
  have := gol_tab0 a ha b hb c hc e he
  simpa [h1, h2, h3] using this
theorem gol_ne : ∀ a, a < 7 → ∀ b, b < 7 → a ≠ b → 0 < dst (gol a) (gol b) := by decide +kernel
theorem gol_le : ∀ a, a < 7 → gol a ≤ 25 := by decide +kernel
theorem nice_gol {N : z_N} (hW : nWF N) : niceL 1 0 0 N 25 gol := by
  refine ⟨fun g h hgh hh _ _ => ?_, fun _ l' l hll hp' hp => ?_, fun h hh _ => gol_le h hh⟩
  · unfold fitK
    rw [if_neg (by decide), decide_eq_true (gol_ne g (by omega) h hh (by omega))]
    rfl
  · have hw := hW.2.2.1 l (nP_lt hW hp)
    have hw' := hW.2.2.1 l' (nP_lt hW hp')
    intro e
    refine hW.2.2.2 l' l hll (nP_lt hW hp) (nEd_mk.mpr ?_)
    exact gol_tab _ hw'.1 _ hw'.2.1 _ hw.1 _ hw.2.1 hw'.2.2 hw.2.2 e
theorem nice_3 {N : z_N} {pa pb : Nat} (ha : pa ≤ 3) (hb : pb ≤ 3) : niceL 2 pa pb N 18 (fun h => 3 * h) := by
  refine ⟨fun g h hgh hh _ _ => ?_, fun z => absurd z (by decide), fun h hh _ => by show 3 * h ≤ 18; omega⟩
  have : 3 ≤ dst (3 * g) (3 * h) := by
    unfold dst
    split <;> omega
  unfold fitK
  rw [if_pos rfl, decide_eq_true (show pa ≤ dst (3 * g) (3 * h) by omega), decide_eq_true (show pb ≤ dst (3 * g) (3 * h) by omega)]
  simp
section DF3
variable {d : Nat} {v : z_V} {N : z_N} {nu : Nat → Nat} {kind pa pb top : Nat}
theorem MS.wh {u : z_V} (hM : MS v N nu) (f : Fr fWh v u) : MS u N nu := hM.fr f (fun k z => by unfold fWh at z; omega)
/-- whether there is a labelling; the lowest -/
theorem s_lab1 (hM : MS v N nu) (hkd : kind < 4) (ha : pa < 100) (hb : pb < 100) (hP : KP v kind pa pb) (htop : top < 100) (ht30 : kind ≤ 1 → top ≤ 30) : ZL (d + 8) m_X11_labelled [vR 11 0, vI (nI kind), vI (nI top), vI 0] v (fun u x => Fr fWh v u ∧ ((x = lN 0 ∧ ∀ L, ¬ niceL kind pa pb N top L) ∨ (x = lN 1 ∧ ∃ L, LB u N L (nM N) ∧ isLF (nW N) (niceL kind pa pb N top) L))) := fun Q k => by
  refine s_labelled (b := false) (Cb := CbK kind pa pb N) hM (CbK_loc hM.1) (fun u L p f hp hWH hL hbd => s_canLabel (hM.wh f) hkd ha hb (hP.fr f) htop ht30 hp hWH hL hbd) htop Q (fun u x hx => k u x ⟨hx.1, ?_⟩)
  rcases hx.2.2 rfl with ⟨h1, h2⟩ | ⟨h1, L, h2, h3, h4⟩
  · exact Or.inl ⟨h1, fun L z => h2 L ((sol_nice hM.1).mpr z)⟩
  · exact Or.inr ⟨h1, L, h2, nb_lf hM.1 h3 h4⟩
theorem LB.at {u : z_V} {L : Nat → Nat} {h : Nat} (hL : LB u N L (nM N)) (hh : h < 7) : gI u 1226 0 h = lbV N L h := hL h hh (fun z => rkW_lt hh z)
theorem s_spanR {a : Int32} (hM : MS v N nu) : ZI (d + 9) m_X11_span [vR 11 0, vI a] v (fun u r => spA 1 0 0 N a r ∧ Fr fWh v u) := fun Q k => E_X11_span (B_X11_span_0 (by
  have key : ∀ x, (a = -1 ∨ inr a 7 = true) → ∀ j t (u : z_V), t + j = 25 → Fr fWh v u → (∀ t', t' < t → ∀ L', ¬ niceL 1 0 0 N t' L') → x = nI t → z_Wp (z_C (d + 8)) 1 k_X11_span Q 16 [some (vR 11 0), some (vI a), some (vI x)] [] u := by
    intro x ho j
    induction j generalizing x with
    | zero =>
      intro t u ht f hno hx
      subst hx
      obtain rfl : t = 25 := by omega
      refine B_X11_span_16 (cL (s_lab1 (kind := 1) (pa := 0) (pb := 0) (top := 25) (hM.wh f) (by decide) (by decide) (by decide) ⟨fun z => absurd z (by decide), fun z => absurd z (by decide)⟩ (by decide) (fun _ => by decide)) (fun w x hx => ?_))
      rcases hx.2 with ⟨_, h2⟩ | ⟨rfl, L, h2, h3⟩
      · exact absurd (nice_gol hM.1) (h2 gol)
      · refine br_nT (by decide) ⟨fun z => ?_, fun z => ?_⟩
        · rcases ho with ho | ho
          · exact absurd ho z
          · obtain ⟨h, hh, rfl, hnh⟩ := inr_n (by decide) ho
            refine z_ii h rfl hh ?_
            rw [hnh, h2.at hh]
            exact k _ _ ⟨Or.inr ⟨25, L, ⟨h3, hno⟩, Or.inr ⟨h, hh, rfl, rfl⟩⟩, f.trans hx.1⟩
        · exact k _ _ ⟨Or.inr ⟨25, L, ⟨h3, hno⟩, Or.inl ⟨z, rfl⟩⟩, f.trans hx.1⟩
    | succ j ih =>
      intro t u ht f hno hx
      subst hx
      refine B_X11_span_16 (cL (s_lab1 (kind := 1) (pa := 0) (pb := 0) (top := t) (hM.wh f) (by decide) (by decide) (by decide) ⟨fun z => absurd z (by decide), fun z => absurd z (by decide)⟩ (by omega) (fun _ => by omega)) (fun w x hx => ?_))
      rcases hx.2 with ⟨rfl, h2⟩ | ⟨rfl, L, h2, h3⟩
      · refine br_nF (by decide) ?_
        rw [nI_1]
        exact ih _ (t + 1) w (by omega) (f.trans hx.1) (fun t' ht' L' => by
          by_cases z : t' = t
          · subst z
            exact h2 L'
          · exact hno t' (by omega) L') rfl
      · refine br_nT (by decide) ⟨fun z => ?_, fun z => ?_⟩
        · rcases ho with ho | ho
          · exact absurd ho z
          · obtain ⟨h, hh, rfl, hnh⟩ := inr_n (by decide) ho
            refine z_ii h rfl hh ?_
            rw [hnh, h2.at hh]
            exact k _ _ ⟨Or.inr ⟨t, L, ⟨h3, hno⟩, Or.inr ⟨h, hh, rfl, rfl⟩⟩, f.trans hx.1⟩
        · exact k _ _ ⟨Or.inr ⟨t, L, ⟨h3, hno⟩, Or.inl ⟨z, rfl⟩⟩, f.trans hx.1⟩
  refine ⟨fun e => key 0 (Or.inl e) 25 0 v (by omega) Fr.rfl (fun t' h => absurd h (by omega)) rfl, fun e => cP s_isHalt (br_n (fun e2 => key 0 (Or.inr e2) 25 0 v (by omega) Fr.rfl (fun t' h => absurd h (by omega)) rfl) (fun e2 => k _ _ ⟨Or.inl ⟨e, e2, rfl⟩, Fr.rfl⟩))⟩))
def fAp : Nat → Nat → Prop := fun t k => fWh t k ∨ (t = 11 ∧ (k = 29 ∨ k = 30 ∨ k = 31))
theorem s_apartR {a b c : Int32} (hM : MS v N nu) : ZI (d + 9) m_X11_apart [vR 11 0, vI a, vI b, vI c] v (fun u r => (((inr a 4 && inr b 4) = false ∧ r = -1) ∨ ∃ x y, x < 4 ∧ y < 4 ∧ a = nI x ∧ b = nI y ∧ spA 2 x y N c r) ∧ Fr fAp v u) := fun Q k => E_X11_apart (B_X11_apart_0 (by
  refine cP s_isIn ?_
  rw [show decide ((0 : Int32) ≤ a ∧ a ≤ 3) = inr a 4 from inr_le (n := 4) (by decide)]
  refine br_z (fun e => k _ _ ⟨Or.inl ⟨by rw [e]; rfl, rfl⟩, Fr.rfl⟩) (fun e1 => ?_)
  refine cP s_isIn ?_
  rw [show decide ((0 : Int32) ≤ b ∧ b ≤ 3) = inr b 4 from inr_le (n := 4) (by decide)]
  refine br_z (fun e => k _ _ ⟨Or.inl ⟨by rw [e]; simp, rfl⟩, Fr.rfl⟩) (fun e2 => ?_)
  obtain ⟨p, hp, rfl, hnp⟩ := inr_n (by decide) e1
  obtain ⟨q, hq, rfl, hnq⟩ := inr_n (by decide) e2
  have f0 : Fr fAp v (pI (pI v 11 0 29 (nI p)) 11 0 30 (nI q)) := (Fr.rfl.pI (Or.inr ⟨rfl, by decide⟩)).pI (Or.inr ⟨rfl, by decide⟩)
  have fM : ∀ {u}, Fr fAp v u → MS u N nu := fun f => hM.fr f (fun k z => by unfold fAp fWh at z; omega)
  have up : ∀ {u w}, Fr fWh u w → Fr fAp u w := fun f => f.mono (fun t k z => Or.inl z)
  have key : ∀ x, (c = -1 ∨ inr c 7 = true) → ∀ j t (u : z_V), t + j = 18 → Fr fAp v u → KP u 2 p q → (∀ t', t' < t → ∀ L', ¬ niceL 2 p q N t' L') → x = nI t → ∀ u1 u2, z_Wp (z_C (d + 8)) 1 k_X11_apart Q 45 [some (vR 11 0), u1, u2, some (vI c), some (vI x)] [] u := by
    intro x ho j
    induction j generalizing x with
    | zero =>
      intro t u ht f hK hno hx u1 u2
      subst hx
      obtain rfl : t = 18 := by omega
      refine B_X11_apart_45 (cL (s_lab1 (kind := 2) (pa := p) (pb := q) (top := 18) (fM f) (by decide) (by omega) (by omega) hK (by decide) (fun _ => by decide)) (fun w x hx => ?_))
      rcases hx.2 with ⟨_, h2⟩ | ⟨rfl, L, h2, h3⟩
      · exact absurd (nice_3 (by omega) (by omega)) (h2 _)
      · refine br_nT (by decide) ⟨fun z => ?_, fun z => ?_⟩
        · rcases ho with ho | ho
          · exact absurd ho z
          · obtain ⟨h, hh, rfl, hnh⟩ := inr_n (by decide) ho
            refine z_ii h rfl hh ?_
            rw [hnh, h2.at hh]
            exact k _ _ ⟨Or.inr ⟨p, q, hp, hq, rfl, rfl, Or.inr ⟨18, L, ⟨h3, hno⟩, Or.inr ⟨h, hh, rfl, rfl⟩⟩⟩, f.trans (up hx.1)⟩
        · exact k _ _ ⟨Or.inr ⟨p, q, hp, hq, rfl, rfl, Or.inr ⟨18, L, ⟨h3, hno⟩, Or.inl ⟨z, rfl⟩⟩⟩, f.trans (up hx.1)⟩
    | succ j ih =>
      intro t u ht f hK hno hx u1 u2
      subst hx
      refine B_X11_apart_45 (cL (s_lab1 (kind := 2) (pa := p) (pb := q) (top := t) (fM f) (by decide) (by omega) (by omega) hK (by omega) (fun z => absurd z (by decide))) (fun w x hx => ?_))
      rcases hx.2 with ⟨rfl, h2⟩ | ⟨rfl, L, h2, h3⟩
      · refine br_nF (by decide) ?_
        rw [nI_1]
        exact ih _ (t + 1) w (by omega) (f.trans (up hx.1)) (hK.fr hx.1) (fun t' ht' L' => by
          by_cases z : t' = t
          · subst z
            exact h2 L'
          · exact hno t' (by omega) L') rfl _ _
      · refine br_nT (by decide) ⟨fun z => ?_, fun z => ?_⟩
        · rcases ho with ho | ho
          · exact absurd ho z
          · obtain ⟨h, hh, rfl, hnh⟩ := inr_n (by decide) ho
            refine z_ii h rfl hh ?_
            rw [hnh, h2.at hh]
            exact k _ _ ⟨Or.inr ⟨p, q, hp, hq, rfl, rfl, Or.inr ⟨t, L, ⟨h3, hno⟩, Or.inr ⟨h, hh, rfl, rfl⟩⟩⟩, f.trans (up hx.1)⟩
        · exact k _ _ ⟨Or.inr ⟨p, q, hp, hq, rfl, rfl, Or.inr ⟨t, L, ⟨h3, hno⟩, Or.inl ⟨z, rfl⟩⟩⟩, f.trans (up hx.1)⟩
  have hK : KP (pI (pI v 11 0 29 (nI p)) 11 0 30 (nI q)) 2 p q := ⟨fun _ => ⟨by rw [gI_pI_k (by decide), gI_pI_s], gI_pI_s⟩, fun z => absurd z (by decide)⟩
  refine ⟨fun e => key 0 (Or.inl e) 18 0 _ (by omega) f0 hK (fun t' h => absurd h (by omega)) rfl _ _, fun e => cP s_isHalt (br_n (fun e2 => key 0 (Or.inr e2) 18 0 _ (by omega) f0 hK (fun t' h => absurd h (by omega)) rfl _ _) (fun e2 => k _ _ ⟨Or.inr ⟨p, q, hp, hq, rfl, rfl, Or.inl ⟨e, e2, rfl⟩⟩, Fr.rfl⟩))⟩))
/-- whole numbers -/
def whA (N : z_N) (a r : Int32) : Prop := (inr a 7 = false ∧ r = -1) ∨ ∃ h, h < 7 ∧ a = nI h ∧ (((∀ L, ¬ niceL 0 0 0 N (pc 10 (nO N)) L) ∧ r = -1) ∨ ∃ L, isLF (nW N) (niceL 0 0 0 N (pc 10 (nO N))) L ∧ r = lbV N L h)
theorem whA.u {N : z_N} {a r r' : Int32} (h : whA N a r) (h' : whA N a r') : r = r' := by
  have n7 : ∀ h, h < 7 → a = nI h → inr a 7 = true := fun h hh e => by rw [e, inr_nI (by omega)]; exact decide_eq_true hh
  rcases h with ⟨h1, h2⟩ | ⟨m, h1, h2, h3⟩
  · rcases h' with ⟨_, g2⟩ | ⟨m', g1, g2, _⟩
    · rw [h2, g2]
    · rw [n7 m' g1 g2] at h1
      cases h1
  · rcases h' with ⟨g1, g2⟩ | ⟨m', g1, g2, g3⟩
    · rw [n7 m h1 h2] at g1
      cases g1
    · obtain rfl : m = m' := (nI_eq (by omega) (by omega)).mp (h2.symm.trans g2)
      rcases h3 with ⟨h3, h4⟩ | ⟨L, h3, h4⟩
      · rcases g3 with ⟨_, g4⟩ | ⟨L', g3, _⟩
        · rw [h4, g4]
        · exact absurd g3.1 (h3 L')
      · rcases g3 with ⟨g3, _⟩ | ⟨L', g3, g4⟩
        · exact absurd h3.1 (g3 L)
        · rw [h4, g4]
          unfold lbV
          cases z : nW N m
          · rfl
          · rw [if_pos rfl, if_pos rfl, h3.u g3 m h1 z]
theorem s_wholeR {a : Int32} (hM : MS v N nu) : ZI (d + 9) m_X11_whole [vR 11 0, vI a] v (fun u r => whA N a r ∧ Fr fWh v u) := fun Q k => E_X11_whole (B_X11_whole_0 (by
  have hp := pc_le 10 (nO N)
  refine cP s_isHalt (br_z (fun e => k _ _ ⟨Or.inl ⟨e, rfl⟩, Fr.rfl⟩) (fun e => ?_))
  obtain ⟨h, hh, rfl, hnh⟩ := inr_n (by decide) e
  refine cP (s_openMany hM) (cL (s_lab1 (kind := 0) (pa := 0) (pb := 0) (top := pc 10 (nO N)) hM (by decide) (by decide) (by decide) ⟨fun z => absurd z (by decide), fun z => absurd z (by decide)⟩ (by omega) (fun _ => by omega)) (fun w x hx => ?_))
  rcases hx.2 with ⟨rfl, h2⟩ | ⟨rfl, L, h2, h3⟩
  · exact br_T (by decide) (k _ _ ⟨Or.inr ⟨h, hh, rfl, Or.inl ⟨h2, rfl⟩⟩, hx.1⟩)
  · refine br_F (by decide) (z_ii h rfl hh ?_)
    rw [hnh, h2.at hh]
    exact k _ _ ⟨Or.inr ⟨h, hh, rfl, Or.inr ⟨L, h3, rfl⟩⟩, hx.1⟩))
def whC (N : z_N) : Nat := ctV 0 (pc 10 (nO N) + 1) (PbL N (CbK 0 0 0 N)) (vLs (nK N) 0 (nM N)) (fun _ => 0)
theorem s_wholesR (hM : MS v N nu) : ZL (d + 9) m_X11_wholes [vR 11 0] v (fun u x => x = lN (whC N) ∧ Fr fWh v u) := fun Q k => E_X11_wholes (B_X11_wholes_0 (by
  have hp := pc_le 10 (nO N)
  have hP : KP v 0 0 0 := ⟨fun z => absurd z (by decide), fun z => absurd z (by decide)⟩
  refine cP (s_openMany hM) (cL (s_labelled (kind := 0) (top := pc 10 (nO N)) (b := true) (Cb := CbK 0 0 0 N) hM (CbK_loc hM.1) (fun u L p f hp2 hWH hL hbd => s_canLabel (hM.wh f) (by decide) (by decide) (by decide) (hP.fr f) (by omega) (fun _ => by omega) hp2 hWH hL hbd) (by omega)) (fun w x hx => k _ _ ⟨hx.2.1 rfl, hx.1⟩))))
/-- a band -/
def bdA (N : z_N) (a r : Int32) : Prop := (a ≠ -1 ∧ inr a 7 = false ∧ r = -1) ∨ ∃ t L, isLF (nW N) (niceL 3 t 0 N (nM N - 1)) L ∧ (∀ t', t' < t → ∀ L', ¬ niceL 3 t' 0 N (nM N - 1) L') ∧ ((a = -1 ∧ r = nI t) ∨ ∃ h, h < 7 ∧ a = nI h ∧ r = lbV N L h)
theorem bdA.u {N : z_N} {a r r' : Int32} (h : bdA N a r) (h' : bdA N a r') : r = r' := by
  have n7 : ∀ h, h < 7 → a = nI h → inr a 7 = true := fun h hh e => by rw [e, inr_nI (by omega)]; exact decide_eq_true hh
  rcases h with ⟨h1, h2, h3⟩ | ⟨t, L, h1, h0, h2⟩
  · rcases h' with ⟨_, _, g3⟩ | ⟨t', L', g1, _, ⟨g2, _⟩ | ⟨m, g2, g3, _⟩⟩
    · rw [h3, g3]
    · exact absurd g2 h1
    · rw [n7 m g2 g3] at h2
      cases h2
  · rcases h' with ⟨g1, g2, g3⟩ | ⟨t', L', g1, g0, g2⟩
    · rcases h2 with ⟨h2, _⟩ | ⟨m, h3, h4, _⟩
      · exact absurd h2 g1
      · rw [n7 m h3 h4] at g2
        cases g2
    · have e : t = t' := by
        rcases Nat.lt_trichotomy t t' with z | z | z
        · exact absurd h1.1 (g0 t z L)
        · exact z
        · exact absurd g1.1 (h0 t' z L')
      subst e
      rcases h2 with ⟨h2, h3⟩ | ⟨m, h3, h4, h5⟩
      · rcases g2 with ⟨g2, g3⟩ | ⟨m', g3, g4, _⟩
        · rw [h3, g3]
        · exact absurd (g4.symm.trans h2) (nI_nm1 (by omega))
      · rcases g2 with ⟨g2, g3⟩ | ⟨m', g3, g4, g5⟩
        · exact absurd (h4.symm.trans g2) (nI_nm1 (by omega))
        · obtain rfl : m = m' := (nI_eq (by omega) (by omega)).mp (h4.symm.trans g4)
          rw [h5, g5]
          unfold lbV
          cases z : nW N m
          · rfl
          · rw [if_pos rfl, if_pos rfl, h1.u g1 m h3 z]
theorem nice_b {N : z_N} : niceL 3 6 0 N (nM N - 1) (rkW N) := by
  have hm := nM_le (N := N)
  refine ⟨fun g h hgh hh hwg hwh => ?_, fun z => absurd z (by decide), fun h hh hw => by have := rkW_lt hh hw; omega⟩
  have h1 := rkW_lt2 hgh hwg
  have h2 := rkW_lt hh hwh
  have e : dst (rkW N g) (rkW N h) = rkW N h - rkW N g := by
    unfold dst
    rw [if_pos (by omega)]
  unfold fitK
  rw [if_neg (by decide), e, decide_eq_true (show 0 < rkW N h - rkW N g by omega), decide_eq_true (show rkW N h - rkW N g ≤ 6 by omega)]
  simp
theorem s_lab0 {a b c : Int32} (hM : MS v N nu) (h0 : nM N = 0) : ZL (d + 8) m_X11_labelled [vR 11 0, vI a, vI b, vI c] v (fun u x => Fr fWh v u ∧ x = lN 1 ∧ ∀ L, LB u N L 0) := fun Q k => E_X11_labelled (B_X11_labelled_0 (by
  refine cV (s_layWho (d := d + 3) hM) (fun u hu => ?_)
  rw [hu.1.1, h0]
  exact br_nF rfl (k _ _ ⟨hu.2.2, rfl, hu.2.1⟩)))
theorem s_bandR {a : Int32} (hM : MS v N nu) : ZI (d + 9) m_X11_band [vR 11 0, vI a] v (fun u r => bdA N a r ∧ Fr fAp v u) := fun Q k => E_X11_band (B_X11_band_0 (by
  have hm := nM_le (N := N)
  have fM : ∀ {u}, Fr fAp v u → MS u N nu := fun f => hM.fr f (fun k z => by unfold fAp fWh at z; omega)
  have up : ∀ {u w}, Fr fWh u w → Fr fAp u w := fun f => f.mono (fun t k z => Or.inl z)
  have key : (a = -1 ∨ inr a 7 = true) → ∀ j t (u : z_V), t + j = 6 → Fr fAp v u → gI u 11 0 31 = nI t → (∀ t', t' < t → ∀ L', ¬ niceL 3 t' 0 N (nM N - 1) L') → z_Wp (z_C (d + 8)) 1 k_X11_band Q 30 [some (vR 11 0), some (vI a), some (vI (nI (nM N) - 1))] [] u := by
    intro ho j
    have fin : ∀ t (u : z_V) L, LB u N L (nM N) → isLF (nW N) (niceL 3 t 0 N (nM N - 1)) L → (∀ t', t' < t → ∀ L', ¬ niceL 3 t' 0 N (nM N - 1) L') → Fr fAp v u → gI u 11 0 31 = nI t → (¬ a = -1 → z_if (z_in a 7) (Q u (some (vI (gI u 1226 0 (n_ a)))))) ∧ (a = -1 → Q u (some (vI (gI u 11 0 31)))) := by
      intro t u L h2 h3 hno f h31
      refine ⟨fun z => ?_, fun z => ?_⟩
      · rcases ho with ho | ho
        · exact absurd ho z
        · obtain ⟨h, hh, rfl, hnh⟩ := inr_n (by decide) ho
          refine z_ii h rfl hh ?_
          rw [hnh, h2.at hh]
          exact k _ _ ⟨Or.inr ⟨t, L, h3, hno, Or.inr ⟨h, hh, rfl, rfl⟩⟩, f⟩
      · rw [h31]
        exact k _ _ ⟨Or.inr ⟨t, L, h3, hno, Or.inl ⟨z, rfl⟩⟩, f⟩
    by_cases h0 : nM N = 0
    · intro t u ht f h31 hno
      have hwn : ∀ g, g < 7 → nW N g = true → False := fun g hg hw => by
        have := rkW_lt hg hw
        omega
      have hz : niceL 3 0 0 N (nM N - 1) (fun _ => 0) := ⟨fun g h h1 h2 h3 h4 => absurd h4 (fun z => hwn h h2 z), fun z => absurd z (by decide), fun h hh hw => absurd hw (fun z => hwn h hh z)⟩
      have ht0 : t = 0 := by
        rcases Nat.eq_zero_or_pos t with z | z
        · exact z
        · exact absurd hz (hno 0 z _)
      subst ht0
      refine B_X11_band_30 (cL (s_lab0 (fM f) h0) (fun w x hx => ?_))
      obtain ⟨g1, rfl, g2⟩ := hx
      refine br_nT (by decide) (fin 0 w (fun _ => 0) (by rw [h0]; exact g2 _) ⟨hz, fun L' _ h hh hw => absurd hw (fun z => hwn h hh z)⟩ hno (f.trans (up g1)) ?_)
      rw [g1.i (by unfold fWh; omega)]
      exact h31
    · rw [show nI (nM N) - 1 = nI (nM N - 1) from pk_sub (b := 1) (by omega)]
      induction j with
      | zero =>
        intro t u ht f h31 hno
        obtain rfl : t = 6 := by omega
        refine B_X11_band_30 (cL (s_lab1 (kind := 3) (pa := 6) (pb := 0) (top := nM N - 1) (fM f) (by decide) (by decide) (by decide) ⟨fun z => absurd z (by decide), fun _ => h31⟩ (by omega) (fun z => absurd z (by decide))) (fun w x hx => ?_))
        rcases hx.2 with ⟨_, h2⟩ | ⟨rfl, L, h2, h3⟩
        · exact absurd nice_b (h2 _)
        · exact br_nT (by decide) (fin 6 w L h2 h3 hno (f.trans (up hx.1)) ((hx.1.i (by unfold fWh; omega)).trans h31))
      | succ j ih =>
        intro t u ht f h31 hno
        refine B_X11_band_30 (cL (s_lab1 (kind := 3) (pa := t) (pb := 0) (top := nM N - 1) (fM f) (by decide) (by omega) (by decide) ⟨fun z => absurd z (by decide), fun _ => h31⟩ (by omega) (fun z => absurd z (by decide))) (fun w x hx => ?_))
        have h31w : gI w 11 0 31 = nI t := (hx.1.i (by unfold fWh; omega)).trans h31
        rcases hx.2 with ⟨rfl, h2⟩ | ⟨rfl, L, h2, h3⟩
        · refine br_nF (by decide) ?_
          rw [h31w, nI_1]
          exact ih (t + 1) _ (by omega) ((f.trans (up hx.1)).pI (Or.inr ⟨rfl, by decide⟩)) gI_pI_s (fun t' ht' L' => by
            by_cases z : t' = t
            · subst z
              exact h2 L'
            · exact hno t' (by omega) L')
        · exact br_nT (by decide) (fin t w L h2 h3 hno (f.trans (up hx.1)) h31w)
  have start : (a = -1 ∨ inr a 7 = true) → z_C (d + 8) m_X11_layWho [vR 11 0] v (fun w1 o2 => o2 = none ∧ z_Wp (z_C (d + 8)) 1 k_X11_band Q 30 [some (vR 11 0), some (vI a), some (vI (gI w1 11 0 28 - 1))] [] (pI w1 11 0 31 0)) := fun ho => by
    refine cV (s_layWho (d := d + 4) hM) (fun u hu => ?_)
    rw [hu.1.1]
    exact key ho 6 0 _ (by omega) ((up hu.2.2).pI (Or.inr ⟨rfl, by decide⟩)) gI_pI_s (fun t' h => absurd h (by omega))
  exact ⟨fun e => start (Or.inl e), fun e => cP s_isHalt (br_n (fun e2 => start (Or.inr e2)) (fun e2 => k _ _ ⟨Or.inl ⟨e, e2, rfl⟩, Fr.rfl⟩))⟩))
end DF3
