/-! ALL FARES by the reference -/
def usL (N : z_N) (L : Nat → Nat) (k c : Nat) : Bool := anyL k (fun p => decide (L (nK N p) = c))
def Bst (N : z_N) (S : (Nat → Nat) → Prop) (x : Int32) : Prop := (x = 1000000 ∧ ∀ L, ¬ S L) ∨ ∃ t, t ≤ 990 ∧ x = nI t ∧ (∃ L, S L ∧ csL N L = t) ∧ ∀ L, S L → t ≤ csL N L
def GT (D : Nat) (Q : z_RT) (x2 x1 : Int32) (u : z_V) : Prop := ∀ u3, z_Wp (z_C D) 1 k_X11_total Q 31 [some (vR 11 0), some (vI x1), some (vI x2), u3] [] u
section TO2
variable {d D : Nat} {v : z_V} {N : z_N} {nu : Nat → Nat} {L : Nat → Nat} {Q : z_RT}
theorem Bst.cg {S S' : (Nat → Nat) → Prop} {x : Int32} (h : Bst N S x) (e : ∀ L, S L ↔ S' L) : Bst N S' x := by
  rcases h with ⟨h1, h2⟩ | ⟨t, h0, h1, ⟨L, h2, h3⟩, h4⟩
  · exact Or.inl ⟨h1, fun L z => h2 L ((e L).mpr z)⟩
  · exact Or.inr ⟨t, h0, h1, ⟨L, (e L).mp h2, h3⟩, fun L z => h4 L ((e L).mpr z)⟩
theorem csL_le (hb : ∀ h, h < 7 → nW N h = true → L h ≤ 99) (hW : nWF N) : csL N L ≤ 990 := sm_le (n := 10) (c := 99) (fun l _ => by
  cases hp : nP N l
  · rw [if_neg (by decide)]
    omega
  · rw [if_pos rfl]
    have hw := hW.2.2.1 l (nP_lt hW hp)
    have he := nW_ends hW hp
    exact dst_le (hb _ hw.1 he.1) (hb _ hw.2.1 he.2))
theorem s_isUsed {k c : Nat} (hWH : WH v N) (hL : LB v N L k) (hk : k ≤ nM N) (hb : ∀ p, p < k → L (nK N p) ≤ 99) (hc : c ≤ 99) : ZP (d + 1) m_X11_isUsed [vR 11 0, vI (nI k), vI (nI c)] v (bI (usL N L k c)) := fun Q q => E_X11_isUsed (B_X11_isUsed_0 (by
  have hm := nM_le (N := N)
  refine z_up0 (P := fun p => (∀ i, i < p → L (nK N i) ≠ c) → z_Wp (z_C d) 4 k_X11_isUsed Q 2 [some (vR 11 0), some (vI (nI k)), some (vI (nI c)), some (vI (nI p))] [] v) k ?_ ?_ (fun i h => absurd h (by omega))
  · intro hall
    have : usL N L k c = false := by
      cases z : usL N L k c
      · rfl
      · obtain ⟨i, hi, hz⟩ := anyL_iff.mp z
        exact absurd (of_decide_eq_true hz) (hall i hi)
    rw [this] at q
    exact B_X11_isUsed_2 (pk_le k k (fun _ => q) (fun z => absurd z (by omega)))
  · intro p hp ih hall
    have hw := nK_ok (N := N) (show p < nM N by omega)
    have hl := hL _ hw.1 (fun _ => by rw [hw.2.2]; exact hp)
    rw [if_pos hw.2.1] at hl
    have b := hb p hp
    refine B_X11_isUsed_2 (pk_le k p (fun z => absurd z (by omega)) (fun _ => ?_))
    rw [n_nI (n := p) (by omega), hWH.2 p (by omega), n_nI (n := nK N p) (by omega), hl, nI_1]
    refine z_ii p rfl (by omega) (z_ii _ rfl hw.1 (pk_ne (L (nK N p)) c (fun e => ih (fun i hi => ?_)) (fun e => ?_)))
    · by_cases z : i = p
      · subst z
        exact e
      · exact hall i (by omega)
    · rw [show usL N L k c = true from anyL_iff.mpr ⟨p, hp, decide_eq_true e⟩] at q
      exact q))
theorem s_labelSum (hM : MS v N nu) (hL : LB v N L (nM N)) (hb : ∀ h, h < 7 → nW N h = true → L h ≤ 99) : ZP (d + 3) m_X11_labelSum [vR 11 0] v (nI (csL N L)) := fun Q q => E_X11_labelSum (B_X11_labelSum_0 (by
  have hW := hM.1
  have hn := hW.1
  have sm10 : ∀ j, nN N + j ≤ 10 → sm (nN N + j) (fun l => if nP N l = true then fL N L l else 0) = sm (nN N) (fun l => if nP N l = true then fL N L l else 0) := by
    intro j
    induction j with
    | zero => exact fun _ => rfl
    | succ j ih =>
      intro hj
      show sm (nN N + j) (fun l => if nP N l = true then fL N L l else 0) + (if nP N (nN N + j) = true then fL N L (nN N + j) else 0) = _
      rw [ih (by omega), nP_hi hW (by omega)]
      rfl
  have em : sm (nN N) (fun l => if nP N l = true then fL N L l else 0) = csL N L := by
    have t := sm10 (10 - nN N) (by omega)
    rw [show nN N + (10 - nN N) = 10 by omega] at t
    exact t.symm
  refine z_up0 (P := fun l => z_Wp (z_C (d + 2)) 1 k_X11_labelSum Q 4 [some (vR 11 0), some (vI (nI (sm l (fun l => if nP N l = true then fL N L l else 0)))), some (vI (nI l))] [] v) (nN N) ?_ ?_
  · refine B_X11_labelSum_4 (pk_le (nN N) (nN N) (fun _ => ?_) (fun z => absurd z (by omega)) hM.2.1)
    rw [em]
    exact q
  · intro l hl ih
    have st : sm (l + 1) (fun l => if nP N l = true then fL N L l else 0) = sm l (fun l => if nP N l = true then fL N L l else 0) + (if nP N l = true then fL N L l else 0) := rfl
    refine B_X11_labelSum_4 (pk_le (nN N) l (fun z => absurd z (by omega)) (fun _ => ?_) hM.2.1)
    refine cP (s_isOpen hM (by omega)) (br_z (fun e => ?_) (fun e => ?_))
    · rw [st, e, if_neg (by decide), Nat.add_zero] at ih
      rw [nI_1, show nI (sm l (fun l => if nP N l = true then fL N L l else 0)) + 0 = nI (sm l (fun l => if nP N l = true then fL N L l else 0)) from Int32.add_zero _]
      exact ih
    · rw [st, e, if_pos rfl] at ih
      have hw := hW.2.2.1 l hl
      have he := nW_ends hW e
      have l1 := hL _ hw.1 (fun _ => rkW_lt hw.1 he.1)
      have l2 := hL _ hw.2.1 (fun _ => rkW_lt hw.2.1 he.2)
      rw [if_pos he.1] at l1
      rw [if_pos he.2] at l2
      have b1 := hb _ hw.1 he.1
      have b2 := hb _ hw.2.1 he.2
      refine cP (s_one hM hl) (z_ii _ rfl hw.1 (cP (s_other hM hl) (z_ii _ rfl hw.2.1 ?_)))
      rw [n_nI (n := nA N l) (by omega), n_nI (n := nB N l) (by omega), l1, l2]
      refine cP (s_apartBy (by omega) (by omega)) ?_
      rw [nI_1, nI_add]
      exact ih))
theorem s_tstep {k c : Nat} {x1 : Int32} {u : z_V} (hM : MS v N nu) (f : Fr fWh v u) (hk : k < nM N) (hc : c ≤ nM N) (hWH : WH u N) (hLB : LB u N L k) (hlab : gI u 1226 0 (nK N k) = nI c + (-1)) (hpb : ∀ p, p < k → L (nK N p) < nM N)
    (g1 : c = nM N → GT (d + 3) Q (nI k + (-1)) x1 (pI u 1226 0 (nK N k) (nI c)))
    (g2 : c < nM N → usL N L k c = true → GT (d + 3) Q (nI k) x1 (pI u 1226 0 (nK N k) (nI c)))
    (g3 : c < nM N → usL N L k c = false → k + 1 = nM N → ((x1 ≤ nI (csL N (sU L (nK N k) c)) → GT (d + 3) Q (nI k) x1 (pI u 1226 0 (nK N k) (nI c))) ∧ (¬ x1 ≤ nI (csL N (sU L (nK N k) c)) → GT (d + 3) Q (nI k) (nI (csL N (sU L (nK N k) c))) (pI u 1226 0 (nK N k) (nI c)))))
    (g4 : c < nM N → usL N L k c = false → k + 1 < nM N → GT (d + 3) Q (nI (k + 1)) x1 (pI (pI u 1226 0 (nK N k) (nI c)) 1226 0 (nK N (k + 1)) (-1))) : GT (d + 3) Q (nI k) x1 u := by
  intro u3
  have hm := nM_le (N := N)
  have hw := nK_ok hk
  have f1 : Fr fWh v (pI u 1226 0 (nK N k) (nI c)) := f.pI (Or.inl rfl)
  have hWH1 := hWH.upd (k := nK N k) (x := nI c)
  have hLB1 := hLB.upd (c := c) hk
  refine B_X11_total_31 (br_F (nI_pos (by omega)) ?_)
  rw [n_nI (n := k) (by omega), hWH.2 k hk, n_nI (n := nK N k) (by omega), hlab, Int32.add_assoc, show (-1 : Int32) + 1 = 0 by decide, Int32.add_zero, gI_pI_s, nI_1]
  refine z_ii k rfl (by omega) (z_ii _ rfl hw.1 (z_ii _ rfl hw.1 (z_ii k rfl (by omega) (z_ii _ rfl hw.1 ?_))))
  refine pk_lt c (nM N) (fun q => ?_) (fun q => g1 (by omega) _) rfl hWH.1
  have hL0 : LB (pI u 1226 0 (nK N k) (nI c)) N L k := hLB.low0 hk
  refine cP (s_isUsed (d := d + 2) hWH1 hL0 (by omega) (fun p hp => by have := hpb p hp; omega) (by omega)) (br_n (fun e => g2 q e _) (fun e => ?_))
  have em : nI (nM N) - 1 = nI (nM N - 1) := pk_sub (b := 1) (by omega)
  rw [hWH1.1, em]
  refine pk_ne k (nM N - 1) (fun z => ?_) (fun z => ?_)
  · have hk1 : k + 1 < nM N := by omega
    have hw1 := nK_ok hk1
    rw [n_nI (n := k + 1) (by omega), hWH1.2 (k + 1) hk1, n_nI (n := nK N (k + 1)) (by omega)]
    exact z_ii (k + 1) rfl (by omega) (z_ii _ rfl hw1.1 (g4 q e hk1 _))
  · have hkm : k + 1 = nM N := by omega
    have hM1 := hM.wh f1
    have hb : ∀ h, h < 7 → nW N h = true → sU L (nK N k) c h ≤ 99 := fun h hh hwh => by
      by_cases y : h = nK N k
      · subst y
        rw [sU_s]
        omega
      · rw [sU_n y]
        have hr := rkW_lt hh hwh
        have ne : rkW N h ≠ k := fun y2 => y (by rw [← y2, nK_rk hh hwh])
        have := hpb (rkW N h) (by omega)
        rw [nK_rk hh hwh] at this
        omega
    have hLf : LB (pI u 1226 0 (nK N k) (nI c)) N (sU L (nK N k) c) (nM N) := by
      rw [← hkm]
      exact hLB1
    have g := g3 q e hkm
    exact cP (s_labelSum (d := d) hM1 hLf hb) ⟨fun y => g.1 y _, fun y => cP (s_labelSum (d := d) hM1 hLf hb) (g.2 y _)⟩
theorem s_visT (hM : MS v N nu) : ∀ (j k : Nat), k + j = nM N → k < nM N → ∀ (r c : Nat), c + r = nM N → ∀ (L : Nat → Nat) (u : z_V) (x1 : Int32) (S : (Nat → Nat) → Prop), WH u N → LB u N L k → gI u 1226 0 (nK N k) = nI c + (-1) → Fr fWh v u → (∀ p, p < k → L (nK N p) < nM N ∧ ∀ p', p' < p → L (nK N p') ≠ L (nK N p)) → Bst N S x1 →
      (∀ (u' : z_V) (x' : Int32), WH u' N → LB u' N L k → Fr fWh v u' → Bst N (fun L' => S L' ∨ (injW N L' ∧ (∀ p, p < k → L' (nK N p) = L (nK N p)) ∧ c ≤ L' (nK N k))) x' → GT (d + 3) Q (nI k + (-1)) x' u') → GT (d + 3) Q (nI k) x1 u := by
  have hW := hM.1
  have hm := nM_le (N := N)
  intro j
  induction j with
  | zero => intro k hk hk2; omega
  | succ j ihj =>
    intro k hk hkm r
    have hw := nK_ok hkm
    induction r with
    | zero =>
      intro c hc L u x1 S hWH hLB hlab f hpre hB kb
      refine s_tstep (L := L) (c := c) hM f hkm (by omega) hWH hLB hlab (fun p hp => (hpre p hp).1) (fun q => ?_) (fun q => absurd q (by omega)) (fun q => absurd q (by omega)) (fun q => absurd q (by omega))
      refine kb _ x1 hWH.upd (hLB.low0 hkm) (f.pI (Or.inl rfl)) (hB.cg (fun L' => ⟨fun z => Or.inl z, fun z => ?_⟩))
      rcases z with z | z
      · exact z
      · have := z.1.1 _ hw.1 hw.2.1
        have := z.2.2
        omega
    | succ r ihr =>
      intro c hc L u x1 S hWH hLB hlab f hpre hB kb
      have hWH1 := hWH.upd (k := nK N k) (x := nI c)
      have hLB1 := hLB.upd (c := c) hkm
      have f1 : Fr fWh v (pI u 1226 0 (nK N k) (nI c)) := f.pI (Or.inl rfl)
      have hlab1 : gI (pI u 1226 0 (nK N k) (nI c)) 1226 0 (nK N k) = nI (c + 1) + (-1) := by rw [gI_pI_s, pk_m1]
      have pre1 : c < nM N → usL N L k c = false → ∀ p, p < k + 1 → sU L (nK N k) c (nK N p) < nM N ∧ ∀ p', p' < p → sU L (nK N k) c (nK N p') ≠ sU L (nK N k) c (nK N p) := fun h1 h2 p hp => by
        by_cases z : p = k
        · subst z
          rw [sU_s]
          refine ⟨h1, fun p' hp' => ?_⟩
          rw [sU_nK (by omega) hkm (by omega)]
          exact fun y => by
            rw [show usL N L p c = true from anyL_iff.mpr ⟨p', hp', decide_eq_true y⟩] at h2
            cases h2
        · rw [sU_nK (by omega) hkm z]
          refine ⟨(hpre p (by omega)).1, fun p' hp' => ?_⟩
          rw [sU_nK (by omega) hkm (by omega)]
          exact (hpre p (by omega)).2 p' hp'
      -- go on with the next one
      have go : ∀ (u' : z_V) (x' : Int32) (S' : (Nat → Nat) → Prop), WH u' N → LB u' N L k → gI u' 1226 0 (nK N k) = nI (c + 1) + (-1) → Fr fWh v u' → Bst N S' x' → (∀ L', S' L' ↔ S L' ∨ (injW N L' ∧ (∀ p, p < k → L' (nK N p) = L (nK N p)) ∧ L' (nK N k) = c)) → GT (d + 3) Q (nI k) x' u' := fun u' x' S' a1 a2 a3 a4 a5 a6 => ihr (c + 1) (by omega) L u' x' S' a1 a2 a3 a4 hpre a5 (fun u2 x2 b1 b2 b3 b4 => kb u2 x2 b1 b2 b3 (b4.cg (fun L' => by
        rw [a6]
        constructor
        · rintro ((z | z) | z)
          · exact Or.inl z
          · exact Or.inr ⟨z.1, z.2.1, by omega⟩
          · exact Or.inr ⟨z.1, z.2.1, by omega⟩
        · rintro (z | z)
          · exact Or.inl (Or.inl z)
          · rcases Nat.eq_or_lt_of_le z.2.2 with y | y
            · exact Or.inl (Or.inr ⟨z.1, z.2.1, y.symm⟩)
            · exact Or.inr ⟨z.1, z.2.1, y⟩)))
      refine s_tstep (L := L) (c := c) hM f hkm (by omega) hWH hLB hlab (fun p hp => (hpre p hp).1) (fun q => absurd q (by omega)) (fun q e => ?_) (fun q e hm => ?_) (fun q e hm => ?_)
      · refine go _ x1 S hWH1 (hLB.low0 hkm) hlab1 f1 hB (fun L' => ⟨fun z => Or.inl z, fun z => ?_⟩)
        rcases z with z | z
        · exact z
        · obtain ⟨p, hp, y⟩ := anyL_iff.mp e
          have y := of_decide_eq_true y
          have hwp := nK_ok (N := N) (k := p) (by omega)
          have := z.1.2 _ _ hwp.1 hw.1 hwp.2.1 hw.2.1 ((z.2.1 p hp).trans (y.trans z.2.2.symm))
          have r1 := hwp.2.2
          rw [this, hw.2.2] at r1
          omega
      · -- all have a place
        have pr := pre1 q e
        have hin : injW N (sU L (nK N k) c) := by
          have val : ∀ h, h < 7 → nW N h = true → sU L (nK N k) c h < nM N := fun h hh hwh => by
            have hr := rkW_lt hh hwh
            have := (pr (rkW N h) (by omega)).1
            rw [nK_rk hh hwh] at this
            exact this
          have ne : ∀ g h, g < 7 → h < 7 → nW N g = true → nW N h = true → g < h → sU L (nK N k) c g ≠ sU L (nK N k) c h := fun g h hg hh hwg hwh hgh => by
            have hr := rkW_lt hh hwh
            have := (pr (rkW N h) (by omega)).2 (rkW N g) (rkW_lt2 hgh hwg)
            rw [nK_rk hh hwh, nK_rk hg hwg] at this
            exact this
          refine ⟨val, fun g h hg hh hwg hwh y => ?_⟩
          rcases Nat.lt_trichotomy g h with z | z | z
          · exact absurd y (ne g h hg hh hwg hwh z)
          · exact z
          · exact absurd y.symm (ne h g hh hg hwh hwg z)
        have b990 : csL N (sU L (nK N k) c) ≤ 990 := csL_le (fun h hh hwh => by have := hin.1 h hh hwh; omega) hW
        have same : ∀ L', injW N L' → (∀ p, p < k → L' (nK N p) = L (nK N p)) → L' (nK N k) = c → csL N L' = csL N (sU L (nK N k) c) := fun L' _ h2 h3 => csL_cg hW (fun h hh hwh => by
          have hr := rkW_lt hh hwh
          have e := nK_rk hh hwh
          by_cases y : rkW N h = k
          · rw [← e, y, sU_s, h3]
          · rw [← e, sU_nK (by omega) hkm y, h2 _ (by omega)])
        have me : injW N (sU L (nK N k) c) ∧ (∀ p, p < k → sU L (nK N k) c (nK N p) = L (nK N p)) ∧ sU L (nK N k) c (nK N k) = c := ⟨hin, fun p hp => sU_nK (by omega) hkm (by omega), sU_s⟩
        refine ⟨fun z => ?_, fun z => ?_⟩
        · refine go _ x1 (fun L' => S L' ∨ (injW N L' ∧ (∀ p, p < k → L' (nK N p) = L (nK N p)) ∧ L' (nK N k) = c)) hWH1 (hLB.low0 hkm) hlab1 f1 ?_ (fun L' => Iff.rfl)
          rcases hB with ⟨h1, _⟩ | ⟨t, h0, h1, ⟨L0, h2, h3⟩, h4⟩
          · exfalso
            rw [h1, show (1000000 : Int32) = nI 1000000 from rfl] at z
            have := (nI_leI (by decide) (by omega)).mp z
            omega
          · rw [h1] at z
            have := (nI_leI (by omega) (by omega)).mp z
            refine Or.inr ⟨t, h0, h1, ⟨L0, Or.inl h2, h3⟩, fun L' y => ?_⟩
            rcases y with y | y
            · exact h4 L' y
            · rw [same L' y.1 y.2.1 y.2.2]
              exact this
        · refine go _ (nI (csL N (sU L (nK N k) c))) (fun L' => S L' ∨ (injW N L' ∧ (∀ p, p < k → L' (nK N p) = L (nK N p)) ∧ L' (nK N k) = c)) hWH1 (hLB.low0 hkm) hlab1 f1 ?_ (fun L' => Iff.rfl)
          refine Or.inr ⟨_, b990, rfl, ⟨_, Or.inr me, rfl⟩, fun L' y => ?_⟩
          rcases y with y | y
          · rcases hB with ⟨_, h1⟩ | ⟨t, h0, h1, _, h4⟩
            · exact absurd y (h1 L')
            · have := h4 L' y
              rcases Nat.lt_or_ge (csL N (sU L (nK N k) c)) t with w | w
              · omega
              · exact absurd (by rw [h1]; exact (nI_leI (by omega) (by omega)).mpr w) z
          · rw [same L' y.1 y.2.1 y.2.2]
            exact Nat.le_refl _
      · refine ihj (k + 1) (by omega) hm (nM N) 0 (by omega) (sU L (nK N k) c) _ x1 S hWH1.upd (hLB1.low0 hm) (by rw [gI_pI_s]; decide) (f1.pI (Or.inl rfl)) (pre1 q e) hB (fun u' x' a1 a2 a3 a4 => ?_)
        rw [pk_m1]
        have hl2 : gI u' 1226 0 (nK N k) = nI (c + 1) + (-1) := by
          have := a2 (nK N k) hw.1 (fun _ => by rw [hw.2.2]; omega)
          rw [this, if_pos hw.2.1, sU_s, pk_m1]
        refine go u' x' _ a1 (a2.low (fun g hg hwg hr => sU_n (fun z => by
          rw [z, hw.2.2] at hr
          omega))) hl2 a3 a4 (fun L' => or_congr Iff.rfl ⟨fun z => ⟨z.1, fun p hp => ?_, ?_⟩, fun z => ⟨z.1, fun p hp => ?_, Nat.zero_le _⟩⟩)
        · rw [z.2.1 p (by omega), sU_nK (by omega) hkm (by omega)]
        · rw [z.2.1 k (by omega), sU_s]
        · by_cases y : p = k
          · rw [y, sU_s, z.2.2]
          · rw [z.2.1 p (by omega), sU_nK (by omega) hkm y]
theorem s_totalR (hM : MS v N nu) : ZI (d + 5) m_X11_total [vR 11 0] v (fun u r => toA N r ∧ Fr fWh v u) := fun Q q => E_X11_total (B_X11_total_0 (by
  have hW := hM.1
  have hm := nM_le (N := N)
  refine cV (s_layWho (d := d) hM) (fun u hu => ?_)
  obtain ⟨hWH, hLB, f⟩ := hu
  rw [hWH.1]
  refine pk_ne (nM N) 0 (fun e => ?_) (fun e => ?_)
  · have h0 : 0 < nM N := by omega
    have hw := nK_ok h0
    rw [hWH.2 0 h0, n_nI (by omega)]
    refine z_ii _ rfl hw.1 ?_
    refine s_visT (d := d + 1) (v := v) hM (nM N) 0 (by omega) h0 (nM N) 0 (by omega) (fun _ => 0) _ 1000000 (fun _ => False) hWH.upd ((hLB _).low0 h0) (by rw [gI_pI_s]; decide) (f.pI (Or.inl rfl)) (fun p hp => absurd hp (by omega)) (Or.inl ⟨rfl, fun _ z => z⟩) (fun u' x' a1 a2 a3 a4 u3 => ?_) none
    refine B_X11_total_31 (br_T (by decide) (q _ _ ⟨?_, a3⟩))
    rcases a4 with ⟨_, no⟩ | ⟨t, _, h1, ⟨L, h2, h3⟩, h4⟩
    · exfalso
      refine no (rkW N) (Or.inr ⟨⟨fun h hh hwh => rkW_lt hh hwh, fun g h hg hh hwg hwh e => ?_⟩, fun p hp => absurd hp (by omega), Nat.zero_le _⟩)
      rw [← nK_rk hg hwg, ← nK_rk hh hwh, e]
    · rcases h2 with h2 | h2
      · exact False.elim h2
      · exact ⟨t, h1, ⟨L, h2.1, h3⟩, fun L' z => h4 L' (Or.inr ⟨z, fun p hp => absurd hp (by omega), Nat.zero_le _⟩)⟩
  · have no : ∀ h, h < 7 → nW N h = false := fun h hh => by
      cases y : nW N h
      · rfl
      · have := rkW_lt hh y
        omega
    have c0 : ∀ L, csL N L = 0 := fun L => sm_0 (fun l _ => by
      cases hp : nP N l
      · rfl
      · have hw := hW.2.2.1 l (nP_lt hW hp)
        have he := nW_ends hW hp
        rw [no _ hw.1] at he
        cases he.1)
    refine q _ _ ⟨⟨0, rfl, ⟨fun _ => 0, ⟨fun h hh y => ?_, fun g h hg hh y => ?_⟩, c0 _⟩, fun L _ => Nat.zero_le _⟩, f⟩
    · rw [no h hh] at y
      cases y
    · rw [no g hg] at y
      cases y))
end TO2
