/-! NAMES by the class -/
def kpB (N : z_N) (L : Nat → Nat) (h t : Nat) : Bool := decide (pc 10 (bs 7 (nAdj N h)) = pc 10 (bs 7 (nAdj N t))) && allL h (fun g => !nW N g || (nAdj N h g == nAdj N t (L g)))
def rwW (v : z_V) (N : z_N) (L : Nat → Nat) (m : Nat) : Prop := ∀ g, g < m → nW N g = true → gI v 802 0 g = nI (L g)
def VW (N : z_N) (L : Nat → Nat) (m : Nat) : Prop := (∀ g, g < m → nW N g = true → L g < 7 ∧ nW N (L g) = true) ∧ ∀ g k, g < k → k < m → nW N g = true → nW N k = true → L g ≠ L k ∧ nAdj N g k = nAdj N (L g) (L k)
def tkB (N : z_N) (L : Nat → Nat) (m x : Nat) : Bool := anyL m (fun g => nW N g && decide (L g = x))
def fSw : Nat → Nat → Prop := fun t _ => t = 802
section NM2
variable {d : Nat} {v : z_V} {N : z_N} {nu : Nat → Nat} {L : Nat → Nat}
theorem s_keepsBeside {h t : Nat} (hS : NS v N) (hr : rwW v N L h) (hb : ∀ g, g < h → nW N g = true → L g < 7) (hh : h < 7) (ht : t < 7) : ZP (d + 2) m_X7_keepsBeside [vR 7 0, vR 0 0, vI (nI h), vI (nI t)] v (bI (kpB N L h t)) := fun Q q => E_X7_keepsBeside (B_X7_keepsBeside_0 (by
  have b1 := bs_lt 7 (nAdj N h)
  have b2 := bs_lt 7 (nAdj N t)
  have K : ∀ b, b = kpB N L h t → Q v (some (vI (bI b))) := fun b e => by rw [e]; exact q
  unfold kpB at K
  refine z_ii h rfl hh ?_
  rw [n_nI (n := h) (by omega), hS.2.2.2.2.2.2 h hh]
  refine cP (s_bitCount (d := d) (by omega)) (z_ii t rfl ht ?_)
  rw [n_nI (n := t) (by omega), hS.2.2.2.2.2.2 t ht]
  have p1 := pc_le 10 (bs 7 (nAdj N h))
  have p2 := pc_le 10 (bs 7 (nAdj N t))
  refine cP (s_bitCount (d := d) (by omega)) (pk_eq (pc 10 (bs 7 (nAdj N h))) (pc 10 (bs 7 (nAdj N t))) (fun e => ?_) (fun e => K false (by rw [decide_eq_false e]; rfl)))
  rw [decide_eq_true e, Bool.true_and] at K
  refine z_up0 (P := fun g => (∀ i, i < g → (!nW N i || (nAdj N h i == nAdj N t (L i))) = true) → ∀ u5, z_Wp (z_C (d + 1)) 4 k_X7_keepsBeside Q 26 [some (vR 7 0), some (vR 0 0), some (vI (nI h)), some (vI (nI t)), some (vI (nI g)), u5] [] v) h ?_ ?_ (fun i z => absurd z (by omega)) _
  · intro hall u5
    exact B_X7_keepsBeside_26 (pk_le h h (fun _ => K true (allL_iff.mpr hall).symm) (fun z => absurd z (by omega)))
  · intro g hg ih hall u5
    have next : (!nW N g || (nAdj N h g == nAdj N t (L g))) = true → ∀ u5, z_Wp (z_C (d + 1)) 4 k_X7_keepsBeside Q 26 [some (vR 7 0), some (vR 0 0), some (vI (nI h)), some (vI (nI t)), some (vI (nI (g + 1))), u5] [] v := fun e u5 => ih (fun i hi => by
      by_cases z : i = g
      · rw [z]
        exact e
      · exact hall i (by omega)) u5
    have bad : (!nW N g || (nAdj N h g == nAdj N t (L g))) = false → Q v (some (vI 0)) := fun e => K false (allL_f hg e).symm
    have at51 : ∀ s0 : Bool, s0 = nAdj N h g → ∀ u5, z_Wp (z_C (d + 1)) 4 k_X7_keepsBeside Q 51 [some (vR 7 0), some (vR 0 0), some (vI (nI h)), some (vI (nI t)), some (vI (nI g)), u5] [vI (bI s0)] v := fun s0 e0 u5 => by
      subst e0
      refine B_X7_keepsBeside_51 ?_
      rw [nI_1]
      refine cP (s_isBeside (d := d) hS (by omega)) (br_z (fun e => next (by rw [e]; rfl) _) (fun e => z_ii t rfl ht (z_ii g rfl (by omega) ?_)))
      rw [n_nI (n := t) (by omega), n_nI (n := g) (by omega), hS.2.2.2.2.2.2 t ht, hr g hg e]
      have bg := hb g hg e
      rw [nI_bitb (by omega) (by omega), bs_bit, decide_eq_true bg, Bool.true_and]
      rw [e, Bool.not_true, Bool.false_or] at next bad
      refine br_z (fun e2 => ?_) (fun e2 => ?_)
      · rw [e2] at next bad
        cases e3 : nAdj N h g
        · rw [e3] at next
          exact ⟨fun _ => next rfl _, fun z => absurd rfl z⟩
        · rw [e3] at bad
          exact ⟨fun z => absurd z (by decide), fun _ => bad rfl⟩
      · rw [e2] at next bad
        cases e3 : nAdj N h g
        · rw [e3] at bad
          exact ⟨fun z => absurd z (by decide), fun _ => bad rfl⟩
        · rw [e3] at next
          exact ⟨fun _ => next rfl _, fun z => absurd rfl z⟩
    refine B_X7_keepsBeside_26 (pk_le h g (fun z => absurd z (by omega)) (fun _ => z_ii h rfl hh ?_))
    rw [n_nI (n := h) (by omega), hS.2.2.2.2.2.2 h hh, nI_bitb (by omega) (by omega), bs_bit, decide_eq_true (show g < 7 by omega), Bool.true_and]
    exact br_z (fun e => at51 false e.symm _) (fun e => at51 true e.symm _)))
theorem QW_deg (hW : nWF N) (h : QW N L = true) {k : Nat} (hk : k < 7) (hw : nW N k = true) : cntL 7 (nAdj N k) = cntL 7 (nAdj N (L k)) := by
  have q := QW_iff.mp h
  have both : ∀ g k, g < 7 → k < 7 → g ≠ k → nW N g = true → nW N k = true → nAdj N g k = nAdj N (L g) (L k) := fun g k hg hk hne wg wk => by
    rcases Nat.lt_or_gt_of_ne hne with z | z
    · exact (q.2 g k z hk wg wk).2
    · rw [nAdj_comm, (q.2 k g z hg wk wg).2, nAdj_comm]
  have self : ∀ {a i}, a < 7 → nAdj N a i = true → nW N i = true := fun ha e => nW_adj ha (by rw [nAdj_comm]; exact e)
  have irr : ∀ {a i}, nAdj N a i = true → a ≠ i := fun e z => by
    rw [z, nAdj_irr hW] at e
    cases e
  refine Nat.le_antisymm ?_ ?_
  · refine cnt_inj L (fun i hi e => ?_) (fun i j hi hj e e' eq => QW_inj h hi hj (self hk e) (self hk e') eq)
    have wi := self hk e
    exact ⟨(q.1 i hi wi).1, by rw [← both k i hk hi (irr e) hw wi]; exact e⟩
  · have pr : ∀ x, x < 7 → nW N x = true → sel (fun g => nW N g && decide (L g = x)) 7 0 < 7 ∧ nW N (sel (fun g => nW N g && decide (L g = x)) 7 0) = true ∧ L (sel (fun g => nW N g && decide (L g = x)) 7 0) = x := fun x hx wx => by
      obtain ⟨g, a, b, c⟩ := QW_onto h hx wx
      have hf : (fun g => nW N g && decide (L g = x)) g = true := by
        show (nW N g && decide (L g = x)) = true
        rw [b, decide_eq_true c]
        rfl
      have := cntL_lt2 (f := fun g => nW N g && decide (L g = x)) a hf
      have s := sel_ok (f := fun g => nW N g && decide (L g = x)) (n := 7) (k := 0) (by omega)
      have s2 := s.2.1
      rw [Bool.and_eq_true, decide_eq_true_eq] at s2
      exact ⟨s.1, s2.1, s2.2⟩
    have lk := q.1 k hk hw
    refine cnt_inj (fun x => sel (fun g => nW N g && decide (L g = x)) 7 0) (fun x hx e => ?_) (fun x y hx hy e e' eq => ?_)
    · have p := pr x hx (self lk.1 e)
      have ne : k ≠ sel (fun g => nW N g && decide (L g = x)) 7 0 := fun z => by
        have := p.2.2
        rw [← z] at this
        exact irr e this
      refine ⟨p.1, ?_⟩
      rw [both k _ hk p.1 ne hw p.2.1, p.2.2]
      exact e
    · have a := (pr x hx (self lk.1 e)).2.2
      have b := (pr y hy (self lk.1 e')).2.2
      have eq : sel (fun g => nW N g && decide (L g = x)) 7 0 = sel (fun g => nW N g && decide (L g = y)) 7 0 := eq
      rw [eq, b] at a
      exact a.symm
theorem VW_QW (h : VW N L 7) : QW N L = true := QW_iff.mpr ⟨h.1, h.2⟩
theorem rk_skip {m y : Nat} (hmy : m ≤ y) (h : ∀ i, m ≤ i → i < y → nW N i = false) : rkW N y = rkW N m := by
  obtain ⟨j, rfl⟩ : ∃ j, y = m + j := ⟨y - m, by omega⟩
  induction j with
  | zero => rfl
  | succ j ih =>
    show cntL (m + j) (nW N) + (if nW N (m + j) = true then 1 else 0) = _
    rw [h (m + j) (by omega) (by omega)]
    exact ih (by omega) (fun i h1 h2 => h i h1 (by omega))
theorem VW_skip {m y : Nat} (h : ∀ i, m ≤ i → i < y → nW N i = false) (hv : VW N L m) : VW N L y := by
  have lt : ∀ g, g < y → nW N g = true → g < m := fun g hg hw => by
    rcases Nat.lt_or_ge g m with z | z
    · exact z
    · rw [h g z hg] at hw
      cases hw
  exact ⟨fun g hg hw => hv.1 g (lt g hg hw) hw, fun g k hgk hk wg wk => hv.2 g k hgk (lt k hk wk) wg wk⟩
theorem tk_skip {m y x : Nat} (hmy : m ≤ y) (h : ∀ i, m ≤ i → i < y → nW N i = false) : tkB N L m x = tkB N L y x := by
  apply Bool.eq_iff_iff.mpr
  unfold tkB
  rw [anyL_iff, anyL_iff]
  constructor
  · rintro ⟨i, hi, z⟩
    exact ⟨i, by omega, z⟩
  · rintro ⟨i, hi, z⟩
    rcases Nat.lt_or_ge i m with w | w
    · exact ⟨i, w, z⟩
    · rw [h i w hi] at z
      cases z
theorem tk_lt {m x : Nat} (hv : VW N L m) (h : tkB N L m x = true) : x < 7 := by
  obtain ⟨g, hg, z⟩ := anyL_iff.mp h
  rw [Bool.and_eq_true, decide_eq_true_eq] at z
  have := (hv.1 g hg z.1).1
  omega
theorem s_swapsFrom (hW : nWF N) : ∀ (j d : Nat) (v : z_V) (m : Nat) (L : Nat → Nat), m + j = 7 → NS v N → rwW v N L m → VW N L m → ZI (d + 2 * j + 4) m_X7_swapsFrom [vR 7 0, vR 0 0, vI (nI m), vI (nI (bs 7 (tkB N L m)))] v (fun u r => r = nI (ctV 0 7 (QW N) (vLs (nK N) (rkW N m) (nM N - rkW N m)) L) ∧ (∀ g, g < m → gI u 802 0 g = gI v 802 0 g) ∧ Fr fSw v u) := by
  have hm7 := nM_le (N := N)
  intro j
  induction j using Nat.strongRecOn with
  | ind j ih =>
    intro d v m L hmj hS hr hv Q q
    have kn : ∀ {v u : z_V}, NS v N → Fr fSw v u → NS u N := fun h f => h.fr f (fun k => by unfold fSw; omega) (fun k => by unfold fSw; omega) (fun k => by unfold fSw; omega) (fun k => by unfold fSw; omega)
    refine E_X7_swapsFrom (B_X7_swapsFrom_0 ?_)
    -- a halt with any
    have halt : ∀ x, x < 7 → m ≤ x → nW N x = true → (∀ i, m ≤ i → i < x → nW N i = false) → ∀ u2, z_Wp (z_C (d + 2 * j + 3)) 1 k_X7_swapsFrom Q 40 [some (vR 7 0), some (vR 0 0), u2, some (vI (nI (bs 7 (tkB N L m)))), some (vI (nI x)), some (vI 0), some (vI 0)] [] v := by
      intro x hx hmx hwx hskip
      have er : rkW N x = rkW N m := rk_skip hmx hskip
      have hrx := rkW_lt hx hwx
      have hvx : VW N L x := VW_skip hskip hv
      have hrwx : ∀ u, (∀ g, g < m → gI u 802 0 g = gI v 802 0 g) → rwW u N L x := fun u hu g hg hw => by
        have : g < m := by
          rcases Nat.lt_or_ge g m with z | z
          · exact z
          · rw [hskip g z hg] at hw
            cases hw
        rw [hu g this]
        exact hr g this hw
      have etk : bs 7 (tkB N L m) = bs 7 (tkB N L x) := bs_cong (fun i _ => tk_skip hmx hskip)
      have er1 : rkW N (x + 1) = rkW N x + 1 := by
        show cntL x (nW N) + (if nW N x = true then 1 else 0) = _
        rw [hwx]
        rfl
      have ev : ctV 0 7 (QW N) (vLs (nK N) (rkW N m) (nM N - rkW N m)) L = smF 7 0 (fun t => ctV 0 7 (QW N) (vLs (nK N) (rkW N (x + 1)) (nM N - rkW N (x + 1))) (sU L x t)) := by
        rw [← er, er1, show nM N - rkW N x = (nM N - (rkW N x + 1)) + 1 by omega]
        simp only [vLs, ctV]
        rw [nK_rk hx hwx]
      have mem : ∀ g, g < 7 → nW N g = true → g ≤ x → g ∉ vLs (nK N) (rkW N (x + 1)) (nM N - rkW N (x + 1)) := fun g hg hw hgx z => by
        obtain ⟨p, h1, h2, h3⟩ := vLs_mem.mp z
        have hp := nK_ok (N := N) (k := p) (by omega)
        rw [h3] at hp
        have := cntL_le2 (f := nW N) hgx
        have e1 : rkW N g = cntL g (nW N) := rfl
        have e2 : rkW N x = cntL x (nW N) := rfl
        omega
      have zero : ∀ t, (∀ L', QW N L' = true → L' x = t → (∀ g, g < x → nW N g = true → L' g = L g) → False) → ctV 0 7 (QW N) (vLs (nK N) (rkW N (x + 1)) (nM N - rkW N (x + 1))) (sU L x t) = 0 := fun t no => ctV_0 (fun L' h' => by
        cases y : QW N L'
        · rfl
        · exact (no L' y (by rw [h' x (mem x hx hwx (Nat.le_refl _)), sU_s]) (fun g hg hw => by rw [h' g (mem g (by omega) hw (by omega)), sU_n (by omega)])).elim)
      have run : ∀ t, t ≤ 7 → ∀ u, (∀ g, g < m → gI u 802 0 g = gI v 802 0 g) → Fr fSw v u → ∀ u2, z_Wp (z_C (d + 2 * j + 3)) 1 k_X7_swapsFrom Q 40 [some (vR 7 0), some (vR 0 0), u2, some (vI (nI (bs 7 (tkB N L m)))), some (vI (nI x)), some (vI (nI (smF t 0 (fun t => ctV 0 7 (QW N) (vLs (nK N) (rkW N (x + 1)) (nM N - rkW N (x + 1))) (sU L x t))))), some (vI (nI t))] [] u := by
        refine z_up 7 (fun u hu f u2 => ?_) (fun t ht iht u hu f u2 => ?_)
        · exact B_X7_swapsFrom_40 (pk_le 7 7 (fun _ => q u _ ⟨by rw [ev], hu, f⟩) (fun z => absurd z (by omega)))
        · have hSu := kn hS f
          refine B_X7_swapsFrom_40 (pk_le 7 t (fun z => absurd z (by omega)) (fun _ => ?_))
          have es : smF (t + 1) 0 (fun t => ctV 0 7 (QW N) (vLs (nK N) (rkW N (x + 1)) (nM N - rkW N (x + 1))) (sU L x t)) = smF t 0 (fun t => ctV 0 7 (QW N) (vLs (nK N) (rkW N (x + 1)) (nM N - rkW N (x + 1))) (sU L x t)) + ctV 0 7 (QW N) (vLs (nK N) (rkW N (x + 1)) (nM N - rkW N (x + 1))) (sU L x t) := by
            rw [smF_end, Nat.zero_add]
          rw [es] at iht
          have hbt := bs_lt 7 (tkB N L m)
          rw [nI_bitb (by omega) (by omega), bs_bit, decide_eq_true ht, Bool.true_and, nI_1]
          have skip : ctV 0 7 (QW N) (vLs (nK N) (rkW N (x + 1)) (nM N - rkW N (x + 1))) (sU L x t) = 0 → ∀ u2, z_Wp (z_C (d + 2 * j + 3)) 1 k_X7_swapsFrom Q 40 [some (vR 7 0), some (vR 0 0), u2, some (vI (nI (bs 7 (tkB N L m)))), some (vI (nI x)), some (vI (nI (smF t 0 (fun t => ctV 0 7 (QW N) (vLs (nK N) (rkW N (x + 1)) (nM N - rkW N (x + 1))) (sU L x t))))), some (vI (nI (t + 1)))] [] u := fun e u2 => by
            have := iht u hu f u2
            rw [e, Nat.add_zero] at this
            exact this
          refine br_n (fun e => skip (zero t (fun L' g1 g2 g3 => ?_)) _) (fun e => ?_)
          · obtain ⟨g, hg, z⟩ := anyL_iff.mp e
            rw [Bool.and_eq_true, decide_eq_true_eq] at z
            have := QW_inj g1 (show g < 7 by omega) hx z.1 hwx ((g3 g (by omega) z.1).trans (z.2.trans g2.symm))
            omega
          · refine cP (s_isBeside (d := d + 2 * j + 2) hSu ht) (br_z (fun e2 => skip (zero t (fun L' g1 g2 g3 => ?_)) _) (fun e2 => ?_))
            · have := ((QW_iff.mp g1).1 x hx hwx).2
              rw [g2, e2] at this
              cases this
            · refine cP (s_keepsBeside (d := d + 2 * j + 1) hSu (hrwx u hu) (fun g hg hw => (hvx.1 g hg hw).1) hx ht) (br_z (fun e3 => skip (zero t (fun L' g1 g2 g3 => ?_)) _) (fun e3 => ?_))
              · have dg := QW_deg hW g1 hx hwx
                rw [g2] at dg
                unfold kpB at e3
                rw [pc_bs7, pc_bs7, decide_eq_true dg, Bool.true_and] at e3
                have : allL x (fun g => !nW N g || (nAdj N x g == nAdj N t (L g))) = true := allL_iff.mpr (fun g hg => by
                  cases wg : nW N g
                  · rfl
                  · have p := ((QW_iff.mp g1).2 g x hg hx wg hwx).2
                    rw [g2, g3 g hg wg] at p
                    rw [Bool.not_true, Bool.false_or, nAdj_comm, p, nAdj_comm]
                    exact beq_self_eq_true _)
                rw [this] at e3
                cases e3
              · -- go on
                refine E_X7_swapsWith (B_X7_swapsWith_0 (z_ii x rfl hx ?_))
                unfold kpB at e3
                rw [Bool.and_eq_true] at e3
                have al := allL_iff.mp e3.2
                have hv1 : VW N (sU L x t) (x + 1) := by
                  refine ⟨fun g hg hw => ?_, fun g k hgk hk wg wk => ?_⟩
                  · by_cases z : g = x
                    · rw [z, sU_s]
                      exact ⟨ht, e2⟩
                    · rw [sU_n z]
                      exact hvx.1 g (by omega) hw
                  · have hg : g < x := by omega
                    rw [sU_n (show g ≠ x by omega)]
                    by_cases z : k = x
                    · subst z
                      rw [sU_s]
                      refine ⟨fun y => ?_, ?_⟩
                      · rw [tk_skip hmx hskip] at e
                        rw [show tkB N L k t = true from anyL_iff.mpr ⟨g, hg, by rw [wg, decide_eq_true y]; rfl⟩] at e
                        cases e
                      · have := al g hg
                        rw [wg, Bool.not_true, Bool.false_or, beq_iff_eq] at this
                        rw [nAdj_comm, this, nAdj_comm]
                    · rw [sU_n z]
                      exact hvx.2 g k hgk (by omega) wg wk
                have hr1 : rwW (pI u 802 0 x (nI t)) N (sU L x t) (x + 1) := fun g hg hw => by
                  by_cases z : g = x
                  · subst z
                    rw [gI_pI_s, sU_s]
                  · rw [gI_pI_k z, sU_n z]
                    exact hrwx u hu g (by omega) hw
                have f1 : Fr fSw u (pI u 802 0 x (nI t)) := Fr.rfl.pI rfl
                have et : nI (bs 7 (tkB N L m)) ||| i_shl 1 (nI t) = nI (bs 7 (tkB N (sU L x t) (x + 1))) := by
                  rw [etk, nI_shl (by omega), nI_or, or_bs ht]
                  congr 1
                  refine bs_cong (fun i _ => ?_)
                  show (anyL x (fun g => nW N g && decide (L g = i)) || decide (i = t)) = (anyL x (fun g => nW N g && decide (sU L x t g = i)) || (nW N x && decide (sU L x t x = i)))
                  rw [hwx, sU_s, Bool.true_and, anyL_cg (g := fun g => nW N g && decide (sU L x t g = i)) (fun g hg => by rw [sU_n (show g ≠ x by omega)])]
                  congr 1
                  rw [decide_eq_decide]
                  exact eq_comm
                rw [n_nI (n := x) (by omega), et, nI_1]
                obtain ⟨d', hd'⟩ : ∃ d', d + 2 * j + 2 = d' + 2 * (7 - (x + 1)) + 4 := ⟨d + 2 * j + 2 - (2 * (7 - (x + 1)) + 4), by omega⟩
                have key := ih (7 - (x + 1)) (by omega) d' (pI u 802 0 x (nI t)) (x + 1) (sU L x t) (by omega) (kn hSu f1) hr1 hv1
                rw [← hd'] at key
                refine cI key (fun w r hw => ?_)
                obtain ⟨rfl, h2, h3⟩ := hw
                refine ⟨_, rfl, ?_⟩
                rw [nI_add]
                refine iht w (fun g hg => ?_) ((f.trans f1).trans h3) _
                rw [h2 g (by omega), gI_pI_k (by omega)]
                exact hu g hg
      intro u2
      exact run 0 (by omega) v (fun _ _ => rfl) Fr.rfl u2
    have find : ∀ x, x ≤ 7 → m ≤ x → (∀ i, m ≤ i → i < x → nW N i = false) → ∀ u2 u5 u6, z_Wp (z_C (d + 2 * j + 3)) 1 k_X7_swapsFrom Q 3 [some (vR 7 0), some (vR 0 0), u2, some (vI (nI (bs 7 (tkB N L m)))), some (vI (nI x)), u5, u6] [] v := by
      refine z_up 7 (fun hmx hskip u2 u5 u6 => ?_) (fun x hx ihx hmx hskip u2 u5 u6 => ?_)
      · refine B_X7_swapsFrom_3 (pk_le 7 7 (fun _ => pk_lt 7 7 (fun z => absurd z (by omega)) (fun _ => q v 1 ⟨?_, fun _ _ => rfl, Fr.rfl⟩)) (fun z => absurd z (by omega)))
        have er := rk_skip hmx hskip
        have e7 : rkW N 7 = nM N := rfl
        rw [← er, e7, Nat.sub_self]
        show (1 : Int32) = nI (if QW N L = true then 1 else 0)
        rw [VW_QW (VW_skip hskip hv)]
        rfl
      · refine B_X7_swapsFrom_3 (pk_le 7 x (fun z => absurd z (by omega)) (fun _ => ?_))
        rw [nI_1]
        refine cP (s_isBeside (d := d + 2 * j + 2) hS hx) (br_n (fun e => pk_lt x 7 (fun _ => halt x hx hmx e hskip _) (fun z => absurd z (by omega))) (fun e => ihx (by omega) (fun i h1 h2 => ?_) _ _ _))
        by_cases y : i = x
        · rw [y]
          exact e
        · exact hskip i h1 (by omega)
    exact find m (by omega) (Nat.le_refl _) (fun i h1 h2 => absurd h1 (by omega)) _ _ _
theorem s_swaps (hS : NS v N) (hW : nWF N) : ZI (d + 19) m_X7_swaps [vR 7 0, vR 0 0] v (fun u r => r = nI (nmC N) ∧ Fr fSw v u) := fun Q q => E_X7_swaps (B_X7_swaps_0 (by
  have hm7 := nM_le (N := N)
  have t0 : bs 7 (tkB N (fun _ => 0) 0) = 0 := by
    have : bs 7 (tkB N (fun _ => 0) 0) = bs 7 (fun _ => false) := bs_cong (fun i _ => rfl)
    rw [this]
    decide
  have key := s_swapsFrom hW 7 d v 0 (fun _ => 0) (by omega) hS (fun g hg => absurd hg (by omega)) ⟨fun g hg => absurd hg (by omega), fun g k _ hk => absurd hk (by omega)⟩
  rw [t0] at key
  refine cI key (fun u r hr => ?_)
  obtain ⟨rfl, _, f⟩ := hr
  have hSu : NS u N := hS.fr f (fun k => by unfold fSw; omega) (fun k => by unfold fSw; omega) (fun k => by unfold fSw; omega) (fun k => by unfold fSw; omega)
  have e6 : 7 - gI u 0 0 6 = nI (7 - nM N) := by
    rw [hSu.2.2.2.1, pc_bs7]
    exact pk_sub (a := 7) hm7
  have e0 : ctV 0 7 (QW N) (vLs (nK N) (rkW N 0) (nM N - rkW N 0)) (fun _ => 0) = ctV 0 7 (QW N) (vLs (nK N) 0 (nM N)) (fun _ => 0) := rfl
  rw [e0]
  have fin : ∀ c, c = nmC N → Q u (some (vI (nI c))) := fun c e => q u _ ⟨by rw [e], f⟩
  have run : ∀ i, i ≤ 8 - nM N → 2 ≤ i → ∀ u0, z_Wp (z_C (d + 18)) 1 k_X7_swaps Q 10 [u0, some (vR 0 0), some (vI (nI (ctV 0 7 (QW N) (vLs (nK N) 0 (nM N)) (fun _ => 0) * fac (i - 1)))), some (vI (nI i))] [] u := by
    refine z_up (8 - nM N) (fun h2 u0 => ?_) (fun i hi ihi h2 u0 => ?_)
    · refine B_X7_swaps_10 (pk_lt (7 - nM N) (8 - nM N) (fun _ => fin _ ?_) (fun z => absurd z (by omega)) e6 rfl)
      rw [nmC_eq hW, Nat.mul_comm, show 8 - nM N - 1 = 7 - nM N by omega]
    · refine B_X7_swaps_10 (pk_lt (7 - nM N) i (fun z => absurd z (by omega)) (fun _ => ?_) e6 rfl)
      rw [pk_mul, nI_1]
      have : ctV 0 7 (QW N) (vLs (nK N) 0 (nM N)) (fun _ => 0) * fac (i - 1) * i = ctV 0 7 (QW N) (vLs (nK N) 0 (nM N)) (fun _ => 0) * fac (i + 1 - 1) := by
        rw [show i + 1 - 1 = (i - 1) + 1 by omega]
        show _ = _ * ((i - 1 + 1) * fac (i - 1))
        rw [show i - 1 + 1 = i by omega, Nat.mul_assoc, Nat.mul_comm (fac (i - 1)) i]
      rw [this]
      exact ihi (by omega) _
  have one : ctV 0 7 (QW N) (vLs (nK N) 0 (nM N)) (fun _ => 0) * fac (2 - 1) = ctV 0 7 (QW N) (vLs (nK N) 0 (nM N)) (fun _ => 0) := Nat.mul_one _
  rcases Nat.lt_or_ge (nM N) 6 with z | z
  · have := run 2 (by omega) (Nat.le_refl _) (some (vR 7 0))
    rw [one] at this
    exact this
  · refine B_X7_swaps_10 (pk_lt (7 - nM N) 2 (fun _ => fin _ ?_) (fun z => absurd z (by omega)) e6 rfl)
    rw [nmC_eq hW]
    have f1 : fac (7 - nM N) = 1 := by
      rcases (show 7 - nM N = 0 ∨ 7 - nM N = 1 by omega) with y | y <;> rw [y] <;> rfl
    rw [f1, Nat.one_mul]))
def fNmC : Nat → Nat → Prop := fun t k => sNet t k ∨ fSw t k
theorem s_namesC (hC : CW v 0 N nu) : ZI (d + 20) m_X10_names [vR 10 0] v (fun u r => r = nI (nmC N) ∧ Fr fNmC v u) := fun Q k => E_X10_names (B_X10_names_0 (by
  refine cV (s_look (d := d + 17) hC) (fun u hu => ?_)
  refine cI (s_swaps (d := d) hu.1 hC.1) (fun w x hx => ?_)
  exact k _ _ ⟨hx.1, (hu.2.mono (fun t k z => Or.inl z)).trans (hx.2.mono (fun t k z => Or.inr z))⟩))
end NM2
