/-! SUMS UNLIKE by the class: the search -/
def aF (N : z_N) (m : Nat) : Nat → Bool := fun l => nP N l && decide (l < m)
def dfN (N : z_N) (A : Nat → Bool) (W : Nat → Nat) : Prop := ∀ g h, g < 7 → h < 7 → g ≠ h → nW N g = true → nW N h = true → rcN N A g = 0 → rcN N A h = 0 → wAt N A W g ≠ wAt N A W h
def mtB (N : z_N) (A : Nat → Bool) (W : Nat → Nat) (h : Nat) : Bool := decide (rcN N A h = 0) && anyL 7 (fun g => decide (g ≠ h) && (nW N g && (decide (rcN N A g = 0) && decide (wAt N A W g = wAt N A W h))))
section WT7
variable {d : Nat} {v : z_V} {N : z_N} {A : Nat → Bool} {W W' : Nat → Nat} {l h m x : Nat}
theorem rc0_wA (hA : ∀ l, l < 10 → A l = true → nP N l = true) (h0 : rcN N A h = 0) : wAt N (nP N) W' h = wAt N A W' h := by
  rw [wA_two hA, sm_z (f := fun l => (nP N l && !A l) && nOn N l h) h0, Nat.add_zero]
theorem rc_cg {A' : Nat → Bool} (e : ∀ l, l < 10 → A l = A' l) : rcN N A h = rcN N A' h := cntL_cong 10 (fun i hi => by rw [e i hi])
theorem PV.cg {A' : Nat → Bool} (hV : PV N A W) (e : ∀ l, l < 10 → A l = A' l) : PV N A' W := ⟨fun i hi hA => hV.1 i hi (by rw [e i hi]; exact hA), fun i j hi hj hne h1 h2 => hV.2 i j hi hj hne (by rw [e i hi]; exact h1) (by rw [e j hj]; exact h2)⟩
theorem dfN.cg {A' : Nat → Bool} (hd : dfN N A W) (e : ∀ l, l < 10 → A l = A' l) : dfN N A' W := fun g h hg hh hne h1 h2 r1 r2 => by
  rw [← wA_cg (W := W) (W' := W) e (fun _ _ _ => rfl), ← wA_cg (W := W) (W' := W) e (fun _ _ _ => rfl)]
  exact hd g h hg hh hne h1 h2 ((rc_cg e).trans r1) ((rc_cg e).trans r2)
theorem aF_s (hp : nP N m = true) (i : Nat) : addF (aF N m) m i = aF N (m + 1) i := by
  unfold addF aF
  by_cases e : i = m
  · subst e
    rw [hp, decide_eq_true (show i = i from rfl), decide_eq_true (show i < i + 1 by omega), Bool.or_true]
    rfl
  · rw [decide_eq_false e, Bool.or_false]
    congr 1
    rw [decide_eq_decide]
    omega
theorem aF_skip {y : Nat} (hmy : m ≤ y) (h : ∀ i, m ≤ i → i < y → nP N i = false) (i : Nat) : aF N m i = aF N y i := by
  unfold aF
  cases e : nP N i
  · rfl
  · congr 1
    rw [decide_eq_decide]
    constructor
    · intro z; omega
    · intro z
      rcases Nat.lt_or_ge i m with t | t
      · exact t
      · rw [h i t z] at e
        cases e
theorem aF_nP : ∀ l, l < 10 → aF N m l = true → nP N l = true := fun l _ z => by
  unfold aF at z
  rw [Bool.and_eq_true] at z
  exact z.1
theorem s_isMet (hS : NS v N) (hP : PT v N false 0 A W) (hV : PV N A W) (hh : h < 7) : ZP (d + 2) m_X8_isMet [vR 8 0, vR 0 0, vI (nI h)] v (bI (mtB N A W h)) := fun Q k => E_X8_isMet (B_X8_isMet_0 (by
  have hr := rc_le (N := N) (A := A) (h := h)
  have hm := oM_le (N := N)
  have K' : ∀ b, b = mtB N A W h → Q v (some (vI (bI b))) := fun b e => by rw [e]; exact k
  unfold mtB at K'
  have w6 : ∀ g, g < 7 → gI v 906 0 g = nI (wAt N A W g) := fun g hg => by
    rw [hP.2.1 g hg, ← iI_nI]
    rfl
  rw [n_nI (by omega), hP.2.2.1 h hh]
  refine z_ii h rfl hh (pk_le (rcN N A h) 0 (fun z => ?_) (fun z => K' false (by rw [decide_eq_false (by omega)]; rfl)))
  rw [decide_eq_true (show rcN N A h = 0 by omega), Bool.true_and] at K'
  refine z_up0 (P := fun g => (∀ i, i < g → (decide (i ≠ h) && (nW N i && (decide (rcN N A i = 0) && decide (wAt N A W i = wAt N A W h)))) = false) → ∀ u4, z_Wp (z_C (d + 1)) 4 k_X8_isMet Q 13 [some (vR 8 0), some (vR 0 0), some (vI (nI h)), some (vI (nI g)), u4] [] v) 7 ?_ ?_ (fun i z => absurd z (by omega)) _
  · intro hall u4
    refine B_X8_isMet_13 (pk_le 7 7 (fun _ => K' false ?_) (fun q => absurd q (by omega)))
    cases y : anyL 7 (fun g => decide (g ≠ h) && (nW N g && (decide (rcN N A g = 0) && decide (wAt N A W g = wAt N A W h))))
    · rfl
    · obtain ⟨i, hi, hz⟩ := anyL_iff.mp y
      rw [hall i hi] at hz
      cases hz
  · intro g hg ih hall u4
    have next : (decide (g ≠ h) && (nW N g && (decide (rcN N A g = 0) && decide (wAt N A W g = wAt N A W h)))) = false → ∀ u4, z_Wp (z_C (d + 1)) 4 k_X8_isMet Q 13 [some (vR 8 0), some (vR 0 0), some (vI (nI h)), some (vI (nI g + 1)), u4] [] v := fun e u4 => by
      rw [nI_1]
      exact ih (fun i hi => by
        by_cases z : i = g
        · subst z
          exact e
        · exact hall i (by omega)) u4
    have no45 : (decide (g ≠ h) && (nW N g && (decide (rcN N A g = 0) && decide (wAt N A W g = wAt N A W h)))) = false → ∀ u4, z_Wp (z_C (d + 1)) 4 k_X8_isMet Q 45 [some (vR 8 0), some (vR 0 0), some (vI (nI h)), some (vI (nI g)), u4] [] v := fun e u4 => B_X8_isMet_45 (br_T rfl (next e _))
    have hrg := rc_le (N := N) (A := A) (h := g)
    have b1 := hV.le (h := g)
    have b2 := hV.le (h := h)
    refine B_X8_isMet_13 (pk_le 7 g (fun q => absurd q (by omega)) (fun _ => ?_))
    refine pk_eq g h (fun z => no45 (by rw [decide_eq_false (fun y => y z)]; rfl) _) (fun z => ?_)
    refine cP (s_isBeside (d := d) hS hg) (br_z (fun e => no45 (by rw [e, Bool.false_and, Bool.and_false]) _) (fun e => z_ii g rfl hg ?_))
    rw [n_nI (n := g) (by omega), hP.2.2.1 g hg]
    refine pk_ne (rcN N A g) 0 (fun y => no45 (by rw [decide_eq_false y, Bool.false_and, Bool.and_false, Bool.and_false]) _) (fun y => br_F (by decide) (z_ii g rfl hg (z_ii h rfl hh ?_)))
    rw [n_nI (n := h) (by omega), w6 g hg, w6 h hh]
    refine pk_ne (wAt N A W g) (wAt N A W h) (fun q => next (by rw [decide_eq_false q, Bool.and_false, Bool.and_false, Bool.and_false]) _) (fun q => K' true ?_)
    exact (anyL_iff.mpr ⟨g, hg, by rw [decide_eq_true z, e, decide_eq_true y, decide_eq_true q]; rfl⟩).symm))
theorem s_goUnlike (hW : nWF N) : ∀ (j d : Nat) (v : z_V) (m : Nat) (W : Nat → Nat), m + j = 10 → NS v N → PT v N false 0 (aF N m) W → PV N (aF N m) W → dfN N (aF N m) W → ZI (d + 2 * j + 4) m_X8_goUnlike [vR 8 0, vR 0 0, vI (nI m)] v (fun u r => ((r = 0 ∧ (∀ W', ulkP N W' → (∀ i, i < 10 → aF N m i = true → W' i = W i) → False) ∧ PT u N false 0 (aF N m) W) ∨ (r = 1 ∧ ∃ W', ulkP N W' ∧ (∀ i, i < 10 → aF N m i = true → W' i = W i) ∧ (∀ W2, ulkP N W2 → (∀ i, i < 10 → aF N m i = true → W2 i = W i) → leW N W' W2) ∧ ∀ l, l < 10 → nP N l = true → gI u 905 0 l = nI (W' l))) ∧ Fr fPut v u) := by
  have hm10 := oM_le (N := N)
  have ho := nO_lt hW
  intro j
  induction j using Nat.strongRecOn with
  | ind j ih =>
    intro d v m W hmj hS hP hV hD Q q
    have kpn : ∀ {v u : z_V}, NS v N → Fr fPut v u → NS u N := fun h f => h.fr f (fun k => by unfold fPut; omega) (fun k => by unfold fPut; omega) (fun k => by unfold fPut; omega) (fun k => by unfold fPut; omega)
    have e4 : gI v 0 0 4 = nI (oM N) := hS.2.1.trans (congrArg nI pcN)
    -- from a line on
    have line : ∀ x, x < 10 → m ≤ x → nP N x = true → (∀ i, m ≤ i → i < x → nP N i = false) → ∀ u2, z_Wp (z_C (d + 2 * j + 3)) 4 k_X8_goUnlike Q 33 [some (vR 8 0), some (vR 0 0), u2, some (vI (nI x)), some (vI 1)] [] v := by
      intro x hx hmx hp hskip
      have ea := aF_skip hmx hskip
      have hP0 := hP.cg (fun i _ => ea i)
      have hV0 := hV.cg (fun i _ => ea i)
      have hD0 := hD.cg (fun i _ => ea i)
      have hA : aF N x x = false := by
        unfold aF
        rw [decide_eq_false (by omega), Bool.and_false]
      have hw := hW.2.2.1 x (nP_lt hW hp)
      have hwe := nW_ends hW hp
      have run : ∀ z, z ≤ oM N + 1 → 1 ≤ z → ∀ u, Fr fPut v u → PT u N false 0 (aF N x) W → (∀ W', ulkP N W' → (∀ i, i < 10 → aF N x i = true → W' i = W i) → z ≤ W' x) → ∀ u2, z_Wp (z_C (d + 2 * j + 3)) 4 k_X8_goUnlike Q 33 [some (vR 8 0), some (vR 0 0), u2, some (vI (nI x)), some (vI (nI z))] [] u := by
        refine z_up (oM N + 1) (fun _ u f hPu hno u2 => ?_) (fun z hz ihz hz1 u f hPu hno u2 => ?_)
        · refine B_X8_goUnlike_33 (pk_lt (oM N) (oM N + 1) (fun _ => q u 0 ⟨Or.inl ⟨rfl, fun W' g1 g2 => ?_, hPu.cg (fun i _ => (ea i).symm)⟩, f⟩) (fun t => absurd t (by omega)) ((f.i (by unfold fPut; omega)).trans e4) rfl)
          have a := hno W' g1 (fun i hi hAi => g2 i hi ((ea i).trans hAi))
          have b := g1.1.1 x hx hp
          omega
        · have hSu := kpn hS f
          refine B_X8_goUnlike_33 (pk_lt (oM N) z (fun t => absurd t (by omega)) (fun _ => ?_) ((f.i (by unfold fPut; omega)).trans e4) rfl)
          have hbu := bs_lt 11 (usB (aF N x) W)
          rw [hPu.1, nI_bitb (by omega) (by omega), bs_bit, decide_eq_true (show z < 11 by omega), Bool.true_and, nI_1]
          have next : ∀ u', Fr fPut v u' → PT u' N false 0 (aF N x) W → (∀ W', ulkP N W' → (∀ i, i < 10 → aF N x i = true → W' i = W i) → W' x = z → False) → ∀ u2, z_Wp (z_C (d + 2 * j + 3)) 4 k_X8_goUnlike Q 33 [some (vR 8 0), some (vR 0 0), u2, some (vI (nI x)), some (vI (nI (z + 1)))] [] u' := fun u' f' hP' no u2 => ihz (by omega) u' f' hP' (fun W' g1 g2 => by
            have := hno W' g1 g2
            rcases Nat.lt_or_ge z (W' x) with t | t
            · omega
            · exact False.elim (no W' g1 g2 (by omega))) u2
          refine br_n (fun e => next u f hPu (fun W' g1 g2 g3 => ?_) _) (fun e => ?_)
          · obtain ⟨i, hi, y⟩ := anyL_iff.mp e
            rw [Bool.and_eq_true, decide_eq_true_eq] at y
            have ne : i ≠ x := fun t => by
              rw [t, hA] at y
              cases y.1
            exact g1.1.ne hi hx (hV0.1 i hi y.1).1 hp ne ((g2 i hi y.1).trans (y.2.trans g3.symm))
          · have hu2 := hSu.2.2.2.2.2.1 x hx hp
            refine E_X8_goUnlikeWith (B_X8_goUnlikeWith_0 ?_)
            rw [n_nI (by omega), hu2.1, hu2.2]
            refine z_ii x rfl hx (z_ii x rfl hx ?_)
            have put := s_put (d := d + 2 * j + 1) (al := false) hW hPu hp hA (show z ≤ 10 by omega)
            refine cV put (fun w1 hw1 => ?_)
            obtain ⟨p1, fr1⟩ := hw1
            have f1 : Fr fPut v w1 := f.trans fr1
            have hS1 := kpn hS f1
            have hV1 := hV0.put hp ⟨hz1, by omega⟩ e
            have hsub : ∀ i, i < 10 → addF (aF N x) x i = true → nP N i = true := fun i hi hAi => (hV1.1 i hi hAi).1
            have up : ∀ w2, PT w2 N false 0 (addF (aF N x) x) (sU W x z) → Fr fPut v w2 → (∀ W', ulkP N W' → (∀ i, i < 10 → addF (aF N x) x i = true → W' i = sU W x z i) → False) → z_C (d + 2 * j + 2) m_X8_takeOff [vR 8 0, vI (nI (nA N x)), vI (nI (nB N x)), vI (nI z), vI 1] w2 (fun w o => o = none ∧ ∃ i : Int32, some (vI 0) = some (vI i) ∧ ((i = 0 → z_Wp (z_C (d + 2 * j + 3)) 4 k_X8_goUnlike Q 33 [some (vR 8 0), some (vR 0 0), none, some (vI (nI x)), some (vI (nI (z + 1)))] [] w) ∧ (¬ i = 0 → Q w (some (vI 1))))) := fun w2 hp2 hf2 no => by
              have tk := s_takeOff (d := d + 2 * j + 1) (al := false) hW hp2 hp hA (show z ≤ 10 by omega) e
              refine cV tk (fun w3 hw3 => ⟨0, rfl, br_T rfl (next w3 (hf2.trans hw3.2) hw3.1 (fun W' g1 g2 g3 => no W' g1 (fun i hi hAi => ?_)) _)⟩)
              by_cases y : i = x
              · subst y
                rw [sU_s]
                exact g3
              · rw [addF_n y] at hAi
                rw [sU_n y]
                exact g2 i hi hAi
            have met : ∀ h, h < 7 → nW N h = true → mtB N (addF (aF N x) x) (sU W x z) h = true → ∀ W', ulkP N W' → (∀ i, i < 10 → addF (aF N x) x i = true → W' i = sU W x z i) → False := fun h hh hwh t W' g1 g2 => by
              unfold mtB at t
              rw [Bool.and_eq_true, decide_eq_true_eq] at t
              obtain ⟨g, hg, y⟩ := anyL_iff.mp t.2
              simp only [Bool.and_eq_true, decide_eq_true_eq] at y
              have ew : ∀ k, wAt N (addF (aF N x) x) W' k = wAt N (addF (aF N x) x) (sU W x z) k := fun k => wA_cg (fun _ _ => rfl) (fun i hi hAi => g2 i hi hAi)
              refine g1.2 g h hg hh y.1 y.2.1 hwh ?_
              rw [rc0_wA hsub y.2.2.1, rc0_wA hsub t.1, ew, ew]
              exact y.2.2.2
            refine cP (s_isMet (d := d + 2 * j) hS1 p1 hV1 hw.1) (br_n (fun t => up w1 p1 f1 (met _ hw.1 hwe.1 t)) (fun ta => ?_))
            refine cP (s_isMet (d := d + 2 * j) hS1 p1 hV1 hw.2.1) (br_n (fun t => up w1 p1 f1 (met _ hw.2.1 hwe.2 t)) (fun tb => ?_))
            have eS : ∀ i, i < 10 → addF (aF N x) x i = aF N (x + 1) i := fun i _ => aF_s hp i
            have nm : ∀ h, mtB N (addF (aF N x) x) (sU W x z) h = false → rcN N (addF (aF N x) x) h = 0 → ∀ g, g < 7 → g ≠ h → nW N g = true → rcN N (addF (aF N x) x) g = 0 → wAt N (addF (aF N x) x) (sU W x z) g ≠ wAt N (addF (aF N x) x) (sU W x z) h := fun h t r0 g hg hne hwg rg y => by
              unfold mtB at t
              rw [decide_eq_true r0, Bool.true_and, anyL_iff.mpr ⟨g, hg, by rw [decide_eq_true hne, hwg, decide_eq_true rg, decide_eq_true y]; rfl⟩] at t
              cases t
            have hD1 : dfN N (addF (aF N x) x) (sU W x z) := fun g h hg hh hne hwg hwh rg rh => by
              have ab : ∀ k, nOn N x k = true → mtB N (addF (aF N x) x) (sU W x z) k = false := fun k hk => by
                rcases on_ab.mp hk with y | y
                · rw [y]; exact ta
                · rw [y]; exact tb
              by_cases o1 : nOn N x h = true
              · exact nm h (ab h o1) rh g hg hne hwg rg
              · by_cases o2 : nOn N x g = true
                · exact fun y => nm g (ab g o2) rg h hh (Ne.symm hne) hwh rh y.symm
                · have c1 := rC_put (h := h) hx hp hA
                  have c2 := rC_put (h := g) hx hp hA
                  rw [if_neg o1] at c1
                  rw [if_neg o2] at c2
                  have w1 : wAt N (addF (aF N x) x) (sU W x z) h = wAt N (aF N x) W h + (if nOn N x h = true then z else 0) := wA_put hx hA
                  have w2 : wAt N (addF (aF N x) x) (sU W x z) g = wAt N (aF N x) W g + (if nOn N x g = true then z else 0) := wA_put hx hA
                  rw [w1, w2, if_neg o1, if_neg o2]
                  exact hD0 g h hg hh hne hwg hwh (by omega) (by omega)
            obtain ⟨d', hd'⟩ : ∃ d', d + 2 * j + 2 = d' + 2 * (10 - (x + 1)) + 4 := ⟨d + 2 * j + 2 - (2 * (10 - (x + 1)) + 4), by omega⟩
            have key := ih (10 - (x + 1)) (by omega) d' w1 (x + 1) (sU W x z) (by omega) hS1 (p1.cg eS) (hV1.cg eS) (hD1.cg eS)
            rw [← hd'] at key
            rw [nI_1]
            refine cI key (fun w2 r hr => ?_)
            obtain ⟨hr, f2⟩ := hr
            rcases hr with ⟨rfl, no, hp2⟩ | ⟨rfl, W', g1, g2, g3, g4⟩
            · exact br_T rfl (up w2 (hp2.cg (fun i hi => (eS i hi).symm)) (f1.trans f2) (fun W' a b => no W' a (fun i hi hAi => b i hi ((eS i hi).trans hAi))))
            · have xv : W' x = z := by
                have := g2 x hx (by rw [← eS x hx]; exact addF_s)
                rw [sU_s] at this
                exact this
              have ex : ∀ i, i < 10 → aF N x i = true → W' i = W i := fun i hi hAi => by
                have ne : i ≠ x := fun t => by
                  rw [t, hA] at hAi
                  cases hAi
                have := g2 i hi (by rw [← eS i hi, addF_n ne]; exact hAi)
                rw [sU_n ne] at this
                exact this
              refine br_F (by decide) ⟨1, rfl, br_F (by decide) (q w2 1 ⟨Or.inr ⟨rfl, W', g1, fun i hi hAi => ex i hi ((ea i).symm.trans hAi), fun W2 k1 k2 l hl hpl he => ?_, g4⟩, f1.trans f2⟩)⟩
              have k2' : ∀ i, i < 10 → aF N x i = true → W2 i = W i := fun i hi hAi => k2 i hi ((ea i).trans hAi)
              rcases Nat.lt_trichotomy l x with t | t | t
              · have hAl : aF N x l = true := by
                  unfold aF
                  rw [hpl, decide_eq_true t]
                  rfl
                rw [ex l hl hAl, k2' l hl hAl]
                exact Nat.le_refl _
              · subst t
                rw [xv]
                exact hno W2 k1 k2'
              · refine g3 W2 k1 (fun i hi hAi => ?_) l hl hpl he
                rw [← eS i hi] at hAi
                by_cases y : i = x
                · subst y
                  rw [sU_s, he i t hp, xv]
                · rw [addF_n y] at hAi
                  rw [sU_n y]
                  exact k2' i hi hAi
      intro u2
      exact run 1 (by omega) (Nat.le_refl _) v Fr.rfl hP0 (fun W' g1 _ => (g1.1.1 x hx hp).1) u2
    refine E_X8_goUnlike (B_X8_goUnlike_0 ?_)
    have find : ∀ x, x ≤ 10 → m ≤ x → (∀ i, m ≤ i → i < x → nP N i = false) → ∀ u2 u4, z_Wp (z_C (d + 2 * j + 3)) 4 k_X8_goUnlike Q 2 [some (vR 8 0), some (vR 0 0), u2, some (vI (nI x)), u4] [] v := by
      refine z_up 10 (fun hmx hskip u2 u4 => ?_) (fun x hx ihx hmx hskip u2 u4 => ?_)
      · refine B_X8_goUnlike_2 (pk_le 10 10 (fun _ => pk_lt 10 10 (fun z => absurd z (by omega)) (fun _ => q v 1 ⟨Or.inr ⟨rfl, W, ?_, fun _ _ _ => rfl, fun W2 k1 k2 l hl hpl _ => ?_, fun l hl hpl => ?_⟩, Fr.rfl⟩)) (fun z => absurd z (by omega)))
        all_goals have eA : ∀ i, i < 10 → aF N m i = nP N i := fun i hi => by
                    rw [aF_skip hmx hskip]
                    unfold aF
                    rw [decide_eq_true hi, Bool.and_true]
        · refine ⟨⟨fun i hi hp => (hV.1 i hi ((eA i hi).trans hp)).2, fun i i' hii hi' hp hp' => hV.2 i i' (by omega) hi' (by omega) ((eA i (by omega)).trans hp) ((eA i' hi').trans hp')⟩, fun g h hg hh hne hwg hwh => ?_⟩
          have r0 : ∀ k, rcN N (aF N m) k = 0 := fun k => by
            have : rcN N (aF N m) k = cntL 10 (fun _ => false) := cntL_cong 10 (fun i hi => by
              rw [eA i hi]
              cases nP N i <;> rfl)
            rw [this]
            rfl
          rw [rc0_wA aF_nP (r0 g), rc0_wA aF_nP (r0 h)]
          exact hD g h hg hh hne hwg hwh (r0 g) (r0 h)
        · rw [k2 l hl ((eA l hl).trans hpl)]
          exact Nat.le_refl _
        · exact hP.2.2.2 l hl ((eA l hl).trans hpl)
      · refine B_X8_goUnlike_2 (pk_le 10 x (fun z => absurd z (by omega)) (fun _ => ?_))
        rw [nI_1]
        refine cP (s_isOpenX (d := d + 2 * j + 2) (by omega) hS.1 (by omega)) (br_n (fun e => pk_lt x 10 (fun _ => line x hx hmx e hskip _) (fun z => absurd z (by omega))) (fun e => ihx (by omega) (fun i h1 h2 => ?_) _ _))
        by_cases y : i = x
        · rw [y]
          exact e
        · exact hskip i h1 (by omega)
    exact find m (by omega) (Nat.le_refl _) (fun i h1 h2 => absurd h1 (by omega)) _ _
end WT7
