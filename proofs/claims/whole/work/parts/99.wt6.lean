/-! SUMS ALIKE by the class: the search -/
def fGw : Nat → Nat → Prop := fun t k => t = 900 ∨ t = 905 ∨ t = 906 ∨ t = 907 ∨ (t = 8 ∧ (k = 3 ∨ k = 8))
theorem smF_sp : ∀ {a b c : Nat} {f : Nat → Nat}, smF (a + b) c f = smF a c f + smF b (c + a) f
  | 0, b, c, f => by
    rw [Nat.zero_add, Nat.add_zero]
    exact (Nat.zero_add _).symm
  | a + 1, b, c, f => by
    rw [show a + 1 + b = (a + b) + 1 by omega]
    show f c + smF (a + b) (c + 1) f = (f c + smF a (c + 1) f) + smF b (c + (a + 1)) f
    rw [smF_sp (a := a) (b := b) (c := c + 1), show c + 1 + a = c + (a + 1) by omega]
    omega
theorem imn2_tab : ∀ a, a < 11 → ∀ b, b < 112 → i_min (nI a) (nI b) = nI (min a b) := by decide +kernel
theorem imx2_tab : ∀ b, b < 112 → i_max 1 (nI b) = nI (max 1 b) := by decide +kernel
theorem ix_max {K s : Nat} (hK : K ≤ 110) (hs : s ≤ 100) : i_max 1 (iI ((K : Int) - (s : Int))) = nI (max 1 (K - s)) := by
  by_cases z : s < K
  · have e : iI ((K : Int) - (s : Int)) = nI (K - s) := by
      rw [← iI_nI]
      congr 1
      omega
    rw [e, imx2_tab _ (by omega)]
  · unfold i_max
    rw [show (1 : Int32) = iI 1 from rfl, if_neg (fun y => by
      have := (iI_lt (a := 1) (b := (K : Int) - (s : Int)) (by omega) (by omega) (by omega) (by omega)).mp y
      omega), show max 1 (K - s) = 1 by omega]
    rfl
section WT6
variable {N : z_N} {A : Nat → Bool} {W : Nat → Nat} {K l : Nat}
theorem PT.fr {v u : z_V} {al : Bool} {S : Nat → Nat → Prop} (h : PT v N al K A W) (f : Fr S v u) (h1 : ¬ S 8 8) (h2 : ∀ k, ¬ S 905 k) (h3 : ∀ k, ¬ S 906 k) (h4 : ∀ k, ¬ S 907 k) : PT u N al K A W := ⟨(f.i h1).trans h.1, fun g hg => (f.i (h3 g)).trans (h.2.1 g hg), fun g hg => (f.i (h4 g)).trans (h.2.2.1 g hg), fun i hi hA => (f.i (h2 i)).trans (h.2.2.2 i hi hA)⟩
theorem PT.cg {v : z_V} {al : Bool} {A' : Nat → Bool} (h : PT v N al K A W) (e : ∀ l, l < 10 → A l = A' l) : PT v N al K A' W := by
  obtain ⟨h1, h2, h3, h4⟩ := h
  refine ⟨h1.trans (congrArg nI (bs_cong (fun i _ => anyL_cg (fun j hj => by rw [e j hj])))), fun g hg => ?_, fun g hg => ?_, fun i hi hA => h4 i hi (by rw [e i hi]; exact hA)⟩
  · rw [← wA_cg (W := W) (W' := W) e (fun _ _ _ => rfl)]
    exact h2 g hg
  · have : rcN N A g = rcN N A' g := cntL_cong 10 (fun i hi => by rw [e i hi])
    rw [← this]
    exact h3 g hg
theorem ctW_no {vs : List Nat} (hW : nWF N) (hr : ∀ i, i < 10 → A i = true → 1 ≤ W i ∧ W i ≤ oM N) (hvs : ∀ g, g ∈ vs ↔ g < 10 ∧ nP N g = true ∧ A g = false) (no : ∀ W', alkP N K W' → (∀ i, i < 10 → A i = true → W' i = W i) → False) : ctV 1 (oM N) (PbC N true K) vs W = 0 := ctV_0b (fun L' h hb => by
  cases z : PbC N true K L'
  · rfl
  · exfalso
    have ext : ∀ i, i < 10 → A i = true → L' i = W i := fun i _ hA => h i (fun y => by
      have := ((hvs i).mp y).2.2
      rw [hA] at this
      cases this)
    refine no L' ((sol_alk hW).mp (fun k hk => ⟨allL_iff.mp z k hk, ?_⟩)) ext
    have hw := oK_ok hk
    cases e : A (oK N k)
    · have := hb _ ((hvs _).mpr ⟨hw.1, hw.2.1, e⟩)
      omega
    · rw [ext _ hw.1 e]
      exact hr _ hw.1 e)
theorem PV.put (hV : PV N A W) {x : Nat} (hp : nP N l = true) (hx : 1 ≤ x ∧ x ≤ oM N) (hu : usB A W x = false) : PV N (addF A l) (sU W l x) := by
  have no : ∀ i, i < 10 → A i = true → W i ≠ x := fun i hi hA e => by
    rw [show usB A W x = true from anyL_iff.mpr ⟨i, hi, by rw [hA, decide_eq_true e]; rfl⟩] at hu
    cases hu
  refine ⟨fun i hi hA => ?_, fun i j hi hj hne hA hA' => ?_⟩
  · by_cases e : i = l
    · subst e
      rw [sU_s]
      exact ⟨hp, hx⟩
    · rw [addF_n e] at hA
      rw [sU_n e]
      exact hV.1 i hi hA
  · by_cases e : i = l
    · subst e
      have e2 : j ≠ i := Ne.symm hne
      rw [addF_n e2] at hA'
      rw [sU_s, sU_n e2]
      exact fun y => no j hj hA' y.symm
    · rw [addF_n e] at hA
      by_cases e2 : j = l
      · subst e2
        rw [sU_s, sU_n e]
        exact no i hi hA
      · rw [addF_n e2] at hA'
        rw [sU_n e, sU_n e2]
        exact hV.2 i j hi hj hne hA hA'
/-- the last line of a halt: what it must weigh -/
theorem one_h {h : Nat} {W' : Nat → Nat} (hV : PV N A W) (hl : l < 10) (hp : nP N l = true) (hA : A l = false) (h1 : rcN N A h = 1) (ho : nOn N l h = true) (hh : h < 7) (hw : nW N h = true) (hK : alkP N K W') (he : ∀ i, i < 10 → A i = true → W' i = W i) : wAt N A W h + W' l = K := by
  have e1 := hK.2 h hh hw
  have hsub : ∀ i, i < 10 → addF A l i = true → nP N i = true := fun i hi z => by
    by_cases e : i = l
    · rw [e]
      exact hp
    · rw [addF_n e] at z
      exact (hV.1 i hi z).1
  rw [wA_two hsub] at e1
  have e2 : wAt N (addF A l) W' h = wAt N (addF A l) (sU W l (W' l)) h := wA_cg (fun _ _ => rfl) (fun i hi z => by
    by_cases e : i = l
    · subst e
      rw [sU_s]
    · rw [addF_n e] at z
      rw [sU_n e, he i hi z])
  have e3 : wAt N (addF A l) (sU W l (W' l)) h = wAt N A W h + (if nOn N l h = true then W' l else 0) := wA_put hl hA
  have ec := rC_put (h := h) hl hp hA
  rw [if_pos ho] at ec
  have e4 : sm 10 (fun i => if ((nP N i && !addF A l i) && nOn N i h) = true then W' i else 0) = 0 := sm_z (f := fun i => (nP N i && !addF A l i) && nOn N i h) (by
    show rcN N (addF A l) h = 0
    omega)
  rw [e2, e3, e4, if_pos ho] at e1
  omega
theorem er_mem10 {vs : List Nat} (hn : vs.Nodup) (hvs : ∀ g, g ∈ vs ↔ g < 10 ∧ nP N g = true ∧ A g = false) : ∀ g, g ∈ vs.erase l ↔ g < 10 ∧ nP N g = true ∧ addF A l g = false := fun g => by
  rw [hn.mem_erase_iff, hvs]
  by_cases e : g = l
  · subst e
    rw [addF_s]
    exact ⟨fun z => absurd rfl z.1, fun z => absurd z.2.2 (by decide)⟩
  · rw [addF_n e]
    exact ⟨fun z => z.2, fun z => ⟨e, z⟩⟩
theorem s_goAlike (hW : nWF N) (hK : K ≤ 110) : ∀ (j d : Nat) (v : z_V) (A : Nat → Bool) (W : Nat → Nat) (vs : List Nat) (y : Nat) (S : (Nat → Nat) → Prop), cntL 10 (fun l => nP N l && !A l) = j → NS v N → PT v N true K A W → PV N A W → (∀ h, h < 7 → nW N h = true → rcN N A h = 0 → wAt N A W h = K) → vs.Nodup → (∀ g, g ∈ vs ↔ g < 10 ∧ nP N g = true ∧ A g = false) → RsW v N y S → y + ctV 1 (oM N) (PbC N true K) vs W < 2 ^ 62 → ZV (d + 2 * j + 4) m_X8_goAlike [vR 8 0, vR 0 0, vI (nI (bs 10 (fun l => nP N l && !A l)))] v (fun u => RsW u N (y + ctV 1 (oM N) (PbC N true K) vs W) (fun W' => S W' ∨ (alkP N K W' ∧ ∀ l, l < 10 → A l = true → W' l = W l)) ∧ PT u N true K A W ∧ Fr fGw v u) := by
  have hm := oM_le (N := N)
  intro j
  induction j using Nat.strongRecOn with
  | ind j ih =>
    intro d v A W vs y S hj hS hP hV h0 hn hvs hR hy Q q
    have kpn : ∀ {v u : z_V}, NS v N → Fr fGw v u → NS u N := fun h f => h.fr f (fun k => by unfold fGw; omega) (fun k => by unfold fGw; omega) (fun k => by unfold fGw; omega) (fun k => by unfold fGw; omega)
    refine E_X8_goAlike (B_X8_goAlike_0 (cI (s_tightest (d := d + 2 * j + 2) (Lf := fun l => nP N l && !A l) hS hW hP (fun l z => by
      rw [Bool.and_eq_true] at z
      exact z.1)) (fun w r hr => ?_)))
    obtain ⟨rfl, hr⟩ := hr
    rcases hr with ⟨rfl, hno⟩ | ⟨l, hl, hlf, rfl⟩
    · -- all lines have a weight
      refine br_nF rfl ?_
      have full : ∀ i, i < 10 → nP N i = true → A i = true := fun i hi hp => by
        have := hno i hi
        rw [hp, Bool.true_and, Bool.not_eq_false'] at this
        exact this
      have eA : ∀ i, i < 10 → A i = nP N i := fun i hi => by
        cases e : nP N i
        · cases e2 : A i
          · rfl
          · rw [(hV.1 i hi e2).1] at e
            cases e
        · exact full i hi e
      have hal : alkP N K W := by
        refine ⟨⟨fun i hi hp => (hV.1 i hi (full i hi hp)).2, fun i i' hii hi' hp hp' => hV.2 i i' (by omega) hi' (by omega) (full i (by omega) hp) (full i' hi' hp')⟩, fun h hh hw => ?_⟩
        rw [← wA_cg (W := W) (W' := W) eA (fun _ _ _ => rfl)]
        refine h0 h hh hw ?_
        have : rcN N A h = cntL 10 (fun _ => false) := cntL_cong 10 (fun i hi => by
          rw [eA i hi]
          cases nP N i <;> rfl)
        rw [this]
        rfl
      have evs : vs = [] := by
        cases e : vs with
        | nil => rfl
        | cons a t =>
          have := (hvs a).mp (by rw [e]; exact List.mem_cons_self)
          rw [full a this.1 this.2.1] at this
          cases this.2.2
      subst evs
      have hPb : PbC N true K W = true := allL_iff.mpr (fun k hk => ((sol_alk hW).mpr hal k hk).1)
      have e1 : ctV 1 (oM N) (PbC N true K) [] W = 1 := by
        simp only [ctV]
        rw [hPb]
        rfl
      rw [e1] at q hy
      refine cV (s_keepLowest (d := d + 2 * j) (W := W) hS hW (fun i hi hp => ⟨hP.2.2.2 i hi (full i hi hp), by have := (hV.1 i hi (full i hi hp)).2; omega⟩) hR (by omega)) (fun u hu => q u ⟨hu.1.cg (fun W' => or_congr Iff.rfl ⟨fun z => ⟨alkP_cg (fun i hi hp => (z i hi hp).symm) hal, fun i hi hA => z i hi (hV.1 i hi hA).1⟩, fun z i hi hp => z.2 i hi (full i hi hp)⟩), hP.fr hu.2 (by unfold fKl; omega) (fun k => by unfold fKl; omega) (fun k => by unfold fKl; omega) (fun k => by unfold fKl; omega), hu.2.mono (fun t k z => by unfold fKl at z; unfold fGw; omega)⟩)
    · -- a line
      refine br_nT (nI_nm1 (by omega)) ?_
      rw [Bool.and_eq_true, Bool.not_eq_true'] at hlf
      obtain ⟨hp, hA⟩ := hlf
      have hw := hW.2.2.1 l (nP_lt hW hp)
      have hwe := nW_ends hW hp
      have hl2 := hS.2.2.2.2.2.1 l hl hp
      have e4 : gI w 0 0 4 = nI (oM N) := hS.2.1.trans (congrArg nI pcN)
      have hvs' := er_mem10 (l := l) hn hvs
      have hpm : ctV 1 (oM N) (PbC N true K) vs W = smF (oM N) 1 (fun x => ctV 1 (oM N) (PbC N true K) (vs.erase l) (sU W l x)) := by
        rw [ctV_pm (List.perm_cons_erase ((hvs l).mpr ⟨hl, hp, hA⟩)) hn W]
        rfl
      have hlt : cntL 10 (fun i => nP N i && !addF A l i) < j := by
        rw [← hj]
        refine cntL_lt 10 (fun i _ z => ?_) ⟨l, hl, ?_, ?_⟩
        · rw [Bool.and_eq_true, Bool.not_eq_true'] at z
          have ne : i ≠ l := fun e => by
            rw [e, addF_s] at z
            cases z.2
          rw [addF_n ne] at z
          rw [z.1, z.2]
          rfl
        · rw [addF_s, Bool.not_true, Bool.and_false]
        · rw [hp, hA]
          rfl
      have ebits : nI (bs 10 (fun l => nP N l && !A l)) &&& (i_shl 1 (nI l) ^^^ (-1)) = nI (bs 10 (fun i => nP N i && !addF A l i)) := by
        rw [nI_shl (by omega), nI_andn, andn_bs (bs_lt 10 _)]
        congr 1
        refine bs_cong (fun i hi => ?_)
        rw [bs_bit, decide_eq_true hi, Bool.true_and, Nat.testBit_two_pow]
        by_cases z : i = l
        · subst z
          rw [addF_s, decide_eq_true (show i = i from rfl), Bool.not_true, Bool.and_false, Bool.and_false]
        · rw [addF_n z, decide_eq_false (fun y => z y.symm), Bool.not_false, Bool.and_true]
      -- no row has this number there
      have f0 : ∀ z, 1 ≤ z → z ≤ oM N → (∀ W', alkP N K W' → (∀ i, i < 10 → A i = true → W' i = W i) → W' l = z → False) → ctV 1 (oM N) (PbC N true K) (vs.erase l) (sU W l z) = 0 := fun z z1 z2 no => ctW_no (A := addF A l) hW (fun i hi hAi => by
        by_cases e : i = l
        · subst e
          rw [sU_s]
          exact ⟨z1, z2⟩
        · rw [addF_n e] at hAi
          rw [sU_n e]
          exact (hV.1 i hi hAi).2) hvs' (fun W' h1 h2 => no W' h1 (fun i hi hAi => by
        have ne : i ≠ l := fun e => by
          rw [e, hA] at hAi
          cases hAi
        have := h2 i hi (by rw [addF_n ne]; exact hAi)
        rw [sU_n ne] at this
        exact this) (by
        have := h2 l hl addF_s
        rw [sU_s] at this
        exact this))
      have wth : ∀ x, 1 ≤ x → x ≤ oM N → usB A W x = false → ∀ (u : z_V) (y' : Nat) (S' : (Nat → Nat) → Prop), NS u N → PT u N true K A W → RsW u N y' S' → y' + ctV 1 (oM N) (PbC N true K) (vs.erase l) (sU W l x) < 2 ^ 62 → ZV (d + 2 * j + 3) m_X8_goAlikeWith [vR 8 0, vR 0 0, vI (nI (bs 10 (fun l => nP N l && !A l))), vI (nI l), vI (nI x)] u (fun w => RsW w N (y' + ctV 1 (oM N) (PbC N true K) (vs.erase l) (sU W l x)) (fun W' => S' W' ∨ (alkP N K W' ∧ ∀ i, i < 10 → addF A l i = true → W' i = sU W l x i)) ∧ PT w N true K A W ∧ Fr fGw u w) := by
        intro x x1 x2 hu u y' S' hSu hPu hRu hyu Q2 k2
        have hu2 := hSu.2.2.2.2.2.1 l hl hp
        refine E_X8_goAlikeWith (B_X8_goAlikeWith_0 ?_)
        rw [n_nI (by omega), hu2.1, hu2.2, ebits]
        refine z_ii l rfl hl (z_ii l rfl hl ?_)
        have put := s_put (d := d + 2 * j + 1) (al := true) hW hPu hp hA (show x ≤ 10 by omega)
        refine cV put (fun w1 hw1 => ?_)
        obtain ⟨p1, fr1⟩ := hw1
        have fg1 : Fr fGw u w1 := fr1.mono (fun t k z => by unfold fPut at z; unfold fGw; omega)
        have hS1 := kpn hSu fg1
        have hV1 := hV.put hp ⟨x1, x2⟩ hu
        -- given up
        have up : ∀ (w2 : z_V) (y2 : Nat) (S2 : (Nat → Nat) → Prop), PT w2 N true K (addF A l) (sU W l x) → Fr fGw u w2 → RsW w2 N y2 S2 → y2 = y' + ctV 1 (oM N) (PbC N true K) (vs.erase l) (sU W l x) → (∀ W', S2 W' ↔ S' W' ∨ (alkP N K W' ∧ ∀ i, i < 10 → addF A l i = true → W' i = sU W l x i)) → z_C (d + 2 * j + 2) m_X8_takeOff [vR 8 0, vI (nI (nA N l)), vI (nI (nB N l)), vI (nI x), vI (-1)] w2 (fun w o => o = none ∧ Q2 w none) := fun w2 y2 S2 hp2 hf2 hr2 ey eS => by
          have tk := s_takeOff (d := d + 2 * j + 1) (al := true) hW hp2 hp hA (show x ≤ 10 by omega) hu
          refine cV tk (fun w3 hw3 => k2 w3 ⟨?_, hw3.1, hf2.trans (hw3.2.mono (fun t k z => by unfold fPut at z; unfold fGw; omega))⟩)
          subst ey
          exact (hr2.cg eS).fr hw3.2 (by unfold fPut; omega) (fun k => by unfold fPut; omega)
        have none_ : ∀ h, h < 7 → nW N h = true → cbB N (addF A l) (sU W l x) K h = false → z_C (d + 2 * j + 2) m_X8_takeOff [vR 8 0, vI (nI (nA N l)), vI (nI (nB N l)), vI (nI x), vI (-1)] w1 (fun w o => o = none ∧ Q2 w none) := fun h hh hwh e => by
          have no : ∀ W', alkP N K W' → (∀ i, i < 10 → addF A l i = true → W' i = sU W l x i) → False := fun W' g1 g2 => by
            rw [cb_no hV1 g1 g2 hh hwh] at e
            cases e
          refine up w1 y' S' p1 fg1 (hRu.fr fr1 (by unfold fPut; omega) (fun k => by unfold fPut; omega)) ?_ (fun W' => ⟨fun z => Or.inl z, fun z => ?_⟩)
          · rw [ctW_no (A := addF A l) hW (fun i hi z => (hV1.1 i hi z).2) hvs' no]
            rfl
          · rcases z with z | z
            · exact z
            · exact False.elim (no W' z.1 z.2)
        refine cP (s_canBe (d := d + 2 * j + 1) hS1 p1 hV1 hK hw.1) (br_z (fun e => none_ _ hw.1 hwe.1 e) (fun e => ?_))
        refine cP (s_canBe (d := d + 2 * j + 1) hS1 p1 hV1 hK hw.2.1) (br_z (fun e2 => none_ _ hw.2.1 hwe.2 e2) (fun e2 => ?_))
        obtain ⟨d', hd'⟩ : ∃ d', d + 2 * j + 2 = d' + 2 * cntL 10 (fun i => nP N i && !addF A l i) + 4 := ⟨d + 2 * j + 2 - (2 * cntL 10 (fun i => nP N i && !addF A l i) + 4), by omega⟩
        have z0 : ∀ h, h < 7 → nW N h = true → rcN N (addF A l) h = 0 → wAt N (addF A l) (sU W l x) h = K := fun h hh hwh hr => by
          by_cases ho : nOn N l h = true
          · rcases on_ab.mp ho with z | z
            · subst z
              exact cb_t e hr
            · subst z
              exact cb_t e2 hr
          · have ec := rC_put (h := h) hl hp hA
            rw [if_neg ho] at ec
            have e3 : wAt N (addF A l) (sU W l x) h = wAt N A W h + (if nOn N l h = true then x else 0) := wA_put hl hA
            rw [e3, if_neg ho]
            exact h0 h hh hwh (by omega)
        have key := ih _ hlt d' w1 (addF A l) (sU W l x) (vs.erase l) y' S' rfl hS1 p1 hV1 z0 (hn.erase l) hvs' (hRu.fr fr1 (by unfold fPut; omega) (fun k => by unfold fPut; omega)) hyu
        rw [← hd'] at key
        exact cV key (fun w2 hw2 => up w2 _ _ hw2.2.1 (fg1.trans hw2.2.2) hw2.1 rfl (fun W' => Iff.rfl))
      -- the numbers, one by one
      have loop : ∀ fr to_, 1 ≤ fr → to_ ≤ oM N → (∀ z, 1 ≤ z → z ≤ oM N → (z < fr ∨ to_ < z) → ∀ W', alkP N K W' → (∀ i, i < 10 → A i = true → W' i = W i) → W' l = z → False) → fr < 2 ^ 31 → ∀ u4 u5 u6, z_Wp (z_C (d + 2 * j + 3)) 0 k_X8_goAlike Q 122 [some (vR 8 0), some (vR 0 0), some (vI (nI (bs 10 (fun l => nP N l && !A l)))), some (vI (nI l)), u4, u5, u6, some (vI (nI to_)), some (vI (nI fr))] [] w := by
        intro fr to_ h1 h2 nos hf31
        by_cases hle : fr ≤ to_
        · have run : ∀ x, x ≤ to_ + 1 → fr ≤ x → ∀ u, Fr fGw w u → PT u N true K A W → RsW u N (y + smF (x - 1) 1 (fun x => ctV 1 (oM N) (PbC N true K) (vs.erase l) (sU W l x))) (fun W' => S W' ∨ (alkP N K W' ∧ (∀ i, i < 10 → A i = true → W' i = W i) ∧ W' l < x)) → ∀ u4 u5 u6, z_Wp (z_C (d + 2 * j + 3)) 0 k_X8_goAlike Q 122 [some (vR 8 0), some (vR 0 0), some (vI (nI (bs 10 (fun l => nP N l && !A l)))), some (vI (nI l)), u4, u5, u6, some (vI (nI to_)), some (vI (nI x))] [] u := by
            refine z_up (to_ + 1) (fun hx u f hPu hRu u4 u5 u6 => ?_) (fun x hx ihx hfx u f hPu hRu u4 u5 u6 => ?_)
            · refine B_X8_goAlike_122 (pk_lt to_ (to_ + 1) (fun _ => q u ⟨?_, hPu, f⟩) (fun z => absurd z (by omega)))
              have e : ctV 1 (oM N) (PbC N true K) vs W = smF (to_ + 1 - 1) 1 (fun x => ctV 1 (oM N) (PbC N true K) (vs.erase l) (sU W l x)) := by
                rw [hpm, show oM N = to_ + 1 - 1 + (oM N - to_) by omega, smF_sp, smF_0 (r := oM N - to_) (fun z z1 z2 => ?_), Nat.add_zero]
                rw [show to_ + 1 - 1 + (oM N - to_) = oM N by omega]
                exact f0 z (by omega) (by omega) (nos z (by omega) (by omega) (Or.inr (by omega)))
              rw [e]
              refine hRu.cg (fun W' => or_congr Iff.rfl ⟨fun z => ⟨z.1, z.2.1⟩, fun z => ⟨z.1, z.2, ?_⟩⟩)
              have rg := z.1.1.1 l hl hp
              rcases Nat.lt_or_ge to_ (W' l) with t | t
              · exact False.elim (nos (W' l) rg.1 rg.2 (Or.inr t) W' z.1 z.2 rfl)
              · omega
            · refine B_X8_goAlike_122 (pk_lt to_ x (fun z => absurd z (by omega)) (fun _ => ?_))
              have es : smF (x + 1 - 1) 1 (fun x => ctV 1 (oM N) (PbC N true K) (vs.erase l) (sU W l x)) = smF (x - 1) 1 (fun x => ctV 1 (oM N) (PbC N true K) (vs.erase l) (sU W l x)) + ctV 1 (oM N) (PbC N true K) (vs.erase l) (sU W l x) := by
                rw [show x + 1 - 1 = (x - 1) + 1 by omega, smF_end, show 1 + (x - 1) = x by omega]
              have hbu := bs_lt 11 (usB A W)
              rw [hPu.1, nI_bitb (by omega) (by omega), bs_bit, decide_eq_true (show x < 11 by omega), Bool.true_and, nI_1]
              refine br_n (fun e => ?_) (fun e => ?_)
              · have no : ∀ W', alkP N K W' → (∀ i, i < 10 → A i = true → W' i = W i) → W' l = x → False := fun W' g1 g2 g3 => by
                  obtain ⟨i, hi, z⟩ := anyL_iff.mp e
                  rw [Bool.and_eq_true, decide_eq_true_eq] at z
                  have ne : i ≠ l := fun y => by
                    rw [y, hA] at z
                    cases z.1
                  exact g1.1.ne hi hl (hV.1 i hi z.1).1 hp ne ((g2 i hi z.1).trans (z.2.trans g3.symm))
                refine ihx (by omega) u f hPu ?_ _ _ _
                rw [es, f0 x (by omega) (by omega) no, Nat.add_zero]
                refine hRu.cg (fun W' => or_congr Iff.rfl ⟨fun z => ⟨z.1, z.2.1, by omega⟩, fun z => ⟨z.1, z.2.1, ?_⟩⟩)
                rcases Nat.lt_succ_iff_lt_or_eq.mp z.2.2 with t | t
                · exact t
                · exact False.elim (no W' z.1 z.2.1 t)
              · have hsum : smF (x - 1) 1 (fun x => ctV 1 (oM N) (PbC N true K) (vs.erase l) (sU W l x)) + ctV 1 (oM N) (PbC N true K) (vs.erase l) (sU W l x) ≤ ctV 1 (oM N) (PbC N true K) vs W := by
                  rw [hpm, show oM N = (x + 1 - 1) + (oM N - x) by omega, smF_sp, show (x + 1 - 1) + (oM N - x) = oM N by omega, es]
                  omega
                refine cV (wth x (by omega) (by omega) e u _ _ (kpn hS f) hPu hRu (by omega)) (fun u2 hu2 => ihx (by omega) u2 (f.trans hu2.2.2) hu2.2.1 ?_ _ _ _)
                have hr2 := hu2.1
                rw [es, ← Nat.add_assoc]
                refine hr2.cg (fun W' => ?_)
                constructor
                · rintro ((z | z) | z)
                  · exact Or.inl z
                  · exact Or.inr ⟨z.1, z.2.1, by omega⟩
                  · refine Or.inr ⟨z.1, fun i hi hAi => ?_, ?_⟩
                    · have ne : i ≠ l := fun e => by
                        rw [e, hA] at hAi
                        cases hAi
                      have := z.2 i hi (by rw [addF_n ne]; exact hAi)
                      rw [sU_n ne] at this
                      exact this
                    · have := z.2 l hl addF_s
                      rw [sU_s] at this
                      omega
                · rintro (z | z)
                  · exact Or.inl (Or.inl z)
                  · rcases Nat.lt_succ_iff_lt_or_eq.mp z.2.2 with t | t
                    · exact Or.inl (Or.inr ⟨z.1, z.2.1, t⟩)
                    · refine Or.inr ⟨z.1, fun i hi hAi => ?_⟩
                      by_cases e : i = l
                      · subst e
                        rw [sU_s, t]
                      · rw [addF_n e] at hAi
                        rw [sU_n e, z.2.1 i hi hAi]
          refine run fr (by omega) (Nat.le_refl _) w Fr.rfl hP ?_
          have e : smF (fr - 1) 1 (fun x => ctV 1 (oM N) (PbC N true K) (vs.erase l) (sU W l x)) = 0 := smF_0 (fun z z1 z2 => f0 z z1 (by omega) (nos z z1 (by omega) (Or.inl (by omega))))
          rw [e, Nat.add_zero]
          refine hR.cg (fun W' => ⟨fun z => Or.inl z, fun z => ?_⟩)
          rcases z with z | z
          · exact z
          · have rg := z.1.1.1 l hl hp
            exact False.elim (nos (W' l) rg.1 rg.2 (Or.inl z.2.2) W' z.1 z.2.1 rfl)
        · intro u4 u5 u6
          refine B_X8_goAlike_122 (pk_lt to_ fr (fun _ => q w ⟨?_, hP, Fr.rfl⟩) (fun z => absurd z (by omega)))
          have e : ctV 1 (oM N) (PbC N true K) vs W = 0 := by
            rw [hpm]
            exact smF_0 (fun z z1 z2 => f0 z z1 (by omega) (nos z z1 (by omega) (by omega)))
          rw [e, Nat.add_zero]
          refine hR.cg (fun W' => ⟨fun z => Or.inl z, fun z => ?_⟩)
          rcases z with z | z
          · exact z
          · have rg := z.1.1.1 l hl hp
            exact False.elim (nos (W' l) rg.1 rg.2 (by omega) W' z.1 z.2 rfl)
      -- one number alone, where a line is the last of its halt
      have tight : ∀ h, h < 7 → nW N h = true → nOn N l h = true → rcN N A h = 1 → ∀ u4 u5, z_Wp (z_C (d + 2 * j + 3)) 0 k_X8_goAlike Q 122 [some (vR 8 0), some (vR 0 0), some (vI (nI (bs 10 (fun l => nP N l && !A l)))), some (vI (nI l)), u4, u5, some (vI (i_max 1 (gI w 906 0 h))), some (vI (i_min (nI (oM N)) (i_max 1 (gI w 906 0 h)))), some (vI (i_max 1 (gI w 906 0 h)))] [] w := by
        intro h hh hwh ho h1 u4 u5
        have hb := hV.le (h := h)
        have e6 : gI w 906 0 h = iI ((K : Int) - (wAt N A W h : Int)) := hP.2.1 h hh
        rw [e6, ix_max hK hb, imn2_tab _ (by omega) _ (by omega)]
        refine loop _ _ (by omega) (by omega) (fun z z1 z2 z3 W' g1 g2 g3 => ?_) (by omega) _ _ _
        have := one_h hV hl hp hA h1 ho hh hwh g1 g2
        omega
      have oa : nOn N l (nA N l) = true := on_ab.mpr (Or.inl rfl)
      have ob : nOn N l (nB N l) = true := on_ab.mpr (Or.inr rfl)
      have r1 := rc_le (N := N) (A := A) (h := nA N l)
      have r2 := rc_le (N := N) (A := A) (h := nB N l)
      have at75 : rcN N A (nA N l) = 1 ∨ rcN N A (nB N l) = 1 → ∀ u6 u8, z_Wp (z_C (d + 2 * j + 3)) 0 k_X8_goAlike Q 75 [some (vR 8 0), some (vR 0 0), some (vI (nI (bs 10 (fun l => nP N l && !A l)))), some (vI (nI l)), some (vI (nI (nA N l))), some (vI (nI (nB N l))), u6, some (vI (nI (oM N))), u8] [] w := fun hor u6 u8 => by
        refine B_X8_goAlike_75 (z_ii _ rfl hw.1 ?_)
        rw [n_nI (n := nA N l) (by omega), n_nI (n := nB N l) (by omega), hP.2.2.1 _ hw.1]
        refine pk_ne (rcN N A (nA N l)) 1 (fun ne => z_ii _ rfl hw.2.1 (tight _ hw.2.1 hwe.2 ob (hor.resolve_left ne) _ _)) (fun e => z_ii _ rfl hw.1 (tight _ hw.1 hwe.1 oa e _ _))
      rw [n_nI (n := l) (by omega), hl2.1, hl2.2, n_nI (n := nA N l) (by omega), n_nI (n := nB N l) (by omega), hP.2.2.1 _ hw.1, hP.2.2.1 _ hw.2.1, e4]
      refine z_ii l rfl hl (z_ii l rfl hl (z_ii _ rfl hw.1 ?_))
      refine pk_eq (rcN N A (nA N l)) 1 (fun e => at75 (Or.inl e) _ _) (fun ne => z_ii _ rfl hw.2.1 (pk_ne (rcN N A (nB N l)) 1 (fun ne2 => ?_) (fun e => at75 (Or.inr e) _ _)))
      exact loop 1 (oM N) (by omega) (Nat.le_refl _) (fun z z1 z2 z3 => absurd z3 (by omega)) (by omega) _ _ _
end WT6
