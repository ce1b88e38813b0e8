/-! ALL FARES by the class -/
theorem mnA_tab : ∀ t, t < 71 → i_min 1000000 (nI t) = nI t := by decide +kernel
theorem mnB_tab : ∀ q, q < 71 → ∀ t, t < 71 → i_min (nI q) (nI t) = nI (min q t) := by decide +kernel
theorem pc_cnt {s : Nat} : ∀ {n : Nat}, pc n s = cntL n s.testBit
  | 0 => rfl
  | n + 1 => by
    simp only [pc, cntL]
    rw [pc_cnt]
theorem del_lt {s h : Nat} (hb : s.testBit h = true) : del s h < s := by
  have e : del s h ||| 2 ^ h = s := by
    apply Nat.eq_of_testBit_eq
    intro i
    rw [Nat.testBit_or, del_bit, Nat.testBit_two_pow]
    by_cases z : h = i
    · subst z
      rw [hb, decide_eq_true (show h = h from rfl)]
      rfl
    · rw [decide_eq_false z, Bool.not_false, Bool.and_true, Bool.or_false]
  have := or_gt (s := del s h) (h := h) (by rw [del_bit, decide_eq_true (show h = h from rfl), Bool.not_true, Bool.and_false])
  rw [e] at this
  exact this
theorem pc_del {s h : Nat} (hh : h < 7) (hb : s.testBit h = true) : pc 7 (del s h) + 1 = pc 7 s := by
  rw [pc_cnt, pc_cnt, cnt_rm hb 7, if_pos hh]
  congr 1
  exact cntL_cong 7 (fun i _ => by
    rw [del_bit]
    congr 2
    rw [decide_eq_decide]
    exact eq_comm)
section TO1
variable {d : Nat} {v : z_V} {N : z_N} {nu : Nat → Nat} {T : Nat → Nat}
def DPs (N : z_N) (T : Nat → Nat) (s : Nat) : Prop := (∀ h, h < 7 → s.testBit h = true → T s ≤ T (del s h) + crH N s.testBit) ∧ ∃ h, h < 7 ∧ s.testBit h = true ∧ T s = T (del s h) + crH N s.testBit
def DPm (N : z_N) (T : Nat → Nat) (m : Nat) : Prop := T 0 = 0 ∧ (∀ s, s < m → T s ≤ 10 * pc 7 s) ∧ ∀ s, 0 < s → s < m → DPs N T s
theorem crL_le {s : Nat → Bool} : crL N s ≤ 10 := sm_le (n := 10) (c := 1) (fun l _ => by split <;> omega)
theorem crL_cg {s s' : Nat → Bool} (hW : nWF N) (e : ∀ g, g < 7 → s g = s' g) : crL N s = crL N s' := sm_cg (fun l _ => by
  cases hp : nP N l
  · rw [Bool.false_and, Bool.false_and]
  · have hw := hW.2.2.1 l (nP_lt hW hp)
    rw [e _ hw.1, e _ hw.2.1])
theorem s_leastFares (hS : NS v N) (hW : nWF N) : ZI (d + 2) m_X7_leastFares [vR 7 0, vR 0 0] v (fun u r => (∃ T, DPm N T 128 ∧ r = nI (T 127)) ∧ Fr (sT [800]) v u) := fun Q k => E_X7_leastFares (B_X7_leastFares_0 (by
  have in8 : ∀ k, sT [800] 800 k := fun k => (show 800 ∈ [800] from List.mem_cons_self)
  have kn : ∀ {u : z_V}, Fr (sT [800]) v u → NS u N := fun f => hS.fr f (fun k (z : (0 : Nat) ∈ [800]) => absurd z (by decide)) (fun k (z : (100 : Nat) ∈ [800]) => absurd z (by decide)) (fun k (z : (101 : Nat) ∈ [800]) => absurd z (by decide)) (fun k (z : (102 : Nat) ∈ [800]) => absurd z (by decide))
  have outer : ∀ s, s ≤ 128 → 1 ≤ s → ∀ (u : z_V) (T : Nat → Nat), Fr (sT [800]) v u → (∀ t, t < s → gI u 800 0 t = nI (T t)) → DPm N T s → ∀ u3 u4 u5, z_Wp (z_C (d + 1)) 1 k_X7_leastFares Q 9 [some (vR 7 0), some (vR 0 0), some (vI (nI s)), u3, u4, u5] [] u := by
    refine z_up 128 (fun _ u T f hT hD u3 u4 u5 => ?_) (fun s hs ih hs1 u T f hT hD u3 u4 u5 => ?_)
    · refine B_X7_leastFares_9 (pk_lt 127 128 (fun _ => ?_) (fun z => absurd z (by omega)))
      rw [hT 127 (by omega)]
      exact k u _ ⟨⟨T, hD, rfl⟩, f⟩
    · have hSu := kn f
      obtain ⟨d0, d1, d2⟩ := hD
      have b70 : ∀ t, t < s → T t ≤ 70 := fun t ht => by
        have := d1 t ht
        have := pc_le 7 t
        omega
      have inner : ∀ h, h ≤ 7 → ∀ x3, ((x3 = 1000000 ∧ ∀ g, g < h → s.testBit g = false) ∨ ∃ q, x3 = nI q ∧ (∃ g, g < h ∧ s.testBit g = true ∧ q = T (del s g)) ∧ ∀ g, g < h → s.testBit g = true → q ≤ T (del s g)) → z_Wp (z_C (d + 1)) 1 k_X7_leastFares Q 24 [some (vR 7 0), some (vR 0 0), some (vI (nI s)), some (vI x3), some (vI (nI (sm h (fun g => if s.testBit g = true then cntL 7 (fun i => nAdj N g i && !s.testBit i) else 0)))), some (vI (nI h))] [] u := by
        refine z_up 7 (fun x3 h3 => ?_) (fun h hh ihh x3 h3 => ?_)
        · refine B_X7_leastFares_24 (pk_le 7 7 (fun _ => z_ii s rfl hs ?_) (fun z => absurd z (by omega)))
          have e : sm 7 (fun g => if s.testBit g = true then cntL 7 (fun i => nAdj N g i && !s.testBit i) else 0) = crH N s.testBit := rfl
          rw [e, n_nI (by omega), nI_1]
          rcases h3 with ⟨_, h3⟩ | ⟨q, rfl, ⟨g, hg, hgb, rfl⟩, hmin⟩
          · have : s = 0 := bt_ext hs (by decide) (fun i hi => by rw [h3 i hi, Nat.zero_testBit])
            omega
          · have hlt := del_lt hgb
            rw [nI_add]
            have Ts : ∀ t, t < s → (fun t => if t = s then T (del s g) + crH N s.testBit else T t) t = T t := fun t ht => if_neg (by omega)
            have Tself : (fun t => if t = s then T (del s g) + crH N s.testBit else T t) s = T (del s g) + crH N s.testBit := if_pos rfl
            refine ih (by omega) _ (fun t => if t = s then T (del s g) + crH N s.testBit else T t) (f.pI (in8 _)) (fun t ht => ?_) ⟨(Ts 0 (by omega)).trans d0, fun t ht => ?_, fun t h0 ht => ?_⟩ _ _ _
            · by_cases z : t = s
              · subst z
                rw [gI_pI_s]
                exact congrArg nI Tself.symm
              · rw [gI_pI_k z]
                exact (hT t (by omega)).trans (congrArg nI (Ts t (by omega)).symm)
            · by_cases z : t = s
              · subst z
                have a := d1 _ hlt
                have b := pc_del hg hgb
                have c : crH N t.testBit ≤ 10 := by
                  rw [cr_eq hW]
                  exact crL_le
                rw [Tself]
                omega
              · rw [Ts t (by omega)]
                exact d1 t (by omega)
            · by_cases z : t = s
              · subst z
                refine ⟨fun g' hg' hb' => ?_, g, hg, hgb, ?_⟩
                · rw [Tself, Ts _ (del_lt hb')]
                  have := hmin g' hg' hb'
                  omega
                · rw [Tself, Ts _ hlt]
              · have old := d2 t h0 (by omega)
                refine ⟨fun g' hg' hb' => ?_, ?_⟩
                · have := del_lt hb'
                  rw [Ts t (by omega), Ts _ (by omega)]
                  exact old.1 g' hg' hb'
                · obtain ⟨g', a, b, c⟩ := old.2
                  have := del_lt b
                  exact ⟨g', a, b, by rw [Ts t (by omega), Ts _ (by omega)]; exact c⟩
        · refine B_X7_leastFares_24 (pk_le 7 h (fun z => absurd z (by omega)) (fun _ => ?_))
          have st : sm (h + 1) (fun g => if s.testBit g = true then cntL 7 (fun i => nAdj N g i && !s.testBit i) else 0) = sm h (fun g => if s.testBit g = true then cntL 7 (fun i => nAdj N g i && !s.testBit i) else 0) + (if s.testBit h = true then cntL 7 (fun i => nAdj N h i && !s.testBit i) else 0) := rfl
          rw [nI_bitb (by omega) (by omega), nI_1]
          refine br_z (fun e => ?_) (fun e => ?_)
          · rw [st, e, if_neg (by decide), Nat.add_zero] at ihh
            refine ihh x3 ?_
            rcases h3 with ⟨h1, h2⟩ | ⟨q, h1, ⟨g, hg, hgb, hq⟩, hmin⟩
            · refine Or.inl ⟨h1, fun g hg => ?_⟩
              rcases Nat.lt_succ_iff_lt_or_eq.mp hg with z | z
              · exact h2 g z
              · rw [z]
                exact e
            · refine Or.inr ⟨q, h1, ⟨g, by omega, hgb, hq⟩, fun g' hg' hb' => ?_⟩
              rcases Nat.lt_succ_iff_lt_or_eq.mp hg' with z | z
              · exact hmin g' z hb'
              · rw [z, e] at hb'
                cases hb'
          · have hlt := del_lt e
            have ed : nI s &&& (i_shl 1 (nI h) ^^^ (-1)) = nI (del s h) := by
              rw [nI_shl (by omega), nI_andn]
              rfl
            rw [ed]
            refine z_ii (del s h) rfl (by omega) (z_ii h rfl hh ?_)
            rw [n_nI (n := del s h) (by omega), n_nI (n := h) (by omega), hT _ hlt, hSu.2.2.2.2.2.2 h hh, nI_andn7 (bs_lt 7 _)]
            have hb := bs_lt 7 (fun i => (bs 7 (nAdj N h)).testBit i && !s.testBit i)
            refine cP (s_bitCount (d := d) (by omega)) ?_
            have e2 : pc 10 (bs 7 (fun i => (bs 7 (nAdj N h)).testBit i && !s.testBit i)) = cntL 7 (fun i => nAdj N h i && !s.testBit i) := by
              rw [pc_bs7]
              exact cntL_cong 7 (fun i hi => by rw [bs_bit, decide_eq_true hi, Bool.true_and])
            rw [e2, nI_add]
            rw [st, e, if_pos rfl] at ihh
            have bT := b70 _ hlt
            refine ihh _ (Or.inr ?_)
            rcases h3 with ⟨h1, h2⟩ | ⟨q, h1, ⟨g, hg, hgb, hq⟩, hmin⟩
            · refine ⟨T (del s h), by rw [h1, mnA_tab _ (by omega)], ⟨h, by omega, e, rfl⟩, fun g' hg' hb' => ?_⟩
              rcases Nat.lt_succ_iff_lt_or_eq.mp hg' with z | z
              · rw [h2 g' z] at hb'
                cases hb'
              · rw [z]
                exact Nat.le_refl _
            · have bq := b70 _ (del_lt hgb)
              refine ⟨min q (T (del s h)), by rw [h1, mnB_tab _ (by omega) _ (by omega)], ?_, fun g' hg' hb' => ?_⟩
              · rcases Nat.le_total q (T (del s h)) with z | z
                · exact ⟨g, by omega, hgb, by rw [Nat.min_eq_left z]; exact hq⟩
                · exact ⟨h, by omega, e, Nat.min_eq_right z⟩
              · rcases Nat.lt_succ_iff_lt_or_eq.mp hg' with z | z
                · have := hmin g' z hb'
                  omega
                · rw [z]
                  omega
      refine B_X7_leastFares_9 (pk_lt 127 s (fun z => absurd z (by omega)) (fun _ => ?_))
      exact inner 0 (by omega) _ (Or.inl ⟨rfl, fun g hg => absurd hg (by omega)⟩)
  refine outer 1 (by omega) (Nat.le_refl _) _ (fun _ => 0) (Fr.rfl.pI (in8 _)) (fun t ht => ?_) ⟨rfl, fun _ _ => Nat.zero_le _, fun s h1 h2 => absurd h1 (by omega)⟩ _ _ _
  obtain rfl : t = 0 := by omega
  exact gI_pI_s))
/-- what the sets tell -/
theorem dp_low (hW : nWF N) (hD : DPm N T 128) {L : Nat → Nat} (hL : inj7 L) : T 127 ≤ csL N L := by
  have key : ∀ k, k ≤ 7 → T (bs 7 (fun g => decide (L g < k))) ≤ sm k (fun k => crL N (fun g => decide (L g < k + 1))) := by
    intro k
    induction k with
    | zero =>
      intro _
      have : bs 7 (fun g => decide (L g < 0)) = 0 := by
        have : bs 7 (fun g => decide (L g < 0)) = bs 7 (fun _ => false) := bs_cong (fun i _ => decide_eq_false (by omega))
        rw [this]
        decide
      rw [this, hD.1]
      exact Nat.zero_le _
    | succ k ih =>
      intro hk
      obtain ⟨h, hh, _, he⟩ := cnt_onto (n := 7) (f := fun _ => true) L (fun i hi _ => ⟨hL.1 i hi, rfl⟩) (fun i j hi hj _ _ e => hL.2 i j hi hj e) (x := k) (by omega) rfl
      have hb : (bs 7 (fun g => decide (L g < k + 1))).testBit h = true := by
        rw [bs_bit, decide_eq_true hh, decide_eq_true (show L h < k + 1 by omega)]
        rfl
      have hlt := bs_lt 7 (fun g => decide (L g < k + 1))
      have hpos : 0 < bs 7 (fun g => decide (L g < k + 1)) := Nat.pos_of_ne_zero (fun z => by
        rw [z, Nat.zero_testBit] at hb
        cases hb)
      have hd : del (bs 7 (fun g => decide (L g < k + 1))) h = bs 7 (fun g => decide (L g < k)) := by
        have := del_lt hb
        refine bt_ext (by omega) (bs_lt 7 _) (fun i hi => ?_)
        rw [del_bit, bs_bit, bs_bit, decide_eq_true hi, Bool.true_and, Bool.true_and]
        by_cases z : h = i
        · subst z
          rw [decide_eq_true rfl, decide_eq_false (show ¬ L h < k by omega), Bool.not_true, Bool.and_false]
        · rw [decide_eq_false z, Bool.not_false, Bool.and_true, decide_eq_decide]
          have ne : L i ≠ k := fun y => z (hL.2 h i hh hi (he.trans y.symm))
          omega
      have st := (hD.2.2 _ hpos hlt).1 h hh hb
      rw [hd, cr_eq hW, crL_cg (s' := fun g => decide (L g < k + 1)) hW (fun g hg => by rw [bs_bit, decide_eq_true hg, Bool.true_and])] at st
      have := ih (by omega)
      show _ ≤ sm k _ + crL N (fun g => decide (L g < k + 1))
      omega
  have e : bs 7 (fun g => decide (L g < 7)) = 127 := by
    have : bs 7 (fun g => decide (L g < 7)) = bs 7 (fun _ => true) := bs_cong (fun i hi => decide_eq_true (hL.1 i hi))
    rw [this]
    decide
  have := key 7 (Nat.le_refl _)
  rw [e] at this
  rw [cs_cr hW hL]
  exact this
theorem dp_at (hW : nWF N) (hD : DPm N T 128) : ∃ L, inj7 L ∧ csL N L = T 127 := by
  have key : ∀ s, s < 128 → ∃ L : Nat → Nat, (∀ h, h < 7 → s.testBit h = true → L h < pc 7 s) ∧ (∀ g h, g < 7 → h < 7 → s.testBit g = true → s.testBit h = true → L g = L h → g = h) ∧ T s = sm (pc 7 s) (fun k => crL N (fun g => s.testBit g && decide (L g < k + 1))) := by
    intro s
    induction s using Nat.strongRecOn with
    | ind s ih =>
      intro hs
      rcases Nat.eq_zero_or_pos s with z | z
      · subst z
        refine ⟨fun _ => 0, fun h _ y => ?_, fun g h _ _ y => ?_, ?_⟩
        · rw [Nat.zero_testBit] at y
          cases y
        · rw [Nat.zero_testBit] at y
          cases y
        · rw [hD.1]
          rfl
      · obtain ⟨h, hh, hb, he⟩ := (hD.2.2 s z hs).2
        have hlt := del_lt hb
        have hpc := pc_del hh hb
        obtain ⟨L, l1, l2, l3⟩ := ih _ hlt (by omega)
        have dbit : ∀ i, i ≠ h → (del s h).testBit i = s.testBit i := fun i ne => by rw [del_bit, decide_eq_false (fun y => ne y.symm), Bool.not_false, Bool.and_true]
        refine ⟨sU L h (pc 7 (del s h)), fun i hi hib => ?_, fun i j hi hj hib hjb e => ?_, ?_⟩
        · by_cases y : i = h
          · subst y
            rw [sU_s]
            omega
          · rw [sU_n y]
            have := l1 i hi ((dbit i y).trans hib)
            omega
        · by_cases y : i = h
          · by_cases y2 : j = h
            · rw [y, y2]
            · rw [y, sU_s, sU_n y2] at e
              have := l1 j hj ((dbit j y2).trans hjb)
              omega
          · by_cases y2 : j = h
            · rw [y2, sU_s, sU_n y] at e
              have := l1 i hi ((dbit i y).trans hib)
              omega
            · rw [sU_n y, sU_n y2] at e
              exact l2 i j hi hj ((dbit i y).trans hib) ((dbit j y2).trans hjb) e
        · rw [← hpc]
          show T s = sm (pc 7 (del s h)) _ + crL N _
          rw [he, l3, cr_eq hW]
          congr 1
          · refine sm_cg (fun k hk => crL_cg hW (fun g hg => ?_))
            by_cases y : g = h
            · subst y
              rw [sU_s, decide_eq_false (show ¬ pc 7 (del s g) < k + 1 by omega), Bool.and_false, del_bit, decide_eq_true (show g = g from rfl), Bool.not_true, Bool.and_false, Bool.false_and]
            · rw [sU_n y, dbit g y]
          · refine crL_cg hW (fun g hg => ?_)
            cases y : s.testBit g
            · rfl
            · by_cases y2 : g = h
              · subst y2
                rw [sU_s, decide_eq_true (by omega)]
                rfl
              · rw [sU_n y2]
                have := l1 g hg ((dbit g y2).trans y)
                rw [decide_eq_true (by omega)]
                rfl
  obtain ⟨L, l1, l2, l3⟩ := key 127 (by decide)
  have p7 : pc 7 127 = 7 := by decide
  have b : ∀ h, h < 7 → (127 : Nat).testBit h = true := fun h hh => b127.mpr hh
  have hL : inj7 L := ⟨fun h hh => by have := l1 h hh (b h hh); omega, fun g h hg hh e => l2 g h hg hh (b g hg) (b h hh) e⟩
  refine ⟨L, hL, ?_⟩
  rw [l3, p7, cs_cr hW hL]
  exact sm_cg (fun k _ => crL_cg hW (fun g hg => by rw [b g hg, Bool.true_and]))
theorem s_totalC (hC : CW v 0 N nu) : ZI (d + 3) m_X10_total [vR 10 0] v (fun u r => toA N r ∧ Fr sGm v u) := fun Q k => E_X10_total (B_X10_total_0 (by
  have hW := hC.1
  refine cV (s_look (d := d) hC) (fun u hu => ?_)
  refine cI (s_leastFares (d := d) hu.1 hW) (fun w r hr => ?_)
  obtain ⟨⟨T, hD, rfl⟩, f⟩ := hr
  refine k _ _ ⟨⟨T 127, rfl, ?_, fun L hL => ?_⟩, (sGm_n hu.2).trans (sGm_8 f)⟩
  · obtain ⟨L, h1, h2⟩ := dp_at hW hD
    obtain ⟨L', k1, k2⟩ := W_of_7 hW h1
    obtain ⟨L2, g1, g2⟩ := W_to_7 hW k1
    have := dp_low hW hD g1
    exact ⟨L', k1, by omega⟩
  · obtain ⟨L2, g1, g2⟩ := W_to_7 hW hL
    have := dp_low hW hD g1
    omega))
end TO1
