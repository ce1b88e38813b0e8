/-! the class looks at its net -/
def sNet : Nat → Nat → Prop := sT [0, 100, 101, 102]
theorem sNet_in {t k : Nat} (h : t ∈ [0, 100, 101, 102]) : sNet t k := h
theorem sNet_not {t k : Nat} (h : t ≠ 0 ∧ t ≠ 100 ∧ t ≠ 101 ∧ t ≠ 102) : ¬ sNet t k := by
  intro q
  have q : t ∈ [0, 100, 101, 102] := q
  simp only [List.mem_cons, List.not_mem_nil, or_false] at q
  omega
section CS2
variable {d : Nat} {v : z_V} {N : z_N} {nu : Nat → Nat} {w : Nat}
theorem nEd_l {N : z_N} {l g h : Nat} (hA : nA N l ≠ nB N l) : nEd N l g h = (if g = nA N l then decide (h = nB N l) else if g = nB N l then decide (h = nA N l) else false) := by
  unfold nEd
  by_cases h1 : nA N l = g
  · rw [if_pos h1.symm]
    have h2 : ¬ nB N l = g := fun q => hA (h1.trans q.symm)
    rw [beq_iff_eq.mpr h1, beq_eq_false_iff_ne.mpr h2, Bool.true_and, Bool.false_and, Bool.or_false]
    by_cases h3 : nB N l = h
    · simp [h3]
    · simp [h3, Ne.symm h3]
  · rw [if_neg (fun q => h1 q.symm), beq_eq_false_iff_ne.mpr h1, Bool.false_and, Bool.false_or]
    by_cases h2 : nB N l = g
    · rw [if_pos h2.symm, beq_iff_eq.mpr h2, Bool.true_and]
      by_cases h3 : nA N l = h
      · simp [h3]
      · simp [h3, Ne.symm h3]
    · rw [if_neg (fun q => h2 q.symm), beq_eq_false_iff_ne.mpr h2, Bool.false_and]
theorem s_isOpenX {l : Nat} {u : z_V} (ho : nO N < 2 ^ 31) (h3 : gI u 0 0 3 = nI (nO N)) (hl : l < 32) : ZP (d + 1) m_X0_isOpen [vR 0 0, vI (nI l)] u (bI (nP N l)) := fun Q h => E_X0_isOpen (B_X0_isOpen_0 (by
  rw [h3, nI_bitb ho hl]
  exact br_z (fun e => bq (b' := false) h e) (fun e => bq (b' := true) h e)))
/-- what the bits beside say behind the first so many lines -/
def nAdL (N : z_N) (l g h : Nat) : Bool := anyL l (fun i => nP N i && nEd N i g h)
theorem nAdL_10 {N : z_N} (h : nWF N) {g k : Nat} : nAdL N 10 g k = nAdj N g k := by
  apply Bool.eq_iff_iff.mpr
  unfold nAdL nAdj
  rw [anyL_iff, anyL_iff]
  constructor
  · rintro ⟨i, h1, h2⟩
    rw [Bool.and_eq_true] at h2
    exact ⟨i, nP_lt h h2.1, by rw [Bool.and_eq_true]; exact h2⟩
  · rintro ⟨i, h1, h2⟩
    exact ⟨i, Nat.lt_of_lt_of_le h1 h.1, h2⟩
theorem or_bs {f : Nat → Bool} {o : Nat} (ho : o < 7) : bs 7 f ||| 2 ^ o = bs 7 (fun i => f i || decide (i = o)) := bs_eq (Nat.or_lt_two_pow (n := 7) (bs_lt 7 f) (Nat.pow_lt_pow_right (by decide) ho)) (fun i hi => by
  rw [Nat.testBit_or, bs_bit, Nat.testBit_two_pow]
  by_cases h : i = o
  · simp [h]
  · simp [hi, h, Ne.symm h])
theorem s_look (hC : CW v w N nu) : ZV (d + 2) m_X0_look [vR 0 0, vR 9 w] v (fun u => NS u N ∧ Fr sNet v u) := fun Q k => E_X0_look (B_X0_look_0 (by
  have hn := hC.1.1
  have ho := nO_lt hC.1
  refine cP (s_openBits hC) (cP (s_bitCount ho) ?_)
  -- the bits beside are cleared
  have L3 : ∀ (u : z_V), Fr sNet v u → gI u 0 0 3 = nI (nO N) → gI u 0 0 4 = nI (pc 10 (nO N)) → gL u 0 0 7 = lN (kN N 10) → (∀ l, l < 10 → nP N l = true → gI u 100 0 l = nI (nA N l) ∧ gI u 101 0 l = nI (nB N l)) → (∀ h, h < 7 → gI u 102 0 h = nI (bs 7 (nAdj N h))) → gI u 0 0 5 = nI 0 → ∀ (u1 : Option z_AV), z_Wp (z_C (d + 1)) 0 k_X0_look Q 181 [some (vR 0 0), u1, some (vI 0)] [] u := by
    intro u f h3 h4 h7 hl hb h5
    refine z_up0 (P := fun h => ∀ (u : z_V), Fr sNet v u → gI u 0 0 3 = nI (nO N) → gI u 0 0 4 = nI (pc 10 (nO N)) → gL u 0 0 7 = lN (kN N 10) → (∀ l, l < 10 → nP N l = true → gI u 100 0 l = nI (nA N l) ∧ gI u 101 0 l = nI (nB N l)) → (∀ h, h < 7 → gI u 102 0 h = nI (bs 7 (nAdj N h))) → gI u 0 0 5 = nI (bs 7 (fun i => decide (i < h) && nW N i)) → ∀ (u1 : Option z_AV), z_Wp (z_C (d + 1)) 0 k_X0_look Q 181 [some (vR 0 0), u1, some (vI (nI h))] [] u) 7 ?_ ?_ u f h3 h4 h7 hl hb (by rw [h5]; rfl)
    · intro u f h3 h4 h7 hl hb h5 u1
      refine B_X0_look_181 (pk_le 7 7 (fun _ => ?_) (fun q => absurd q (by decide)))
      have e : bs 7 (fun i => decide (i < 7) && nW N i) = bs 7 (nW N) := bs_cong (fun i hi => by simp [hi])
      rw [e] at h5
      rw [h5]
      have hb7 := bs_lt 7 (nW N)
      refine cP (s_bitCount (by omega)) ?_
      refine k _ ⟨⟨?_, ?_, ?_, ?_, ?_, ?_, ?_⟩, f.pI (sNet_in (by decide))⟩
      · rw [gI_pI_k (by decide)]; exact h3
      · rw [gI_pI_k (by decide)]; exact h4
      · rw [gI_pI_k (by decide)]; exact h5
      · rw [gI_pI_s]
      · exact h7
      · intro l hl1 hp
        rw [gI_pI_t (by decide), gI_pI_t (by decide)]
        exact hl l hl1 hp
      · intro h hh
        rw [gI_pI_t (by decide)]
        exact hb h hh
    · intro h hh ih u f h3 h4 h7 hl hb h5 u1
      refine B_X0_look_181 (pk_le 7 h (fun q => absurd q (by omega)) (fun _ => ?_))
      refine z_ii h rfl hh ?_
      rw [n_nI (by omega), hb h hh]
      have hb7 := bs_lt 7 (nAdj N h)
      refine pk_eq (bs 7 (nAdj N h)) 0 (fun e => ?_) (fun e => ?_)
      · rw [nI_1]
        refine ih u f h3 h4 h7 hl hb ?_ _
        rw [h5]
        congr 1
        refine bs_cong (fun i hi => ?_)
        by_cases hih : i = h
        · subst hih
          have : nW N i = false := by rw [nW_bs, e]; rfl
          simp [this]
        · simp only [show (i < h + 1) = (i < h) from propext (by omega)]
      · rw [nI_1, h5, nI_shl (by omega), nI_or, or_bs hh]
        refine ih _ (f.pI (sNet_in (by decide))) ?_ ?_ h7 ?_ ?_ ?_ _
        · rw [gI_pI_k (by decide)]; exact h3
        · rw [gI_pI_k (by decide)]; exact h4
        · intro l hl1 hp
          rw [gI_pI_t (by decide), gI_pI_t (by decide)]
          exact hl l hl1 hp
        · intro h hh
          rw [gI_pI_t (by decide)]
          exact hb h hh
        · rw [gI_pI_s]
          congr 1
          refine bs_cong (fun i hi => ?_)
          by_cases hih : i = h
          · subst hih
            have : nW N i = true := by rw [nW_bs]; exact decide_eq_true e
            simp [this]
          · simp only [show (i < h + 1) = (i < h) from propext (by omega), hih, decide_false, Bool.or_false]
  have L2 : ∀ (u : z_V), Fr sNet v u → gI u 0 0 3 = nI (nO N) → gI u 0 0 4 = nI (pc 10 (nO N)) → gL u 0 0 7 = lN 0 → (∀ h, h < 7 → gI u 102 0 h = nI 0) → z_Wp (z_C (d + 1)) 0 k_X0_look Q 47 [some (vR 0 0), some (vR 9 w), some (vI 0)] [] u := by
    intro u f h3 h4 h7 hb
    refine z_up0 (P := fun l => ∀ (u : z_V), Fr sNet v u → gI u 0 0 3 = nI (nO N) → gI u 0 0 4 = nI (pc 10 (nO N)) → gL u 0 0 7 = lN (kN N l) → (∀ i, i < l → nP N i = true → gI u 100 0 i = nI (nA N i) ∧ gI u 101 0 i = nI (nB N i)) → (∀ h, h < 7 → gI u 102 0 h = nI (bs 7 (nAdL N l h))) → z_Wp (z_C (d + 1)) 0 k_X0_look Q 47 [some (vR 0 0), some (vR 9 w), some (vI (nI l))] [] u) 10 ?_ ?_ u f h3 h4 h7 (fun i hi => absurd hi (by omega)) (fun h hh => by rw [hb h hh]; rfl)
    · intro u f h3 h4 h7 hl hb
      refine B_X0_look_47 (pk_le 10 10 (fun _ => ?_) (fun q => absurd q (by decide)))
      refine L3 _ (f.pI (sNet_in (by decide))) ?_ ?_ h7 ?_ ?_ gI_pI_s _
      · rw [gI_pI_k (by decide)]; exact h3
      · rw [gI_pI_k (by decide)]; exact h4
      · intro l hl1 hp
        rw [gI_pI_t (by decide), gI_pI_t (by decide)]
        exact hl l hl1 hp
      · intro h hh
        rw [gI_pI_t (by decide), hb h hh]
        congr 1
        exact bs_cong (fun i _ => nAdL_10 hC.1)
    · intro l hl10 ih u f h3 h4 h7 hl hb
      refine B_X0_look_47 (pk_le 10 l (fun q => absurd q (by omega)) (fun _ => ?_))
      rw [h7, lN_shl6]
      refine cP (s_isOpenX (u := pL u 0 0 7 (lN (kN N l * 64))) (by omega) h3 (by omega)) (br_z (fun e => ?_) (fun e => ?_))
      · rw [nI_1]
        refine ih _ (f.pL (sNet_in (by decide))) h3 h4 ?_ ?_ ?_
        · rw [gL_pL_s]
          simp [kN, e]
        · intro i hi hp
          rcases Nat.lt_succ_iff_lt_or_eq.mp hi with q | q
          · exact hl i q hp
          · subst q
            rw [e] at hp
            cases hp
        · intro h hh
          show gI u 102 0 h = _
          rw [hb h hh]
          congr 1
          exact bs_cong (fun i _ => by simp [nAdL, anyL, e])
      · have hlt := nP_lt hC.1 e
        have hw := hC.1.2.2.1 l hlt
        have hwl := hC.2.2.2.1 l hlt
        rw [n_nI (by omega)]
        have g1 : gI (pL u 0 0 7 (lN (kN N l * 64))) 1001 w l = nI (nA N l) := ((f.i (sNet_not (by decide))).trans hwl.1 : gI u 1001 w l = _)
        have g2 : gI (pL u 0 0 7 (lN (kN N l * 64))) 1002 w l = nI (nB N l) := ((f.i (sNet_not (by decide))).trans hwl.2 : gI u 1002 w l = _)
        have zl : ∀ {T : Prop}, T → z_if (z_in (nI l) 10) T := fun t => z_ii l rfl hl10 t
        refine zl (zl (zl (zl (zl ?_))))
        rw [g1, g2, gI_pI_s, gI_pI_s]
        refine z_ii _ rfl hw.1 (zl (z_ii _ rfl hw.1 ?_))
        rw [n_nI (by omega)]
        have g3 : gI (pL u 0 0 7 (lN (kN N l * 64))) 102 0 (nA N l) = nI (bs 7 (nAdL N l (nA N l))) := hb _ hw.1
        rw [g3, nI_shl (by omega), nI_or, or_bs hw.2.1]
        -- at 118
        refine B_X0_look_118 (zl ?_)
        rw [n_nI (by omega)]
        have q1 : gI (pI (pI (pI (pL u 0 0 7 (lN (kN N l * 64))) 100 0 l (nI (nA N l))) 101 0 l (nI (nB N l))) 102 0 (nA N l) (nI (bs 7 (fun i => nAdL N l (nA N l) i || decide (i = nB N l))))) 101 0 l = nI (nB N l) := by rw [gI_pI_t (by decide), gI_pI_s]
        have q2 : gI (pI (pI (pI (pL u 0 0 7 (lN (kN N l * 64))) 100 0 l (nI (nA N l))) 101 0 l (nI (nB N l))) 102 0 (nA N l) (nI (bs 7 (fun i => nAdL N l (nA N l) i || decide (i = nB N l))))) 100 0 l = nI (nA N l) := by rw [gI_pI_t (by decide), gI_pI_t (by decide), gI_pI_s]
        rw [q1, q2, n_nI (by omega)]
        refine z_ii _ rfl hw.2.1 (zl (z_ii _ rfl hw.2.1 (zl (zl ?_))))
        have q3 : gI (pI (pI (pI (pL u 0 0 7 (lN (kN N l * 64))) 100 0 l (nI (nA N l))) 101 0 l (nI (nB N l))) 102 0 (nA N l) (nI (bs 7 (fun i => nAdL N l (nA N l) i || decide (i = nB N l))))) 102 0 (nB N l) = nI (bs 7 (nAdL N l (nB N l))) := by
          rw [gI_pI_k (Ne.symm hw.2.2), gI_pI_t (by decide), gI_pI_t (by decide)]
          exact hb _ hw.2.1
        rw [q3, nI_shl (by omega), nI_or, or_bs hw.1, nI_1]
        have q4 : gL (pI (pI (pI (pL u 0 0 7 (lN (kN N l * 64))) 100 0 l (nI (nA N l))) 101 0 l (nI (nB N l))) 102 0 (nA N l) (nI (bs 7 (fun i => nAdL N l (nA N l) i || decide (i = nB N l))))) 0 0 7 = lN (kN N l * 64) := gL_pL_s
        have q5 : (((1 : Int32) + (nI (nA N l) * 7)) + nI (nB N l)).toInt64 = lN (1 + nA N l * 7 + nB N l) := by
          rw [show (1 : Int32) = nI 1 from rfl, show (7 : Int32) = nI 7 from rfl, pk_mul, nI_add, nI_add, nI_l (by omega)]
        rw [q4, q5, lN_add]
        refine ih _ (((((f.pL (sNet_in (by decide))).pI (sNet_in (by decide))).pI (sNet_in (by decide))).pI (sNet_in (by decide))).pI (sNet_in (by decide)) |>.pL (sNet_in (by decide))) h3 h4 ?_ ?_ ?_
        · rw [gL_pL_s]
          congr 1
          simp [kN, e]
        · intro i hi hp
          rw [gI_pL, gI_pL]
          constructor
          · rw [gI_pI_t (by decide), gI_pI_t (by decide), gI_pI_t (by decide)]
            rcases Nat.lt_succ_iff_lt_or_eq.mp hi with q | q
            · rw [gI_pI_k (by omega)]
              exact (hl i q hp).1
            · subst q
              rw [gI_pI_s]
          · rw [gI_pI_t (by decide), gI_pI_t (by decide)]
            rcases Nat.lt_succ_iff_lt_or_eq.mp hi with q | q
            · rw [gI_pI_k (by omega), gI_pI_t (by decide)]
              exact (hl i q hp).2
            · subst q
              rw [gI_pI_s]
        · intro h hh
          show gI (pI (pI (pI (pI (pL u 0 0 7 (lN (kN N l * 64))) 100 0 l (nI (nA N l))) 101 0 l (nI (nB N l))) 102 0 (nA N l) _) 102 0 (nB N l) _) 102 0 h = _
          have hE := fun k => nEd_l (N := N) (l := l) (g := h) (h := k) hw.2.2
          by_cases hB : h = nB N l
          · subst hB
            rw [gI_pI_s]
            congr 1
            refine bs_cong (fun i _ => ?_)
            rw [show nAdL N (l + 1) (nB N l) i = (nAdL N l (nB N l) i || (nP N l && nEd N l (nB N l) i)) from rfl, hE, if_neg (Ne.symm hw.2.2), if_pos rfl, e, Bool.true_and]
          · rw [gI_pI_k hB]
            by_cases hA : h = nA N l
            · subst hA
              rw [gI_pI_s]
              congr 1
              refine bs_cong (fun i _ => ?_)
              rw [show nAdL N (l + 1) (nA N l) i = (nAdL N l (nA N l) i || (nP N l && nEd N l (nA N l) i)) from rfl, hE, if_pos rfl, e, Bool.true_and]
            · rw [gI_pI_k hA, gI_pI_t (by decide), gI_pI_t (by decide)]
              show gI u 102 0 h = _
              rw [hb h hh]
              congr 1
              refine bs_cong (fun i _ => ?_)
              rw [show nAdL N (l + 1) h i = (nAdL N l h i || (nP N l && nEd N l h i)) from rfl, hE, if_neg hA, if_neg hB, Bool.and_false, Bool.or_false]
  refine z_up0 (P := fun h => ∀ (u : z_V), Fr sNet v u → gI u 0 0 3 = nI (nO N) → gI u 0 0 4 = nI (pc 10 (nO N)) → gL u 0 0 7 = lN 0 → (∀ i, i < h → gI u 102 0 i = nI 0) → z_Wp (z_C (d + 1)) 0 k_X0_look Q 26 [some (vR 0 0), some (vR 9 w), some (vI (nI h))] [] u) 7 ?_ ?_ _ (((Fr.rfl.pI (sNet_in (by decide))).pI (sNet_in (by decide))).pL (sNet_in (by decide))) ?_ ?_ ?_ (fun i hi => absurd hi (by omega))
  · intro u f h3 h4 h7 hb
    exact B_X0_look_26 (pk_le 7 7 (fun _ => L2 u f h3 h4 h7 hb) (fun q => absurd q (by decide)))
  · intro h hh ih u f h3 h4 h7 hb
    refine B_X0_look_26 (pk_le 7 h (fun q => absurd q (by omega)) (fun _ => ?_))
    refine z_ii h rfl hh ?_
    rw [n_nI (by omega), nI_1]
    refine ih _ (f.pI (sNet_in (by decide))) ?_ ?_ h7 ?_
    · rw [gI_pI_t (by decide)]; exact h3
    · rw [gI_pI_t (by decide)]; exact h4
    · intro i hi
      rcases Nat.lt_succ_iff_lt_or_eq.mp hi with q | q
      · rw [gI_pI_k (by omega)]
        exact hb i q
      · subst q
        rw [gI_pI_s]
        rfl
  · show gI (pI (pI v 0 0 3 (nI (nO N))) 0 0 4 (nI (pc 10 (nO N)))) 0 0 3 = _
    rw [gI_pI_k (by decide), gI_pI_s]
  · show gI (pI (pI v 0 0 3 (nI (nO N))) 0 0 4 (nI (pc 10 (nO N)))) 0 0 4 = _
    rw [gI_pI_s]
  · exact gL_pL_s))
end CS2
