/-! PARTS and CUTS: both sides -/
section PC2
variable {d : Nat} {v : z_V} {N : z_N} {nu : Nat → Nat}
def bt' (L l : Nat) : Bool := L.testBit l
theorem s_comeBy {a L : Nat} (hM : MS v N nu) (ha : a < 7) (hL : L < 1024) (hLn : ∀ l, L.testBit l = true → l < nN N) : ZP (d + 2) m_X11_comeBy [vR 11 0, vI (nI a), vI (nI L)] v (nI (clo N L.testBit a)) := fun Q k => E_X11_comeBy (B_X11_comeBy_0 (by
  have hn := hM.1.1
  have hP : lin N L.testBit := fun l _ hp => by
    have := hM.1.2.2.1 l (hLn l hp)
    exact ⟨this.1, this.2.1⟩
  rw [nI_shl (by omega)]
  have key : ∀ m s, 7 - pc 7 s ≤ m → s < 128 → s.testBit a = true → (∀ t, t.testBit a = true → Cl N L.testBit t → ∀ h, s.testBit h = true → t.testBit h = true) → ∀ had, (had = s → Cl N L.testBit s) → had < 128 → ∀ (u1 u5 : Option z_AV), z_Wp (z_C (d + 1)) 1 k_X11_comeBy Q 7 [some (vR 11 0), u1, some (vI (nI L)), some (vI (nI s)), some (vI (nI had)), u5] [] v := by
    intro m
    induction m using Nat.strongRecOn with
    | ind m ihm =>
      intro s hm hs h1 h2 had h3 hhad u1 u5
      refine B_X11_comeBy_7 (pk_eq had s (fun e => ?_) (fun e => ?_))
      · rw [LC.u (⟨hs, h1, h3 e, h2⟩ : LC N L.testBit a s) (clo_LC hP ha)]
        exact k
      · refine z_up0 (P := fun l => ∀ s', s' < 128 → (∀ i, s.testBit i = true → s'.testBit i = true) → (∀ t, t.testBit a = true → Cl N L.testBit t → ∀ h, s'.testBit h = true → t.testBit h = true) → (pc 7 s < pc 7 s' ∨ (s' = s ∧ ∀ i, i < l → L.testBit i = true → s.testBit (nA N i) = s.testBit (nB N i))) → ∀ (u1 : Option z_AV), z_Wp (z_C (d + 1)) 1 k_X11_comeBy Q 19 [some (vR 11 0), u1, some (vI (nI L)), some (vI (nI s')), some (vI (nI s)), some (vI (nI l))] [] v) (nN N) ?_ ?_ s hs (fun _ h => h) h2 (Or.inr ⟨rfl, fun i hi => absurd hi (by omega)⟩) _
        · intro s' hs' g1 g2 g3 u1
          refine B_X11_comeBy_19 (pk_le (nN N) (nN N) (fun _ => ?_) (fun q => absurd q (by omega)) hM.2.1)
          rcases g3 with g3 | ⟨rfl, g3⟩
          · have hle := pc_le 7 s'
            exact ihm (7 - pc 7 s') (by omega) s' (Nat.le_refl _) hs' (g1 a h1) g2 s (fun q => by rw [q] at g3; omega) hs _ _
          · have hc : Cl N L.testBit s' := fun l _ hp => g3 l (hLn l hp) hp
            refine B_X11_comeBy_7 (pk_eq s' s' (fun _ => ?_) (fun q => absurd rfl q))
            rw [LC.u (⟨hs', h1, hc, h2⟩ : LC N L.testBit a s') (clo_LC hP ha)]
            exact k
        · intro l hl ih2 s' hs' g1 g2 g3 u1
          have hw := hM.1.2.2.1 l hl
          refine B_X11_comeBy_19 (pk_le (nN N) l (fun q => absurd q (by omega)) (fun _ => ?_) hM.2.1)
          have hstay : (L.testBit l = true → s'.testBit (nA N l) = s'.testBit (nB N l)) → (pc 7 s < pc 7 s' ∨ (s' = s ∧ ∀ i, i < l + 1 → L.testBit i = true → s.testBit (nA N i) = s.testBit (nB N i))) := by
            intro hq
            rcases g3 with g3 | ⟨g3, g4⟩
            · exact Or.inl g3
            · refine Or.inr ⟨g3, fun i hi hp => ?_⟩
              rcases Nat.lt_succ_iff_lt_or_eq.mp hi with q | q
              · exact g4 i q hp
              · subst q
                rw [← g3]
                exact hq hp
          refine cP (s_has (by omega) (by omega)) (br_z (fun e => ?_) (fun e => ?_))
          · rw [nI_1]
            exact ih2 s' hs' g1 g2 (hstay (fun q => by rw [e] at q; cases q)) _
          · have hl10 : l < 10 := by omega
            have hgo : (s'.testBit (nA N l) = true ∨ s'.testBit (nB N l) = true) → z_Wp (z_C (d + 1)) 1 k_X11_comeBy Q 19 [some (vR 11 0), none, some (vI (nI L)), some (vI (nI s' ||| (nI (2 ^ nA N l) ||| nI (2 ^ nB N l)))), some (vI (nI s)), some (vI (nI l + 1))] [] v := by
              intro hor
              rw [nI_or, nI_or, nI_1]
              have hsub : ∀ i, s'.testBit i = true → (s' ||| (2 ^ nA N l ||| 2 ^ nB N l)).testBit i = true := fun i hi => by rw [bit_or2, hi]; rfl
              refine ih2 _ (or2_lt hs' hw.1 hw.2.1) (fun i hi => hsub i (g1 i hi)) (cl_in hl10 e g2 hor) ?_ _
              by_cases hq2 : s'.testBit (nA N l) = s'.testBit (nB N l)
              · have : s' ||| (2 ^ nA N l ||| 2 ^ nB N l) = s' := by
                  apply Nat.eq_of_testBit_eq
                  intro i
                  rw [bit_or2]
                  have hA : s'.testBit (nA N l) = true := by rcases hor with h | h; exact h; rw [hq2]; exact h
                  have hB : s'.testBit (nB N l) = true := by rw [← hq2]; exact hA
                  by_cases i1 : nA N l = i
                  · subst i1
                    simp [hA]
                  · by_cases i2 : nB N l = i
                    · subst i2
                      simp [hB]
                    · simp [i1, i2]
                rw [this]
                exact hstay (fun _ => hq2)
              · refine Or.inl (Nat.lt_of_le_of_lt (pc_mono 7 (fun i _ => g1 i)) (pc_lt 7 (fun i _ => hsub i) ?_))
                cases hA : s'.testBit (nA N l)
                · exact ⟨nA N l, hw.1, hA, by rw [bit_or2]; simp⟩
                · refine ⟨nB N l, hw.2.1, ?_, by rw [bit_or2]; simp⟩
                  cases hB : s'.testBit (nB N l)
                  · rfl
                  · rw [hA, hB] at hq2
                    exact absurd rfl hq2
            refine cP (s_one hM hl) (cP (s_has (by omega) (by omega)) (br_n (fun e2 => ?_) (fun e2 => ?_)))
            · refine cP (s_one hM hl) (cP (s_other hM hl) ?_)
              rw [nI_shl (by omega), nI_shl (by omega)]
              exact hgo (Or.inl e2)
            · refine cP (s_other hM hl) (cP (s_has (by omega) (by omega)) (br_z (fun e3 => ?_) (fun e3 => ?_)))
              · rw [nI_1]
                exact ih2 s' hs' g1 g2 (hstay (fun _ => by rw [e2, e3])) _
              · refine cP (s_one hM hl) (cP (s_other hM hl) ?_)
                rw [nI_shl (by omega), nI_shl (by omega)]
                exact hgo (Or.inr e3)
  refine key 7 (2 ^ a) (by omega) (pow1_lt ha) (by simp) (fun t h1 _ h hh => ?_) 0 (fun q => ?_) (by decide) _ _
  · rw [Nat.testBit_two_pow] at hh
    rw [← of_decide_eq_true hh]
    exact h1
  · have := Nat.two_pow_pos a
    omega))
theorem s_partsBy {L : Nat} (hM : MS v N nu) (hL : L < 1024) (hLn : ∀ l, L.testBit l = true → l < nN N) : ZP (d + 3) m_X11_partsBy [vR 11 0, vI (nI L)] v (nI (prt N L.testBit)) := fun Q k => E_X11_partsBy (B_X11_partsBy_0 (by
  have hP : lin N L.testBit := fun l _ hp => by
    have := hM.1.2.2.1 l (hLn l hp)
    exact ⟨this.1, this.2.1⟩
  refine z_up0 (P := fun h => z_Wp (z_C (d + 2)) 1 k_X11_partsBy Q 8 [some (vR 11 0), some (vI (nI L)), some (vI (nI (cntL h (lowest (clo N L.testBit))))), some (vI (nI (bs 7 (fun i => !seen N L.testBit h i)))), some (vI (nI h))] [] v) 7 ?_ ?_
  · exact B_X11_partsBy_8 (pk_le 7 7 (fun _ => k) (fun q => absurd q (by decide)))
  · intro h hh ih
    refine B_X11_partsBy_8 (pk_le 7 h (fun q => absurd q (by omega)) (fun _ => ?_))
    have hb := bs_lt 7 (fun i => !seen N L.testBit h i)
    have hs := seen_low hP hh
    refine cP (s_has (by omega) (by omega)) ?_
    rw [bs_bit]
    simp only [hh, decide_true, Bool.true_and]
    refine br_n (fun e => ?_) (fun e => ?_)
    · have e2 : lowest (clo N L.testBit) h = true := by rw [hs] at e; simpa using e
      refine cP (s_comeBy hM hh hL hLn) ?_
      rw [nI_andn, nI_1, nI_1]
      have e3 : bs 7 (fun i => !seen N L.testBit h i) ^^^ (bs 7 (fun i => !seen N L.testBit h i) &&& clo N L.testBit h) = bs 7 (fun i => !seen N L.testBit (h + 1) i) := bs_eq (Nat.xor_lt_two_pow hb (Nat.and_lt_two_pow _ (bs_lt 7 _))) (fun i hi => by
        rw [andn_bit, bs_bit]
        simp only [hi, decide_true, Bool.true_and, seen, anyL, Bool.not_or])
      rw [e3]
      simp only [cntL, e2, if_true] at ih
      exact ih
    · rw [nI_1]
      have e' : seen N L.testBit h h = true := by simpa using e
      have e2 : lowest (clo N L.testBit) h = false := by rw [e'] at hs; simpa using hs.symm
      have e3 : bs 7 (fun i => !seen N L.testBit h i) = bs 7 (fun i => !seen N L.testBit (h + 1) i) := bs_cong (fun i hi => by rw [seen_s hP hh hi e'])
      rw [e3]
      simp only [cntL, e2, Bool.false_eq_true, if_false, Nat.add_zero] at ih
      exact ih))
theorem clo_cong {N : z_N} {P P' : Nat → Bool} (h : ∀ l, l < 10 → P l = P' l) : clo N P = clo N P' := by
  have : Cl N P = Cl N P' := funext fun s => propext ⟨fun q l hl hp => q l hl (by rw [h l hl]; exact hp), fun q l hl hp => q l hl (by rw [← h l hl]; exact hp)⟩
  unfold clo
  rw [this]
theorem prt_cong {N : z_N} {P P' : Nat → Bool} (h : ∀ l, l < 10 → P l = P' l) : prt N P = prt N P' := by
  unfold prt
  rw [clo_cong h]
/-- without a line: are its ends apart, then there are more parts -/
def but (P : Nat → Bool) (k : Nat) : Nat → Bool := fun l => P l && decide (l ≠ k)
theorem but_low {N : z_N} {P : Nat → Bool} {k : Nat} (hP : lin N P) (hk : k < 10) (hp : P k = true) : prt N P < prt N (but P k) ↔ (clo N (but P k) (nA N k)).testBit (nB N k) = false := by
  have hP' : lin N (but P k) := fun l hl h => hP l hl (by unfold but at h; rw [Bool.and_eq_true] at h; exact h.1)
  obtain ⟨ha, hb⟩ := hP k hk hp
  generalize hA : nA N k = a at ha ⊢
  generalize hB : nB N k = b at hb ⊢
  have hcl : ∀ s, Cl N P s → Cl N (but P k) s := fun s h l hl hp => h l hl (by unfold but at hp; rw [Bool.and_eq_true] at hp; exact hp.1)
  have hsub : ∀ h i, h < 7 → (clo N (but P k) h).testBit i = true → (clo N P h).testBit i = true := fun h i hh q => (clo_LC hP' hh).2.2.2 _ (clo_LC hP hh).2.1 (hcl _ (clo_LC hP hh).2.2.1) i q
  have hlow : ∀ h, h < 7 → lowest (clo N P) h = true → lowest (clo N (but P k)) h = true := by
    intro h hh q
    unfold lowest at q ⊢
    rw [Bool.not_eq_true'] at q ⊢
    cases e : anyL h (fun g => (clo N (but P k) h).testBit g)
    · rfl
    · obtain ⟨g, g1, g2⟩ := anyL_iff.mp e
      rw [← q]
      exact (anyL_iff.mpr ⟨g, g1, hsub h g hh g2⟩).symm
  have hclk : ∀ s, Cl N (but P k) s → s.testBit a = s.testBit b → Cl N P s := by
    intro s h e l hl hpl
    by_cases hlk : l = k
    · subst hlk
      rw [hA, hB]
      exact e
    · exact h l hl (by unfold but; rw [hpl, decide_eq_true hlk]; rfl)
  constructor
  · intro hlt
    cases e : (clo N (but P k) a).testBit b
    · rfl
    · exfalso
      have heq : ∀ h, h < 7 → clo N P h = clo N (but P k) h := by
        intro h hh
        refine LC.u (clo_LC hP hh) ⟨(clo_LC hP' hh).1, (clo_LC hP' hh).2.1, hclk _ (clo_LC hP' hh).2.2.1 ?_, fun t h1 h2 i hi => (clo_LC hP' hh).2.2.2 t h1 (hcl t h2) i hi⟩
        have hab := clo_sub hP' ha hb e
        apply Bool.eq_iff_iff.mpr
        constructor
        · intro q
          rw [clo_sub hP' hh ha q]
          exact e
        · intro q
          rw [clo_sub hP' hh hb q, ← hab]
          exact (clo_LC hP' ha).2.1
      have : prt N P = prt N (but P k) := cntL_cong 7 (fun h hh => by unfold lowest; rw [heq h hh])
      omega
  · intro e
    have hab : (clo N P a).testBit b = true := by
      have h1 := (clo_LC hP ha).2.2.1 k hk hp
      rw [hA, hB] at h1
      rw [← h1]
      exact (clo_LC hP ha).2.1
    -- the lowest of a's and of b's part
    have hmin : ∀ x, x < 7 → ∃ m, m < 7 ∧ (clo N (but P k) x).testBit m = true ∧ lowest (clo N (but P k)) m = true := by
      intro x
      induction x using Nat.strongRecOn with
      | ind x ihx =>
        intro hx
        by_cases hl : lowest (clo N (but P k)) x = true
        · exact ⟨x, hx, (clo_LC hP' hx).2.1, hl⟩
        · have hl2 : anyL x (fun g => (clo N (but P k) x).testBit g) = true := by
            unfold lowest at hl
            simpa using hl
          obtain ⟨g, g1, g2⟩ := anyL_iff.mp hl2
          obtain ⟨m, m1, m2, m3⟩ := ihx g g1 (by omega)
          exact ⟨m, m1, by rw [clo_sub hP' hx (by omega) g2]; exact m2, m3⟩
    obtain ⟨ra, a1, a2, a3⟩ := hmin a ha
    obtain ⟨rb, b1, b2, b3⟩ := hmin b hb
    have hne : ra ≠ rb := by
      rintro rfl
      have e1 := clo_sub hP' ha a1 a2
      have e2 := clo_sub hP' hb b1 b2
      rw [e1, ← e2] at e
      rw [(clo_LC hP' hb).2.1] at e
      cases e
    have hra : clo N P a = clo N P ra := clo_sub hP ha a1 (hsub a ra ha a2)
    have hrb : clo N P a = clo N P rb := (clo_sub hP ha hb hab).trans (clo_sub hP hb b1 (hsub b rb hb b2))
    have hone : ∃ i, i < 7 ∧ lowest (clo N P) i = false ∧ lowest (clo N (but P k)) i = true := by
      rcases Nat.lt_or_ge ra rb with q | q
      · refine ⟨rb, b1, ?_, b3⟩
        unfold lowest
        rw [Bool.not_eq_false']
        exact anyL_iff.mpr ⟨ra, q, by rw [← hrb, hra]; exact (clo_LC hP a1).2.1⟩
      · refine ⟨ra, a1, ?_, a3⟩
        unfold lowest
        rw [Bool.not_eq_false']
        exact anyL_iff.mpr ⟨rb, by omega, by rw [← hra, hrb]; exact (clo_LC hP b1).2.1⟩
    exact cntL_lt 7 hlow hone
/-- the lines without which there are more parts -/
noncomputable def cut (N : z_N) (l : Nat) : Bool := nP N l && !(clo N (but (nP N) l) (nA N l)).testBit (nB N l)
theorem s_cutBits (hW : nWF N) (hN : NS v N) : ZP (d + 3) m_X0_cutBits [vR 0 0] v (nI (bs 10 (cut N))) := fun Q k => E_X0_cutBits (B_X0_cutBits_0 (by
  have ho := nO_lt hW
  refine z_up0 (P := fun l => z_Wp (z_C (d + 2)) 1 k_X0_cutBits Q 4 [some (vR 0 0), some (vI (nI (bs 10 (fun i => decide (i < l) && cut N i)))), some (vI (nI l))] [] v) 10 ?_ ?_
  · refine B_X0_cutBits_4 (pk_le 10 10 (fun _ => ?_) (fun q => absurd q (by decide)))
    rw [show bs 10 (fun i => decide (i < 10) && cut N i) = bs 10 (cut N) from bs_cong (fun i hi => by simp [hi])]
    exact k
  · intro l hl ih
    refine B_X0_cutBits_4 (pk_le 10 l (fun q => absurd q (by omega)) (fun _ => ?_))
    have hno : cut N l = false → z_Wp (z_C (d + 2)) 1 k_X0_cutBits Q 4 [some (vR 0 0), some (vI (nI (bs 10 (fun i => decide (i < l) && cut N i)))), some (vI (nI l + 1))] [] v := by
      intro e
      rw [nI_1]
      rw [show bs 10 (fun i => decide (i < l) && cut N i) = bs 10 (fun i => decide (i < l + 1) && cut N i) from bs_cong (fun i hi => by
        by_cases q : i = l
        · subst q
          simp [e]
        · simp only [show (i < l + 1) = (i < l) from propext (by omega)])]
      exact ih
    refine cP (s_isOpenX (by omega) hN.1 (by omega)) (br_z (fun e => ?_) (fun e => ?_))
    · exact hno (by simp [cut, e])
    · have hw := hW.2.2.1 l (nP_lt hW e)
      have hl2 := hN.2.2.2.2.2.1 l hl e
      refine z_ii l rfl hl ?_
      rw [n_nI (by omega), hl2.1]
      refine cP (s_reached hW hN hw.1) ?_
      rw [show (fun i => nP N i && noL i (nI l)) = but (nP N) l from funext fun i => by
        unfold but noL
        cases hp : nP N i
        · rfl
        · have := nP_lt hW hp
          have := hW.1
          congr 1
          refine decide_eq_decide.mpr (not_congr ?_)
          exact nI_eq (by omega) (by omega)]
      refine z_ii l rfl hl ?_
      rw [hl2.2]
      have hb := bs_lt 7 (fun h => @decide (∀ t : Nat, t.testBit (nA N l) = true → Cl N (but (nP N) l) t → t.testBit h = true) (Classical.propDecidable _))
      have hb2 : clo N (but (nP N) l) (nA N l) < 128 := hb
      rw [nI_bitb (by omega) (by omega)]
      refine br_n (fun e2 => ?_) (fun e2 => ?_)
      · exact hno (by simp [cut, e2])
      · have hc : cut N l = true := by simp [cut, e, e2]
        rw [nI_shl (by omega), nI_or, nI_1]
        rw [show bs 10 (fun i => decide (i < l) && cut N i) ||| 2 ^ l = bs 10 (fun i => decide (i < l + 1) && cut N i) from bs_eq (Nat.or_lt_two_pow (bs_lt 10 _) (Nat.pow_lt_pow_right (by decide) hl)) (fun i hi => by
          rw [Nat.testBit_or, bs_bit, Nat.testBit_two_pow]
          by_cases q : i = l
          · subst q
            simp [hc]
          · simp only [show (i < l + 1) = (i < l) from propext (by omega), hi, decide_true, Bool.true_and, decide_eq_false (Ne.symm q), Bool.or_false])]
        exact ih))
theorem s_cutsR (hM : MS v N nu) : ZP (d + 4) m_X11_cuts [vR 11 0] v (nI (bs 10 (cut N))) := fun Q k => E_X11_cuts (B_X11_cuts_0 (by
  have ho := nO_lt hM.1
  have hn := hM.1.1
  have hP : lin N (nP N) := fun l _ hp => by
    have := hM.1.2.2.1 l (nP_lt hM.1 hp)
    exact ⟨this.1, this.2.1⟩
  refine z_up0 (P := fun l => z_Wp (z_C (d + 3)) 1 k_X11_cuts Q 4 [some (vR 11 0), some (vI (nI (bs 10 (fun i => decide (i < l) && cut N i)))), some (vI (nI l))] [] v) (nN N) ?_ ?_
  · refine B_X11_cuts_4 (pk_le (nN N) (nN N) (fun _ => ?_) (fun q => absurd q (by omega)) hM.2.1)
    rw [show bs 10 (fun i => decide (i < nN N) && cut N i) = bs 10 (cut N) from bs_cong (fun i hi => by
      cases hp : nP N i
      · simp [cut, hp]
      · simp [nP_lt hM.1 hp])]
    exact k
  · intro l hl ih
    refine B_X11_cuts_4 (pk_le (nN N) l (fun q => absurd q (by omega)) (fun _ => ?_) hM.2.1)
    have hno : cut N l = false → z_Wp (z_C (d + 3)) 1 k_X11_cuts Q 4 [some (vR 11 0), some (vI (nI (bs 10 (fun i => decide (i < l) && cut N i)))), some (vI (nI l + 1))] [] v := by
      intro e
      rw [nI_1]
      rw [show bs 10 (fun i => decide (i < l) && cut N i) = bs 10 (fun i => decide (i < l + 1) && cut N i) from bs_cong (fun i hi => by
        by_cases q : i = l
        · subst q
          simp [e]
        · simp only [show (i < l + 1) = (i < l) from propext (by omega)])]
      exact ih
    refine cP (s_isOpen hM (by omega)) (br_z (fun e => ?_) (fun e => ?_))
    · exact hno (by simp [cut, e])
    · rw [hM.2.2.1, nI_shl (by omega), nI_andn]
      have hlt : nO N ^^^ (nO N &&& 2 ^ l) < 1024 := Nat.xor_lt_two_pow (n := 10) ho (Nat.and_lt_two_pow _ (Nat.pow_lt_pow_right (by decide) (by omega)))
      have hbit : ∀ i, (nO N ^^^ (nO N &&& 2 ^ l)).testBit i = but (nP N) l i := fun i => by
        rw [andn_bit, Nat.testBit_two_pow]
        unfold but nP
        by_cases q : i = l
        · simp [q]
        · simp [q, Ne.symm q]
      refine cP (s_partsBy hM hlt (fun i hi => by
        rw [hbit, but, Bool.and_eq_true] at hi
        exact nP_lt hM.1 hi.1)) ?_
      rw [hM.2.2.1]
      refine cP (s_partsBy hM ho (fun i hi => nP_lt hM.1 hi)) ?_
      rw [show prt N (nO N ^^^ (nO N &&& 2 ^ l)).testBit = prt N (but (nP N) l) from prt_cong (fun i _ => hbit i), show prt N (nO N).testBit = prt N (nP N) from rfl]
      have c1 := cntL_le 7 (lowest (clo N (but (nP N) l)))
      have c2 := cntL_le 7 (lowest (clo N (nP N)))
      have c1 : prt N (but (nP N) l) ≤ 7 := c1
      have c2 : prt N (nP N) ≤ 7 := c2
      have hbl := but_low (N := N) (P := nP N) (k := l) hP (by omega) e
      refine pk_le (prt N (but (nP N) l)) (prt N (nP N)) (fun q => ?_) (fun q => ?_)
      · refine hno ?_
        have : ¬ (clo N (but (nP N) l) (nA N l)).testBit (nB N l) = false := fun z => by
          have := hbl.mpr z
          omega
        simp only [cut, e, Bool.true_and]
        simpa using this
      · have hc : cut N l = true := by simp [cut, e, hbl.mp q]
        rw [nI_or, nI_1]
        rw [show bs 10 (fun i => decide (i < l) && cut N i) ||| 2 ^ l = bs 10 (fun i => decide (i < l + 1) && cut N i) from bs_eq (Nat.or_lt_two_pow (bs_lt 10 _) (Nat.pow_lt_pow_right (by decide) (by omega))) (fun i hi => by
          rw [Nat.testBit_or, bs_bit, Nat.testBit_two_pow]
          by_cases q : i = l
          · subst q
            simp [hc]
          · simp only [show (i < l + 1) = (i < l) from propext (by omega), hi, decide_true, Bool.true_and, decide_eq_false (Ne.symm q), Bool.or_false])]
        exact ih))
theorem s_partsR (hM : MS v N nu) : ZP (d + 4) m_X11_parts [vR 11 0] v (nI (prt N (nP N))) := fun Q k => E_X11_parts (B_X11_parts_0 (by
  rw [hM.2.2.1]
  exact cP (s_partsBy hM (nO_lt hM.1) (fun i hi => nP_lt hM.1 hi)) k))
/-- the class's two -/
theorem s_partsC (hC : CW v 0 N nu) : ZI (d + 4) m_X10_parts [vR 10 0] v (fun u r => r = nI (prt N (nP N)) ∧ NS u N ∧ Fr sNet v u) := fun Q k => E_X10_parts (B_X10_parts_0 (by
  refine cV (s_look hC) (fun u hu => ?_)
  exact cP (s_countParts hC.1 hu.1) (k _ _ ⟨rfl, hu⟩)))
theorem s_cutsC (hC : CW v 0 N nu) : ZI (d + 4) m_X10_cuts [vR 10 0] v (fun u r => r = nI (bs 10 (cut N)) ∧ NS u N ∧ Fr sNet v u) := fun Q k => E_X10_cuts (B_X10_cuts_0 (by
  refine cV (s_look hC) (fun u hu => ?_)
  exact cP (s_cutBits hC.1 hu.1) (k _ _ ⟨rfl, hu⟩)))
end PC2
