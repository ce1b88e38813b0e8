/-! PARTS and CUTS: least closed sets -/
theorem nI_andn (s t : Nat) : nI s &&& (nI t ^^^ (-1)) = nI (s ^^^ (s &&& t)) := by
  apply Int32.toBitVec_inj.1
  show BitVec.ofNat 32 s &&& (BitVec.ofNat 32 t ^^^ (-1 : Int32).toBitVec) = BitVec.ofNat 32 (s ^^^ (s &&& t))
  rw [show (-1 : Int32).toBitVec = BitVec.allOnes 32 from by decide]
  apply BitVec.eq_of_getLsbD_eq
  intro i hi
  rw [BitVec.getLsbD_and, BitVec.getLsbD_xor, BitVec.getLsbD_allOnes, BitVec.getLsbD_ofNat, BitVec.getLsbD_ofNat, BitVec.getLsbD_ofNat, Nat.testBit_xor, Nat.testBit_and]
  simp only [hi, decide_true, Bool.true_and]
  cases s.testBit i <;> cases t.testBit i <;> rfl
theorem andn_bit (s t i : Nat) : (s ^^^ (s &&& t)).testBit i = (s.testBit i && !t.testBit i) := by
  rw [Nat.testBit_xor, Nat.testBit_and]
  cases s.testBit i <;> cases t.testBit i <;> rfl
theorem pc_mono : ∀ (n : Nat) {s t : Nat}, (∀ i, i < n → s.testBit i = true → t.testBit i = true) → pc n s ≤ pc n t
  | 0, _, _, _ => Nat.le_refl _
  | n + 1, s, t, h => by
    have ih := pc_mono n (fun i hi => h i (by omega))
    simp only [pc]
    cases hs : s.testBit n
    · simp only [Bool.false_eq_true, if_false]
      omega
    · rw [h n (by omega) hs]
      omega
theorem pc_lt : ∀ (n : Nat) {s t : Nat}, (∀ i, i < n → s.testBit i = true → t.testBit i = true) → (∃ i, i < n ∧ s.testBit i = false ∧ t.testBit i = true) → pc n s < pc n t
  | 0, _, _, _, h => by
    obtain ⟨i, h1, _⟩ := h
    omega
  | n + 1, s, t, h, ⟨i, h1, h2, h3⟩ => by
    simp only [pc]
    by_cases hi : i = n
    · subst hi
      have := pc_mono i (fun j hj => h j (by omega))
      rw [h2, h3]
      simp only [Bool.false_eq_true, if_false, if_true]
      omega
    · have ih := pc_lt n (fun j hj => h j (by omega)) ⟨i, by omega, h2, h3⟩
      cases hs : s.testBit n
      · simp only [Bool.false_eq_true, if_false]
        omega
      · rw [h n (by omega) hs]
        omega
theorem pc_full : ∀ (n : Nat) {s : Nat}, pc n s = n → ∀ i, i < n → s.testBit i = true
  | 0, _, _, i, hi => by omega
  | n + 1, s, h, i, hi => by
    have := pc_le n s
    simp only [pc] at h
    cases hs : s.testBit n
    · rw [hs] at h
      simp only [Bool.false_eq_true, if_false] at h
      omega
    · rw [hs] at h
      simp only [if_true] at h
      by_cases hin : i = n
      · rw [hin]; exact hs
      · exact pc_full n (by omega) i (by omega)
/-- no line of these leads out of the set -/
def Cl (N : z_N) (P : Nat → Bool) (s : Nat) : Prop := ∀ l, l < 10 → P l = true → s.testBit (nA N l) = s.testBit (nB N l)
def LC (N : z_N) (P : Nat → Bool) (a s : Nat) : Prop := s < 128 ∧ s.testBit a = true ∧ Cl N P s ∧ ∀ t, t.testBit a = true → Cl N P t → ∀ h, s.testBit h = true → t.testBit h = true
theorem LC.u {N : z_N} {P : Nat → Bool} {a s t : Nat} (h1 : LC N P a s) (h2 : LC N P a t) : s = t := by
  apply Nat.eq_of_testBit_eq
  intro i
  apply Bool.eq_iff_iff.mpr
  exact ⟨h1.2.2.2 t h2.2.1 h2.2.2.1 i, h2.2.2.2 s h1.2.1 h1.2.2.1 i⟩
noncomputable def clo (N : z_N) (P : Nat → Bool) (a : Nat) : Nat := bs 7 (fun h => @decide (∀ t : Nat, t.testBit a = true → Cl N P t → t.testBit h = true) (Classical.propDecidable _))
theorem clo_bit {N : z_N} {P : Nat → Bool} {a h : Nat} (hh : h < 7) : (clo N P a).testBit h = true ↔ ∀ t : Nat, t.testBit a = true → Cl N P t → t.testBit h = true := by
  unfold clo
  rw [bs_bit]
  simp [hh]
def lin (N : z_N) (P : Nat → Bool) : Prop := ∀ l, l < 10 → P l = true → nA N l < 7 ∧ nB N l < 7
theorem clo_LC {N : z_N} {P : Nat → Bool} {a : Nat} (hP : lin N P) (ha : a < 7) : LC N P a (clo N P a) := by
  refine ⟨bs_lt 7 _, (clo_bit ha).mpr (fun t h _ => h), fun l hl hp => ?_, fun t h1 h2 h hs => ?_⟩
  · obtain ⟨h1, h2⟩ := hP l hl hp
    apply Bool.eq_iff_iff.mpr
    rw [clo_bit h1, clo_bit h2]
    exact ⟨fun q t g1 g2 => by rw [← g2 l hl hp]; exact q t g1 g2, fun q t g1 g2 => by rw [g2 l hl hp]; exact q t g1 g2⟩
  · by_cases hh : h < 7
    · exact (clo_bit hh).mp hs t h1 h2
    · have := bs_lt 7 (fun h => @decide (∀ t : Nat, t.testBit a = true → Cl N P t → t.testBit h = true) (Classical.propDecidable _))
      rw [show (clo N P a).testBit h = false from Nat.testBit_lt_two_pow (Nat.lt_of_lt_of_le this (Nat.pow_le_pow_right (by decide) (by omega)))] at hs
      cases hs
theorem clo_sub {N : z_N} {P : Nat → Bool} {a b : Nat} (hP : lin N P) (ha : a < 7) (hb : b < 7) (h : (clo N P a).testBit b = true) : clo N P a = clo N P b := by
  have ca := clo_LC hP ha
  have cb := clo_LC hP hb
  have h1 : ∀ i, (clo N P b).testBit i = true → (clo N P a).testBit i = true := cb.2.2.2 _ h ca.2.2.1
  have h2 : (clo N P b).testBit a = true := by
    cases e : (clo N P b).testBit a
    · exfalso
      have := ca.2.2.2 (clo N P a ^^^ (clo N P a &&& clo N P b)) (by rw [andn_bit, ca.2.1, e]; rfl) (fun l hl hp => by rw [andn_bit, andn_bit, ca.2.2.1 l hl hp, cb.2.2.1 l hl hp]) b h
      rw [andn_bit, h, cb.2.1] at this
      cases this
    · rfl
  apply Nat.eq_of_testBit_eq
  intro i
  apply Bool.eq_iff_iff.mpr
  exact ⟨ca.2.2.2 _ h2 cb.2.2.1 i, h1 i⟩
/-- how many parts: those that are the lowest of theirs -/
def lowest (f : Nat → Nat) (h : Nat) : Bool := !(anyL h (fun g => (f h).testBit g))
def cntL (n : Nat) (f : Nat → Bool) : Nat := match n with
  | 0 => 0
  | n + 1 => cntL n f + (if f n = true then 1 else 0)
theorem cntL_le : ∀ (n : Nat) (f : Nat → Bool), cntL n f ≤ n
  | 0, _ => Nat.le_refl _
  | n + 1, f => by
    have := cntL_le n f
    simp only [cntL]
    split <;> omega
theorem cntL_mono : ∀ (n : Nat) {f g : Nat → Bool}, (∀ i, i < n → f i = true → g i = true) → cntL n f ≤ cntL n g
  | 0, _, _, _ => Nat.le_refl _
  | n + 1, f, g, h => by
    have ih := cntL_mono n (fun i hi => h i (by omega))
    simp only [cntL]
    cases hs : f n
    · simp only [Bool.false_eq_true, if_false]
      omega
    · rw [h n (by omega) hs]
      omega
theorem cntL_lt : ∀ (n : Nat) {f g : Nat → Bool}, (∀ i, i < n → f i = true → g i = true) → (∃ i, i < n ∧ f i = false ∧ g i = true) → cntL n f < cntL n g
  | 0, _, _, _, h => by
    obtain ⟨i, h1, _⟩ := h
    omega
  | n + 1, f, g, h, ⟨i, h1, h2, h3⟩ => by
    simp only [cntL]
    by_cases hi : i = n
    · subst hi
      have := cntL_mono i (fun j hj => h j (by omega))
      rw [h2, h3]
      simp only [Bool.false_eq_true, if_false, if_true]
      omega
    · have ih := cntL_lt n (fun j hj => h j (by omega)) ⟨i, by omega, h2, h3⟩
      cases hs : f n
      · simp only [Bool.false_eq_true, if_false]
        omega
      · rw [h n (by omega) hs]
        omega
theorem cntL_cong : ∀ (n : Nat) {f g : Nat → Bool}, (∀ i, i < n → f i = g i) → cntL n f = cntL n g
  | 0, _, _, _ => rfl
  | n + 1, f, g, h => by
    simp only [cntL, h n (by omega), cntL_cong n (fun i hi => h i (by omega))]
noncomputable def prt (N : z_N) (P : Nat → Bool) : Nat := cntL 7 (lowest (clo N P))
/-- the halts seen before h -/
noncomputable def seen (N : z_N) (P : Nat → Bool) (h : Nat) (i : Nat) : Bool := anyL h (fun g => (clo N P g).testBit i)
theorem seen_low {N : z_N} {P : Nat → Bool} {h : Nat} (hP : lin N P) (hh : h < 7) : seen N P h h = !lowest (clo N P) h := by
  unfold seen lowest
  rw [Bool.not_not]
  apply Bool.eq_iff_iff.mpr
  rw [anyL_iff, anyL_iff]
  constructor
  · rintro ⟨g, h1, h2⟩
    refine ⟨g, h1, ?_⟩
    rw [← clo_sub hP (by omega) hh h2]
    exact (clo_LC hP (by omega)).2.1
  · rintro ⟨g, h1, h2⟩
    refine ⟨g, h1, ?_⟩
    rw [← clo_sub hP hh (by omega) h2]
    exact (clo_LC hP hh).2.1
theorem seen_s {N : z_N} {P : Nat → Bool} {h i : Nat} (hP : lin N P) (hh : h < 7) (hi : i < 7) (e : seen N P h h = true) : seen N P (h + 1) i = seen N P h i := by
  unfold seen at e ⊢
  simp only [anyL]
  cases hc : (clo N P h).testBit i
  · rw [Bool.or_false]
  · rw [Bool.or_true]
    obtain ⟨g, h1, h2⟩ := anyL_iff.mp e
    refine (anyL_iff.mpr ⟨g, h1, ?_⟩).symm
    rw [clo_sub hP (by omega) hh h2]
    exact hc
theorem bit_or2 {s a b : Nat} (i : Nat) : (s ||| (2 ^ a ||| 2 ^ b)).testBit i = (s.testBit i || (decide (a = i) || decide (b = i))) := by
  rw [Nat.testBit_or, Nat.testBit_or, Nat.testBit_two_pow, Nat.testBit_two_pow]
theorem or2_lt {s a b : Nat} (h : s < 128) (ha : a < 7) (hb : b < 7) : s ||| (2 ^ a ||| 2 ^ b) < 128 := Nat.or_lt_two_pow (n := 7) h (Nat.or_lt_two_pow (n := 7) (Nat.pow_lt_pow_right (by decide) ha) (Nat.pow_lt_pow_right (by decide) hb))
/-- taking a line's two ends to a set that has one of them keeps it within every closed set -/
theorem cl_in {N : z_N} {P : Nat → Bool} {a s l : Nat} (hl : l < 10) (hp : P l = true) (hs : ∀ t, t.testBit a = true → Cl N P t → ∀ h, s.testBit h = true → t.testBit h = true) (hq : s.testBit (nA N l) = true ∨ s.testBit (nB N l) = true) : ∀ t, t.testBit a = true → Cl N P t → ∀ h, (s ||| (2 ^ nA N l ||| 2 ^ nB N l)).testBit h = true → t.testBit h = true := by
  intro t h1 h2 h hh
  rw [bit_or2] at hh
  have h3 : t.testBit (nA N l) = true ∧ t.testBit (nB N l) = true := by
    have e := h2 l hl hp
    rcases hq with hq | hq
    · have := hs t h1 h2 _ hq
      exact ⟨this, by rw [← e]; exact this⟩
    · have := hs t h1 h2 _ hq
      exact ⟨by rw [e]; exact this, this⟩
  simp only [Bool.or_eq_true, decide_eq_true_eq] at hh
  rcases hh with hh | rfl | rfl
  · exact hs t h1 h2 h hh
  · exact h3.1
  · exact h3.2
section PCS
variable {d : Nat} {v : z_V} {N : z_N} {nu : Nat → Nat}
def noL (l : Nat) (x : Int32) : Bool := decide (nI l ≠ x)
theorem pow1_lt {a : Nat} (ha : a < 7) : 2 ^ a < 128 := Nat.pow_lt_pow_right (a := 2) (by decide) (show a < 7 from ha)
theorem s_reached {a : Nat} {x : Int32} (hW : nWF N) (hN : NS v N) (ha : a < 7) : ZP (d + 2) m_X0_reached [vR 0 0, vI (nI a), vI x] v (nI (clo N (fun l => nP N l && noL l x) a)) := fun Q k => E_X0_reached (B_X0_reached_0 (by
  have ho := nO_lt hW
  generalize hPe : (fun l => nP N l && noL l x) = P
  have hPl : ∀ l, P l = (nP N l && noL l x) := fun l => by rw [← hPe]
  have hP : lin N P := fun l _ hp => by
    rw [hPl, Bool.and_eq_true] at hp
    have := hW.2.2.1 l (nP_lt hW hp.1)
    exact ⟨this.1, this.2.1⟩
  rw [hPe] at k
  rw [nI_shl (by omega)]
  -- the rounds
  refine z_up (P := fun r => ∀ s, s < 128 → s.testBit a = true → (∀ t, t.testBit a = true → Cl N P t → ∀ h, s.testBit h = true → t.testBit h = true) → (r ≤ pc 7 s ∨ Cl N P s) → ∀ (u1 u5 : Option z_AV), z_Wp (z_C (d + 1)) 1 k_X0_reached Q 7 [some (vR 0 0), u1, some (vI x), some (vI (nI s)), some (vI (nI r)), u5] [] v) 7 ?_ ?_ 1 (by decide) (2 ^ a) (pow1_lt ha) (by simp) ?_ (Or.inl ?_) _ _
  · intro s hs h1 h2 h3 u1 u5
    refine B_X0_reached_7 (pk_le 7 7 (fun _ => ?_) (fun q => absurd q (by decide)))
    have hc : Cl N P s := by
      rcases h3 with h3 | h3
      · have hf := pc_full 7 (s := s) (Nat.le_antisymm (pc_le 7 s) h3)
        intro l hl hp
        obtain ⟨q1, q2⟩ := hP l hl hp
        rw [hf _ q1, hf _ q2]
      · exact h3
    rw [LC.u (⟨hs, h1, hc, h2⟩ : LC N P a s) (clo_LC hP ha)]
    exact k
  · intro r hr ih s hs h1 h2 h3 u1 u5
    refine B_X0_reached_7 (pk_le 7 r (fun q => absurd q (by omega)) (fun _ => ?_))
    refine z_up0 (P := fun l => ∀ s', s' < 128 → (∀ i, s.testBit i = true → s'.testBit i = true) → (∀ t, t.testBit a = true → Cl N P t → ∀ h, s'.testBit h = true → t.testBit h = true) → ((pc 7 s < pc 7 s' ∧ ¬ Cl N P s) ∨ (s' = s ∧ ∀ i, i < l → P i = true → s.testBit (nA N i) = s.testBit (nB N i))) → ∀ (u1 : Option z_AV), z_Wp (z_C (d + 1)) 1 k_X0_reached Q 17 [some (vR 0 0), u1, some (vI x), some (vI (nI s')), some (vI (nI r)), some (vI (nI l))] [] v) 10 ?_ ?_ s hs (fun _ h => h) h2 (Or.inr ⟨rfl, fun i hi => absurd hi (by omega)⟩) _
    · intro s' hs' g1 g2 g3 u1
      refine B_X0_reached_17 (pk_le 10 10 (fun _ => ?_) (fun q => absurd q (by decide)))
      rw [nI_1]
      refine ih s' hs' (g1 a h1) g2 ?_ _ _
      rcases g3 with ⟨g3, g4⟩ | ⟨rfl, g3⟩
      · rcases h3 with h3 | h3
        · exact Or.inl (by omega)
        · exact absurd h3 g4
      · exact Or.inr g3
    · intro l hl ih2 s' hs' g1 g2 g3 u1
      refine B_X0_reached_17 (pk_le 10 l (fun q => absurd q (by omega)) (fun _ => ?_))
      have zl : ∀ {T : Prop}, T → z_if (z_in (nI l) 10) T := fun t => z_ii l rfl hl t
      refine cP (s_isOpenX (by omega) hN.1 (by omega)) (br_z (fun e => ?_) (fun e => ?_))
      · rw [nI_1]
        refine ih2 s' hs' g1 g2 ?_ _
        rcases g3 with g3 | ⟨g3, g4⟩
        · exact Or.inl g3
        · refine Or.inr ⟨g3, fun i hi hp => ?_⟩
          rcases Nat.lt_succ_iff_lt_or_eq.mp hi with q | q
          · exact g4 i q hp
          · subst q
            rw [hPl, e] at hp
            cases hp
      · have hlt := nP_lt hW e
        have hw := hW.2.2.1 l hlt
        have hl2 := hN.2.2.2.2.2.1 l hl e
        refine ⟨fun hx => ?_, fun hx => ?_⟩
        · rw [nI_1]
          refine ih2 s' hs' g1 g2 ?_ _
          rcases g3 with g3 | ⟨g3, g4⟩
          · exact Or.inl g3
          · refine Or.inr ⟨g3, fun i hi hp => ?_⟩
            rcases Nat.lt_succ_iff_lt_or_eq.mp hi with q | q
            · exact g4 i q hp
            · subst q
              rw [hPl, noL, hx] at hp
              simp at hp
        · have hp : P l = true := by rw [hPl, e, noL, decide_eq_true hx]; rfl
          refine zl (zl ?_)
          rw [n_nI (by omega), hl2.1, hl2.2, nI_bitb (by omega) (by omega), nI_bitb (by omega) (by omega)]
          refine ⟨fun hq => ?_, fun hq => ?_⟩
          · have hq2 : s'.testBit (nA N l) = s'.testBit (nB N l) := by
              revert hq
              cases s'.testBit (nA N l) <;> cases s'.testBit (nB N l) <;> decide
            rw [nI_1]
            refine ih2 s' hs' g1 g2 ?_ _
            rcases g3 with g3 | ⟨g3, g4⟩
            · exact Or.inl g3
            · refine Or.inr ⟨g3, fun i hi hpi => ?_⟩
              rcases Nat.lt_succ_iff_lt_or_eq.mp hi with q | q
              · exact g4 i q hpi
              · subst q
                rw [← g3]
                exact hq2
          · have hq2 : s'.testBit (nA N l) ≠ s'.testBit (nB N l) := fun q => hq (by rw [q])
            refine zl (zl ?_)
            rw [nI_shl (by omega), nI_shl (by omega), nI_or, nI_or, nI_1]
            have hor : s'.testBit (nA N l) = true ∨ s'.testBit (nB N l) = true := by
              revert hq2
              cases s'.testBit (nA N l) <;> cases s'.testBit (nB N l) <;> simp
            have hsub : ∀ i, s'.testBit i = true → (s' ||| (2 ^ nA N l ||| 2 ^ nB N l)).testBit i = true := fun i hi => by rw [bit_or2, hi]; rfl
            have hgrow : pc 7 s' < pc 7 (s' ||| (2 ^ nA N l ||| 2 ^ nB N l)) := by
              refine pc_lt 7 (fun i _ => hsub i) ?_
              cases hA : s'.testBit (nA N l)
              · exact ⟨nA N l, hw.1, hA, by rw [bit_or2]; simp⟩
              · refine ⟨nB N l, hw.2.1, ?_, by rw [bit_or2]; simp⟩
                cases hB : s'.testBit (nB N l)
                · rfl
                · rw [hA, hB] at hq2
                  exact absurd rfl hq2
            refine ih2 _ (or2_lt hs' hw.1 hw.2.1) (fun i hi => hsub i (g1 i hi)) (cl_in hl hp g2 hor) (Or.inl ?_) _
            have hps := pc_mono 7 (fun i _ => g1 i)
            refine ⟨by omega, ?_⟩
            rcases g3 with g3 | ⟨g3, g4⟩
            · exact g3.2
            · intro hcl
              rw [g3] at hq2
              exact hq2 (hcl l hl hp)
  · intro t h1 _ h hh
    rw [Nat.testBit_two_pow] at hh
    rw [← of_decide_eq_true hh]
    exact h1
  · have : ∀ a, a < 7 → 1 ≤ pc 7 (2 ^ a) := by decide +kernel
    exact this a ha))
theorem s_countParts (hW : nWF N) (hN : NS v N) : ZP (d + 3) m_X0_countParts [vR 0 0] v (nI (prt N (nP N))) := fun Q k => E_X0_countParts (B_X0_countParts_0 (by
  have hP : lin N (nP N) := fun l _ hp => by
    have := hW.2.2.1 l (nP_lt hW hp)
    exact ⟨this.1, this.2.1⟩
  have hno : ∀ l, (nP N l && noL l (-1)) = nP N l := fun l => by
    by_cases hl : l < 10
    · have : ∀ l, l < 10 → noL l (-1) = true := by decide +kernel
      rw [this l hl, Bool.and_true]
    · cases hp : nP N l
      · rfl
      · exact absurd (nP_lt hW hp) (by have := hW.1; omega)
  refine z_up0 (P := fun h => z_Wp (z_C (d + 2)) 1 k_X0_countParts Q 6 [some (vR 0 0), some (vI (nI (bs 7 (seen N (nP N) h)))), some (vI (nI (cntL h (lowest (clo N (nP N)))))), some (vI (nI h))] [] v) 7 ?_ ?_
  · exact B_X0_countParts_6 (pk_le 7 7 (fun _ => k) (fun q => absurd q (by decide)))
  · intro h hh ih
    refine B_X0_countParts_6 (pk_le 7 h (fun q => absurd q (by omega)) (fun _ => ?_))
    have hb := bs_lt 7 (seen N (nP N) h)
    have hs := seen_low hP hh
    rw [nI_bitb (by omega) (by omega), bs_bit]
    simp only [hh, decide_true, Bool.true_and]
    refine br_n (fun e => ?_) (fun e => ?_)
    · rw [nI_1]
      have e2 : lowest (clo N (nP N)) h = false := by rw [e] at hs; simpa using hs.symm
      have e3 : bs 7 (seen N (nP N) h) = bs 7 (seen N (nP N) (h + 1)) := bs_cong (fun i hi => (seen_s hP hh hi e).symm)
      rw [e3]
      simp only [cntL, e2, Bool.false_eq_true, if_false, Nat.add_zero] at ih
      exact ih
    · have e2 : lowest (clo N (nP N)) h = true := by rw [e] at hs; simpa using hs.symm
      refine cP (s_reached hW hN hh) ?_
      rw [show (fun l => nP N l && noL l (-1)) = nP N from funext hno, nI_or, nI_1, nI_1]
      have e3 : bs 7 (seen N (nP N) h) ||| clo N (nP N) h = bs 7 (seen N (nP N) (h + 1)) := bs_eq (Nat.or_lt_two_pow hb (bs_lt 7 _)) (fun i hi => by
        rw [Nat.testBit_or, bs_bit]
        simp only [hi, decide_true, Bool.true_and]
        rfl)
      rw [e3]
      simp only [cntL, e2, if_true] at ih
      exact ih))
end PCS
