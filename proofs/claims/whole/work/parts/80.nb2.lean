/-! rows of numbers, halt by halt -/
def ptN (N : z_N) (uq : Bool) (S : Nat → Bool) (L : Nat → Nat) : Prop := (uq = true → ∀ g h, g < 7 → h < 7 → g ≠ h → S g = true → S h = true → L g ≠ L h) ∧ (∀ l, nP N l = true → S (nA N l) = true → S (nB N l) = true → L (nA N l) ≠ L (nB N l)) ∧ ∀ l l', l ≠ l' → nP N l = true → nP N l' = true → S (nA N l) = true → S (nB N l) = true → S (nA N l') = true → S (nB N l') = true → fL N L l ≠ fL N L l'
def faN (N : z_N) (S : Nat → Bool) (L : Nat → Nat) (F : Nat → Bool) : Prop := ∀ x, F x = true ↔ x = 0 ∨ ∃ l, nP N l = true ∧ S (nA N l) = true ∧ S (nB N l) = true ∧ fL N L l = x
def gaN (S : Nat → Bool) (L : Nat → Nat) (G : Nat → Bool) : Prop := ∀ x, G x = true ↔ ∃ h, h < 7 ∧ S h = true ∧ L h = x
theorem addF_s {S : Nat → Bool} {h : Nat} : addF S h h = true := by simp [addF]
theorem addF_n {S : Nat → Bool} {h g : Nat} (z : g ≠ h) : addF S h g = S g := by simp [addF, z]
theorem dst0 {a b : Nat} : dst a b = 0 ↔ a = b := by
  unfold dst
  split <;> omega
section NB2
variable {N : z_N} {uq : Bool} {S F G : Nat → Bool} {L : Nat → Nat} {h x : Nat}
/-- a line with an end at a halt -/
theorem ln_at {l : Nat} (hW : nWF N) (hl : nP N l = true) (he : nA N l = h ∨ nB N l = h) : ∃ a, a < 7 ∧ a ≠ h ∧ nAdj N h a = true ∧ nEd N l h a = true ∧ (∀ L : Nat → Nat, fL N (sU L h x) l = dst x (L a)) ∧ (∀ T : Nat → Bool, (T (nA N l) = true ∧ T (nB N l) = true) ↔ T h = true ∧ T a = true) := by
  have hlt := nP_lt hW hl
  have hw := hW.2.2.1 l hlt
  rcases he with e | e
  · subst e
    have hed : nEd N l (nA N l) (nB N l) = true := nEd_mk.mpr (Or.inl ⟨rfl, rfl⟩)
    refine ⟨nB N l, hw.2.1, fun z => hw.2.2 z.symm, nAdj_iff.mpr ⟨l, hlt, hl, hed⟩, hed, fun L => ?_, fun T => Iff.rfl⟩
    unfold fL
    rw [sU_s, sU_n (fun z => hw.2.2 z.symm)]
  · subst e
    have hed : nEd N l (nB N l) (nA N l) = true := nEd_mk.mpr (Or.inr ⟨rfl, rfl⟩)
    refine ⟨nA N l, hw.1, hw.2.2, nAdj_iff.mpr ⟨l, hlt, hl, hed⟩, hed, fun L => ?_, fun T => And.comm⟩
    unfold fL
    rw [sU_s, sU_n hw.2.2, dst_comm]
theorem ln_un {l l' : Nat} {a b : Nat} (hW : nWF N) (h1 : nP N l = true) (h2 : nP N l' = true) (e1 : nEd N l a b = true) (e2 : nEd N l' a b = true) : l = l' := by
  rcases Nat.lt_trichotomy l l' with z | z | z
  · refine absurd ?_ (hW.2.2.2 l l' z (nP_lt hW h2))
    rcases nEd_mk.mp e1 with y | y <;> rcases nEd_mk.mp e2 with w | w <;> refine nEd_mk.mpr ?_ <;> omega
  · exact z
  · refine absurd ?_ (hW.2.2.2 l' l z (nP_lt hW h1))
    rcases nEd_mk.mp e1 with y | y <;> rcases nEd_mk.mp e2 with w | w <;> refine nEd_mk.mpr ?_ <;> omega
theorem nEd_of {l a : Nat} (hW : nWF N) (hl : nP N l = true) (he : nEd N l h a = true) (ha : a ≠ h) : (nA N l = h ∨ nB N l = h) ∧ (∀ L : Nat → Nat, fL N (sU L h x) l = dst x (L a)) ∧ ∀ T : Nat → Bool, (T (nA N l) = true ∧ T (nB N l) = true) ↔ T h = true ∧ T a = true := by
  rcases nEd_mk.mp he with ⟨y1, y2⟩ | ⟨y1, y2⟩
  · subst y1 y2
    refine ⟨Or.inl rfl, fun L => ?_, fun T => Iff.rfl⟩
    unfold fL
    rw [sU_s, sU_n ha]
  · subst y1 y2
    refine ⟨Or.inr rfl, fun L => ?_, fun T => And.comm⟩
    unfold fL
    rw [sU_s, sU_n ha, dst_comm]
theorem fL_old {l : Nat} (h1 : nA N l ≠ h) (h2 : nB N l ≠ h) : fL N (sU L h x) l = fL N L l := by
  unfold fL
  rw [sU_n h1, sU_n h2]
theorem fitN_iff (hW : nWF N) (hh : h < 7) (hS : S h = false) (hp : ptN N uq S L) (hf : faN N S L F) (hg : uq = true → gaN S L G) : fitN N F G uq S L h 7 x = true ↔ ptN N uq (addF S h) (sU L h x) := by
  have hSn : ∀ {g}, S g = true → g ≠ h := fun z e => by
    rw [e, hS] at z
    cases z
  unfold fitN
  rw [Bool.and_eq_true, allL_iff]
  constructor
  · rintro ⟨z1, z2⟩
    have za : ∀ a, a < 7 → nAdj N h a = true → S a = true → F (dst x (L a)) = false ∧ ∀ b, b < 7 → a < b → nAdj N h b = true → S b = true → dst x (L a) ≠ dst x (L b) := by
      intro a ha h1 h2
      have := z2 a ha
      rw [Bool.and_eq_true, allL_iff] at this
      refine ⟨?_, fun b hb hab h3 h4 => ?_⟩
      · have t := this.1
        unfold fitA at t
        rw [h1, h2] at t
        simpa using t
      · have t := this.2 b hb
        unfold fitB at t
        rw [h1, h2, h3, h4, decide_eq_true hab] at t
        simpa using t
    refine ⟨fun hu g k hg7 hk7 hne hgS hkS => ?_, fun l hl h1 h2 => ?_, fun l l' hne hl hl' a1 a2 b1 b2 => ?_⟩
    · have hx : ∀ g, g < 7 → S g = true → x ≠ L g := fun g hg7 hSg e => by
        have : G x = true := (hg hu x).mpr ⟨g, hg7, hSg, e.symm⟩
        rw [hu, this] at z1
        cases z1
      by_cases e1 : g = h
      · subst e1
        rw [sU_s, sU_n (fun z => hne z.symm)]
        rw [addF_n (fun z => hne z.symm)] at hkS
        exact hx k hk7 hkS
      · rw [addF_n e1] at hgS
        by_cases e2 : k = h
        · subst e2
          rw [sU_s, sU_n e1]
          exact fun z => hx g hg7 hgS z.symm
        · rw [addF_n e2] at hkS
          rw [sU_n e1, sU_n e2]
          exact hp.1 hu g k hg7 hk7 hne hgS hkS
    · by_cases e : nA N l = h ∨ nB N l = h
      · obtain ⟨a, g1, g2, g3, g4, g5, g6⟩ := ln_at (x := x) hW hl e
        have := (g6 (addF S h)).mp ⟨h1, h2⟩
        rw [addF_n g2] at this
        have t := (za a g1 g3 this.2).1
        intro q
        have : fL N (sU L h x) l = 0 := dst0.mpr q
        rw [g5] at this
        rw [this, (hf 0).mpr (Or.inl rfl)] at t
        cases t
      · have e1 : nA N l ≠ h := fun z => e (Or.inl z)
        have e2 : nB N l ≠ h := fun z => e (Or.inr z)
        rw [addF_n e1] at h1
        rw [addF_n e2] at h2
        rw [sU_n e1, sU_n e2]
        exact hp.2.1 l hl h1 h2
    · have new : ∀ l l', nP N l = true → nP N l' = true → (nA N l = h ∨ nB N l = h) → ¬ (nA N l' = h ∨ nB N l' = h) → addF S h (nA N l) = true → addF S h (nB N l) = true → addF S h (nA N l') = true → addF S h (nB N l') = true → fL N (sU L h x) l ≠ fL N (sU L h x) l' := by
        intro l l' hl hl' e e' a1 a2 b1 b2
        obtain ⟨a, g1, g2, g3, g4, g5, g6⟩ := ln_at (x := x) hW hl e
        have ta := (g6 (addF S h)).mp ⟨a1, a2⟩
        rw [addF_n g2] at ta
        have e1 : nA N l' ≠ h := fun z => e' (Or.inl z)
        have e2 : nB N l' ≠ h := fun z => e' (Or.inr z)
        rw [addF_n e1] at b1
        rw [addF_n e2] at b2
        rw [g5, fL_old e1 e2]
        intro q
        have t := (za a g1 g3 ta.2).1
        rw [(hf _).mpr (Or.inr ⟨l', hl', b1, b2, q.symm⟩)] at t
        cases t
      by_cases e : nA N l = h ∨ nB N l = h
      · by_cases e' : nA N l' = h ∨ nB N l' = h
        · obtain ⟨a, g1, g2, g3, g4, g5, g6⟩ := ln_at (x := x) hW hl e
          obtain ⟨b, k1, k2, k3, k4, k5, k6⟩ := ln_at (x := x) hW hl' e'
          have ta := (g6 (addF S h)).mp ⟨a1, a2⟩
          have tb := (k6 (addF S h)).mp ⟨b1, b2⟩
          rw [addF_n g2] at ta
          rw [addF_n k2] at tb
          rw [g5, k5]
          rcases Nat.lt_trichotomy a b with y | y | y
          · exact (za a g1 g3 ta.2).2 b k1 y k3 tb.2
          · subst y
            exact absurd (ln_un hW hl hl' g4 k4) hne
          · exact fun q => (za b k1 k3 tb.2).2 a g1 y g3 ta.2 q.symm
        · exact new l l' hl hl' e e' a1 a2 b1 b2
      · by_cases e' : nA N l' = h ∨ nB N l' = h
        · exact fun q => new l' l hl' hl e' e b1 b2 a1 a2 q.symm
        · have e1 : nA N l ≠ h := fun z => e (Or.inl z)
          have e2 : nB N l ≠ h := fun z => e (Or.inr z)
          have e3 : nA N l' ≠ h := fun z => e' (Or.inl z)
          have e4 : nB N l' ≠ h := fun z => e' (Or.inr z)
          rw [addF_n e1] at a1
          rw [addF_n e2] at a2
          rw [addF_n e3] at b1
          rw [addF_n e4] at b2
          rw [fL_old e1 e2, fL_old e3 e4]
          exact hp.2.2 l l' hne hl hl' a1 a2 b1 b2
  · intro z
    have ends : ∀ {l a}, nP N l = true → nEd N l h a = true → a ≠ h → S a = true → addF S h (nA N l) = true ∧ addF S h (nB N l) = true := fun hl he hne hSa => ((nEd_of (x := x) hW hl he hne).2.2 (addF S h)).mpr ⟨addF_s, by rw [addF_n hne]; exact hSa⟩
    refine ⟨?_, fun a ha => ?_⟩
    · cases hu : uq
      · rfl
      · cases hG : G x
        · rfl
        · obtain ⟨k, hk, hkS, hkx⟩ := (hg hu x).mp hG
          have hne := hSn hkS
          have := z.1 hu k h hk hh hne (by rw [addF_n hne]; exact hkS) addF_s
          rw [sU_s, sU_n hne] at this
          exact absurd hkx this
    · rw [Bool.and_eq_true, allL_iff]
      by_cases hc : nAdj N h a = true ∧ S a = true
      · have hne := hSn hc.2
        obtain ⟨l, hl, hlp, hle⟩ := nAdj_iff.mp hc.1
        have le := ends hlp hle hne hc.2
        have lf := (nEd_of (x := x) hW hlp hle hne).2.1 L
        refine ⟨?_, fun b hb => ?_⟩
        · have : F (dst x (L a)) = false := by
            cases q : F (dst x (L a))
            · rfl
            · exfalso
              rcases (hf _).mp q with y | ⟨l', g1, g2, g3, g4⟩
              · have t := z.2.1 l hlp le.1 le.2
                exact t (dst0.mp (lf.trans y))
              · have n1 := hSn g2
                have n2 := hSn g3
                have hll : l ≠ l' := fun e => by
                  subst e
                  rcases (nEd_of (x := x) hW hlp hle hne).1 with y | y
                  · exact n1 y
                  · exact n2 y
                refine z.2.2 l l' hll hlp g1 le.1 le.2 (by rw [addF_n n1]; exact g2) (by rw [addF_n n2]; exact g3) ?_
                rw [lf, fL_old n1 n2, g4]
          unfold fitA
          rw [this, hc.1, hc.2]
          rfl
        · unfold fitB
          by_cases hcb : a < b ∧ nAdj N h b = true ∧ S b = true
          · have hneb := hSn hcb.2.2
            obtain ⟨l', hl', hlp', hle'⟩ := nAdj_iff.mp hcb.2.1
            have le' := ends hlp' hle' hneb hcb.2.2
            have lf' := (nEd_of (x := x) hW hlp' hle' hneb).2.1 L
            have hll : l ≠ l' := fun e => by
              subst e
              have t1 := nEd_mk.mp hle
              have t2 := nEd_mk.mp hle'
              omega
            have := z.2.2 l l' hll hlp hlp' le.1 le.2 le'.1 le'.2
            rw [lf, lf'] at this
            rw [decide_eq_false this]
            simp
          · have : (decide (a < b) && (nAdj N h b && S b)) = false := by
              cases q : (decide (a < b) && (nAdj N h b && S b))
              · rfl
              · rw [Bool.and_eq_true, Bool.and_eq_true, decide_eq_true_eq] at q
                exact absurd q hcb
            rw [this]
            simp
      · have : (nAdj N h a && S a) = false := by
          cases q : (nAdj N h a && S a)
          · rfl
          · rw [Bool.and_eq_true] at q
            exact absurd q hc
        unfold fitA fitB
        rw [this]
        exact ⟨rfl, fun _ _ => rfl⟩
def addN (N : z_N) (S : Nat → Bool) (L : Nat → Nat) (h x m : Nat) (F : Nat → Bool) : Nat → Bool := fun y => F y || anyL m (fun a => (nAdj N h a && S a) && decide (y = dst x (L a)))
theorem addN_ok (hW : nWF N) (hS : S h = false) (hf : faN N S L F) : faN N (addF S h) (sU L h x) (addN N S L h x 7 F) := by
  have hSn : ∀ {g}, S g = true → g ≠ h := fun z e => by
    rw [e, hS] at z
    cases z
  intro y
  unfold addN
  rw [Bool.or_eq_true, hf y, anyL_iff]
  constructor
  · rintro ((z | ⟨l, h1, h2, h3, h4⟩) | ⟨a, ha, q⟩)
    · exact Or.inl z
    · refine Or.inr ⟨l, h1, ?_, ?_, ?_⟩
      · rw [addF_n (hSn h2)]
        exact h2
      · rw [addF_n (hSn h3)]
        exact h3
      · rw [fL_old (hSn h2) (hSn h3)]
        exact h4
    · simp only [Bool.and_eq_true, decide_eq_true_eq] at q
      obtain ⟨l, hl, hlp, hle⟩ := nAdj_iff.mp q.1.1
      have hne := hSn q.1.2
      have t := nEd_of (x := x) hW hlp hle hne
      have le := (t.2.2 (addF S h)).mpr ⟨addF_s, by rw [addF_n hne]; exact q.1.2⟩
      exact Or.inr ⟨l, hlp, le.1, le.2, (t.2.1 L).trans q.2.symm⟩
  · rintro (z | ⟨l, h1, h2, h3, h4⟩)
    · exact Or.inl (Or.inl z)
    · by_cases e : nA N l = h ∨ nB N l = h
      · obtain ⟨a, g1, g2, g3, g4, g5, g6⟩ := ln_at (x := x) hW h1 e
        have ta := (g6 (addF S h)).mp ⟨h2, h3⟩
        rw [addF_n g2] at ta
        refine Or.inr ⟨a, g1, ?_⟩
        rw [g5] at h4
        simp [g3, ta.2, h4]
      · have e1 : nA N l ≠ h := fun z => e (Or.inl z)
        have e2 : nB N l ≠ h := fun z => e (Or.inr z)
        rw [addF_n e1] at h2
        rw [addF_n e2] at h3
        rw [fL_old e1 e2] at h4
        exact Or.inl (Or.inr ⟨l, h1, h2, h3, h4⟩)
theorem gaN_ok (hh : h < 7) (hS : S h = false) (hg : gaN S L G) : gaN (addF S h) (sU L h x) (addF G x) := by
  have hSn : ∀ {g}, S g = true → g ≠ h := fun z e => by
    rw [e, hS] at z
    cases z
  intro y
  show (G y || decide (y = x)) = true ↔ _
  rw [Bool.or_eq_true, hg y, decide_eq_true_eq]
  constructor
  · rintro (⟨k, h1, h2, h3⟩ | z)
    · exact ⟨k, h1, by rw [addF_n (hSn h2)]; exact h2, by rw [sU_n (hSn h2)]; exact h3⟩
    · exact ⟨h, hh, addF_s, sU_s.trans z.symm⟩
  · rintro ⟨k, h1, h2, h3⟩
    by_cases e : k = h
    · subst e
      rw [sU_s] at h3
      exact Or.inr h3.symm
    · rw [addF_n e] at h2
      rw [sU_n e] at h3
      exact Or.inl ⟨k, h1, h2, h3⟩
/-- less is asked of fewer -/
theorem ptN_mono {T : Nat → Bool} {L' : Nat → Nat} (h : ptN N uq T L') (hs : ∀ g, S g = true → T g = true) (e : ∀ g, S g = true → L' g = L g) : ptN N uq S L := by
  refine ⟨fun hu g k hg hk hne h1 h2 => ?_, fun l hl h1 h2 => ?_, fun l l' hne hl hl' a1 a2 b1 b2 => ?_⟩
  · rw [← e g h1, ← e k h2]
    exact h.1 hu g k hg hk hne (hs _ h1) (hs _ h2)
  · rw [← e _ h1, ← e _ h2]
    exact h.2.1 l hl (hs _ h1) (hs _ h2)
  · have := h.2.2 l l' hne hl hl' (hs _ a1) (hs _ a2) (hs _ b1) (hs _ b2)
    unfold fL at this ⊢
    rw [← e _ a1, ← e _ a2, ← e _ b1, ← e _ b2]
    exact this
end NB2
