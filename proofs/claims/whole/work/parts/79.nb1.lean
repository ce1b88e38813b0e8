/-! which numbers fit, which halt is next -/
def fitA (N : z_N) (F S : Nat → Bool) (L : Nat → Nat) (h a x : Nat) : Bool := !(nAdj N h a && S a) || !F (dst x (L a))
def fitB (N : z_N) (S : Nat → Bool) (L : Nat → Nat) (h a b x : Nat) : Bool := !(nAdj N h a && S a) || (!(decide (a < b) && (nAdj N h b && S b)) || !decide (dst x (L a) = dst x (L b)))
def fitN (N : z_N) (F G : Nat → Bool) (uq : Bool) (S : Nat → Bool) (L : Nat → Nat) (h m x : Nat) : Bool := (!uq || !G x) && allL m (fun a => fitA N F S L h a x && allL 7 (fun b => fitB N S L h a b x))
section NB1
variable {d : Nat} {v : z_V} {N : z_N} {F G S : Nat → Bool} {L : Nat → Nat} {uq io : Bool} {most : Nat}
theorem s_fittingN {h : Nat} (hS : NS v N) (hF : FS v F) (h8 : gI v 1 0 8 = bI uq) (h7 : gI v 1 0 7 = nI most) (hm : most ≤ 63) (hG : uq = true → gL v 1 0 11 = lW G) (hL : ∀ g, g < 7 → S g = true → gI v 202 0 g = nI (L g) ∧ L g ≤ 99) (hh : h < 7) : ZPL (d + 2) m_X1_fitting [vR 1 0, vR 0 0, vI (nI h), vI (nI (bs 7 S))] v (lW (fun x => fitN N F G uq S L h 7 x && decide (x ≤ most))) := fun Q k => E_X1_fitting (B_X1_fitting_0 (by
  have hb := hS.2.2.2.2.2.2 h hh
  refine z_ii h rfl hh ?_
  rw [n_nI (by omega), hb, nI_and, bs_and]
  have hb7 := bs_lt 7 (fun i => nAdj N h i && S i)
  have start : ∀ y, y = lW (fun x => fitN N F G uq S L h 0 x) → ∀ u1 u2 u3 u8, z_Wp (z_C (d + 1)) 2 k_X1_fitting Q 36 [some (vR 1 0), u1, u2, u3, some (vI (nI (bs 7 (fun i => nAdj N h i && S i)))), some (vL y), none, some (vI 0), u8] [] v := by
    intro y hy
    subst hy
    refine z_up0 (P := fun a => ∀ u1 u2 u3 u8, z_Wp (z_C (d + 1)) 2 k_X1_fitting Q 36 [some (vR 1 0), u1, u2, u3, some (vI (nI (bs 7 (fun i => nAdj N h i && S i)))), some (vL (lW (fun x => fitN N F G uq S L h a x))), none, some (vI (nI a)), u8] [] v) 7 ?_ ?_
    · intro u1 u2 u3 u8
      refine B_X1_fitting_36 (pk_le 7 7 (fun _ => ?_) (fun z => absurd z (by omega)))
      rw [h7, nI_1]
      refine pk_lt most 63 (fun z => ?_) (fun z => ?_)
      · rw [lW_msk (most + 1) (by omega), lW_and]
        have : lW (fun i => fitN N F G uq S L h 7 i && decide (i < most + 1)) = lW (fun x => fitN N F G uq S L h 7 x && decide (x ≤ most)) := lW_cg (fun i _ => by
          congr 1
          rw [decide_eq_decide]
          omega)
        rw [this]
        exact k
      · have : lW (fun i => fitN N F G uq S L h 7 i) = lW (fun x => fitN N F G uq S L h 7 x && decide (x ≤ most)) := lW_cg (fun i _ => by
          rw [decide_eq_true (by omega), Bool.and_true])
        rw [this]
        exact k
    · intro a ha ih u1 u2 u3 u8
      refine B_X1_fitting_36 (pk_le 7 a (fun z => absurd z (by omega)) (fun _ => ?_))
      rw [nI_bitb (by omega) (by omega), bs_bit, decide_eq_true ha, Bool.true_and, nI_1]
      refine br_n (fun e => z_ii a rfl ha ?_) (fun e => ?_)
      · have e' := e
        rw [Bool.and_eq_true] at e
        obtain ⟨l1, l2⟩ := hL a ha e.2
        rw [n_nI (by omega), l1]
        refine cPL (s_spoilt hF l2) ?_
        rw [lW_not, lW_and]
        have inner : ∀ b, b ≤ 7 → a < b → ∀ u1 u2 u3, z_Wp (z_C (d + 1)) 2 k_X1_fitting Q 82 [some (vR 1 0), u1, u2, u3, some (vI (nI (bs 7 (fun i => nAdj N h i && S i)))), some (vL (lW (fun x => fitN N F G uq S L h a x && (fitA N F S L h a x && allL b (fun b => fitB N S L h a b x))))), none, some (vI (nI a)), some (vI (nI b))] [] v := by
          refine z_up 7 (fun _ u1 u2 u3 => ?_) (fun b hb ihb hab u1 u2 u3 => ?_)
          · refine B_X1_fitting_82 (pk_le 7 7 (fun _ => ?_) (fun z => absurd z (by omega)))
            rw [nI_1]
            have : lW (fun x => fitN N F G uq S L h a x && (fitA N F S L h a x && allL 7 (fun b => fitB N S L h a b x))) = lW (fun x => fitN N F G uq S L h (a + 1) x) := lW_cg (fun i _ => by
              unfold fitN
              rw [allL_s (m := a), Bool.and_assoc])
            rw [this]
            exact ih _ _ _ _
          · refine B_X1_fitting_82 (pk_le 7 b (fun z => absurd z (by omega)) (fun _ => ?_))
            rw [nI_bitb (by omega) (by omega), bs_bit, decide_eq_true hb, Bool.true_and, nI_1]
            refine br_z (fun eb => ?_) (fun eb => z_ii a rfl ha (z_ii b rfl hb ?_))
            · have : lW (fun x => fitN N F G uq S L h a x && (fitA N F S L h a x && allL b (fun b => fitB N S L h a b x))) = lW (fun x => fitN N F G uq S L h a x && (fitA N F S L h a x && allL (b + 1) (fun b => fitB N S L h a b x))) := lW_cg (fun i _ => by
                rw [allL_s]
                have : fitB N S L h a b i = true := by
                  unfold fitB
                  rw [eb]
                  simp
                rw [this, Bool.and_true])
              rw [this]
              exact ihb (by omega) _ _ _
            · have eb' := eb
              rw [Bool.and_eq_true] at eb
              obtain ⟨m1, m2⟩ := hL b hb eb.2
              rw [n_nI (n := a) (by omega), n_nI (n := b) (by omega), l1, m1]
              refine cPL (s_halfWay l2 m2) ?_
              rw [lW_not, lW_and]
              have : lW (fun x => (fitN N F G uq S L h a x && (fitA N F S L h a x && allL b (fun b => fitB N S L h a b x))) && !decide (dst x (L a) = dst x (L b))) = lW (fun x => fitN N F G uq S L h a x && (fitA N F S L h a x && allL (b + 1) (fun b => fitB N S L h a b x))) := lW_cg (fun i _ => by
                rw [allL_s]
                have : fitB N S L h a b i = !decide (dst i (L a) = dst i (L b)) := by
                  unfold fitB
                  rw [eb', e', decide_eq_true hab]
                  simp
                rw [this, Bool.and_assoc, Bool.and_assoc])
              rw [this]
              exact ihb (by omega) _ _ _
        have : lW (fun i => fitN N F G uq S L h a i && !F (dst i (L a))) = lW (fun x => fitN N F G uq S L h a x && (fitA N F S L h a x && allL (a + 1) (fun b => fitB N S L h a b x))) := lW_cg (fun i _ => by
          have h1 : fitA N F S L h a i = !F (dst i (L a)) := by
            unfold fitA
            rw [e']
            rfl
          have h2 : allL (a + 1) (fun b => fitB N S L h a b i) = true := allL_iff.mpr (fun b hb => by
            show fitB N S L h a b i = true
            unfold fitB
            rw [decide_eq_false (by omega)]
            simp)
          rw [h1, h2, Bool.and_true])
        rw [this]
        exact inner (a + 1) (by omega) (by omega) _ _ _
      · have : lW (fun x => fitN N F G uq S L h a x) = lW (fun x => fitN N F G uq S L h (a + 1) x) := lW_cg (fun i _ => by
          unfold fitN
          rw [allL_s (m := a)]
          have h1 : fitA N F S L h a i = true := by
            unfold fitA
            rw [e]
            rfl
          have h2 : allL 7 (fun b => fitB N S L h a b i) = true := allL_iff.mpr (fun b hb => by
            show fitB N S L h a b i = true
            unfold fitB
            rw [e]
            rfl)
          rw [h1, h2, Bool.and_true, Bool.and_true])
        rw [this]
        exact ih _ _ _ _
  rw [h8]
  refine br_z (fun e => ?_) (fun e => ?_)
  · refine start _ ?_ _ _ _ _
    rw [lW_t]
    exact lW_cg (fun i _ => by simp [fitN, allL, anyL, e])
  · rw [hG e, lW_not]
    refine start _ ?_ _ _ _ _
    exact lW_cg (fun i _ => by simp [fitN, allL, anyL, e])))
theorem s_nextOf {Lf : Nat → Bool} (hS : NS v N) (h9 : gI v 1 0 9 = bI io) : ZI (d + 2) m_X1_nextOf [vR 1 0, vR 0 0, vI (nI (bs 7 Lf)), vI (nI (bs 7 S))] v (fun u r => u = v ∧ ((r = -1 ∧ ∀ h, h < 7 → Lf h = false) ∨ ∃ h, h < 7 ∧ Lf h = true ∧ r = nI h ∧ (io = true → ∀ g, g < h → Lf g = false))) := fun Q k => E_X1_nextOf (B_X1_nextOf_0 (by
  have hb7 := bs_lt 7 Lf
  have hs7 := bs_lt 7 S
  have key : ∀ i, i ≤ 7 → ∀ best strong, ((best = -1 ∧ strong = -1 ∧ ∀ g, g < i → Lf g = false) ∨ ∃ h, h < i ∧ Lf h = true ∧ best = nI h ∧ io = false ∧ ∃ s, s < 128 ∧ strong = nI s) → ∀ u7 u8, z_Wp (z_C (d + 1)) 1 k_X1_nextOf Q 9 [some (vR 1 0), some (vR 0 0), some (vI (nI (bs 7 Lf))), some (vI (nI (bs 7 S))), some (vI best), some (vI strong), some (vI (nI i)), u7, u8] [] v := by
    refine z_up 7 (fun best strong hi u7 u8 => ?_) (fun i hi7 ih best strong hi u7 u8 => ?_)
    · refine B_X1_nextOf_9 (pk_le 7 7 (fun _ => k v best ⟨rfl, ?_⟩) (fun z => absurd z (by omega)))
      rcases hi with ⟨h1, _, h3⟩ | ⟨h, h1, h2, h3, h4, _⟩
      · exact Or.inl ⟨h1, h3⟩
      · exact Or.inr ⟨h, h1, h2, h3, fun z => by rw [h4] at z; cases z⟩
    · refine B_X1_nextOf_9 (pk_le 7 i (fun z => absurd z (by omega)) (fun _ => ?_))
      rw [nI_bitb (by omega) (by omega), bs_bit, decide_eq_true hi7, Bool.true_and, nI_1]
      refine br_n (fun e => ?_) (fun e => ?_)
      · rw [h9]
        refine br_z (fun eo => z_ii i rfl hi7 ?_) (fun eo => k v _ ⟨rfl, Or.inr ⟨i, hi7, e, rfl, fun _ => ?_⟩⟩)
        · have ha7 := bs_lt 7 (nAdj N i)
          have hand : bs 7 (nAdj N i) &&& bs 7 S < 2 ^ 7 := Nat.and_lt_two_pow _ hs7
          rw [n_nI (by omega), hS.2.2.2.2.2.2 i hi7, nI_and]
          refine cP (s_bitCount (by omega)) (cP (s_bitCount (by omega)) ?_)
          have p1 := pc_le 10 (bs 7 (nAdj N i) &&& bs 7 S)
          have p2 := pc_le 10 (bs 7 (nAdj N i))
          have e1 : nI (pc 10 (bs 7 (nAdj N i) &&& bs 7 S)) * 7 + nI (pc 10 (bs 7 (nAdj N i))) = nI (pc 10 (bs 7 (nAdj N i) &&& bs 7 S) * 7 + pc 10 (bs 7 (nAdj N i))) := by
            rw [show (7 : Int32) = nI 7 from rfl, pk_mul, nI_add]
          rw [e1]
          refine ⟨fun z => ih best strong ?_ _ _, fun _ => ih _ _ (Or.inr ⟨i, by omega, e, rfl, eo, _, by omega, rfl⟩) _ _⟩
          rcases hi with ⟨h1, h2, h3⟩ | ⟨h, h1, h2, h3, h4, h5⟩
          · exfalso
            rw [h2, Int32.le_iff_toInt_le, nI_toInt (by omega), show ((-1 : Int32)).toInt = -1 by decide] at z
            omega
          · exact Or.inr ⟨h, by omega, h2, h3, h4, h5⟩
        · rcases hi with ⟨_, _, h3⟩ | ⟨h, _, _, _, h4, _⟩
          · exact h3
          · rw [eo] at h4
            cases h4
      · refine ih best strong ?_ _ _
        rcases hi with ⟨h1, h2, h3⟩ | ⟨h, h1, h2, h3, h4, h5⟩
        · refine Or.inl ⟨h1, h2, fun g hg => ?_⟩
          rcases Nat.lt_succ_iff_lt_or_eq.mp hg with z | z
          · exact h3 g z
          · exact z ▸ e
        · exact Or.inr ⟨h, by omega, h2, h3, h4, h5⟩
  exact key 0 (by omega) _ _ (Or.inl ⟨rfl, rfl, fun g hg => absurd hg (by omega)⟩) _ _))
end NB1
