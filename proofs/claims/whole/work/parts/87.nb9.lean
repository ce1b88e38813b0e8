/-! WHOLE NUMBERS counted by the class -/
theorem smF_mul {k : Nat} : ∀ {r c : Nat} {f : Nat → Nat}, smF r c (fun x => k * f x) = k * smF r c f
  | 0, _, _ => rfl
  | r + 1, c, f => by
    show k * f c + smF r (c + 1) (fun x => k * f x) = k * (f c + smF r (c + 1) f)
    rw [smF_mul, Nat.mul_add]
theorem bs64_11 {f : Nat → Bool} (h : ∀ i, 11 ≤ i → f i = false) : bs 64 f < 2048 := by
  have : bs 64 f = bs 11 f := by
    apply Nat.eq_of_testBit_eq
    intro i
    rw [bs_bit, bs_bit]
    by_cases z : i < 11
    · simp [z, show i < 64 by omega]
    · simp [h i (by omega)]
  rw [this]
  exact bs_lt 11 f
theorem bs_ne {f : Nat → Bool} {h : Nat} (hh : h < 7) (hf : f h = true) : ¬ nI (bs 7 f) = 0 := by
  have hl := bs_lt 7 f
  have h0 : bs 7 f ≠ 0 := fun e => by
    have := bs_bit 7 f h
    rw [e, Nat.zero_testBit, hf, decide_eq_true hh] at this
    cases this
  show ¬ nI (bs 7 f) = nI 0
  rw [nI_eq (by omega) (by decide)]
  exact h0
theorem bs_ex {f : Nat → Bool} (h : ¬ nI (bs 7 f) = 0) : ∃ g, g < 7 ∧ f g = true := by
  by_cases z : ∃ g, g < 7 ∧ f g = true
  · exact z
  · have : bs 7 f = bs 7 (fun _ => false) := bs_cong (fun i hi => by
      cases e : f i
      · rfl
      · exact absurd ⟨i, hi, e⟩ z)
    rw [this] at h
    exact absurd rfl h
section NB9
variable {N : z_N} {top : Nat}
theorem er_mem {Lf : Nat → Bool} {h : Nat} {vs : List Nat} (hn : vs.Nodup) (hvs : ∀ g, g ∈ vs ↔ g < 7 ∧ Lf g = true) : ∀ g, g ∈ vs.erase h ↔ g < 7 ∧ lsF Lf h g = true := fun g => by
  rw [hn.mem_erase_iff, hvs]
  unfold lsF
  rw [Bool.and_eq_true, Bool.not_eq_true', decide_eq_false_iff_not]
  exact ⟨fun z => ⟨z.2.1, z.2.2, z.1⟩, fun z => ⟨z.2.2, z.1, z.2.1⟩⟩
theorem s_goOnC (hW : nWF N) (ht : top ≤ 10) : ∀ (j d : Nat) (v : z_V) (S Lf : Nat → Bool) (L : Nat → Nat) (F G : Nat → Bool) (vs : List Nat) (c : Nat), cntL 7 Lf = j → CtN N true false top v S Lf L F G → gI v 1 0 10 = bI true → (∀ g, g < 7 → (S g || Lf g) = nW N g) → vs.Nodup → (∀ g, g ∈ vs ↔ g < 7 ∧ Lf g = true) → (∃ h, h < 7 ∧ Lf h = true) → ¬ nI (bs 7 S) = 0 → gI v 1 0 6 = nI c → c ≤ 2 → ZI (d + 2 * j + 3) m_X1_goOn [vR 1 0, vR 0 0, vI (nI (bs 7 Lf)), vI (nI (bs 7 S))] v (fun u r => r = 0 ∧ gL u 1 0 5 = gL v 1 0 5 + lN (c * ctV 0 (top + 1) (Pc N) vs L) ∧ kpN v u S F true ∧ gI u 1 0 6 = gI v 1 0 6 ∧ Fr fGc v u) := by
  intro j
  induction j using Nat.strongRecOn with
  | ind j ih =>
    intro d v S Lf L F G vs c hj hc h10 hU hn hvs hex hS0 h6 hc2 Q q
    have hc' := hc
    obtain ⟨c1, c2, c3, c4, c5, c6, c7, c8, c9, c10⟩ := hc'
    refine E_X1_goOn (B_X1_goOn_0 (cI (s_nextOf (d := d + 2 * j) (Lf := Lf) (S := S) c1 c4) (fun w r hr => ?_)))
    obtain ⟨rfl, hr⟩ := hr
    rcases hr with ⟨_, hno⟩ | ⟨h, hh, hl, rfl, _⟩
    · obtain ⟨h, hh, hl⟩ := hex
      rw [hno h hh] at hl
      cases hl
    · have h10' : ¬ gI w 1 0 10 = 0 := by
        rw [h10]
        decide
      refine br_nT (nI_nm1 (by omega)) (cPL (s_fittingN (d := d + 2 * j) c1 c2 c3 c5 (by omega) (fun hu => (c6 hu).1) c8 hh) (br_F h10' ?_))
      rw [ls_bits hh]
      have hSh := c7 h hl
      have hlt := lsF_lt hh hl
      have hvs' := er_mem (h := h) hn hvs
      have hpm : ctV 0 (top + 1) (Pc N) vs L = smF (top + 1) 0 (fun y => ctV 0 (top + 1) (Pc N) (vs.erase h) (sU L h y)) := by
        rw [ctV_pm (List.perm_cons_erase ((hvs h).mpr ⟨hh, hl⟩)) hn L]
        rfl
      refine ⟨fun hr => ?_, fun hr => ?_⟩
      · refine B_X1_goOn_72 (br_F h10' ⟨fun _ => ?_, fun z => absurd z hS0⟩)
        rw [c5]
        refine s_lvl (D := d + 2 * j) (tp := top) (c := c) (W := fun _ => c) (sE := false) hW ht hc h10 hh hl hU hvs' (Nat.le_refl _) ⟨fun z => absurd z hS0, fun z => absurd z (by decide)⟩ (fun _ => ⟨h6, fun _ => rfl⟩) (fun z => absurd z (by decide)) (fun x u' hx hfit hcu h10u h6u w0 hst => ?_) (fun u g5 gk g6 gf => q u 0 ⟨rfl, ?_, gk, g6 rfl, gf⟩) _
        · obtain ⟨d', hd'⟩ : ∃ d', d + 2 * j + 1 = d' + 2 * cntL 7 (lsF Lf h) + 3 := ⟨d + 2 * j + 1 - (2 * cntL 7 (lsF Lf h) + 3), by omega⟩
          rw [hd']
          exact ih _ (by omega) d' w0 _ _ _ _ _ (vs.erase h) c rfl (hcu.step hW hh hl (by omega) hfit hst) ((hst.2.2.2.2.i (by unfold fSt; omega)).trans h10u) (fun g hg => (lsF_U hl g).trans (hU g hg)) (hn.erase h) hvs' (bs_ex hr) (bs_ne hh addF_s) ((hst.2.2.2.2.i (by unfold fSt; omega)).trans h6u) hc2
        · rw [g5, smF_mul, hpm]
      · have ef : vs.erase h = [] := by
          cases e : vs.erase h with
          | nil => rfl
          | cons a l =>
            have := (hvs' a).mp (by rw [e]; exact List.mem_cons_self)
            exact absurd hr (bs_ne this.1 this.2)
        have hfit : ∀ x, fitN N F G true S L h 7 x = Pc N (sU L h x) := fun x => by
          apply Bool.eq_iff_iff.mpr
          rw [fitN_iff hW hh hSh c9 c10 (fun hu => (c6 hu).2), Pc_iff hW]
          have eq7 : ∀ g, g < 7 → addF S h g = nW N g := fun g hg => by
            rw [← hU g hg, ← lsF_U hl g]
            have : lsF Lf h g = false := by
              cases y : lsF Lf h g
              · rfl
              · exact absurd hr (bs_ne hg y)
            rw [this, Bool.or_false]
          exact ⟨ptN_cg hW (fun g hg z => (eq7 g hg).trans z), ptN_cg hW (fun g hg z => (eq7 g hg).symm.trans z)⟩
        have hb : bs 64 (fun x => fitN N F G true S L h 7 x && decide (x ≤ top)) < 2048 := bs64_11 (fun i hi => by
          show (fitN N F G true S L h 7 i && decide (i ≤ top)) = false
          rw [decide_eq_false (by omega), Bool.and_false])
        refine cP (s_bitCountL (d := d + 2 * j + 1) hb) ?_
        have hle := pc_le 11 (bs 64 (fun x => fitN N F G true S L h 7 x && decide (x ≤ top)))
        rw [h6, nI_l (by omega), nI_l (by omega), lN_mul, bs_cnt ht]
        have en : smF (top + 1) 0 (fun x => if fitN N F G true S L h 7 x = true then 1 else 0) = ctV 0 (top + 1) (Pc N) vs L := by
          rw [hpm, ef]
          exact smF_cg (fun x _ _ => by
            rw [hfit x]
            rfl)
        rw [en]
        refine q _ 0 ⟨rfl, gL_pL_s, ⟨⟨(gL_pL_k (by decide)).trans c2.1, (gL_pL_k (by decide)).trans c2.2.1, (gL_pL_k (by decide)).trans c2.2.2⟩, fun _ => gL_pL_k (by decide), fun _ _ _ => rfl⟩, rfl, Fr.rfl.pL (Or.inr ⟨rfl, by decide⟩)⟩
end NB9
