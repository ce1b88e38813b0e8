/-! WHOLE NUMBERS counted: all of it -/
theorem ctV_0b {e n : Nat} {P : (Nat → Nat) → Bool} : ∀ {vs : List Nat} {L : Nat → Nat}, (∀ L', (∀ h, h ∉ vs → L' h = L h) → (∀ h, h ∈ vs → e ≤ L' h ∧ L' h < e + n) → P L' = false) → ctV e n P vs L = 0
  | [], L, h => by
    simp only [ctV]
    rw [h L (fun _ _ => rfl) (fun _ z => by cases z)]
    rfl
  | g :: vs, L, h => by
    simp only [ctV]
    refine smF_0 (fun x h1 h2 => ctV_0b (fun L' h' hb => h L' (fun k hk => ?_) (fun k hk => ?_)))
    · rw [h' k (fun z => hk (List.mem_cons_of_mem _ z)), sU_n (fun z => hk (by rw [z]; exact List.mem_cons_self))]
    · by_cases z : k ∈ vs
      · exact hb k z
      · have e1 : k = g := by
          rcases List.mem_cons.mp hk with y | y
          · exact y
          · exact absurd y z
        rw [h' k z, e1, sU_s]
        omega
theorem vLs_nd {w : Nat → Nat} : ∀ {j k : Nat}, (∀ p q, k ≤ p → p < q → q < k + j → w p ≠ w q) → (vLs w k j).Nodup
  | 0, _, _ => List.nodup_nil
  | j + 1, k, h => by
    simp only [vLs]
    refine List.nodup_cons.mpr ⟨fun z => ?_, vLs_nd (fun p q h1 h2 h3 => h p q (by omega) h2 (by omega))⟩
    obtain ⟨p, h1, h2, h3⟩ := vLs_mem.mp z
    exact h k p (Nat.le_refl _) (by omega) (by omega) h3.symm
section NBA
variable {d : Nat} {v : z_V} {N : z_N} {nu : Nat → Nat} {top : Nat}
theorem vW_mem : ∀ g, g ∈ vLs (nK N) 0 (nM N) ↔ g < 7 ∧ nW N g = true := fun g => by
  rw [vLs_mem]
  constructor
  · rintro ⟨p, _, h2, rfl⟩
    have := nK_ok (N := N) (k := p) (by omega)
    exact ⟨this.1, this.2.1⟩
  · rintro ⟨h1, h2⟩
    exact ⟨rkW N g, Nat.zero_le _, by have := rkW_lt h1 h2; omega, nK_rk h1 h2⟩
theorem vW_nd : (vLs (nK N) 0 (nM N)).Nodup := vLs_nd (fun p q _ h2 h3 e => by
  have := nK_lt (N := N) (p := p) (k := q) (by omega) h2
  omega)
theorem nM_pos {h : Nat} (hW : nWF N) (hh : h < 7) (hw : nW N h = true) : 0 < pc 10 (nO N) := by
  obtain ⟨k, hk, hA⟩ := anyL_iff.mp hw
  obtain ⟨l, hl, hlp, _⟩ := nAdj_iff.mp hA
  have h10 := hW.1
  rw [pcN]
  have := cntL_lt2 (f := nP N) (g := l) (h := 10) (by omega) hlp
  omega
theorem pc_ex (h : pc 10 (nO N) ≠ 0) : ∃ l, l < 10 ∧ nP N l = true := by
  rw [pcN] at h
  by_cases z : ∃ l, l < 10 ∧ nP N l = true
  · exact z
  · exfalso
    have e : cntL 10 (nP N) = cntL 10 (fun _ => false) := cntL_cong 10 (fun i hi => by
      cases y : nP N i
      · rfl
      · exact absurd ⟨i, hi, y⟩ z)
    rw [e] at h
    exact h (by decide)
theorem Pc_cg {M : z_N} {L : Nat → Nat} (hN : nWF N) (hM : nWF M) (h : smN N M) : Pc N L = Pc M L := by
  obtain ⟨T, hT⟩ : ∃ T, ∀ h, h < 7 → L h ≤ T := ⟨L 0 + L 1 + L 2 + L 3 + L 4 + L 5 + L 6, fun h hh => by
    rcases (by omega : h = 0 ∨ h = 1 ∨ h = 2 ∨ h = 3 ∨ h = 4 ∨ h = 5 ∨ h = 6) with z | z | z | z | z | z | z <;> subst z <;> omega⟩
  have key : ∀ {K : z_N}, nWF K → (Pc K L = true ↔ niceL 1 0 0 K T L) := fun {K} hK => by
    rw [Pc_iff hK, ← sol1 hK]
    unfold solN
    have eU : (fun g => (fun _ : Nat => false) g || nW K g) = nW K := funext (fun g => Bool.false_or _)
    rw [eU]
    exact ⟨fun z => ⟨z, fun h hh _ => hT h hh⟩, fun z => z.1⟩
  apply Bool.eq_iff_iff.mpr
  rw [key hN, key hM, niceL_cg hN hM h]
theorem whC_cg {M : z_N} (hN : nWF N) (hM : nWF M) (h : smN N M) : whC N = whC M := by
  have e1 : PbL N (CbK 0 0 0 N) = PbL M (CbK 0 0 0 M) := funext (fun L => Pc_cg hN hM h)
  have e2 : pc 10 (nO N) = pc 10 (nO M) := by
    rw [pcN, pcN]
    exact cntL_cong 10 (fun i hi => (h i hi).1)
  have e3 : nK N = nK M := by
    unfold nK
    rw [nW_cg hN hM h]
  unfold whC
  rw [e1, e2, e3, nM_cg hN hM h]
def cWh (v : z_V) : Prop := ∀ N, nWF N → gL v 1 0 4 = lN (kN N 10) → gL v 1 0 5 = lN (whC N)
def fWw : Nat → Nat → Prop := fun t k => t = 202 ∨ (t = 1 ∧ (k = 4 ∨ k = 5 ∨ k = 6 ∨ k = 7 ∨ k = 8 ∨ k = 9 ∨ k = 10 ∨ k = 11 ∨ k = 12 ∨ k = 13 ∨ k = 14))
theorem cWh.fr {u : z_V} {S : Nat → Nat → Prop} (h : cWh v) (f : Fr S v u) (h1 : ¬ S 1 4) (h2 : ¬ S 1 5) : cWh u := fun N hW k4 => (f.l h2).trans (h N hW ((f.l h1).symm.trans k4))
theorem s_wholeWays (hS : NS v N) (hW : nWF N) (hc : cWh v) : ZL (d + 18) m_X1_wholeWays [vR 1 0, vR 0 0] v (fun u x => x = lN (whC N) ∧ cWh u ∧ Fr fWw v u) := fun Q k => E_X1_wholeWays (B_X1_wholeWays_0 (by
  have hm := nM_le (N := N)
  have hp := pc_le 10 (nO N)
  have e6 : gI v 0 0 6 = nI (nM N) := by
    rw [hS.2.2.2.1, pc_bs7]
    rfl
  rw [hS.2.1, e6]
  refine pk_ne (pc 10 (nO N)) 0 (fun hne => ?_) (fun e => ?_)
  · obtain ⟨l, hl, hlp⟩ := pc_ex hne
    have hlt := nP_lt hW hlp
    have hwl := hW.2.2.1 l hlt
    have hwe := nW_ends hW hlp
    have hm1 : 0 < nM N := by
      have := rkW_lt hwl.1 hwe.1
      omega
    have e7 : nI (nM N) - 1 = nI (nM N - 1) := pk_sub (b := 1) (by omega)
    rw [e7]
    refine pk_le (nM N - 1) (pc 10 (nO N)) (fun _ => ⟨fun e => k v _ ⟨hc N hW ((lg_eq0.mp e).trans hS.2.2.2.2.1), hc, Fr.rfl⟩, fun _ => ?_⟩) (fun z => k v _ ⟨?_, hc, Fr.rfl⟩)
    · have hb := s_begin (d := d + 15) (v := pL v 1 0 4 (gL v 0 0 7)) (uq := true) (ct := true) (a := nI (pc 10 (nO N)))
      refine cV hb (fun w hw => ?_)
      obtain ⟨b1, b2, b3, b4, b5, b6, b7, b8, _⟩ := hw
      rw [if_pos rfl] at b7
      have f0 : Fr fWw v (pL v 1 0 4 (gL v 0 0 7)) := Fr.rfl.pL (Or.inr ⟨rfl, by decide⟩)
      have f1 : Fr fWw v w := f0.trans (b8.mono (fun t k z => by unfold fBg at z; unfold fWw; omega))
      have hSw : NS w N := hS.fr f1 (fun k => by unfold fWw; omega) (fun k => by unfold fWw; omega) (fun k => by unfold fWw; omega) (fun k => by unfold fWw; omega)
      have key4 : gL w 1 0 4 = lN (kN N 10) := by
        rw [b8.l (by unfold fBg; omega), gL_pL_s]
        exact hS.2.2.2.2.1
      have hCt : CtN N true false (pc 10 (nO N)) w (fun _ => false) (nW N) (fun _ => 0) F00 (fun _ => false) := by
        refine ⟨hSw, b1, b3, b5, b6, fun _ => ⟨b2, fun x => ⟨fun z => absurd z Bool.false_ne_true, ?_⟩⟩, fun _ _ => rfl, fun g _ z => absurd z Bool.false_ne_true, ⟨fun _ g h _ _ _ z => absurd z Bool.false_ne_true, fun l _ z => absurd z Bool.false_ne_true, fun l l' _ _ _ z => absurd z Bool.false_ne_true⟩, fun x => ?_⟩
        · rintro ⟨h, _, z, _⟩
          cases z
        · unfold F00
          rw [decide_eq_true_eq]
          exact ⟨fun z => Or.inl z, fun z => by
            rcases z with z | ⟨l, _, z, _⟩
            · exact z
            · cases z⟩
      rw [hSw.2.2.1]
      have h10' : ¬ gI w 1 0 10 = 0 := by
        rw [b4]
        decide
      have goal : ZI (d + 17) m_X1_goOn [vR 1 0, vR 0 0, vI (nI (bs 7 (nW N))), vI (nI (bs 7 (fun _ => false)))] w (fun u r => gL u 1 0 5 = lN (whC N) ∧ Fr fGc w u) := fun Q2 q => by
        refine E_X1_goOn (B_X1_goOn_0 (cI (s_nextOf (d := d + 14) (Lf := nW N) (S := fun _ => false) hSw b5) (fun w' r hr => ?_)))
        obtain ⟨rfl, hr⟩ := hr
        rcases hr with ⟨_, hno⟩ | ⟨h, hh, hl, rfl, _⟩
        · rw [hno _ hwl.1] at hwe
          cases hwe.1
        · refine br_nT (nI_nm1 (by omega)) (cPL (s_fittingN (d := d + 14) (L := fun _ => 0) hSw b1 b3 b6 (by omega) (fun _ => b2) (fun g _ z => absurd z Bool.false_ne_true) hh) (br_F h10' ?_))
          rw [ls_bits hh]
          have hvs' := er_mem (h := h) (vW_nd (N := N)) vW_mem
          refine ⟨fun hr => ?_, fun hr => ?_⟩
          · refine B_X1_goOn_72 (br_F h10' ⟨fun z => absurd (by decide) z, fun _ => ?_⟩)
            rw [b6, hf_tab _ (by omega)]
            refine s_lvl (D := d + 14) (top := pc 10 (nO N)) (tp := pc 10 (nO N) / 2) (c := 0) (vs := (vLs (nK N) 0 (nM N)).erase h) (W := wHf (pc 10 (nO N))) (sE := true) hW hp hCt b4 hh hl (fun g _ => Bool.false_or _) hvs' (by omega) ⟨fun _ => rfl, fun _ => by decide⟩ (fun z => absurd z (by decide)) (fun _ => rfl) (fun x u' hx hfit hcu h10u h6u w0 hst => ?_) (fun u g5 gk _ gf => q u 0 ⟨?_, gf⟩) _
            · have hlt := lsF_lt (Lf := nW N) hh hl
              have : cntL 7 (nW N) = nM N := rfl
              obtain ⟨d', hd'⟩ : ∃ d', d + 14 + 1 = d' + 2 * cntL 7 (lsF (nW N) h) + 3 := ⟨d + 12 - 2 * cntL 7 (lsF (nW N) h), by omega⟩
              rw [hd']
              have hw2 : wHf (pc 10 (nO N)) x ≤ 2 := by
                unfold wHf
                split <;> omega
              exact s_goOnC hW hp _ d' w0 _ _ _ _ _ ((vLs (nK N) 0 (nM N)).erase h) (wHf (pc 10 (nO N)) x) rfl (hcu.step hW hh hl (by omega) hfit hst) ((hst.2.2.2.2.i (by unfold fSt; omega)).trans h10u) (fun g hg => (lsF_U hl g).trans (Bool.false_or _)) (vW_nd.erase h) hvs' (bs_ex hr) (bs_ne hh addF_s) ((hst.2.2.2.2.i (by unfold fSt; omega)).trans h6u) hw2
            · rw [g5, b7, half_s (fun y hy => ctV_flip hW (fun g hg hwg hgm => ?_))]
              · have hpm : whC N = smF (pc 10 (nO N) + 1) 0 (fun y => ctV 0 (pc 10 (nO N) + 1) (Pc N) ((vLs (nK N) 0 (nM N)).erase h) (sU (fun _ => 0) h y)) := by
                  show ctV 0 (pc 10 (nO N) + 1) (Pc N) (vLs (nK N) 0 (nM N)) (fun _ => 0) = _
                  rw [ctV_pm (List.perm_cons_erase (vW_mem h |>.mpr ⟨hh, hl⟩)) vW_nd (fun _ => 0)]
                  rfl
                rw [hpm]
                show lN 0 + lN _ = _
                rw [lN_add, Nat.zero_add]
              · have e1 : g = h := by
                  by_cases z : g = h
                  · exact z
                  · exact absurd ((hvs' g).mpr ⟨hg, by simp [lsF, hwg, z]⟩) hgm
                subst e1
                rw [sU_s, sU_s]
                omega
          · exfalso
            -- two ends at least
            by_cases z : nA N l = h
            · have : lsF (nW N) h (nB N l) = true := by
                have hne : nB N l ≠ h := fun y => hwl.2.2 (z.trans y.symm)
                simp [lsF, hwe.2, hne]
              exact bs_ne hwl.2.1 this hr
            · have : lsF (nW N) h (nA N l) = true := by simp [lsF, hwe.1, z]
              exact bs_ne hwl.1 this hr
      have e0 : (0 : Int32) = nI (bs 7 (fun _ => false)) := by decide
      have goal2 : ZI (d + 17) m_X1_goOn [vR 1 0, vR 0 0, vI (nI (bs 7 (nW N))), vI 0] w (fun u r => gL u 1 0 5 = lN (whC N) ∧ Fr fGc w u) := by
        rw [← e0] at goal
        exact goal
      refine cI goal2 (fun u r hr => ?_)
      have k4 : gL u 1 0 4 = lN (kN N 10) := (hr.2.l (by unfold fGc; omega)).trans key4
      rw [hr.1]
      exact k u _ ⟨rfl, fun M hM k4' => hr.1.trans (congrArg lN (whC_cg hW hM (smN_k hW hM (k4.symm.trans k4')))), f1.trans (hr.2.mono (fun t k z => by unfold fGc at z; unfold fWw; omega))⟩
    · have : whC N = 0 := ctV_0b (fun L' _ hb => by
        cases y : PbL N (CbK 0 0 0 N) L'
        · rfl
        · exfalso
          have hpt := (Pc_iff hW).mp y
          have hn : niceL 1 0 0 N (pc 10 (nO N)) L' := (sol1 hW).mp ⟨by
            have eU : (fun g => (fun _ : Nat => false) g || nW N g) = nW N := funext (fun g => Bool.false_or _)
            rw [eU]
            exact hpt, fun g hg hw => by
            have := hb g ((vW_mem g).mpr ⟨hg, hw⟩)
            omega⟩
          have := few hW hn
          omega)
      rw [this]
      rfl
  · have h0 : nM N = 0 := by
      rcases Nat.eq_zero_or_pos (nM N) with z | z
      · exact z
      · have := nK_ok (N := N) z
        have := nM_pos hW this.1 this.2.1
        omega
    have : whC N = 1 := by
      unfold whC
      rw [h0]
      have : PbL N (CbK 0 0 0 N) (fun _ => 0) = true := by
        unfold PbL
        rw [h0]
        rfl
      show (if PbL N (CbK 0 0 0 N) (fun _ => 0) = true then 1 else 0) = 1
      rw [if_pos this]
    refine k v _ ⟨?_, hc, Fr.rfl⟩
    rw [this]
    rfl))
def fWwC : Nat → Nat → Prop := fun t k => sNet t k ∨ fWw t k
theorem s_wholesC (hC : CW v 0 N nu) (hc : cWh v) : ZL (d + 19) m_X10_wholes [vR 10 0] v (fun u x => x = lN (whC N) ∧ cWh u ∧ Fr fWwC v u) := fun Q k => E_X10_wholes (B_X10_wholes_0 (by
  refine cV (s_look (d := d + 16) hC) (fun u hu => ?_)
  refine cL (s_wholeWays hu.1 hC.1 (hc.fr hu.2 (sNet_not (by decide)) (sNet_not (by decide)))) (fun w x hx => ?_)
  exact k _ _ ⟨hx.1, hx.2.1, (hu.2.mono (fun t k z => Or.inl z)).trans (hx.2.2.mono (fun t k z => Or.inr z))⟩))
end NBA
