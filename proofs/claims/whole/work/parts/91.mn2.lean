/-! MENDING by the reference -/
def cM (s : Nat) : Nat := cntL 7 s.testBit
def sM (s : Nat) : Nat → Nat := sel s.testBit 7
def rM (s h : Nat) : Nat := cntL h s.testBit
def WM (v : z_V) (s : Nat) : Prop := gI v 11 0 28 = nI (cM s) ∧ ∀ p, p < cM s → gI v 1227 0 p = nI (sM s p)
def LM (v : z_V) (s : Nat) (L : Nat → Nat) (k : Nat) : Prop := ∀ h, h < 7 → (s.testBit h = true → rM s h < k) → gI v 1226 0 h = nI (L h)
def laM (N : z_N) (s m l : Nat) : Bool := nP N l && ((!s.testBit (nA N l) || decide (rM s (nA N l) < m)) && (!s.testBit (nB N l) || decide (rM s (nB N l) < m)))
def frG (N : z_N) (s m : Nat) (L : Nat → Nat) (l : Nat) : Bool := !laM N s m l || (decide (fL N L l ≠ 0) && !anyL l (fun k => laM N s m k && decide (fL N L k = fL N L l)))
def frM (N : z_N) (s m : Nat) (L : Nat → Nat) : Bool := allL 10 (fun l => frG N s m L l)
def solM (N : z_N) (nu : Nat → Nat) (s : Nat) (L : Nat → Nat) : Prop := (∀ h, h < 7 → s.testBit h = false → L h = nu h) ∧ (∀ h, h < 7 → s.testBit h = true → L h ≤ 20 ∧ L h ≠ nu h) ∧ faiL N L
section MN2
variable {d D : Nat} {v : z_V} {N : z_N} {nu : Nat → Nat} {s : Nat} {Q : z_RT}
theorem sM_ok {k : Nat} (h : k < cM s) : sM s k < 7 ∧ s.testBit (sM s k) = true ∧ rM s (sM s k) = k := sel_ok h
theorem sM_rk {h : Nat} (hh : h < 7) (hf : s.testBit h = true) : sM s (rM s h) = h := sel_rk hh hf
theorem rM_lt {h : Nat} (hh : h < 7) (hf : s.testBit h = true) : rM s h < cM s := cntL_lt2 hh hf
theorem cM_le : cM s ≤ 7 := cntL_le 7 _
theorem sM_ne {p k : Nat} (hp : p < cM s) (hk : k < cM s) (h : p ≠ k) : sM s p ≠ sM s k := fun e => h (by
  have h1 := (sM_ok hp).2.2
  have h2 := (sM_ok hk).2.2
  rw [e, h2] at h1
  exact h1.symm)
theorem s_isLaidM {h m : Nat} (hWM : WM v s) (hh : h < 7) (hw : s.testBit h = true) (hm : m ≤ cM s) : ZP (d + 1) m_X11_isLaid [vR 11 0, vI (nI h), vI (nI m)] v (bI (decide (rM s h < m))) := fun Q k => E_X11_isLaid (B_X11_isLaid_0 (by
  have hm7 := cM_le (s := s)
  refine z_up0 (P := fun p => p ≤ rM s h → z_Wp (z_C d) 4 k_X11_isLaid Q 2 [some (vR 11 0), some (vI (nI h)), some (vI (nI m)), some (vI (nI p))] [] v) m ?_ ?_ (Nat.zero_le _)
  · intro z
    rw [decide_eq_false (by omega)] at k
    exact B_X11_isLaid_2 (pk_le m m (fun _ => k) (fun q => absurd q (by omega)))
  · intro p hp ih z
    have hkp := sM_ok (s := s) (show p < cM s by omega)
    refine B_X11_isLaid_2 (pk_le m p (fun q => absurd q (by omega)) (fun _ => z_ii p rfl (by omega) ?_))
    rw [n_nI (by omega), hWM.2 p (by omega), nI_1]
    refine pk_ne (sM s p) h (fun e => ih ?_) (fun e => ?_)
    · have : rM s h ≠ p := fun y => e (by rw [← y, sM_rk hh hw])
      omega
    · have : rM s h = p := by rw [← e]; exact hkp.2.2
      rw [decide_eq_true (by omega)] at k
      exact k))
theorem s_isFareLaid {l m : Nat} (hM : MS v N nu) (hWM : WM v s) (hs : s < 128) (hl : l < nN N) (hm : m ≤ cM s) : ZP (d + 3) m_X11_isFareLaid [vR 11 0, vI (nI l), vI (nI s), vI (nI m)] v (bI (laM N s m l)) := fun Q k => E_X11_isFareLaid (B_X11_isFareLaid_0 (by
  have hw := hM.1.2.2.1 l hl
  have hn := hM.1.1
  have K : ∀ b, b = laM N s m l → Q v (some (vI (bI b))) := fun b e => by rw [e]; exact k
  unfold laM at K
  refine cP (s_isOpen hM (by omega)) (br_z (fun e => K false (by rw [e]; rfl)) (fun e => ?_))
  rw [e, Bool.true_and] at K
  refine cP (s_one hM hl) (cP (s_has (by omega) (by omega)) (br_z (fun e1 => ?_) (fun e1 => ?_)))
  · rw [e1, Bool.not_false, Bool.true_or, Bool.true_and] at K
    refine cP (s_other hM hl) (cP (s_has (by omega) (by omega)) (br_z (fun e2 => K true (by rw [e2]; rfl)) (fun e2 => ?_)))
    rw [e2, Bool.not_true, Bool.false_or] at K
    exact cP (s_other hM hl) (cP (s_isLaidM hWM hw.2.1 e2 hm) (br_z (fun e3 => K false e3.symm) (fun e3 => K true e3.symm)))
  · rw [e1, Bool.not_true, Bool.false_or] at K
    refine cP (s_one hM hl) (cP (s_isLaidM hWM hw.1 e1 hm) (br_z (fun e3 => K false (by rw [e3]; rfl)) (fun e3 => ?_)))
    rw [e3, Bool.true_and] at K
    refine cP (s_other hM hl) (cP (s_has (by omega) (by omega)) (br_z (fun e2 => K true (by rw [e2]; rfl)) (fun e2 => ?_)))
    rw [e2, Bool.not_true, Bool.false_or] at K
    exact cP (s_other hM hl) (cP (s_isLaidM hWM hw.2.1 e2 hm) (br_z (fun e3 => K false e3.symm) (fun e3 => K true e3.symm)))))
theorem laM_ends {l m : Nat} (hW : nWF N) (h : laM N s m l = true) : nP N l = true ∧ (s.testBit (nA N l) = true → rM s (nA N l) < m) ∧ (s.testBit (nB N l) = true → rM s (nB N l) < m) := by
  unfold laM at h
  simp only [Bool.and_eq_true, Bool.or_eq_true, Bool.not_eq_true', decide_eq_true_eq] at h
  refine ⟨h.1, fun z => ?_, fun z => ?_⟩
  · rcases h.2.1 with y | y
    · rw [z] at y
      cases y
    · exact y
  · rcases h.2.2 with y | y
    · rw [z] at y
      cases y
    · exact y
theorem s_isFairSoFar {m : Nat} {L : Nat → Nat} (hM : MS v N nu) (hWM : WM v s) (hs : s < 128) (hL : LM v s L m) (hm : m ≤ cM s) (hb : ∀ h, h < 7 → (s.testBit h = true → rM s h < m) → L h ≤ 99) : ZP (d + 4) m_X11_isFairSoFar [vR 11 0, vI (nI s), vI (nI m)] v (bI (frM N s m L)) := fun Q k => E_X11_isFairSoFar (B_X11_isFairSoFar_0 (by
  have hW := hM.1
  have hn := hW.1
  have hbad : ∀ l, l < 10 → frG N s m L l = false → Q v (some (vI 0)) := fun l hl h1 => by
    have : frM N s m L = false := allL_f hl h1
    rw [this] at k
    exact k
  have fareOk : ∀ l, l < nN N → laM N s m l = true → gI v 1226 0 (nA N l) = nI (L (nA N l)) ∧ gI v 1226 0 (nB N l) = nI (L (nB N l)) ∧ L (nA N l) ≤ 99 ∧ L (nB N l) ≤ 99 := fun l hl h => by
    have hw := hW.2.2.1 l hl
    have he := laM_ends hW h
    exact ⟨hL _ hw.1 he.2.1, hL _ hw.2.1 he.2.2, hb _ hw.1 he.2.1, hb _ hw.2.1 he.2.2⟩
  refine z_up0 (P := fun l => (∀ l1, l1 < l → frG N s m L l1 = true) → ∀ u4 u5, z_Wp (z_C (d + 3)) 4 k_X11_isFairSoFar Q 2 [some (vR 11 0), some (vI (nI s)), some (vI (nI m)), some (vI (nI l)), u4, u5] [] v) (nN N) ?_ ?_ (fun l1 h => absurd h (by omega)) none none
  · intro h u4 u5
    have : frM N s m L = true := allL_iff.mpr (fun l hl => by
      by_cases z : l < nN N
      · exact h l z
      · have : laM N s m l = false := by
          unfold laM
          rw [nP_hi hW (by omega)]
          rfl
        show frG N s m L l = true
        unfold frG
        rw [this]
        rfl)
    rw [this] at k
    exact B_X11_isFairSoFar_2 (pk_le (nN N) (nN N) (fun _ => k) (fun q => absurd q (by omega)) hM.2.1)
  · intro l hl ih h u4 u5
    have hw := hW.2.2.1 l hl
    refine B_X11_isFairSoFar_2 (pk_le (nN N) l (fun q => absurd q (by omega)) (fun _ => ?_) hM.2.1)
    refine cP (s_isFareLaid hM hWM hs hl hm) (br_n (fun e => ?_) (fun e => ?_))
    · obtain ⟨r1, r2, r3, r4⟩ := fareOk l hl e
      refine cP (s_one hM hl) (z_ii _ rfl hw.1 (cP (s_other hM hl) (z_ii _ rfl hw.2.1 ?_)))
      rw [n_nI (n := nA N l) (by omega), n_nI (n := nB N l) (by omega), r1, r2]
      refine cP (s_apartBy (by omega) (by omega)) ?_
      have hx : dst (L (nA N l)) (L (nB N l)) = fL N L l := rfl
      have hx9 : fL N L l ≤ 99 := dst_le r3 r4
      rw [hx]
      refine pk_ne (fL N L l) 0 (fun nz => ?_) (fun z => hbad l (by omega) (by
        unfold frG
        rw [e, decide_eq_false (fun y => y z)]
        rfl))
      refine z_up0 (P := fun i => (∀ i1, i1 < i → (laM N s m i1 && decide (fL N L i1 = fL N L l)) = false) → z_Wp (z_C (d + 3)) 4 k_X11_isFairSoFar Q 60 [some (vR 11 0), some (vI (nI s)), some (vI (nI m)), some (vI (nI l)), some (vI (nI (fL N L l))), some (vI (nI i))] [] v) l ?_ ?_ (fun i1 h => absurd h (by omega))
      · intro hall
        refine B_X11_isFairSoFar_60 (pk_le l l (fun _ => ?_) (fun q => absurd q (by omega)))
        rw [nI_1]
        refine ih (fun l1 hl1 => ?_) _ _
        by_cases y : l1 = l
        · subst y
          have : anyL l1 (fun k => laM N s m k && decide (fL N L k = fL N L l1)) = false := by
            cases z : anyL l1 (fun k => laM N s m k && decide (fL N L k = fL N L l1))
            · rfl
            · obtain ⟨i, hi, hz⟩ := anyL_iff.mp z
              rw [hall i hi] at hz
              cases hz
          unfold frG
          rw [this, decide_eq_true nz]
          cases laM N s m l1 <;> rfl
        · exact h l1 (by omega)
      · intro i hi ihi hall
        have hwi := hW.2.2.1 i (by omega)
        refine B_X11_isFairSoFar_60 (pk_le l i (fun q => absurd q (by omega)) (fun _ => ?_))
        rw [nI_1]
        have next : (laM N s m i && decide (fL N L i = fL N L l)) = false → z_Wp (z_C (d + 3)) 4 k_X11_isFairSoFar Q 60 [some (vR 11 0), some (vI (nI s)), some (vI (nI m)), some (vI (nI l)), some (vI (nI (fL N L l))), some (vI (nI (i + 1)))] [] v := fun no => ihi (fun i1 hi1 => by
          by_cases y : i1 = i
          · subst y
            exact no
          · exact hall i1 (by omega))
        refine cP (s_isFareLaid hM hWM hs (by omega) hm) (br_z (fun e2 => next (by rw [e2]; rfl)) (fun e2 => ?_))
        obtain ⟨q1, q2, q3, q4⟩ := fareOk i (by omega) e2
        refine cP (s_one hM (by omega)) (z_ii _ rfl hwi.1 (cP (s_other hM (by omega)) (z_ii _ rfl hwi.2.1 ?_)))
        rw [n_nI (n := nA N i) (by omega), n_nI (n := nB N i) (by omega), q1, q2]
        refine cP (s_apartBy (by omega) (by omega)) ?_
        have hy : dst (L (nA N i)) (L (nB N i)) = fL N L i := rfl
        have hy9 : fL N L i ≤ 99 := dst_le q3 q4
        rw [hy]
        refine pk_ne (fL N L i) (fL N L l) (fun z => next (by rw [decide_eq_false z, Bool.and_false])) (fun z => hbad l (by omega) ?_)
        have : anyL l (fun k => laM N s m k && decide (fL N L k = fL N L l)) = true := anyL_iff.mpr ⟨i, hi, by rw [e2, decide_eq_true z]; rfl⟩
        unfold frG
        rw [this, e]
        cases decide (fL N L l ≠ 0) <;> rfl
    · rw [nI_1]
      refine ih (fun l1 hl1 => ?_) _ _
      by_cases y : l1 = l
      · subst y
        unfold frG
        rw [e]
        rfl
      · exact h l1 (by omega)))
theorem frM_loc {m : Nat} {L L' : Nat → Nat} (hW : nWF N) (e : ∀ h, h < 7 → (s.testBit h = true → rM s h < m) → L h = L' h) : frM N s m L = frM N s m L' := by
  have hf : ∀ l, laM N s m l = true → fL N L l = fL N L' l := fun l hl => by
    have he := laM_ends hW hl
    have hw := hW.2.2.1 l (nP_lt hW he.1)
    unfold fL
    rw [e _ hw.1 he.2.1, e _ hw.2.1 he.2.2]
  refine allL_cg (fun l _ => ?_)
  unfold frG
  cases h1 : laM N s m l
  · rfl
  · rw [hf l h1]
    have : anyL l (fun k => laM N s m k && decide (fL N L k = fL N L' l)) = anyL l (fun k => laM N s m k && decide (fL N L' k = fL N L' l)) := anyL_cg (fun i _ => by
      cases h2 : laM N s m i
      · rfl
      · rw [hf i h2])
    rw [this]
theorem frM_of {m : Nat} {L : Nat → Nat} (hW : nWF N) (h : faiL N L) : frM N s m L = true := allL_iff.mpr (fun l _ => by
  show frG N s m L l = true
  unfold frG
  cases e : laM N s m l
  · rfl
  · have he := (laM_ends hW e).1
    have : anyL l (fun k => laM N s m k && decide (fL N L k = fL N L l)) = false := by
      cases z : anyL l (fun k => laM N s m k && decide (fL N L k = fL N L l))
      · rfl
      · obtain ⟨i, hi, hz⟩ := anyL_iff.mp z
        rw [Bool.and_eq_true, decide_eq_true_eq] at hz
        exact absurd hz.2 (h.2 i l (by omega) (laM_ends hW hz.1).1 he)
    rw [this, decide_eq_true (h.1 l he)]
    rfl)
theorem frM_all {L : Nat → Nat} (hW : nWF N) (h : frM N s (cM s) L = true) : faiL N L := by
  have la : ∀ l, nP N l = true → laM N s (cM s) l = true := fun l hl => by
    have hw := hW.2.2.1 l (nP_lt hW hl)
    have one : ∀ g, g < 7 → (!s.testBit g || decide (rM s g < cM s)) = true := fun g hg => by
      cases z : s.testBit g
      · rfl
      · rw [decide_eq_true (rM_lt hg z)]
        rfl
    unfold laM
    rw [hl, one _ hw.1, one _ hw.2.1]
    rfl
  have l10 : ∀ l, nP N l = true → l < 10 := fun l hl => Nat.lt_of_lt_of_le (nP_lt hW hl) hW.1
  have un : ∀ i l, i < l → nP N i = true → nP N l = true → fL N L i ≠ fL N L l := fun i l hil hi hl e => by
    have h1 : frG N s (cM s) L l = true := allL_iff.mp h l (l10 l hl)
    unfold frG at h1
    rw [la l hl, Bool.not_true, Bool.false_or, Bool.and_eq_true, Bool.not_eq_true'] at h1
    have := h1.2
    rw [anyL_iff.mpr ⟨i, hil, by rw [la i hi, decide_eq_true e]; rfl⟩] at this
    cases this
  refine ⟨fun l hl => ?_, fun l l' hne hl hl' => ?_⟩
  · have h1 : frG N s (cM s) L l = true := allL_iff.mp h l (l10 l hl)
    unfold frG at h1
    rw [la l hl, Bool.not_true, Bool.false_or, Bool.and_eq_true, decide_eq_true_eq] at h1
    exact h1.1
  · rcases Nat.lt_or_gt_of_ne hne with y | y
    · exact un l l' y hl hl'
    · exact fun e => un l' l y hl' hl e.symm
end MN2
