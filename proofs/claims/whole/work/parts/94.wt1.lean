/-! weights of open lines by the reference: its small methods -/
def asR (N : z_N) (k : Nat) : Nat → Bool := fun l => nP N l && decide (oR N l < k)
def OLn (v : z_V) (N : z_N) : Prop := gI v 11 0 34 = nI (oM N) ∧ ∀ p, p < oM N → gI v 1233 0 p = nI (oK N p)
/-- weights of the first so many, the others 0 -/
def LBW (v : z_V) (N : z_N) (W : Nat → Nat) (k : Nat) : Prop := ∀ l, l < nN N → gI v 1232 0 l = nI (if asR N k l = true then W l else 0)
def fOl : Nat → Nat → Prop := fun t k => t = 1232 ∨ t = 1233 ∨ (t = 11 ∧ k = 34)
def fWt : Nat → Nat → Prop := fun t k => t = 1232 ∨ t = 1233 ∨ (t = 11 ∧ (k = 34 ∨ k = 35)) ∨ fWh t k
/-- all lines of a halt with any have weights -/
def dnB (N : z_N) (A : Nat → Bool) (h : Nat) : Bool := nW N h && !anyL 10 (fun l => (nP N l && !A l) && nOn N l h)
def wdB (N : z_N) (W : Nat → Nat) (m : Nat) : Bool := !anyL m (fun p => decide (W (oK N p) = W (oK N m)))
def suA (N : z_N) (K : Nat) (W : Nat → Nat) (m h : Nat) : Bool := !nOn N (oK N m) h || (decide (wAt N (asR N (m + 1)) W h ≤ K) && (!dnB N (asR N (m + 1)) h || decide (K ≤ wAt N (asR N (m + 1)) W h)))
def suU (N : z_N) (W : Nat → Nat) (m h : Nat) : Bool := !nOn N (oK N m) h || (!dnB N (asR N (m + 1)) h || allL 7 (fun g => decide (g = h) || (!dnB N (asR N (m + 1)) g || decide (wAt N (asR N (m + 1)) W g ≠ wAt N (asR N (m + 1)) W h))))
def suB (N : z_N) (al : Bool) (K : Nat) (W : Nat → Nat) (m : Nat) : Bool := allL 7 (fun h => if al = true then suA N K W m h else suU N W m h)
section WT1
variable {d : Nat} {v : z_V} {N : z_N} {nu : Nat → Nat} {W : Nat → Nat}
theorem asR_iff {k l : Nat} : asR N k l = true ↔ nP N l = true ∧ oR N l < k := by
  unfold asR
  rw [Bool.and_eq_true, decide_eq_true_eq]
theorem MS.wt {u : z_V} (hM : MS v N nu) (f : Fr fWt v u) : MS u N nu := hM.fr f (fun k z => by unfold fWt fWh at z; omega)
theorem MS.ol {u : z_V} (hM : MS v N nu) (f : Fr fOl v u) : MS u N nu := hM.fr f (fun k z => by unfold fOl at z; omega)
theorem s_layOpened (hM : MS v N nu) : ZV (d + 3) m_X11_layOpened [vR 11 0] v (fun u => OLn u N ∧ (∀ W, LBW u N W 0) ∧ Fr fOl v u) := fun Q k => E_X11_layOpened (B_X11_layOpened_0 (by
  have hn := hM.1.1
  have key : ∀ l, l ≤ nN N → ∀ u : z_V, Fr fOl v u → gI u 11 0 34 = nI (oR N l) → (∀ i, i < l → nP N i = true → gI u 1233 0 (oR N i) = nI i) → (∀ i, i < l → gI u 1232 0 i = 0) → z_Wp (z_C (d + 2)) 0 k_X11_layOpened Q 7 [some (vR 11 0), some (vI (nI l))] [] u := by
    refine z_up (nN N) (fun u f h1 h2 h3 => ?_) (fun l hl ih u f h1 h2 h3 => ?_)
    · have em : oR N (nN N) = oM N := by
        have : ∀ j, nN N + j ≤ 10 → cntL (nN N + j) (nP N) = cntL (nN N) (nP N) := by
          intro j
          induction j with
          | zero => exact fun _ => rfl
          | succ j ih =>
            intro hj
            show cntL (nN N + j) (nP N) + (if nP N (nN N + j) = true then 1 else 0) = _
            rw [ih (by omega), nP_hi hM.1 (by omega)]
            rfl
        have t := this (10 - nN N) (by omega)
        rw [show nN N + (10 - nN N) = 10 by omega] at t
        exact t.symm
      refine B_X11_layOpened_7 (pk_le (nN N) (nN N) (fun _ => k _ ⟨⟨by rw [h1, em], fun p hp => ?_⟩, fun W l hl => ?_, f⟩) (fun q => absurd q (by omega)) (hM.ol f).2.1)
      · have hk := oK_ok hp
        have := h2 _ (nP_lt hM.1 hk.2.1) hk.2.1
        rw [hk.2.2] at this
        exact this
      · rw [h3 l hl]
        have : asR N 0 l = false := by
          unfold asR
          rw [decide_eq_false (by omega), Bool.and_false]
        rw [this]
        rfl
    · have hr : oR N l ≤ l := cntL_le l _
      refine B_X11_layOpened_7 (pk_le (nN N) l (fun q => absurd q (by omega)) (fun _ => z_ii l rfl (by omega) ?_) (hM.ol f).2.1)
      rw [n_nI (by omega), nI_1]
      have f0 : Fr fOl v (pI u 1232 0 l 0) := f.pI (Or.inl rfl)
      have row : ∀ i, i < l + 1 → gI (pI u 1232 0 l 0) 1232 0 i = 0 := fun i hi => by
        by_cases z : i = l
        · subst z
          rw [gI_pI_s]
        · rw [gI_pI_k z]
          exact h3 i (by omega)
      have e34 : gI (pI u 1232 0 l 0) 11 0 34 = nI (oR N l) := by rw [gI_pI_t (by decide)]; exact h1
      refine cP (s_isOpen (hM.ol f0) (by omega)) (br_n (fun e => ?_) (fun e => ?_))
      · refine z_ii (oR N l) e34 (by omega) ?_
        rw [e34, n_nI (by omega), nI_1]
        refine ih _ ((f0.pI (Or.inr (Or.inl rfl))).pI (Or.inr (Or.inr ⟨rfl, rfl⟩))) ?_ (fun i hi hpi => ?_) (fun i hi => ?_)
        · rw [gI_pI_s]
          show nI (oR N l + 1) = nI (cntL l (nP N) + (if nP N l = true then 1 else 0))
          rw [if_pos e]
          rfl
        · rw [gI_pI_t (by decide)]
          by_cases z : i = l
          · subst z
            rw [gI_pI_s]
          · have := cntL_lt2 (show i < l by omega) hpi
            rw [gI_pI_k (show oR N i ≠ oR N l by unfold oR; omega), gI_pI_t (by decide)]
            exact h2 i (by omega) hpi
        · rw [gI_pI_t (by decide), gI_pI_t (by decide)]
          exact row i hi
      · refine ih _ f0 ?_ (fun i hi hpi => ?_) row
        · rw [e34]
          show nI (oR N l) = nI (cntL l (nP N) + (if nP N l = true then 1 else 0))
          rw [e]
          rfl
        · rw [gI_pI_t (by decide)]
          by_cases z : i = l
          · subst z
            rw [e] at hpi
            cases hpi
          · exact h2 i (by omega) hpi
  exact key 0 (by omega) _ (Fr.rfl.pI (Or.inr (Or.inr ⟨rfl, rfl⟩))) gI_pI_s (fun i hi => absurd hi (by omega)) (fun i hi => absurd hi (by omega))))
theorem wA_le {A : Nat → Bool} {h : Nat} (hb : ∀ l, l < 10 → A l = true → W l ≤ 10) : wAt N A W h ≤ 100 := sm_le (n := 10) (c := 10) (fun l hl => by
  cases z : A l
  · rw [Bool.false_and, if_neg (by decide)]
    omega
  · have := hb l hl z
    split <;> omega)
theorem s_weightAt {h k : Nat} (hM : MS v N nu) (hL : LBW v N W k) (hh : h < 7) : ZP (d + 3) m_X11_weightAt [vR 11 0, vI (nI h)] v (nI (wAt N (asR N k) W h)) := fun Q c => E_X11_weightAt (B_X11_weightAt_0 (by
  have hn := hM.1.1
  have sm10 : ∀ j, nN N + j ≤ 10 → sm (nN N + j) (fun l => if (asR N k l && nOn N l h) = true then W l else 0) = sm (nN N) (fun l => if (asR N k l && nOn N l h) = true then W l else 0) := by
    intro j
    induction j with
    | zero => exact fun _ => rfl
    | succ j ih =>
      intro hj
      show sm (nN N + j) (fun l => if (asR N k l && nOn N l h) = true then W l else 0) + (if (asR N k (nN N + j) && nOn N (nN N + j) h) = true then W (nN N + j) else 0) = _
      rw [ih (by omega)]
      have : asR N k (nN N + j) = false := by
        unfold asR
        rw [nP_hi hM.1 (by omega)]
        rfl
      rw [this]
      rfl
  have em : sm (nN N) (fun l => if (asR N k l && nOn N l h) = true then W l else 0) = wAt N (asR N k) W h := by
    have t := sm10 (10 - nN N) (by omega)
    rw [show nN N + (10 - nN N) = 10 by omega] at t
    exact t.symm
  refine z_up0 (P := fun l => z_Wp (z_C (d + 2)) 1 k_X11_weightAt Q 4 [some (vR 11 0), some (vI (nI h)), some (vI (nI (sm l (fun l => if (asR N k l && nOn N l h) = true then W l else 0)))), some (vI (nI l))] [] v) (nN N) ?_ ?_
  · refine B_X11_weightAt_4 (pk_le (nN N) (nN N) (fun _ => ?_) (fun q => absurd q (by omega)) hM.2.1)
    rw [em]
    exact c
  · intro l hl ih
    refine B_X11_weightAt_4 (pk_le (nN N) l (fun q => absurd q (by omega)) (fun _ => ?_) hM.2.1)
    have z0 : ∀ b : Bool, b = false → sm l (fun l => if (asR N k l && nOn N l h) = true then W l else 0) + (if b = true then W l else 0) = sm l (fun l => if (asR N k l && nOn N l h) = true then W l else 0) := fun b e => by
      rw [e]
      rfl
    have st : sm (l + 1) (fun l => if (asR N k l && nOn N l h) = true then W l else 0) = sm l (fun l => if (asR N k l && nOn N l h) = true then W l else 0) + (if (asR N k l && nOn N l h) = true then W l else 0) := rfl
    have no : (asR N k l && nOn N l h) = false → z_Wp (z_C (d + 2)) 1 k_X11_weightAt Q 4 [some (vR 11 0), some (vI (nI h)), some (vI (nI (sm l (fun l => if (asR N k l && nOn N l h) = true then W l else 0)) + 0)), some (vI (nI l + 1))] [] v := fun e => by
      rw [nI_1, show nI (sm l (fun l => if (asR N k l && nOn N l h) = true then W l else 0)) + 0 = nI (sm l (fun l => if (asR N k l && nOn N l h) = true then W l else 0)) from Int32.add_zero _]
      rw [st, z0 _ e] at ih
      exact ih
    refine cP (s_isOpen hM (by omega)) (br_z (fun e => no (by unfold asR; rw [e]; rfl)) (fun e => ?_))
    refine cP (s_isOn hM hl (by omega)) (br_z (fun e2 => no (by rw [e2, Bool.and_false])) (fun e2 => z_ii l rfl (by omega) ?_))
    rw [n_nI (by omega), hL l hl, nI_1, nI_add]
    rw [st, e2, Bool.and_true] at ih
    exact ih))
theorem s_isDone {h k : Nat} (hM : MS v N nu) (hO : OLn v N) (hh : h < 7) (hk : k ≤ oM N) : ZP (d + 4) m_X11_isDone [vR 11 0, vI (nI h), vI (nI k)] v (bI (dnB N (asR N k) h)) := fun Q c => E_X11_isDone (B_X11_isDone_0 (by
  have hm := oM_le (N := N)
  have key : ∀ p, p ≤ oM N → k ≤ p → (∀ i, k ≤ i → i < p → nOn N (oK N i) h = false) → ∀ u2, z_Wp (z_C (d + 3)) 4 k_X11_isDone Q 2 [some (vR 11 0), some (vI (nI h)), u2, some (vI (nI p))] [] v := by
    refine z_up (oM N) (fun _ hno u2 => ?_) (fun p hp ih hkp hno u2 => ?_)
    · refine B_X11_isDone_2 (pk_le (oM N) (oM N) (fun _ => ?_) (fun q => absurd q (by omega)) hO.1)
      have ea : anyL 10 (fun l => (nP N l && !asR N k l) && nOn N l h) = false := by
        cases z : anyL 10 (fun l => (nP N l && !asR N k l) && nOn N l h)
        · rfl
        · obtain ⟨l, hl, hz⟩ := anyL_iff.mp z
          simp only [Bool.and_eq_true, Bool.not_eq_true'] at hz
          have hr := oR_lt hl hz.1.1
          have hlt : ¬ oR N l < k := fun y => by
            rw [asR_iff.mpr ⟨hz.1.1, y⟩] at hz
            cases hz.1.2
          have := hno (oR N l) (by omega) hr
          rw [oK_rk hl hz.1.1, hz.2] at this
          cases this
      unfold dnB at c
      rw [ea, Bool.not_false, Bool.and_true, nW_bs] at c
      have hb := bs_lt 7 (nAdj N h)
      refine cP (s_besideOf (d := d) hM hh) (pk_eq (bs 7 (nAdj N h)) 0 (fun e => ?_) (fun e => ?_))
      · rw [decide_eq_false (fun z => z e)] at c
        exact c
      · rw [decide_eq_true e] at c
        exact c
    · have hw := oK_ok (N := N) hp
      refine B_X11_isDone_2 (pk_le (oM N) p (fun q => absurd q (by omega)) (fun _ => z_ii p rfl (by omega) ?_) hO.1)
      rw [n_nI (by omega), hO.2 p hp, nI_1]
      refine cP (s_isOn hM (nP_lt hM.1 hw.2.1) (by omega)) (br_z (fun e => ih (by omega) (fun i h1 h2 => ?_) _) (fun e => ?_))
      · by_cases z : i = p
        · subst z
          exact e
        · exact hno i h1 (by omega)
      · have ea : anyL 10 (fun l => (nP N l && !asR N k l) && nOn N l h) = true := anyL_iff.mpr ⟨oK N p, hw.1, by
          have : asR N k (oK N p) = false := by
            unfold asR
            rw [hw.2.2, decide_eq_false (by omega), Bool.and_false]
          rw [hw.2.1, this, e]
          rfl⟩
        unfold dnB at c
        rw [ea, Bool.not_true, Bool.and_false] at c
        exact c
  exact key k hk (Nat.le_refl _) (fun i h1 h2 => absurd h1 (by omega)) _))
theorem s_isWeighed {m : Nat} (hM : MS v N nu) (hO : OLn v N) (hL : LBW v N W (m + 1)) (hm : m < oM N) (hb : ∀ p, p ≤ m → W (oK N p) ≤ 10) : ZP (d + 1) m_X11_isWeighed [vR 11 0, vI (nI (m + 1))] v (bI (wdB N W m)) := fun Q c => E_X11_isWeighed (B_X11_isWeighed_0 (by
  have hm10 := oM_le (N := N)
  have lab : ∀ p, p ≤ m → gI v 1232 0 (oK N p) = nI (W (oK N p)) := fun p hp => by
    have h1 := oK_ok (N := N) (show p < oM N by omega)
    rw [hL _ (nP_lt hM.1 h1.2.1), if_pos (asR_iff.mpr ⟨h1.2.1, by omega⟩)]
  have hwm := oK_ok hm
  refine z_up0 (P := fun p => (∀ i, i < p → W (oK N i) ≠ W (oK N m)) → z_Wp (z_C d) 4 k_X11_isWeighed Q 2 [some (vR 11 0), some (vI (nI (m + 1))), some (vI (nI p))] [] v) m ?_ ?_ (fun i h => absurd h (by omega))
  · intro hall
    refine B_X11_isWeighed_2 ?_
    rw [nI_pred]
    refine pk_le m m (fun _ => ?_) (fun q => absurd q (by omega))
    have : anyL m (fun p => decide (W (oK N p) = W (oK N m))) = false := by
      cases z : anyL m (fun p => decide (W (oK N p) = W (oK N m)))
      · rfl
      · obtain ⟨i, hi, hz⟩ := anyL_iff.mp z
        rw [decide_eq_true_eq] at hz
        exact absurd hz (hall i hi)
    unfold wdB at c
    rw [this] at c
    exact c
  · intro p hp ih hall
    have hwp := oK_ok (N := N) (show p < oM N by omega)
    have b1 := hb p (by omega)
    have b2 := hb m (Nat.le_refl _)
    refine B_X11_isWeighed_2 ?_
    rw [nI_pred]
    refine pk_le m p (fun q => absurd q (by omega)) (fun _ => ?_)
    rw [n_nI (n := p) (by omega), n_nI (n := m) (by omega), hO.2 p (by omega), hO.2 m hm, n_nI (n := oK N p) (by omega), n_nI (n := oK N m) (by omega), lab p (by omega), lab m (Nat.le_refl _), nI_1]
    refine z_ii p rfl (by omega) (z_ii _ rfl hwp.1 (z_ii m rfl (by omega) (z_ii _ rfl hwm.1 ?_)))
    refine pk_ne (W (oK N p)) (W (oK N m)) (fun e => ih (fun i hi => ?_)) (fun e => ?_)
    · by_cases z : i = p
      · subst z
        exact e
      · exact hall i (by omega)
    · unfold wdB at c
      rw [anyL_iff.mpr ⟨p, hp, decide_eq_true e⟩] at c
      exact c))
theorem s_areSums {al : Bool} {K m : Nat} (hM : MS v N nu) (hO : OLn v N) (hL : LBW v N W (m + 1)) (hm : m < oM N) (hb : ∀ p, p ≤ m → W (oK N p) ≤ 10) (hK : al = true → gI v 11 0 35 = nI K) (hK2 : K ≤ 110) : ZP (d + 5) m_X11_areSums [vR 11 0, vI (bI al), vI (nI (m + 1))] v (bI (suB N al K W m)) := fun Q c => E_X11_areSums (B_X11_areSums_0 (by
  have hm10 := oM_le (N := N)
  have hwm := oK_ok hm
  have bd : ∀ h, wAt N (asR N (m + 1)) W h ≤ 100 := fun h => wA_le (fun l hl z => by
    have z := asR_iff.mp z
    have := hb (oR N l) (by omega)
    rw [oK_rk hl z.1] at this
    exact this)
  have bad : ∀ h, h < 7 → (if al = true then suA N K W m h else suU N W m h) = false → Q v (some (vI 0)) := fun h hh e => by
    have : suB N al K W m = false := allL_f hh e
    rw [this] at c
    exact c
  refine z_up0 (P := fun h => (∀ i, i < h → (if al = true then suA N K W m i else suU N W m i) = true) → ∀ u4, z_Wp (z_C (d + 4)) 4 k_X11_areSums Q 2 [some (vR 11 0), some (vI (bI al)), some (vI (nI (m + 1))), some (vI (nI h)), u4] [] v) 7 ?_ ?_ (fun i h => absurd h (by omega)) none
  · intro hall u4
    have : suB N al K W m = true := allL_iff.mpr hall
    rw [this] at c
    exact B_X11_areSums_2 (pk_le 7 7 (fun _ => c) (fun q => absurd q (by omega)))
  · intro h hh ih hall u4
    refine B_X11_areSums_2 (pk_le 7 h (fun q => absurd q (by omega)) (fun _ => ?_))
    rw [nI_pred, n_nI (by omega), hO.2 m hm, nI_1]
    have next : (if al = true then suA N K W m h else suU N W m h) = true → ∀ u4, z_Wp (z_C (d + 4)) 4 k_X11_areSums Q 2 [some (vR 11 0), some (vI (bI al)), some (vI (nI (m + 1))), some (vI (nI (h + 1))), u4] [] v := fun e u4 => ih (fun i hi => by
      by_cases z : i = h
      · subst z
        exact e
      · exact hall i (by omega)) u4
    refine z_ii m rfl (by omega) (cP (s_isOn hM (nP_lt hM.1 hwm.2.1) (by omega)) (br_n (fun e => ?_) (fun e => next (by
      unfold suA suU
      rw [e]
      cases al <;> rfl) _)))
    have in69 : (al = true → suA N K W m h = true) → z_Wp (z_C (d + 4)) 4 k_X11_areSums Q 69 [some (vR 11 0), some (vI (bI al)), some (vI (nI (m + 1))), some (vI (nI h)), some (vI 0)] [] v := by
      intro hal
      refine z_up0 (P := fun g => (al = false → dnB N (asR N (m + 1)) h = true → ∀ i, i < g → (decide (i = h) || (!dnB N (asR N (m + 1)) i || decide (wAt N (asR N (m + 1)) W i ≠ wAt N (asR N (m + 1)) W h))) = true) → z_Wp (z_C (d + 4)) 4 k_X11_areSums Q 69 [some (vR 11 0), some (vI (bI al)), some (vI (nI (m + 1))), some (vI (nI h)), some (vI (nI g))] [] v) 7 ?_ ?_ (fun _ _ i h => absurd h (by omega))
      · intro hg
        refine B_X11_areSums_69 (pk_le 7 7 (fun _ => ?_) (fun q => absurd q (by omega)))
        rw [nI_1]
        refine next ?_ _
        cases ea : al
        · rw [if_neg (by decide)]
          unfold suU
          rw [e]
          cases ed : dnB N (asR N (m + 1)) h
          · rfl
          · rw [allL_iff.mpr (hg ea ed)]
            rfl
        · rw [if_pos rfl]
          exact hal ea
      · intro g hg7 ihg hg
        refine B_X11_areSums_69 (pk_le 7 g (fun q => absurd q (by omega)) (fun _ => ?_))
        rw [nI_1, nI_1]
        have nx : (al = false → dnB N (asR N (m + 1)) h = true → (decide (g = h) || (!dnB N (asR N (m + 1)) g || decide (wAt N (asR N (m + 1)) W g ≠ wAt N (asR N (m + 1)) W h))) = true) → z_Wp (z_C (d + 4)) 4 k_X11_areSums Q 69 [some (vR 11 0), some (vI (bI al)), some (vI (nI (m + 1))), some (vI (nI h)), some (vI (nI (g + 1)))] [] v := fun y => ihg (fun e1 e2 i hi => by
          by_cases z : i = g
          · subst z
            exact y e1 e2
          · exact hg e1 e2 i (by omega))
        refine br_n (fun ea => next ?_ _) (fun ea => ?_)
        · rw [if_pos ea]
          exact hal ea
        · refine cP (s_isDone (d := d) hM hO hh (by omega)) (br_z (fun ed => next ?_ _) (fun ed => ?_))
          · rw [ea, if_neg (by decide)]
            unfold suU
            rw [e, ed]
            rfl
          · refine pk_eq g h (fun z => nx (fun _ _ => by rw [decide_eq_true z]; rfl)) (fun z => ?_)
            refine cP (s_isDone (d := d) hM hO hg7 (by omega)) (br_z (fun eg => nx (fun _ _ => by rw [eg, Bool.not_false, Bool.true_or, Bool.or_true])) (fun eg => ?_))
            have b1 := bd g
            have b2 := bd h
            refine cP (s_weightAt (d := d + 1) hM hL hg7) (cP (s_weightAt (d := d + 1) hM hL hh) ?_)
            refine pk_ne (wAt N (asR N (m + 1)) W g) (wAt N (asR N (m + 1)) W h) (fun ne => nx (fun _ _ => by rw [decide_eq_true ne, Bool.or_true, Bool.or_true])) (fun eq => bad h hh ?_)
            rw [ea, if_neg (by decide)]
            unfold suU
            rw [e, ed, allL_f hg7 (show (decide (g = h) || (!dnB N (asR N (m + 1)) g || decide (wAt N (asR N (m + 1)) W g ≠ wAt N (asR N (m + 1)) W h))) = false by
              rw [decide_eq_false z, eg, decide_eq_false (fun y => y eq)]
              rfl)]
            rfl
    refine br_z (fun ea => in69 (fun z => by rw [ea] at z; cases z)) (fun ea => ?_)
    have hK' := hK ea
    have b2 := bd h
    refine cP (s_weightAt (d := d + 1) hM hL hh) (pk_lt K (wAt N (asR N (m + 1)) W h) (fun z => bad h hh ?_) (fun z => ?_) hK' rfl)
    · rw [if_pos ea]
      unfold suA
      rw [e, decide_eq_false (by omega)]
      rfl
    · refine cP (s_isDone (d := d) hM hO hh (by omega)) (br_z (fun ed => in69 (fun _ => ?_)) (fun ed => ?_))
      · unfold suA
        rw [e, ed, decide_eq_true z]
        rfl
      · refine cP (s_weightAt (d := d + 1) hM hL hh) (pk_le K (wAt N (asR N (m + 1)) W h) (fun z2 => in69 (fun _ => ?_)) (fun z2 => bad h hh ?_) hK' rfl)
        · unfold suA
          rw [e, ed, decide_eq_true z, decide_eq_true z2]
          rfl
        · rw [if_pos ea]
          unfold suA
          rw [e, ed, decide_eq_true z, decide_eq_false (by omega)]
          rfl))
end WT1
