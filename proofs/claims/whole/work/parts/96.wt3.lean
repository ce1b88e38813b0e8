/-! weights of open lines by the reference: the plain sense, its answers -/
def KS (N : z_N) : Nat := oM N * (oM N + 1) / nM N
def alC (N : z_N) : Nat := if oM N = 0 then 1 else if oM N * (oM N + 1) % nM N = 0 then ctV 1 (oM N) (PbC N true (KS N)) (vLs (oK N) 0 (oM N)) (fun _ => 0) else 0
def alA (N : z_N) (a r : Int32) : Prop := (a ≠ -1 ∧ (∀ l, l < 10 → nP N l = true → a ≠ nI l) ∧ r = -1) ∨ ((a = -1 ∨ ∃ l, l < 10 ∧ nP N l = true ∧ a = nI l) ∧ ((oM N = 0 ∧ r = 0) ∨ (0 < oM N ∧ (oM N * (oM N + 1) % nM N ≠ 0 ∨ ∀ W, ¬ alkP N (KS N) W) ∧ r = -1) ∨ (0 < oM N ∧ oM N * (oM N + 1) % nM N = 0 ∧ ∃ W, isLG N (alkP N (KS N)) W ∧ ((a = -1 ∧ r = nI (KS N)) ∨ ∃ l, l < 10 ∧ nP N l = true ∧ a = nI l ∧ r = nI (W l)))))
def ulA (N : z_N) (a r : Int32) : Prop := ((∀ l, l < 10 → nP N l = true → a ≠ nI l) ∧ r = -1) ∨ ∃ l, l < 10 ∧ nP N l = true ∧ a = nI l ∧ (((∀ W, ¬ ulkP N W) ∧ r = -1) ∨ ∃ W, isLG N (ulkP N) W ∧ r = nI (W l))
section WT3
variable {d : Nat} {v : z_V} {N : z_N} {nu : Nat → Nat} {W W' : Nat → Nat} {al b : Bool} {K : Nat}
theorem nI_u {l l' : Nat} (hl : l < 10) (hl' : l' < 10) (e : nI l = nI l') : l = l' := (nI_eq (by omega) (by omega)).mp e
theorem alA.u {a r r' : Int32} (h : alA N a r) (h' : alA N a r') : r = r' := by
  have nm : ∀ {l}, l < 10 → nI l ≠ -1 := fun hl => nI_nm1 (by omega)
  rcases h with ⟨h1, h2, h3⟩ | ⟨ha, h⟩
  · rcases h' with ⟨_, _, k3⟩ | ⟨hb, _⟩
    · rw [h3, k3]
    · rcases hb with z | ⟨l, b1, b2, b3⟩
      · exact absurd z h1
      · exact absurd b3 (h2 l b1 b2)
  · rcases h' with ⟨k1, k2, k3⟩ | ⟨_, h'⟩
    · rcases ha with z | ⟨l, b1, b2, b3⟩
      · exact absurd z k1
      · exact absurd b3 (k2 l b1 b2)
    · rcases h with ⟨h0, h1⟩ | ⟨h0, h1, h2⟩ | ⟨h0, h1, W, h2, h3⟩ <;> rcases h' with ⟨k0, k1⟩ | ⟨k0, k1, k2⟩ | ⟨k0, k1, W', k2, k3⟩
      · rw [h1, k1]
      · omega
      · omega
      · omega
      · rw [h2, k2]
      · rcases h1 with z | z
        · exact absurd k1 z
        · exact absurd k2.1 (z W')
      · omega
      · rcases k1 with z | z
        · exact absurd h1 z
        · exact absurd h2.1 (z W)
      · have eq := h2.u k2
        rcases h3 with ⟨a1, a2⟩ | ⟨l, a1, a2, a3, a4⟩ <;> rcases k3 with ⟨b1, b2⟩ | ⟨l', b1, b2, b3, b4⟩
        · rw [a2, b2]
        · exact absurd (b3.symm.trans a1) (nm b1)
        · exact absurd (a3.symm.trans b1) (nm a1)
        · obtain rfl := nI_u a1 b1 (a3.symm.trans b3)
          rw [a4, b4, eq l a1 a2]
theorem ulA.u {a r r' : Int32} (h : ulA N a r) (h' : ulA N a r') : r = r' := by
  rcases h with ⟨h1, h2⟩ | ⟨l, h0, h1, h2, h3⟩ <;> rcases h' with ⟨k1, k2⟩ | ⟨l', k0, k1, k2, k3⟩
  · rw [h2, k2]
  · exact absurd k2 (h1 l' k0 k1)
  · exact absurd h2 (k1 l h0 h1)
  · obtain rfl := nI_u h0 k0 (h2.symm.trans k2)
    rcases h3 with ⟨a1, a2⟩ | ⟨W, a1, a2⟩ <;> rcases k3 with ⟨b1, b2⟩ | ⟨W', b1, b2⟩
    · rw [a2, b2]
    · exact absurd b1.1 (a1 W')
    · exact absurd a1.1 (b1 W)
    · rw [a2, b2, a1.u b1 l h0 h1]
theorem mxP {P : Nat → Bool} : ∀ {n : Nat}, (∃ k, k < n ∧ P k = true) → ∃ k, k < n ∧ P k = true ∧ ∀ j, k < j → j < n → P j = false
  | 0, h => by
    obtain ⟨k, h, _⟩ := h
    exact absurd h (Nat.not_lt_zero _)
  | n + 1, h => by
    cases e : P n
    · obtain ⟨k, h1, h2⟩ := h
      have : k < n := by
        rcases Nat.lt_succ_iff_lt_or_eq.mp h1 with z | z
        · exact z
        · rw [z, e] at h2
          cases h2
      obtain ⟨m, g1, g2, g3⟩ := mxP (n := n) ⟨k, this, h2⟩
      refine ⟨m, by omega, g2, fun j h1 h2 => ?_⟩
      rcases Nat.lt_succ_iff_lt_or_eq.mp h2 with z | z
      · exact g3 j h1 z
      · rw [z]
        exact e
    · exact ⟨n, Nat.lt_succ_self n, e, fun j h1 h2 => by omega⟩
theorem sm_mono {f g : Nat → Nat} : ∀ {n : Nat}, (∀ i, i < n → f i ≤ g i) → sm n f ≤ sm n g
  | 0, _ => Nat.le_refl _
  | n + 1, h => by
    simp only [sm]
    have := sm_mono (n := n) (fun i hi => h i (by omega))
    have := h n (by omega)
    omega
theorem wA_mono {A A' : Nat → Bool} {h : Nat} (e : ∀ l, l < 10 → A l = true → A' l = true) : wAt N A W h ≤ wAt N A' W h := sm_mono (fun l hl => by
  cases z : A l
  · rw [Bool.false_and, if_neg (by decide)]
    exact Nat.zero_le _
  · rw [e l hl z]
    exact Nat.le_refl _)
theorem asR_nP {k : Nat} : ∀ l, l < 10 → asR N k l = true → nP N l = true := fun l _ z => (asR_iff.mp z).1
theorem dn_wA {k h : Nat} (hd : dnB N (asR N k) h = true) : wAt N (asR N k) W h = wAt N (nP N) W h := sm_cg (fun l hl => by
  unfold dnB at hd
  rw [Bool.and_eq_true, Bool.not_eq_true'] at hd
  cases e : nP N l
  · have : asR N k l = false := by
      unfold asR
      rw [e]
      rfl
    rw [this]
  · cases e2 : nOn N l h
    · rw [Bool.and_false, Bool.and_false]
    · cases e3 : asR N k l
      · have := hd.2
        rw [anyL_iff.mpr ⟨l, hl, by rw [e, e2, e3]; rfl⟩] at this
        cases this
      · rfl)
theorem nW_ln {h : Nat} (hW : nWF N) (hh : h < 7) (hw : nW N h = true) : ∃ l, l < 10 ∧ nP N l = true ∧ nOn N l h = true := by
  obtain ⟨g, hg, hA⟩ := anyL_iff.mp hw
  obtain ⟨l, hl, hp, he⟩ := nAdj_iff.mp hA
  have := hW.1
  refine ⟨l, by omega, hp, nOn_iff.mpr ?_⟩
  rcases nEd_iff.mp he with z | z
  · exact Or.inl z.1
  · exact Or.inr z.1
theorem ln_nW {h l : Nat} (hW : nWF N) (hp : nP N l = true) (ho : nOn N l h = true) : nW N h = true ∧ h < 7 := by
  have hw := hW.2.2.1 l (nP_lt hW hp)
  have he := nW_ends hW hp
  rcases nOn_iff.mp ho with z | z
  · rw [← z]
    exact ⟨he.1, hw.1⟩
  · rw [← z]
    exact ⟨he.2, hw.2.1⟩
/-- the last line of a halt -/
theorem lastL {h : Nat} (hW : nWF N) (hh : h < 7) (hw : nW N h = true) : ∃ m, m < oM N ∧ nOn N (oK N m) h = true ∧ ∀ m', m ≤ m' → dnB N (asR N (m' + 1)) h = true := by
  obtain ⟨l, h1, h2, h3⟩ := nW_ln hW hh hw
  obtain ⟨m, g1, g2, g3⟩ := mxP (P := fun k => nOn N (oK N k) h) (n := oM N) ⟨oR N l, oR_lt h1 h2, by show nOn N (oK N (oR N l)) h = true; rw [oK_rk h1 h2]; exact h3⟩
  refine ⟨m, g1, g2, fun m' hm' => ?_⟩
  have : anyL 10 (fun l => (nP N l && !asR N (m' + 1) l) && nOn N l h) = false := by
    cases z : anyL 10 (fun l => (nP N l && !asR N (m' + 1) l) && nOn N l h)
    · rfl
    · obtain ⟨i, hi, hz⟩ := anyL_iff.mp z
      simp only [Bool.and_eq_true, Bool.not_eq_true'] at hz
      have hlt : ¬ oR N i < m' + 1 := fun y => by
        rw [asR_iff.mpr ⟨hz.1.1, y⟩] at hz
        cases hz.1.2
      have := g3 (oR N i) (by omega) (oR_lt hi hz.1.1)
      have t : nOn N (oK N (oR N i)) h = false := this
      rw [oK_rk hi hz.1.1, hz.2] at t
      cases t
  unfold dnB
  rw [hw, this]
  rfl
theorem rowP_C (h : ∀ k, k < oM N → wdB N W k = true ∧ 1 ≤ W (oK N k) ∧ W (oK N k) ≤ oM N) : rowP N W := by
  refine ⟨fun l hl hp => ?_, fun l l' hll hl' hp hp' e => ?_⟩
  · have := (h _ (oR_lt hl hp)).2
    rw [oK_rk hl hp] at this
    exact this
  · have h1 := (h _ (oR_lt hl' hp')).1
    have hr : oR N l < oR N l' := cntL_lt2 hll hp
    unfold wdB at h1
    rw [Bool.not_eq_true'] at h1
    rw [anyL_iff.mpr ⟨oR N l, hr, by rw [oK_rk (by omega) hp, oK_rk hl' hp', decide_eq_true e]⟩] at h1
    cases h1
theorem C_rowP (h : rowP N W) {k : Nat} (hk : k < oM N) : wdB N W k = true := by
  have hw := oK_ok hk
  unfold wdB
  rw [Bool.not_eq_true']
  cases z : anyL k (fun p => decide (W (oK N p) = W (oK N k)))
  · rfl
  · obtain ⟨p, hp, hz⟩ := anyL_iff.mp z
    rw [decide_eq_true_eq] at hz
    have hwp := oK_ok (N := N) (k := p) (by omega)
    exact absurd hz (h.ne hwp.1 hw.1 hwp.2.1 hw.2.1 (oK_ne (by omega) hk (by omega)))
theorem sol_alk (hW : nWF N) : solW N true K W ↔ alkP N K W := by
  constructor
  · intro h
    have hc : ∀ k, k < oM N → wdB N W k = true ∧ suB N true K W k = true := fun k hk => by
      have := (h k hk).1
      unfold CW8 at this
      rw [Bool.and_eq_true] at this
      exact this
    refine ⟨rowP_C (fun k hk => ⟨(hc k hk).1, (h k hk).2⟩), fun g hg hw => ?_⟩
    obtain ⟨m, h1, h2, h3⟩ := lastL hW hg hw
    have hs := allL_iff.mp (hc m h1).2 g hg
    rw [if_pos rfl] at hs
    unfold suA at hs
    rw [h2, h3 m (Nat.le_refl _), Bool.not_true, Bool.false_or, Bool.false_or, Bool.and_eq_true, decide_eq_true_eq, decide_eq_true_eq, dn_wA (h3 m (Nat.le_refl _))] at hs
    omega
  · rintro ⟨h1, h2⟩ k hk
    have hw := oK_ok hk
    refine ⟨?_, h1.1 _ hw.1 hw.2.1⟩
    unfold CW8
    rw [C_rowP h1 hk, Bool.true_and]
    refine allL_iff.mpr (fun g hg => ?_)
    rw [if_pos rfl]
    unfold suA
    cases ho : nOn N (oK N k) g
    · rfl
    · have hg2 := ln_nW hW hw.2.1 ho
      have e := h2 g hg hg2.1
      have hm := wA_mono (N := N) (W := W) (h := g) (A := asR N (k + 1)) (A' := nP N) (asR_nP (N := N) (k := k + 1))
      rw [decide_eq_true (show wAt N (asR N (k + 1)) W g ≤ K by omega)]
      cases hd : dnB N (asR N (k + 1)) g
      · rfl
      · rw [dn_wA hd, decide_eq_true (show K ≤ wAt N (nP N) W g by omega)]
        rfl
theorem sol_ulk (hW : nWF N) : solW N false K W ↔ ulkP N W := by
  constructor
  · intro h
    have hc : ∀ k, k < oM N → wdB N W k = true ∧ suB N false K W k = true := fun k hk => by
      have := (h k hk).1
      unfold CW8 at this
      rw [Bool.and_eq_true] at this
      exact this
    have one : ∀ g g', g < 7 → g' < 7 → g ≠ g' → ∀ m m', m < oM N → nOn N (oK N m) g = true → m' ≤ m → (∀ i, m ≤ i → dnB N (asR N (i + 1)) g = true) → (∀ i, m' ≤ i → dnB N (asR N (i + 1)) g' = true) → wAt N (nP N) W g' ≠ wAt N (nP N) W g := fun g g' hg hg' hne m m' h1 h2 h3 h4 h5 e => by
      have hs := allL_iff.mp (hc m h1).2 g hg
      rw [if_neg (by decide)] at hs
      unfold suU at hs
      rw [h2, h4 m (Nat.le_refl _), Bool.not_true, Bool.false_or, Bool.false_or] at hs
      have := allL_iff.mp hs g' hg'
      rw [decide_eq_false (Ne.symm hne), h5 m h3, Bool.false_or, Bool.not_true, Bool.false_or, decide_eq_true_eq, dn_wA (h4 m (Nat.le_refl _)), dn_wA (h5 m h3)] at this
      exact this e
    refine ⟨rowP_C (fun k hk => ⟨(hc k hk).1, (h k hk).2⟩), fun g g' hg hg' hne hw hw' => ?_⟩
    obtain ⟨m, h1, h2, h3⟩ := lastL hW hg hw
    obtain ⟨m', k1, k2, k3⟩ := lastL hW hg' hw'
    rcases Nat.le_total m m' with z | z
    · exact one g' g hg' hg (Ne.symm hne) m' m k1 k2 z k3 h3
    · exact fun e => one g g' hg hg' hne m m' h1 h2 z h3 k3 e.symm
  · rintro ⟨h1, h2⟩ k hk
    have hw := oK_ok hk
    refine ⟨?_, h1.1 _ hw.1 hw.2.1⟩
    unfold CW8
    rw [C_rowP h1 hk, Bool.true_and]
    refine allL_iff.mpr (fun g hg => ?_)
    rw [if_neg (by decide)]
    unfold suU
    cases ho : nOn N (oK N k) g
    · rfl
    · cases hd : dnB N (asR N (k + 1)) g
      · rfl
      · have hg2 := ln_nW hW hw.2.1 ho
        rw [Bool.not_true, Bool.false_or, Bool.false_or]
        refine allL_iff.mpr (fun g' hg' => ?_)
        by_cases e : g' = g
        · rw [decide_eq_true e]
          rfl
        · cases hd' : dnB N (asR N (k + 1)) g'
          · rw [Bool.not_false, Bool.true_or, Bool.or_true]
          · have hw' : nW N g' = true := by
              unfold dnB at hd'
              rw [Bool.and_eq_true] at hd'
              exact hd'.1
            rw [dn_wA hd, dn_wA hd', decide_eq_true (h2 g' g hg' hg e hw' hg2.1), Bool.or_true, Bool.or_true]
theorem nbW_LG {P : (Nat → Nat) → Prop} (hP : ∀ W, solW N al K W ↔ P W) (h : solW N al K W) (hn : ∀ p, p < oM N → ∀ W2, solW N al K W2 → (∀ p', p' < p → W2 (oK N p') = W (oK N p')) → W (oK N p) ≤ W2 (oK N p)) : isLG N P W := by
  refine ⟨(hP W).mp h, fun W' h' l hl hp e => ?_⟩
  have := hn (oR N l) (oR_lt hl hp) W' ((hP W').mpr h') (fun p' hp' => ?_)
  · rw [oK_rk hl hp] at this
    exact this
  · have hr := oR_lt hl hp
    have h1 := oK_ok (N := N) (k := p') (by omega)
    have h2 := oK_lt (N := N) hr hp'
    rw [oK_rk hl hp] at h2
    exact e _ h2 h1.2.1
theorem OLn.fr {u : z_V} (h : OLn v N) (f : Fr fWh v u) : OLn u N := ⟨(f.i (by unfold fWh; omega)).trans h.1, fun p hp => (f.i (by unfold fWh; omega)).trans (h.2 p hp)⟩
theorem LBW.fr {u : z_V} {k : Nat} (h : LBW v N W k) (f : Fr fWh v u) : LBW u N W k := fun l hl => (f.i (by unfold fWh; omega)).trans (h l hl)
theorem nM_o (hW : nWF N) (h : 0 < oM N) : 0 < nM N := by
  have hw := oK_ok h
  have he := nW_ends hW hw.2.1
  have := hW.2.2.1 _ (nP_lt hW hw.2.1)
  have := rkW_lt this.1 he.1
  omega
theorem KS_le (hW : nWF N) : KS N ≤ 110 := by
  have hm := oM_le (N := N)
  have h1 : oM N * (oM N + 1) ≤ 10 * 11 := Nat.mul_le_mul hm (by omega)
  have h2 : KS N ≤ oM N * (oM N + 1) := Nat.div_le_self _ _
  omega
theorem s_weighed (hM : MS v N nu) : ZL (d + 6) m_X11_weighed [vR 11 0, vI (bI al), vI (bI b)] v (fun u x => Fr fWt v u ∧ gI u 11 0 34 = nI (oM N) ∧ ((oM N = 0 ∧ x = (if al = true then lN 1 else lN 0)) ∨ (0 < oM N ∧ al = true ∧ oM N * (oM N + 1) % nM N ≠ 0 ∧ x = lN 0) ∨ (0 < oM N ∧ (al = true → oM N * (oM N + 1) % nM N = 0 ∧ gI u 11 0 35 = nI (KS N)) ∧ (b = true → x = lN (ctV 1 (oM N) (PbC N al (KS N)) (vLs (oK N) 0 (oM N)) (fun _ => 0))) ∧ (b = false → (x = lN 0 ∧ ∀ W, ¬ solW N al (KS N) W) ∨ (x = lN 1 ∧ ∃ W, LBW u N W (oM N) ∧ solW N al (KS N) W ∧ ∀ p, p < oM N → ∀ W2, solW N al (KS N) W2 → (∀ p', p' < p → W2 (oK N p') = W (oK N p')) → W (oK N p) ≤ W2 (oK N p)))))) := fun Q k => E_X11_weighed (B_X11_weighed_0 (by
  have hW := hM.1
  have hm := oM_le (N := N)
  have hm7 := nM_le (N := N)
  refine cV (s_layOpened (d := d + 2) hM) (fun u hu => ?_)
  obtain ⟨o1, o2, f1⟩ := hu
  refine cV (s_layWho (d := d + 1) (hM.ol f1)) (fun w hw => ?_)
  obtain ⟨hWH, _, f2⟩ := hw
  have O := o1.fr f2
  have L := fun W => (o2 W).fr f2
  have f : Fr fWt v w := (f1.mono (fun t k z => by unfold fOl at z; unfold fWt; omega)).trans (f2.mono (fun t k z => by unfold fWt; exact Or.inr (Or.inr (Or.inr z))))
  rw [O.1, hWH.1, show nI (oM N) + 1 = nI (oM N + 1) from nI_1 _, pk_mul]
  refine pk_ne (oM N) 0 (fun e => ?_) (fun e => ?_)
  · have ho : 0 < oM N := by omega
    have hpos := nM_o hW ho
    have hlt : oM N * (oM N + 1) ≤ 10 * 11 := Nat.mul_le_mul hm (by omega)
    have nz : z_nz (nI (nM N)) = true := by
      refine decide_eq_true (fun z => ?_)
      have := (nI_eq (a := nM N) (b := 0) (by omega) (by decide)).mp z
      omega
    have ek : nI (oM N * (oM N + 1)) / nI (nM N) = nI (KS N) := pk_div (by omega) hpos (by omega)
    rw [ek, i_rem_nI (by omega) hpos (by omega)]
    have f3 : Fr fWt v (pI w 11 0 35 (nI (KS N))) := f.pI (Or.inr (Or.inr (Or.inl ⟨rfl, Or.inr rfl⟩)))
    have O3 : OLn (pI w 11 0 35 (nI (KS N))) N := ⟨(gI_pI_k (by decide)).trans O.1, fun p hp => (gI_pI_t (by decide)).trans (O.2 p hp)⟩
    have L3 : LBW (pI w 11 0 35 (nI (KS N))) N (fun _ => 0) 0 := fun l hl => (gI_pI_t (by decide)).trans (L (fun _ => 0) l hl)
    have go : (al = true → oM N * (oM N + 1) % nM N = 0) → GW (d + 5) Q al b (nI 0) 0 (pI w 11 0 35 (nI (KS N))) := by
      intro hr
      have hw0 := oK_ok ho
      have h0 : gI (pI w 11 0 35 (nI (KS N))) 1232 0 (oK N 0) = nI 0 := by
        rw [L3 _ (nP_lt hW hw0.2.1), asR_oK ho, decide_eq_false (by omega), if_neg (by decide)]
      refine s_visW (v := v) hM (KS_le hW) (oM N) 0 (by omega) ho (oM N) 0 (by omega) (fun _ => 0) _ 0 O3 L3.x h0 f3 (fun _ => gI_pI_s) (fun p hp => absurd hp (by omega)) (fun _ => ⟨fun p hp => absurd hp (by omega), fun W' h1 _ => (h1 0 ho).2.1⟩) (fun u' y' g1 g2 g3 g4 g5 g6 u3 u7 => ?_) (fun u' W' hb g1 g2 g3 g4 g5 g6 => ?_)
      · refine B_X11_weighed_68 (br_T (by decide) (k _ _ ⟨g3, g1.1, Or.inr (Or.inr ⟨ho, fun z => ⟨hr z, g4 z⟩, fun hb => ?_, fun hb => Or.inl ⟨?_, fun W h => (g6 hb).2 W h (fun p hp => absurd hp (by omega))⟩⟩)⟩))
        · rw [g5 hb, Nat.zero_add]
          congr 1
          obtain ⟨m, hm⟩ : ∃ m, oM N = m + 1 := ⟨oM N - 1, by omega⟩
          unfold TW
          rw [show oM N - (0 + 1) = m by omega, hm]
          rfl
        · rw [(g6 hb).1]
      · exact k _ _ ⟨g3, g1.1, Or.inr (Or.inr ⟨ho, fun z => ⟨hr z, g4 z⟩, fun z => (by rw [hb] at z; cases z), fun _ => Or.inr ⟨rfl, W', g2, g5, g6⟩⟩)⟩
    refine z_if_k nz (br_z (fun ea => go (fun z => by rw [ea] at z; cases z) _ _) (fun ea => z_if_k nz ?_))
    have hrl := Nat.mod_lt (oM N * (oM N + 1)) hpos
    refine pk_eq (oM N * (oM N + 1) % nM N) 0 (fun z => go (fun _ => z) _ _) (fun z => k _ _ ⟨f3, O3.1, Or.inr (Or.inl ⟨ho, ea, z, rfl⟩)⟩)
  · refine br_z (fun ea => k _ _ ⟨f, O.1, Or.inl ⟨e, ?_⟩⟩) (fun ea => k _ _ ⟨f, O.1, Or.inl ⟨e, ?_⟩⟩)
    · rw [ea]
      rfl
    · rw [ea]
      rfl))
theorem s_alikeR {a : Int32} (hM : MS v N nu) : ZI (d + 7) m_X11_alike [vR 11 0, vI a] v (fun u r => alA N a r ∧ Fr fWt v u) := fun Q k => E_X11_alike (B_X11_alike_0 (by
  have hW := hM.1
  have hn := hW.1
  have noline : (∀ l, l < 10 → nP N l = true → a ≠ nI l) → a ≠ -1 → alA N a (-1) := fun h1 h2 => Or.inl ⟨h2, h1, rfl⟩
  have go : (a = -1 ∨ ∃ l, l < 10 ∧ nP N l = true ∧ a = nI l) → z_Wp (z_C (d + 6)) 1 k_X11_alike Q 21 [some (vR 11 0), some (vI a)] [] v := fun ha => by
    refine B_X11_alike_21 (cL (s_weighed (d := d) (al := true) (b := false) hM) (fun u x hx => ?_))
    obtain ⟨f, h34, hx⟩ := hx
    have res : ∀ r, alA N a r → Q u (some (vI r)) := fun r h => k _ _ ⟨h, f⟩
    rcases hx with ⟨h0, rfl⟩ | ⟨h0, _, h1, rfl⟩ | ⟨h0, h1, _, h3⟩
    · refine br_nT (by decide) ⟨fun z => ?_, fun z => ?_⟩
      · rw [h34, h0]
        exact br_nF rfl (res 0 (Or.inr ⟨ha, Or.inl ⟨h0, rfl⟩⟩))
      · rcases ha with ha | ⟨l, g1, g2, g3⟩
        · exact absurd ha z
        · have := oR_lt g1 g2
          omega
    · exact br_nF (by decide) (res (-1) (Or.inr ⟨ha, Or.inr (Or.inl ⟨h0, Or.inl h1, rfl⟩)⟩))
    · rcases h3 rfl with ⟨rfl, hno⟩ | ⟨rfl, W, g1, g2, g3⟩
      · exact br_nF (by decide) (res (-1) (Or.inr ⟨ha, Or.inr (Or.inl ⟨h0, Or.inr (fun W h => hno W ((sol_alk hW).mpr h)), rfl⟩)⟩))
      · have lg := nbW_LG (fun W => sol_alk hW) g2 g3
        refine br_nT (by decide) ⟨fun z => ?_, fun z => ?_⟩
        · rw [h34]
          have hm := oM_le (N := N)
          refine pk_ne (oM N) 0 (fun _ => ?_) (fun y => by omega)
          rw [(h1 rfl).2]
          exact res _ (Or.inr ⟨ha, Or.inr (Or.inr ⟨h0, (h1 rfl).1, W, lg, Or.inl ⟨z, rfl⟩⟩)⟩)
        · rcases ha with ha | ⟨l, q1, q2, q3⟩
          · exact absurd ha z
          · refine z_ii l q3 q1 ?_
            rw [q3, n_nI (by omega), g1 l (nP_lt hW q2), if_pos (asR_iff.mpr ⟨q2, oR_lt q1 q2⟩)]
            exact res _ (Or.inr ⟨Or.inr ⟨l, q1, q2, q3⟩, Or.inr (Or.inr ⟨h0, (h1 rfl).1, W, lg, Or.inr ⟨l, q1, q2, q3, rfl⟩⟩)⟩)
  refine ⟨fun e => go (Or.inl e), fun e => cP (s_isLine (d := d + 4) hM) (br_z (fun e2 => k _ _ ⟨noline (fun l hl hp y => ?_) e, Fr.rfl⟩) (fun e2 => ?_))⟩
  · rw [y, inr_nI (by omega), decide_eq_false_iff_not] at e2
    exact e2 (nP_lt hW hp)
  · obtain ⟨l, hl, rfl, _⟩ := inr_n (by omega) e2
    refine cP (s_isOpen hM (by omega)) (br_z (fun e3 => k _ _ ⟨noline (fun l' hl' hp y => ?_) e, Fr.rfl⟩) (fun e3 => go (Or.inr ⟨l, by omega, e3, rfl⟩)))
    have := nI_u (by omega) hl' y
    rw [this, hp] at e3
    cases e3))
theorem s_alikesR (hM : MS v N nu) : ZL (d + 7) m_X11_alikes [vR 11 0] v (fun u x => x = lN (alC N) ∧ Fr fWt v u) := fun Q k => E_X11_alikes (B_X11_alikes_0 (by
  refine cL (s_weighed (d := d) (al := true) (b := true) hM) (fun u x hx => ?_)
  obtain ⟨f, h34, hx⟩ := hx
  refine k _ _ ⟨?_, f⟩
  unfold alC
  rcases hx with ⟨h0, rfl⟩ | ⟨h0, _, h1, rfl⟩ | ⟨h0, h1, h2, _⟩
  · rw [if_pos h0]
    rfl
  · rw [if_neg (by omega), if_neg h1]
  · rw [if_neg (by omega), if_pos (h1 rfl).1]
    exact h2 rfl))
theorem s_unlikeR {a : Int32} (hM : MS v N nu) : ZI (d + 7) m_X11_unlike [vR 11 0, vI a] v (fun u r => ulA N a r ∧ Fr fWt v u) := fun Q k => E_X11_unlike (B_X11_unlike_0 (by
  have hW := hM.1
  have hn := hW.1
  refine cP (s_isLine (d := d + 4) hM) (br_z (fun e2 => k _ _ ⟨Or.inl ⟨fun l hl hp y => ?_, rfl⟩, Fr.rfl⟩) (fun e2 => ?_))
  · rw [y, inr_nI (by omega), decide_eq_false_iff_not] at e2
    exact e2 (nP_lt hW hp)
  · obtain ⟨l, hl, rfl, hnl⟩ := inr_n (by omega) e2
    refine cP (s_isOpen hM (by omega)) (br_z (fun e3 => k _ _ ⟨Or.inl ⟨fun l' hl' hp y => ?_, rfl⟩, Fr.rfl⟩) (fun e3 => ?_))
    · have := nI_u (by omega) hl' y
      rw [this, hp] at e3
      cases e3
    · have q1 : l < 10 := by omega
      have ho := oR_lt q1 e3
      refine cL (s_weighed (d := d) (al := false) (b := false) hM) (fun u x hx => ?_)
      obtain ⟨f, h34, hx⟩ := hx
      rcases hx with ⟨h0, _⟩ | ⟨_, z, _⟩ | ⟨h0, h1, _, h3⟩
      · omega
      · cases z
      · rcases h3 rfl with ⟨rfl, hno⟩ | ⟨rfl, W, g1, g2, g3⟩
        · exact br_T (by decide) (k _ _ ⟨Or.inr ⟨l, q1, e3, rfl, Or.inl ⟨fun W h => hno W ((sol_ulk hW).mpr h), rfl⟩⟩, f⟩)
        · refine br_F (by decide) (z_ii l rfl q1 ?_)
          rw [n_nI (by omega), g1 l hl, if_pos (asR_iff.mpr ⟨e3, ho⟩)]
          exact k _ _ ⟨Or.inr ⟨l, q1, e3, rfl, Or.inr ⟨W, nbW_LG (fun W => sol_ulk hW) g2 g3, rfl⟩⟩, f⟩))
end WT3
