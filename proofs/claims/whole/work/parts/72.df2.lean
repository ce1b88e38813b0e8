/-! what labels must keep: the reference's looks, and their plain sense -/
def ov (N : z_N) (g h : Nat) : Bool := !nAdj N g h && anyL 7 (fun x => nAdj N g x && nAdj N h x)
def fitK (kind pa pb : Nat) (N : z_N) (g h : Nat) (L : Nat → Nat) : Bool :=
  if kind = 2 then (!nAdj N g h || decide (pa ≤ dst (L g) (L h))) && (!ov N g h || decide (pb ≤ dst (L g) (L h)))
  else decide (0 < dst (L g) (L h)) && (decide (kind ≠ 3) || (!nAdj N g h || decide (dst (L g) (L h) ≤ pa)))
def fL (N : z_N) (L : Nat → Nat) (l : Nat) : Nat := dst (L (nA N l)) (L (nB N l))
def laid (N : z_N) (m l : Nat) : Bool := nP N l && (decide (rkW N (nA N l) < m) && decide (rkW N (nB N l) < m))
def unl (N : z_N) (m : Nat) (L : Nat → Nat) : Bool := allL 10 (fun l => !laid N m l || !anyL l (fun l' => laid N m l' && decide (fL N L l' = fL N L l)))
def CbK (kind pa pb : Nat) (N : z_N) (k : Nat) (L : Nat → Nat) : Bool := allL k (fun p => fitK kind pa pb N (nK N p) (nK N k) L) && (decide (1 < kind) || unl N (k + 1) L)
theorem nW_ends {N : z_N} (h : nWF N) {l : Nat} (hl : nP N l = true) : nW N (nA N l) = true ∧ nW N (nB N l) = true := by
  have hw := h.2.2.1 l (nP_lt h hl)
  constructor
  · exact anyL_iff.mpr ⟨nB N l, hw.2.1, nAdj_iff.mpr ⟨l, nP_lt h hl, hl, nEd_mk.mpr (Or.inl ⟨rfl, rfl⟩)⟩⟩
  · exact anyL_iff.mpr ⟨nA N l, hw.1, nAdj_iff.mpr ⟨l, nP_lt h hl, hl, nEd_mk.mpr (Or.inr ⟨rfl, rfl⟩)⟩⟩
theorem allL_cg {m : Nat} {f g : Nat → Bool} (h : ∀ k, k < m → f k = g k) : allL m f = allL m g := by
  cases e : allL m g
  · cases e2 : allL m f
    · rfl
    · have : allL m g = true := allL_iff.mpr (fun k hk => by rw [← h k hk]; exact allL_iff.mp e2 k hk)
      rw [e] at this
      cases this
  · exact allL_iff.mpr (fun k hk => by rw [h k hk]; exact allL_iff.mp e k hk)
theorem anyL_cg {m : Nat} {f g : Nat → Bool} (h : ∀ k, k < m → f k = g k) : anyL m f = anyL m g := by
  induction m with
  | zero => rfl
  | succ m ih =>
    simp only [anyL]
    rw [ih (fun k hk => h k (by omega)), h m (by omega)]
theorem unl_loc {N : z_N} (hW : nWF N) {k : Nat} {L L' : Nat → Nat} (e : ∀ h, h < 7 → nW N h = true → rkW N h ≤ k → L h = L' h) : unl N (k + 1) L = unl N (k + 1) L' := by
  have hf : ∀ l, laid N (k + 1) l = true → fL N L l = fL N L' l := fun l hl => by
    unfold laid at hl
    simp only [Bool.and_eq_true, decide_eq_true_eq] at hl
    have hw := hW.2.2.1 l (nP_lt hW hl.1)
    have hn := nW_ends hW hl.1
    unfold fL
    rw [e _ hw.1 hn.1 (by omega), e _ hw.2.1 hn.2 (by omega)]
  refine allL_cg (fun l hl => ?_)
  cases h1 : laid N (k + 1) l
  · rfl
  · rw [hf l h1]
    congr 2
    refine anyL_cg (fun l' hl' => ?_)
    cases h2 : laid N (k + 1) l'
    · rfl
    · rw [hf l' h2]
theorem CbK_loc {kind pa pb : Nat} {N : z_N} (hW : nWF N) : ∀ k L L', k < nM N → (∀ h, h < 7 → nW N h = true → rkW N h ≤ k → L h = L' h) → CbK kind pa pb N k L = CbK kind pa pb N k L' := by
  intro k L L' hk e
  unfold CbK
  rw [unl_loc hW e]
  congr 1
  refine allL_cg (fun p hp => ?_)
  have h1 := nK_ok (N := N) (show p < nM N by omega)
  have h2 := nK_ok hk
  unfold fitK
  rw [e _ h1.1 h1.2.1 (by omega), e _ h2.1 h2.2.1 (by omega)]
/-- the plain sense -/
def niceL (kind pa pb : Nat) (N : z_N) (top : Nat) (L : Nat → Nat) : Prop := (∀ g h, g < h → h < 7 → nW N g = true → nW N h = true → fitK kind pa pb N g h L = true) ∧ (kind ≤ 1 → ∀ l' l, l' < l → nP N l' = true → nP N l = true → fL N L l' ≠ fL N L l) ∧ ∀ h, h < 7 → nW N h = true → L h ≤ top
theorem nK_lt {N : z_N} {p k : Nat} (hk : k < nM N) (h : p < k) : nK N p < nK N k := by
  have h1 := nK_ok (N := N) (show p < nM N by omega)
  have h2 := nK_ok hk
  refine Nat.lt_of_not_le (fun z => ?_)
  have := cntL_le2 (f := nW N) z
  have e1 : rkW N (nK N p) = p := h1.2.2
  have e2 : rkW N (nK N k) = k := h2.2.2
  unfold rkW at e1 e2
  omega
theorem rkW_lt2 {N : z_N} {g h : Nat} (hg : g < h) (hw : nW N g = true) : rkW N g < rkW N h := cntL_lt2 hg hw
theorem sol_nice {kind pa pb top : Nat} {N : z_N} {L : Nat → Nat} (hW : nWF N) : solL N (CbK kind pa pb N) top L ↔ niceL kind pa pb N top L := by
  constructor
  · intro h
    refine ⟨fun g k hgk hk hwg hwk => ?_, fun hkd l' l hll hp' hp => ?_, fun g hg hwg => ?_⟩
    · have h1 := (h (rkW N k) (rkW_lt hk hwk)).1
      unfold CbK at h1
      rw [Bool.and_eq_true] at h1
      have := allL_iff.mp h1.1 (rkW N g) (rkW_lt2 hgk hwg)
      rw [nK_rk (by omega) hwg, nK_rk hk hwk] at this
      exact this
    · have hm : 0 < nM N := by
        have := nW_ends hW hp
        have hw := hW.2.2.1 l (nP_lt hW hp)
        have := rkW_lt hw.1 this.1
        omega
      have h1 := (h (nM N - 1) (by omega)).1
      unfold CbK at h1
      rw [Bool.and_eq_true, decide_eq_false (show ¬ 1 < kind by omega), Bool.false_or, show nM N - 1 + 1 = nM N by omega] at h1
      have hlaid : ∀ l, nP N l = true → laid N (nM N) l = true := fun l hp => by
        have hn := nW_ends hW hp
        have hw := hW.2.2.1 l (nP_lt hW hp)
        unfold laid
        rw [hp, decide_eq_true (rkW_lt hw.1 hn.1), decide_eq_true (rkW_lt hw.2.1 hn.2)]
        rfl
      have hl10 : l < 10 := Nat.lt_of_lt_of_le (nP_lt hW hp) hW.1
      have := allL_iff.mp h1.2 l hl10
      rw [hlaid l hp, Bool.not_true, Bool.false_or, Bool.not_eq_true'] at this
      intro e
      rw [anyL_iff.mpr ⟨l', hll, by rw [hlaid l' hp', decide_eq_true e]; rfl⟩] at this
      cases this
    · have := (h (rkW N g) (rkW_lt hg hwg)).2
      rw [nK_rk hg hwg] at this
      exact this
  · rintro ⟨h1, h2, h3⟩ k hk
    have hw := nK_ok hk
    refine ⟨?_, h3 _ hw.1 hw.2.1⟩
    unfold CbK
    rw [Bool.and_eq_true]
    refine ⟨allL_iff.mpr (fun p hp => ?_), ?_⟩
    · have hp1 := nK_ok (N := N) (show p < nM N by omega)
      exact h1 _ _ (nK_lt hk hp) hw.1 hp1.2.1 hw.2.1
    · by_cases z : 1 < kind
      · rw [decide_eq_true z]
        rfl
      · rw [decide_eq_false z, Bool.false_or]
        refine allL_iff.mpr (fun l hl => ?_)
        cases e : laid N (k + 1) l
        · rfl
        · rw [Bool.not_true, Bool.false_or, Bool.not_eq_true']
          cases e2 : anyL l (fun l' => laid N (k + 1) l' && decide (fL N L l' = fL N L l))
          · rfl
          · obtain ⟨l', g1, g2⟩ := anyL_iff.mp e2
            rw [Bool.and_eq_true, decide_eq_true_eq] at g2
            unfold laid at e
            have g3 := g2.1
            unfold laid at g3
            rw [Bool.and_eq_true] at e g3
            exact absurd g2.2 (h2 (by omega) l' l g1 g3.1 e.1)
theorem nb_lf {kind pa pb top : Nat} {N : z_N} {L : Nat → Nat} (hW : nWF N) (h : solL N (CbK kind pa pb N) top L) (hn : NBp N (CbK kind pa pb N) top (nM N) L) : isLF (nW N) (niceL kind pa pb N top) L := by
  refine ⟨(sol_nice hW).mp h, fun L' h' g hg hwg e => ?_⟩
  have := hn (rkW N g) (rkW_lt hg hwg) L' ((sol_nice hW).mpr h') (fun p' hp' => ?_)
  · rw [nK_rk hg hwg] at this
    exact this
  · have h1 := nK_ok (N := N) (show p' < nM N by have := rkW_lt hg hwg; omega)
    refine e _ (Nat.lt_of_not_le (fun z => ?_)) h1.2.1
    have := cntL_le2 (f := nW N) z
    have e1 : rkW N (nK N p') = p' := h1.2.2
    unfold rkW at e1 hp'
    omega
def KP (u : z_V) (kind pa pb : Nat) : Prop := (kind = 2 → gI u 11 0 29 = nI pa ∧ gI u 11 0 30 = nI pb) ∧ (kind = 3 → gI u 11 0 31 = nI pa)
theorem KP.fr {v u : z_V} {kind pa pb : Nat} (h : KP v kind pa pb) (f : Fr fWh v u) : KP u kind pa pb := ⟨fun e => ⟨(f.i (by unfold fWh; omega)).trans (h.1 e).1, (f.i (by unfold fWh; omega)).trans (h.1 e).2⟩, fun e => (f.i (by unfold fWh; omega)).trans (h.2 e)⟩
section DF2
variable {d : Nat} {v : z_V} {N : z_N} {nu : Nat → Nat} {kind pa pb top : Nat}
theorem s_areOverTwo {g h : Nat} (hM : MS v N nu) (hg : g < 7) (hh : h < 7) : ZP (d + 5) m_X11_areOverTwo [vR 11 0, vI (nI g), vI (nI h)] v (bI (ov N g h)) := fun Q k => E_X11_areOverTwo (B_X11_areOverTwo_0 (by
  unfold ov at k
  refine cP (s_areBeside hM hg hh) (br_n (fun e => ?_) (fun e => ?_))
  · rw [e] at k
    exact k
  · rw [e, Bool.not_false, Bool.true_and] at k
    have b1 := bs_lt 7 (nAdj N g)
    have b2 := bs_lt 7 (nAdj N h)
    refine cP (s_besideOf hM hg) (cP (s_besideOf hM hh) ?_)
    have key : bs 7 (nAdj N g) &&& bs 7 (nAdj N h) = 0 ↔ anyL 7 (fun x => nAdj N g x && nAdj N h x) = false := by
      constructor
      · intro z
        cases y : anyL 7 (fun x => nAdj N g x && nAdj N h x)
        · rfl
        · obtain ⟨x, hx, h2⟩ := anyL_iff.mp y
          have : (bs 7 (nAdj N g) &&& bs 7 (nAdj N h)).testBit x = true := by
            rw [Nat.testBit_and, bs_bit, bs_bit]
            simpa [hx] using h2
          rw [z] at this
          simp at this
      · intro z
        apply Nat.eq_of_testBit_eq
        intro x
        rw [Nat.testBit_and, bs_bit, bs_bit, Nat.zero_testBit]
        by_cases hx : x < 7
        · cases y : nAdj N g x && nAdj N h x
          · simpa [hx] using y
          · rw [anyL_iff.mpr ⟨x, hx, y⟩] at z
            cases z
        · simp [hx]
    rw [nI_and]
    have hlt : bs 7 (nAdj N g) &&& bs 7 (nAdj N h) < 2 ^ 31 := Nat.lt_of_le_of_lt Nat.and_le_left (by omega)
    refine pk_eq _ 0 (fun z => ?_) (fun z => ?_) rfl rfl hlt (by decide)
    · rw [key.mp z] at k
      exact k
    · cases y : anyL 7 (fun x => nAdj N g x && nAdj N h x)
      · exact absurd (key.mpr y) z
      · rw [y] at k
        exact k))
theorem s_doFit {g h : Nat} {L : Nat → Nat} (hM : MS v N nu) (hg : g < 7) (hh : h < 7) (h1 : gI v 1226 0 g = nI (L g)) (h2 : gI v 1226 0 h = nI (L h)) (b1 : L g ≤ 99) (b2 : L h ≤ 99) (hk : kind < 4) (ha : pa < 100) (hb : pb < 100) (hP : KP v kind pa pb) : ZP (d + 6) m_X11_doFit [vR 11 0, vI (nI kind), vI (nI g), vI (nI h)] v (bI (fitK kind pa pb N g h L)) := fun Q k => E_X11_doFit (B_X11_doFit_0 (by
  rw [n_nI (by omega), n_nI (by omega), h1, h2]
  refine z_ii g rfl hg (z_ii h rfl hh ?_)
  have hd := dst_le b1 b2
  refine cP (s_apartBy (by omega) (by omega)) ?_
  unfold fitK at k
  have K : ∀ b, b = (if kind = 2 then (!nAdj N g h || decide (pa ≤ dst (L g) (L h))) && (!ov N g h || decide (pb ≤ dst (L g) (L h))) else decide (0 < dst (L g) (L h)) && (decide (kind ≠ 3) || (!nAdj N g h || decide (dst (L g) (L h) ≤ pa)))) → Q v (some (vI (bI b))) := fun b e => by rw [e]; exact k
  refine pk_ne kind 2 (fun k2 => ?_) (fun k2 => ?_)
  · rw [if_neg k2] at K
    refine pk_le (dst (L g) (L h)) 0 (fun z => K false (by rw [decide_eq_false (by omega)]; rfl)) (fun z => ?_)
    rw [decide_eq_true z, Bool.true_and] at K
    refine pk_ne kind 3 (fun k3 => K true (by rw [decide_eq_true k3]; rfl)) (fun k3 => ?_)
    rw [decide_eq_false (fun y => y k3), Bool.false_or] at K
    refine cP (s_areBeside hM hg hh) (br_z (fun e => K true (by rw [e]; rfl)) (fun e => ?_))
    rw [e, Bool.not_true, Bool.false_or] at K
    exact pk_lt pa (dst (L g) (L h)) (fun z => K false (by rw [decide_eq_false (by omega)])) (fun z => K true (by rw [decide_eq_true z])) (hP.2 k3) rfl
  · rw [if_pos k2] at K
    have hp := hP.1 k2
    refine cP (s_areBeside hM hg hh) (br_z (fun e => ?_) (fun e => ?_))
    · rw [e, Bool.not_false, Bool.true_or, Bool.true_and] at K
      refine cP (s_areOverTwo hM hg hh) (br_z (fun e2 => K true (by rw [e2]; rfl)) (fun e2 => ?_))
      rw [e2, Bool.not_true, Bool.false_or] at K
      exact pk_lt (dst (L g) (L h)) pb (fun z => K false (by rw [decide_eq_false (by omega)])) (fun z => K true (by rw [decide_eq_true z])) rfl hp.2
    · rw [e, Bool.not_true, Bool.false_or] at K
      refine pk_lt (dst (L g) (L h)) pa (fun z => K false (by rw [decide_eq_false (by omega)]; rfl)) (fun z => ?_) rfl hp.1
      rw [decide_eq_true z, Bool.true_and] at K
      refine cP (s_areOverTwo hM hg hh) (br_z (fun e2 => K true (by rw [e2]; rfl)) (fun e2 => ?_))
      rw [e2, Bool.not_true, Bool.false_or] at K
      exact pk_lt (dst (L g) (L h)) pb (fun z => K false (by rw [decide_eq_false (by omega)])) (fun z => K true (by rw [decide_eq_true z])) rfl hp.2))
theorem s_isLaid {h m : Nat} (hWH : WH v N) (hh : h < 7) (hw : nW N h = true) (hm : m ≤ nM N) : ZP (d + 1) m_X11_isLaid [vR 11 0, vI (nI h), vI (nI m)] v (bI (decide (rkW N h < m))) := fun Q k => E_X11_isLaid (B_X11_isLaid_0 (by
  have hm7 := nM_le (N := N)
  refine z_up0 (P := fun p => p ≤ rkW N h → z_Wp (z_C d) 4 k_X11_isLaid Q 2 [some (vR 11 0), some (vI (nI h)), some (vI (nI m)), some (vI (nI p))] [] v) m ?_ ?_ (Nat.zero_le _)
  · intro z
    rw [decide_eq_false (by omega)] at k
    exact B_X11_isLaid_2 (pk_le m m (fun _ => k) (fun q => absurd q (by omega)))
  · intro p hp ih z
    have hkp := nK_ok (N := N) (show p < nM N by omega)
    refine B_X11_isLaid_2 (pk_le m p (fun q => absurd q (by omega)) (fun _ => z_ii p rfl (by omega) ?_))
    rw [n_nI (by omega), hWH.2 p (by omega), nI_1]
    refine pk_ne (nK N p) h (fun e => ih ?_) (fun e => ?_)
    · have : rkW N h ≠ p := fun y => e (by rw [← y, nK_rk hh hw])
      omega
    · have : rkW N h = p := by rw [← e]; exact hkp.2.2
      rw [decide_eq_true (by omega)] at k
      exact k))
theorem s_areUnlike {m : Nat} {L : Nat → Nat} (hM : MS v N nu) (hWH : WH v N) (hL : LB v N L m) (hm : m ≤ nM N) (hb : ∀ h, h < 7 → nW N h = true → rkW N h < m → L h ≤ 30) : ZP (d + 3) m_X11_areUnlike [vR 11 0, vI (nI m)] v (bI (unl N m L)) := fun Q k => E_X11_areUnlike (B_X11_areUnlike_0 (by
  have hW := hM.1
  have hn := hW.1
  have hm7 := nM_le (N := N)
  have hfl : ∀ l, laid N m l = true → fL N L l ≤ 30 := fun l hl => by
    unfold laid at hl
    simp only [Bool.and_eq_true, decide_eq_true_eq] at hl
    have hw := hW.2.2.1 l (nP_lt hW hl.1)
    have hn := nW_ends hW hl.1
    exact dst_le (hb _ hw.1 hn.1 hl.2.1) (hb _ hw.2.1 hn.2 hl.2.2)
  have hbad : ∀ l, l < 10 → laid N m l = true → anyL l (fun l' => laid N m l' && decide (fL N L l' = fL N L l)) = true → Q v (some (vI 0)) := fun l hl h1 h2 => by
    have : unl N m L = false := allL_f hl (by rw [h1, h2]; rfl)
    rw [this] at k
    exact k
  refine z_up0 (P := fun l => (∀ l1, l1 < l → (!laid N m l1 || !anyL l1 (fun l' => laid N m l' && decide (fL N L l' = fL N L l1))) = true) → ∀ u4, z_Wp (z_C (d + 2)) 4 k_X11_areUnlike Q 4 [some (vR 11 0), some (vI (nI m)), some (vI (nI (bs 31 (fun i => anyL l (fun l' => laid N m l' && decide (fL N L l' = i)))))), some (vI (nI l)), u4] [] v) (nN N) ?_ ?_ (fun l1 h => absurd h (by omega)) none |> fun z => by
      have e0 : bs 31 (fun i => anyL 0 (fun l' => laid N m l' && decide (fL N L l' = i))) = 0 := (bs_eq (by decide) (fun i _ => by simp [anyL])).symm
      rw [e0] at z
      exact z
  · intro h u4
    have : unl N m L = true := allL_iff.mpr (fun l hl => by
      by_cases z : l < nN N
      · exact h l z
      · have : laid N m l = false := by
          unfold laid
          rw [nP_hi hW (by omega)]
          rfl
        rw [this]
        rfl)
    rw [this] at k
    exact B_X11_areUnlike_4 (pk_le (nN N) (nN N) (fun _ => k) (fun q => absurd q (by omega)) hM.2.1)
  · intro l hl ih h u4
    have hw := hW.2.2.1 l hl
    have hbl := bs_lt 31 (fun i => anyL l (fun l' => laid N m l' && decide (fL N L l' = i)))
    refine B_X11_areUnlike_4 (pk_le (nN N) l (fun q => absurd q (by omega)) (fun _ => ?_) hM.2.1)
    have no : laid N m l = false → ∀ u4, z_Wp (z_C (d + 2)) 4 k_X11_areUnlike Q 4 [some (vR 11 0), some (vI (nI m)), some (vI (nI (bs 31 (fun i => anyL l (fun l' => laid N m l' && decide (fL N L l' = i)))))), some (vI (nI l + 1)), u4] [] v := fun e u4 => by
      rw [nI_1]
      have e2 : bs 31 (fun i => anyL l (fun l' => laid N m l' && decide (fL N L l' = i))) = bs 31 (fun i => anyL (l + 1) (fun l' => laid N m l' && decide (fL N L l' = i))) := bs_cong (fun i _ => by simp [anyL, e])
      rw [e2]
      refine ih (fun l1 hl1 => ?_) u4
      by_cases z : l1 = l
      · subst z
        rw [e]
        rfl
      · exact h l1 (by omega)
    refine cP (s_isOpen hM (by omega)) (br_z (fun e => no (by unfold laid; rw [e]; rfl) _) (fun e => ?_))
    have hn := nW_ends hW e
    refine cP (s_one hM hl) (cP (s_isLaid hWH hw.1 hn.1 hm) (br_z (fun e1 => no (by unfold laid; rw [e1]; simp) _) (fun e1 => ?_)))
    refine cP (s_other hM hl) (cP (s_isLaid hWH hw.2.1 hn.2 hm) (br_n (fun e2 => ?_) (fun e2 => no (by unfold laid; rw [e2]; simp) _)))
    have hla : laid N m l = true := by unfold laid; rw [e, e1, e2]; rfl
    refine cP (s_one hM hl) (z_ii _ rfl hw.1 (cP (s_other hM hl) (z_ii _ rfl hw.2.1 ?_)))
    have l1 := hL _ hw.1 (fun _ => of_decide_eq_true e1)
    have l2 := hL _ hw.2.1 (fun _ => of_decide_eq_true e2)
    rw [if_pos hn.1] at l1
    rw [if_pos hn.2] at l2
    have c1 := hb _ hw.1 hn.1 (of_decide_eq_true e1)
    have c2 := hb _ hw.2.1 hn.2 (of_decide_eq_true e2)
    rw [n_nI (n := nA N l) (by omega), n_nI (n := nB N l) (by omega), l1, l2]
    refine cP (s_apartBy (by omega) (by omega)) ?_
    have hf : fL N L l ≤ 30 := hfl l hla
    have hdf : dst (L (nA N l)) (L (nB N l)) = fL N L l := rfl
    rw [hdf]
    refine pk_le 31 (fL N L l) (fun z => absurd z (by omega)) (fun _ => cP (s_has (by omega) (by omega)) ?_)
    rw [bs_bit]
    simp only [show fL N L l < 31 by omega, decide_true, Bool.true_and]
    refine br_z (fun z => ?_) (fun z => hbad l (by omega) hla z)
    rw [nI_1, nI_shl (by omega), nI_or]
    have e2 : bs 31 (fun i => anyL l (fun l' => laid N m l' && decide (fL N L l' = i))) ||| 2 ^ fL N L l = bs 31 (fun i => anyL (l + 1) (fun l' => laid N m l' && decide (fL N L l' = i))) := bs_eq (Nat.or_lt_two_pow hbl (Nat.pow_lt_pow_right (by decide) (by omega))) (fun i hi => by
      rw [Nat.testBit_or, bs_bit, Nat.testBit_two_pow]
      simp only [hi, decide_true, Bool.true_and, anyL, hla])
    rw [e2]
    refine ih (fun l1 hl1 => ?_) _
    by_cases y : l1 = l
    · subst y
      rw [hla, z]
      rfl
    · exact h l1 (by omega)))
theorem s_canLabel {k : Nat} {L : Nat → Nat} (hM : MS v N nu) (hkd : kind < 4) (ha : pa < 100) (hb : pb < 100) (hP : KP v kind pa pb) (htop : top < 100) (ht30 : kind ≤ 1 → top ≤ 30) (hk : k < nM N) (hWH : WH v N) (hL : LB v N L (k + 1)) (hbd : ∀ p, p ≤ k → L (nK N p) ≤ top) : ZP (d + 7) m_X11_canLabel [vR 11 0, vI (nI kind), vI (nI (k + 1))] v (bI (CbK kind pa pb N k L)) := fun Q c => E_X11_canLabel (B_X11_canLabel_0 (by
  have hm7 := nM_le (N := N)
  have hw := nK_ok hk
  unfold CbK at c
  have lab : ∀ p, p ≤ k → gI v 1226 0 (nK N p) = nI (L (nK N p)) := fun p hp => by
    have h1 := nK_ok (N := N) (show p < nM N by omega)
    have := hL _ h1.1 (fun _ => by rw [h1.2.2]; omega)
    rw [if_pos h1.2.1] at this
    exact this
  refine z_up0 (P := fun p => (∀ p', p' < p → fitK kind pa pb N (nK N p') (nK N k) L = true) → z_Wp (z_C (d + 6)) 4 k_X11_canLabel Q 2 [some (vR 11 0), some (vI (nI kind)), some (vI (nI (k + 1))), some (vI (nI p))] [] v) k ?_ ?_ (fun p' h => absurd h (by omega))
  · intro h
    rw [allL_iff.mpr h, Bool.true_and] at c
    refine B_X11_canLabel_2 ?_
    rw [nI_pred]
    refine pk_le k k (fun _ => pk_lt 1 kind (fun z => ?_) (fun z => ?_)) (fun q => absurd q (by omega))
    · rw [decide_eq_true z] at c
      exact c
    · rw [decide_eq_false (by omega), Bool.false_or] at c
      refine cP (s_areUnlike (d := d + 3) hM hWH hL (by omega) (fun g hg hwg hr => ?_)) (br_z (fun e => by rw [e] at c; exact c) (fun e => by rw [e] at c; exact c))
      have := hbd (rkW N g) (by omega)
      rw [nK_rk hg hwg] at this
      have := ht30 z
      omega
  · intro p hp ih h
    have h1 := nK_ok (N := N) (show p < nM N by omega)
    refine B_X11_canLabel_2 ?_
    rw [nI_pred]
    refine pk_le k p (fun q => absurd q (by omega)) (fun _ => z_ii p rfl (by omega) (z_ii k rfl (by omega) ?_))
    rw [n_nI (by omega), n_nI (by omega), hWH.2 p (by omega), hWH.2 k hk, nI_1]
    have c1 := hbd p (by omega)
    have c2 := hbd k (Nat.le_refl _)
    refine cP (s_doFit hM h1.1 hw.1 (lab p (by omega)) (lab k (Nat.le_refl _)) (by omega) (by omega) hkd ha hb hP) (br_n (fun e => ih (fun p' hp' => ?_)) (fun e => ?_))
    · by_cases z : p' = p
      · subst z
        exact e
      · exact h p' (by omega)
    · rw [allL_f hp e] at c
      exact c))
end DF2
