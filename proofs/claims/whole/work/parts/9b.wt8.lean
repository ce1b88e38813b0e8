/-! weights by the class: solved, kept -/
section WT8
variable {d : Nat} {v : z_V} {N : z_N} {nu : Nat → Nat} {W W' : Nat → Nat}
def A0 : Nat → Bool := fun _ => false
/-- as many lines of a halt as halts beside it -/
theorem dgr {h : Nat} (hW : nWF N) (hh : h < 7) : rcN N A0 h = pc 10 (bs 7 (nAdj N h)) := by
  rw [pc_bs7]
  have hn := hW.1
  have oth : ∀ l, nP N l = true → nOn N l h = true → nA N l + nB N l - h < 7 ∧ nEd N l h (nA N l + nB N l - h) = true := fun l hp ho => by
    have hw := hW.2.2.1 l (nP_lt hW hp)
    rcases nOn_iff.mp ho with z | z
    · exact ⟨by omega, nEd_iff.mpr (Or.inl ⟨z, by omega⟩)⟩
    · exact ⟨by omega, nEd_iff.mpr (Or.inr ⟨z, by omega⟩)⟩
  have sp : ∀ l, ((nP N l && !A0 l) && nOn N l h) = true → nP N l = true ∧ nOn N l h = true := fun l z => by
    rw [Bool.and_eq_true, Bool.and_eq_true] at z
    exact ⟨z.1.1, z.2⟩
  refine Nat.le_antisymm ?_ ?_
  · refine cnt_inj (fun l => nA N l + nB N l - h) (fun l hl z => ?_) (fun l l' hl hl' z z' e => ?_)
    · have z := sp l z
      have o := oth l z.1 z.2
      exact ⟨o.1, nAdj_iff.mpr ⟨l, nP_lt hW z.1, z.1, o.2⟩⟩
    · have z := sp l z
      have z' := sp l' z'
      have o := oth l z.1 z.2
      have o' := oth l' z'.1 z'.2
      have e : nA N l + nB N l - h = nA N l' + nB N l' - h := e
      rw [← e] at o'
      exact ln_un hW z.1 z'.1 o.2 o'.2
  · have cn : ∀ g, nAdj N h g = true → 0 < cntL 10 (fun l => nP N l && nEd N l h g) := fun g hg => by
      obtain ⟨l, h1, h2, h3⟩ := nAdj_iff.mp hg
      have := cntL_lt2 (f := fun l => nP N l && nEd N l h g) (show l < 10 by omega) (by show (nP N l && nEd N l h g) = true; rw [h2, h3]; rfl)
      omega
    refine cnt_inj (fun g => sel (fun l => nP N l && nEd N l h g) 10 0) (fun g hg z => ?_) (fun g g' hg hg' z z' e => ?_)
    · have s := sel_ok (cn g z)
      have s2 := s.2.1
      rw [Bool.and_eq_true] at s2
      refine ⟨s.1, ?_⟩
      show ((nP N _ && !false) && nOn N _ h) = true
      rw [s2.1, nOn_iff.mpr ?_]
      · rfl
      · rcases nEd_iff.mp s2.2 with y | y
        · exact Or.inl y.1
        · exact Or.inr y.1
    · have s := (sel_ok (cn g z)).2.1
      have s' := (sel_ok (cn g' z')).2.1
      have e : sel (fun l => nP N l && nEd N l h g) 10 0 = sel (fun l => nP N l && nEd N l h g') 10 0 := e
      rw [← e] at s'
      rw [Bool.and_eq_true] at s s'
      have hw := hW.2.2.1 _ (nP_lt hW s.1)
      rcases nEd_iff.mp s.2 with y | y <;> rcases nEd_iff.mp s'.2 with y' | y' <;> omega
theorem wA_0 {h : Nat} : wAt N A0 W h = 0 := by
  have : wAt N A0 W h ≤ 0 * 10 := sm_le (fun i _ => by
    show (if (false && nOn N i h) = true then W i else 0) ≤ 0
    rw [Bool.false_and, if_neg (by decide)]
    exact Nat.le_refl _)
  omega
theorem us_0 : bs 11 (usB A0 W) = 0 := by
  have : bs 11 (usB A0 W) = bs 11 (fun _ => false) := bs_cong (fun i _ => by
    cases e : usB A0 W i
    · rfl
    · obtain ⟨j, _, z⟩ := anyL_iff.mp e
      cases z)
  rw [this]
  decide
theorem s_begin8 {al : Bool} {K : Nat} {e : Int32} (hS : NS v N) (hW : nWF N) (he : e = iI (tgI al K 0)) : ZV (d + 2) m_X8_begin [vR 8 0, vR 0 0, vI e] v (fun u => PT u N al K A0 (fun _ => 0) ∧ Fr fPut v u) := fun Q k => E_X8_begin (B_X8_begin_0 (by
  have key : ∀ h, h ≤ 7 → ∀ u, Fr fPut v u → gI u 8 0 8 = 0 → (∀ g, g < h → gI u 906 0 g = e ∧ gI u 907 0 g = nI (rcN N A0 g)) → z_Wp (z_C (d + 1)) 0 k_X8_begin Q 7 [some (vR 8 0), some (vR 0 0), some (vI e), some (vI (nI h))] [] u := by
    refine z_up 7 (fun u f h8 hr => ?_) (fun h hh ih u f h8 hr => ?_)
    · refine B_X8_begin_7 (pk_le 7 7 (fun _ => k _ ⟨⟨?_, fun g hg => ?_, fun g hg => (hr g hg).2, fun i _ z => absurd z Bool.false_ne_true⟩, f⟩) (fun z => absurd z (by omega)))
      · rw [us_0]
        exact h8
      · rw [wA_0]
        exact (hr g hg).1.trans he
    · have hS1 : NS u N := hS.fr f (fun k => by unfold fPut; omega) (fun k => by unfold fPut; omega) (fun k => by unfold fPut; omega) (fun k => by unfold fPut; omega)
      have hb := bs_lt 7 (nAdj N h)
      refine B_X8_begin_7 (pk_le 7 h (fun z => absurd z (by omega)) (fun _ => z_ii h rfl hh (z_ii h rfl hh ?_)))
      rw [n_nI (by omega), hS1.2.2.2.2.2.2 h hh, nI_1]
      refine cP (s_bitCount (d := d) (by omega)) (z_ii h rfl hh (ih _ ((f.pI (Or.inr (Or.inl rfl))).pI (Or.inr (Or.inr (Or.inl rfl)))) ?_ (fun g hg => ?_)))
      · rw [gI_pI_t (by decide), gI_pI_t (by decide)]
        exact h8
      · by_cases z : g = h
        · subst z
          rw [gI_pI_t (by decide), gI_pI_s, gI_pI_s, dgr hW hh]
          exact ⟨rfl, rfl⟩
        · rw [gI_pI_t (by decide), gI_pI_k z, gI_pI_k z, gI_pI_t (by decide)]
          exact hr g (by omega)
  exact key 0 (by omega) _ (Fr.rfl.pI (Or.inr (Or.inr (Or.inr ⟨rfl, rfl⟩)))) gI_pI_s (fun g hg => absurd hg (by omega))))
theorem PV_0 : PV N A0 W := ⟨fun _ _ z => absurd z Bool.false_ne_true, fun _ _ _ _ _ z => absurd z Bool.false_ne_true⟩
/-- not too many ways -/
theorem smF_le {m : Nat} : ∀ {r c : Nat} {f : Nat → Nat}, (∀ x, c ≤ x → x < c + r → f x ≤ m) → smF r c f ≤ r * m
  | 0, _, _, _ => Nat.zero_le _
  | r + 1, c, f, h => by
    simp only [smF]
    have h1 := h c (Nat.le_refl _) (by omega)
    have h2 := smF_le (r := r) (c := c + 1) (f := f) (fun x a b => h x (by omega) (by omega))
    rw [Nat.succ_mul]
    omega
theorem ctV_le {e n : Nat} {P : (Nat → Nat) → Bool} : ∀ {vs : List Nat} {L : Nat → Nat}, ctV e n P vs L ≤ n ^ vs.length
  | [], L => by
    simp only [ctV]
    split <;> simp
  | h :: vs, L => by
    simp only [ctV]
    have := smF_le (r := n) (c := e) (m := n ^ vs.length) (f := fun x => ctV e n P vs (sU L h x)) (fun x _ _ => ctV_le)
    rw [List.length_cons, Nat.pow_succ, Nat.mul_comm]
    exact this
theorem vLs_len {w : Nat → Nat} : ∀ {j k : Nat}, (vLs w k j).length = j
  | 0, _ => rfl
  | j + 1, k => by
    simp only [vLs, List.length_cons]
    rw [vLs_len]
theorem vO_nd : (vLs (oK N) 0 (oM N)).Nodup := vLs_nd (fun p q _ h2 h3 => oK_ne (by omega) (by omega) (by omega))
theorem vO_mem : ∀ g, g ∈ vLs (oK N) 0 (oM N) ↔ g < 10 ∧ nP N g = true ∧ A0 g = false := fun g => by
  rw [vLs_mem]
  constructor
  · rintro ⟨p, _, h2, rfl⟩
    have := oK_ok (N := N) (k := p) (by omega)
    exact ⟨this.1, this.2.1, rfl⟩
  · rintro ⟨h1, h2, _⟩
    exact ⟨oR N g, Nat.zero_le _, by have := oR_lt h1 h2; omega, oK_rk h1 h2⟩
theorem alC_lt : alC N < 2 ^ 62 := by
  have hm := oM_le (N := N)
  unfold alC
  split
  · decide
  · split
    · have h1 := ctV_le (e := 1) (n := oM N) (P := PbC N true (KS N)) (vs := vLs (oK N) 0 (oM N)) (L := fun _ => 0)
      rw [vLs_len] at h1
      have h2 : oM N ^ oM N ≤ 10 ^ oM N := Nat.pow_le_pow_left hm _
      have h3 : 10 ^ oM N ≤ 10 ^ 10 := Nat.pow_le_pow_right (by decide) hm
      have h4 : 10 ^ 10 < 2 ^ 62 := by decide
      omega
    · decide
theorem oM_0 (hW : nWF N) : nM N = 0 ↔ oM N = 0 := by
  constructor
  · intro z
    rcases Nat.eq_zero_or_pos (oM N) with y | y
    · exact y
    · have := nM_o hW y
      omega
  · intro z
    rcases Nat.eq_zero_or_pos (nM N) with y | y
    · exact y
    · have hk := nK_ok (N := N) y
      have := nM_pos hW hk.1 hk.2.1
      rw [pcN] at this
      have e : oM N = cntL 10 (nP N) := rfl
      omega
def alOK (u : z_V) (N : z_N) : Prop := (oM N = 0 ∧ gL u 8 0 3 = lN 1 ∧ gI u 8 0 2 = 0) ∨ (0 < oM N ∧ oM N * (oM N + 1) % nM N ≠ 0 ∧ gL u 8 0 3 = lN 0) ∨ (0 < oM N ∧ oM N * (oM N + 1) % nM N = 0 ∧ gI u 8 0 2 = nI (KS N) ∧ RsW u N (alC N) (alkP N (KS N)))
def cAl (v : z_V) : Prop := ∀ N, nWF N → gL v 8 0 9 = lN (kN N 10) → alOK v N
def ulOK (u : z_V) (N : z_N) : Prop := (gI u 8 0 4 = 0 ∧ ∀ W, ¬ ulkP N W) ∨ (gI u 8 0 4 = 1 ∧ ∃ W, isLG N (ulkP N) W ∧ ∀ l, l < 10 → nP N l = true → gI u 901 0 l = nI (W l))
def cUl (v : z_V) : Prop := ∀ N, nWF N → gL v 8 0 10 = lN (kN N 10) → ulOK v N
def fAl : Nat → Nat → Prop := fun t k => t = 900 ∨ t = 905 ∨ t = 906 ∨ t = 907 ∨ (t = 8 ∧ (k = 2 ∨ k = 3 ∨ k = 8 ∨ k = 9))
def fUl : Nat → Nat → Prop := fun t k => t = 901 ∨ t = 905 ∨ t = 906 ∨ t = 907 ∨ (t = 8 ∧ (k = 4 ∨ k = 8 ∨ k = 10))
/-- the same open lines, the same answers -/
theorem nP_cg {M : z_N} (hN : nWF N) (hM : nWF M) (h : smN N M) : nP N = nP M := funext (fun l => by
  by_cases z : l < 10
  · exact (h l z).1
  · have a := hN.1
    have b := hM.1
    rw [nP_hi hN (by omega), nP_hi hM (by omega)])
theorem nOn_cg {M : z_N} {l g : Nat} (h : smN N M) (hl : l < 10) (hp : nP N l = true) : nOn N l g = nOn M l g := by
  have := (h l hl).2 hp
  unfold nOn
  rw [this.1, this.2]
theorem wAt_cg {M : z_N} {A : Nat → Bool} {g : Nat} (h : smN N M) (hA : ∀ l, l < 10 → A l = true → nP N l = true) : wAt N A W g = wAt M A W g := sm_cg (fun l hl => by
  cases e : A l
  · rw [Bool.false_and, Bool.false_and]
  · rw [nOn_cg h hl (hA l hl e)])
theorem oM_cg {M : z_N} (hN : nWF N) (hM : nWF M) (h : smN N M) : oM N = oM M := by
  unfold oM
  rw [nP_cg hN hM h]
theorem oK_cg {M : z_N} (hN : nWF N) (hM : nWF M) (h : smN N M) : oK N = oK M := by
  unfold oK
  rw [nP_cg hN hM h]
theorem KS_cg {M : z_N} (hN : nWF N) (hM : nWF M) (h : smN N M) : KS N = KS M := by
  unfold KS
  rw [oM_cg hN hM h, nM_cg hN hM h]
theorem rowP_cg2 {M : z_N} (hN : nWF N) (hM : nWF M) (h : smN N M) (z : rowP N W) : rowP M W := by
  unfold rowP at z ⊢
  rw [← oM_cg hN hM h, ← nP_cg hN hM h]
  exact z
theorem alkP_cg2 {M : z_N} {K : Nat} (hN : nWF N) (hM : nWF M) (h : smN N M) (z : alkP N K W) : alkP M K W := ⟨rowP_cg2 hN hM h z.1, fun g hg hw => by
  rw [← nP_cg hN hM h, ← wAt_cg h (fun _ _ y => y)]
  refine z.2 g hg ?_
  rw [nW_cg hN hM h]
  exact hw⟩
theorem ulkP_cg2 {M : z_N} (hN : nWF N) (hM : nWF M) (h : smN N M) (z : ulkP N W) : ulkP M W := ⟨rowP_cg2 hN hM h z.1, fun g k hg hk hne h1 h2 => by
  rw [← nP_cg hN hM h, ← wAt_cg h (fun _ _ y => y), ← wAt_cg h (fun _ _ y => y)]
  refine z.2 g k hg hk hne ?_ ?_
  · rw [nW_cg hN hM h]
    exact h1
  · rw [nW_cg hN hM h]
    exact h2⟩
theorem leW_cg {M : z_N} (hN : nWF N) (hM : nWF M) (h : smN N M) (z : leW N W W') : leW M W W' := by
  unfold leW at z ⊢
  rw [← nP_cg hN hM h]
  exact z
theorem PbC_cg {M : z_N} {K : Nat} (hN : nWF N) (hM : nWF M) (h : smN N M) : PbC N true K W = PbC M true K W := by
  have one : ∀ {N M : z_N}, nWF N → nWF M → smN N M → PbC N true K W = true → PbC M true K W = true := fun {N M} hN hM h z => by
    have eP := nP_cg hN hM h
    have eK := oK_cg hN hM h
    have eR : ∀ k, asR N k = asR M k := fun k => by
      unfold asR oR
      rw [eP]
    refine allL_iff.mpr (fun k hk => ?_)
    rw [← oM_cg hN hM h] at hk
    have zk := allL_iff.mp z k hk
    have hw := oK_ok hk
    unfold CW8 at zk ⊢
    rw [Bool.and_eq_true] at zk ⊢
    refine ⟨?_, allL_iff.mpr (fun g hg => ?_)⟩
    · have t := zk.1
      unfold wdB at t ⊢
      rw [← eK]
      exact t
    · have t := allL_iff.mp zk.2 g hg
      rw [if_pos rfl] at t ⊢
      have ed : dnB N (asR N (k + 1)) g = dnB M (asR M (k + 1)) g := by
        unfold dnB
        rw [nW_cg hN hM h, eR, eP]
        congr 2
        refine anyL_cg (fun i hi => ?_)
        cases y : nP M i
        · rfl
        · rw [nOn_cg h hi (by rw [eP]; exact y)]
      unfold suA at t ⊢
      rw [← eK, ← nOn_cg h hw.1 hw.2.1, ← ed, ← eR, ← wAt_cg h (fun l _ y => (asR_iff.mp y).1)]
      exact t
  apply Bool.eq_iff_iff.mpr
  exact ⟨one hN hM h, one hM hN h.s⟩
theorem alC_cg {M : z_N} (hN : nWF N) (hM : nWF M) (h : smN N M) : alC N = alC M := by
  have e1 : PbC N true (KS N) = PbC M true (KS M) := funext (fun W => by
    rw [← KS_cg hN hM h]
    exact PbC_cg hN hM h)
  unfold alC
  rw [oM_cg hN hM h, nM_cg hN hM h, e1, oK_cg hN hM h]
theorem alOK.cg {u : z_V} {M : z_N} (hN : nWF N) (hM : nWF M) (h : smN N M) (z : alOK u N) : alOK u M := by
  unfold alOK at z ⊢
  rw [← oM_cg hN hM h, ← nM_cg hN hM h, ← KS_cg hN hM h, ← alC_cg hN hM h]
  rcases z with z | z | ⟨a, b, c, r1, r2, r3⟩
  · exact Or.inl z
  · exact Or.inr (Or.inl z)
  · refine Or.inr (Or.inr ⟨a, b, c, r1, fun y W g => r2 y W (alkP_cg2 hM hN h.s g), fun y => ?_⟩)
    obtain ⟨W, g1, g2, g3⟩ := r3 y
    exact ⟨W, alkP_cg2 hN hM h g1, fun l hl hp => g2 l hl (by rw [nP_cg hN hM h]; exact hp), fun W' q => leW_cg hN hM h (g3 W' (alkP_cg2 hM hN h.s q))⟩
theorem ulOK.cg {u : z_V} {M : z_N} (hN : nWF N) (hM : nWF M) (h : smN N M) (z : ulOK u N) : ulOK u M := by
  rcases z with ⟨a, b⟩ | ⟨a, W, b, c⟩
  · exact Or.inl ⟨a, fun W y => b W (ulkP_cg2 hM hN h.s y)⟩
  · exact Or.inr ⟨a, W, ⟨ulkP_cg2 hN hM h b.1, fun W' q => leW_cg hN hM h (b.2 W' (ulkP_cg2 hM hN h.s q))⟩, fun l hl hp => c l hl (by rw [nP_cg hN hM h]; exact hp)⟩
theorem cAl_of {u : z_V} (hW : nWF N) (h4 : gL u 8 0 9 = lN (kN N 10)) (h : alOK u N) : cAl u := fun M hM k4 => h.cg hW hM (smN_k hW hM (h4.symm.trans k4))
theorem cUl_of {u : z_V} (hW : nWF N) (h4 : gL u 8 0 10 = lN (kN N 10)) (h : ulOK u N) : cUl u := fun M hM k4 => h.cg hW hM (smN_k hW hM (h4.symm.trans k4))
theorem cAl.fr {u : z_V} {S : Nat → Nat → Prop} (h : cAl v) (f : Fr S v u) (h2 : ¬ S 8 2) (h3 : ¬ S 8 3) (h9 : ¬ S 8 9) (h0 : ∀ k, ¬ S 900 k) : cAl u := fun N hW k4 => by
  rcases h N hW ((f.l h9).symm.trans k4) with ⟨a, b, c⟩ | ⟨a, b, c⟩ | ⟨a, b, c, r⟩
  · exact Or.inl ⟨a, (f.l h3).trans b, (f.i h2).trans c⟩
  · exact Or.inr (Or.inl ⟨a, b, (f.l h3).trans c⟩)
  · exact Or.inr (Or.inr ⟨a, b, (f.i h2).trans c, r.fr f h3 h0⟩)
theorem cUl.fr {u : z_V} {S : Nat → Nat → Prop} (h : cUl v) (f : Fr S v u) (h4 : ¬ S 8 4) (h0 : ¬ S 8 10) (h1 : ∀ k, ¬ S 901 k) : cUl u := fun N hW k4 => by
  rcases h N hW ((f.l h0).symm.trans k4) with ⟨a, b⟩ | ⟨a, W, b, c⟩
  · exact Or.inl ⟨(f.i h4).trans a, b⟩
  · exact Or.inr ⟨(f.i h4).trans a, W, b, fun l hl hp => (f.i (h1 l)).trans (c l hl hp)⟩
end WT8
