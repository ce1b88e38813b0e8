/-! weights of open lines by the class: what can be, the tightest line, the lowest row -/
def cbB (N : z_N) (A : Nat → Bool) (W : Nat → Nat) (K h : Nat) : Bool := if rcN N A h = 1 then decide (wAt N A W h + 1 ≤ K) && (decide (K ≤ wAt N A W h + oM N) && !usB A W (K - wAt N A W h)) else decide (wAt N A W h + rcN N A h * (rcN N A h + 1) / 2 ≤ K) && decide (K ≤ wAt N A W h + rcN N A h * (2 * oM N - rcN N A h + 1) / 2)
theorem rt_tab : ∀ r, r < 11 → ∀ c, c < 11 → (nI r * (nI r + 1)) / 2 = nI (r * (r + 1) / 2) ∧ (r ≤ c → (nI r * ((2 * nI c - nI r) + 1)) / 2 = nI (r * (2 * c - r + 1) / 2)) := by decide +kernel
theorem rt_bd : ∀ r, r < 11 → ∀ c, c < 11 → r * (r + 1) / 2 ≤ 100 ∧ r * (2 * c - r + 1) / 2 ≤ 200 := by decide +kernel
section WT5
variable {d : Nat} {v : z_V} {N : z_N} {A : Nat → Bool} {W W' : Nat → Nat} {al : Bool} {K l x h : Nat}
theorem rc_le : rcN N A h ≤ oM N := cntL_mono 10 (fun i _ z => by
  rw [Bool.and_eq_true, Bool.and_eq_true] at z
  exact z.1.1)
theorem PV.le (hV : PV N A W) : wAt N A W h ≤ 100 := wA_le (fun l hl z => by
  have := (hV.1 l hl z).2.2
  have := oM_le (N := N)
  omega)
theorem s_canBe (hS : NS v N) (hP : PT v N true K A W) (hV : PV N A W) (hK : K ≤ 110) (hh : h < 7) : ZP (d + 1) m_X8_canBe [vR 8 0, vR 0 0, vI (nI h)] v (bI (cbB N A W K h)) := fun Q k => E_X8_canBe (B_X8_canBe_0 (by
  have hm := oM_le (N := N)
  have hr := rc_le (N := N) (A := A) (h := h)
  have hw := hV.le (h := h)
  obtain ⟨p1, p2, p3, p4⟩ := hP
  have e4 : gI v 0 0 4 = nI (oM N) := hS.2.1.trans (congrArg nI pcN)
  have e6 : gI v 906 0 h = iI ((K : Int) - (wAt N A W h : Int)) := p2 h hh
  have tb := rt_tab (rcN N A h) (by omega) (oM N) (by omega)
  have bd := rt_bd (rcN N A h) (by omega) (oM N) (by omega)
  have K' : ∀ b, b = cbB N A W K h → Q v (some (vI (bI b))) := fun b e => by rw [e]; exact k
  unfold cbB at K'
  rw [n_nI (by omega), p3 h hh, e4, e6, tb.1, tb.2 hr, p1]
  refine z_ii h rfl hh (z_ii h rfl hh (pk_ne (rcN N A h) 1 (fun ne => ?_) (fun e => ?_)))
  · rw [if_neg ne] at K'
    refine pj_lt ((K : Int) - (wAt N A W h : Int)) ((rcN N A h * (rcN N A h + 1) / 2 : Nat) : Int) (fun z => K' false ?_) (fun z => ?_) rfl (iI_nI _).symm (by omega) (by omega) (by omega) (by omega)
    · rw [decide_eq_false (by omega), Bool.false_and]
    · rw [decide_eq_true (show wAt N A W h + rcN N A h * (rcN N A h + 1) / 2 ≤ K by omega), Bool.true_and] at K'
      refine pj_lt ((rcN N A h * (2 * oM N - rcN N A h + 1) / 2 : Nat) : Int) ((K : Int) - (wAt N A W h : Int)) (fun z => K' false ?_) (fun z => K' true ?_) (iI_nI _).symm rfl (by omega) (by omega) (by omega) (by omega)
      · rw [decide_eq_false (by omega)]
      · rw [decide_eq_true (by omega)]
  · rw [if_pos e] at K'
    refine pj_lt ((K : Int) - (wAt N A W h : Int)) (1 : Int) (fun z => K' false ?_) (fun z => ?_) rfl rfl (by omega) (by omega) (by omega) (by omega)
    · rw [decide_eq_false (by omega), Bool.false_and]
    · rw [decide_eq_true (show wAt N A W h + 1 ≤ K by omega), Bool.true_and] at K'
      refine pj_lt ((oM N : Nat) : Int) ((K : Int) - (wAt N A W h : Int)) (fun z => K' false ?_) (fun z => ?_) (iI_nI _).symm rfl (by omega) (by omega) (by omega) (by omega)
      · rw [decide_eq_false (by omega), Bool.false_and]
      · rw [decide_eq_true (show K ≤ wAt N A W h + oM N by omega), Bool.true_and] at K'
        have hb := bs_lt 11 (usB A W)
        have el : iI ((K : Int) - (wAt N A W h : Int)) = nI (K - wAt N A W h) := by
          rw [← iI_nI]
          congr 1
          omega
        rw [el, nI_bitb (by omega) (by omega), bs_bit, decide_eq_true (show K - wAt N A W h < 11 by omega), Bool.true_and]
        exact br_n (fun y => K' false (by rw [y]; rfl)) (fun y => K' true (by rw [y]; rfl))))
theorem cb_t (h1 : cbB N A W K h = true) (h0 : rcN N A h = 0) : wAt N A W h = K := by
  unfold cbB at h1
  rw [if_neg (by omega), h0, Bool.and_eq_true, decide_eq_true_eq, decide_eq_true_eq] at h1
  have := h1.1
  have := h1.2
  omega
/-- all of a halt: those with a weight, and the others -/
theorem wA_two (hA : ∀ l, l < 10 → A l = true → nP N l = true) : wAt N (nP N) W' h = wAt N A W' h + sm 10 (fun l => if ((nP N l && !A l) && nOn N l h) = true then W' l else 0) := by
  unfold wAt
  rw [← sm_add]
  refine sm_cg (fun l hl => ?_)
  cases e : A l
  · rw [Bool.not_false, Bool.and_true, Bool.false_and, if_neg (show ¬ false = true by decide), Nat.zero_add]
  · rw [hA l hl e, Bool.not_true, Bool.and_false, Bool.false_and, if_neg (show ¬ false = true by decide), Nat.add_zero]
theorem cb_no (hV : PV N A W) (hK : alkP N K W') (he : ∀ l, l < 10 → A l = true → W' l = W l) (hh : h < 7) (hw : nW N h = true) : cbB N A W K h = true := by
  have e1 := hK.2 h hh hw
  rw [wA_two (fun l hl z => (hV.1 l hl z).1)] at e1
  have e2 : wAt N A W' h = wAt N A W h := wA_cg (fun _ _ => rfl) (fun l hl z => he l hl z)
  rw [e2] at e1
  have ds := dsum (m := 10) (n := oM N) (W := W') (rcN N A h) (fun l => (nP N l && !A l) && nOn N l h) rfl (fun i hi z => by
    rw [Bool.and_eq_true, Bool.and_eq_true] at z
    exact hK.1.1 i hi z.1.1) (fun i j hi hj zi zj e => by
    rw [Bool.and_eq_true, Bool.and_eq_true] at zi zj
    by_cases y : i = j
    · exact y
    · exact absurd e (hK.1.ne hi hj zi.1.1 zj.1.1 y))
  have hr := rc_le (N := N) (A := A) (h := h)
  unfold cbB
  by_cases r1 : rcN N A h = 1
  · rw [if_pos r1]
    rw [r1] at ds
    obtain ⟨i, hi, zi, _⟩ := sel_ex (n := 10) (k := 0) (f := fun l => (nP N l && !A l) && nOn N l h) (by show 0 < rcN N A h; omega)
    have s1 := sm_rm (f := fun l => (nP N l && !A l) && nOn N l h) (W := W') hi zi
    have c1 := cnt_rm (f := fun l => (nP N l && !A l) && nOn N l h) zi 10
    rw [if_pos hi] at c1
    have c1' : rcN N A h = cntL 10 (fun j => ((nP N j && !A j) && nOn N j h) && !decide (j = i)) + 1 := c1
    rw [sm_z (show cntL 10 (fun j => ((nP N j && !A j) && nOn N j h) && !decide (j = i)) = 0 by omega), Nat.zero_add] at s1
    rw [s1] at e1
    rw [Bool.and_eq_true, Bool.and_eq_true, Bool.not_eq_true'] at zi
    have rg := hK.1.1 i hi zi.1.1
    rw [decide_eq_true (show wAt N A W h + 1 ≤ K by omega), decide_eq_true (show K ≤ wAt N A W h + oM N by omega), Bool.true_and, Bool.true_and, show K - wAt N A W h = W' i by omega]
    cases y : usB A W (W' i)
    · rfl
    · obtain ⟨j, hj, z⟩ := anyL_iff.mp y
      rw [Bool.and_eq_true, decide_eq_true_eq] at z
      have ne : j ≠ i := fun q => by
        rw [q, zi.1.2] at z
        cases z.1
      have := hK.1.ne hj hi (hV.1 j hj z.1).1 zi.1.1 ne
      rw [he j hj z.1] at this
      exact absurd z.2 this
  · rw [if_neg r1]
    have m1 : rcN N A h * (2 * oM N - rcN N A h + 1) + rcN N A h * rcN N A h = rcN N A h * (2 * oM N + 1) := by
      rw [← Nat.mul_add]
      congr 1
      omega
    rw [decide_eq_true (by omega), decide_eq_true (by omega)]
    rfl
theorem imn_tab : ∀ a, a < 11 → ∀ b, b < 11 → i_min (nI a) (nI b) = nI (min a b) := by decide +kernel
theorem s_tightest {Lf : Nat → Bool} (hS : NS v N) (hW : nWF N) (hP : PT v N al K A W) (hl : ∀ l, Lf l = true → nP N l = true) : ZI (d + 1) m_X8_tightest [vR 8 0, vR 0 0, vI (nI (bs 10 Lf))] v (fun u r => u = v ∧ ((r = -1 ∧ ∀ l, l < 10 → Lf l = false) ∨ ∃ l, l < 10 ∧ Lf l = true ∧ r = nI l)) := fun Q k => E_X8_tightest (B_X8_tightest_0 (by
  have hb := bs_lt 10 Lf
  have hm := oM_le (N := N)
  have key : ∀ i, i ≤ 10 → ∀ best few, ((best = -1 ∧ few = nI 11 ∧ ∀ g, g < i → Lf g = false) ∨ ∃ h, h < i ∧ Lf h = true ∧ best = nI h ∧ ∃ s, s < 11 ∧ few = nI s) → ∀ u6, z_Wp (z_C d) 1 k_X8_tightest Q 9 [some (vR 8 0), some (vR 0 0), some (vI (nI (bs 10 Lf))), some (vI best), some (vI few), some (vI (nI i)), u6] [] v := by
    refine z_up 10 (fun best few hi u6 => ?_) (fun i hi ih best few hb2 u6 => ?_)
    · refine B_X8_tightest_9 (pk_le 10 10 (fun _ => k v best ⟨rfl, ?_⟩) (fun z => absurd z (by omega)))
      rcases hi with ⟨h1, _, h3⟩ | ⟨h, h1, h2, h3, _⟩
      · exact Or.inl ⟨h1, h3⟩
      · exact Or.inr ⟨h, h1, h2, h3⟩
    · refine B_X8_tightest_9 (pk_le 10 i (fun z => absurd z (by omega)) (fun _ => ?_))
      rw [nI_bitb (by omega) (by omega), bs_bit, decide_eq_true hi, Bool.true_and, nI_1]
      refine br_z (fun e => ih best few ?_ _) (fun e => ?_)
      · rcases hb2 with ⟨h1, h2, h3⟩ | ⟨h, h1, h2⟩
        · refine Or.inl ⟨h1, h2, fun g hg => ?_⟩
          rcases Nat.lt_succ_iff_lt_or_eq.mp hg with z | z
          · exact h3 g z
          · exact z ▸ e
        · exact Or.inr ⟨h, by omega, h2⟩
      · have hp := hl i e
        have hw := hW.2.2.1 i (nP_lt hW hp)
        have hl2 := hS.2.2.2.2.2.1 i hi hp
        have r1 := rc_le (N := N) (A := A) (h := nA N i)
        have r2 := rc_le (N := N) (A := A) (h := nB N i)
        rw [n_nI (n := i) (by omega), hl2.1, hl2.2, n_nI (n := nA N i) (by omega), n_nI (n := nB N i) (by omega), hP.2.2.1 _ hw.1, hP.2.2.1 _ hw.2.1, imn_tab _ (by omega) _ (by omega)]
        refine z_ii i rfl hi (z_ii _ rfl hw.1 (z_ii i rfl hi (z_ii _ rfl hw.2.1 ?_)))
        have mn : min (rcN N A (nA N i)) (rcN N A (nB N i)) < 11 := by omega
        refine ⟨fun z => ih best few ?_ _, fun _ => ih _ _ (Or.inr ⟨i, by omega, e, rfl, _, mn, rfl⟩) _⟩
        rcases hb2 with ⟨h1, h2, h3⟩ | ⟨h, h1, h2⟩
        · exfalso
          rw [h2] at z
          have := (nI_leI (by decide) (by omega)).mp z
          omega
        · exact Or.inr ⟨h, by omega, h2⟩
  exact key 0 (by omega) _ _ (Or.inl ⟨rfl, rfl, fun g hg => absurd hg (by omega)⟩) _))
/-- which of two rows is lower -/
theorem s_isLower {R : Nat → Nat} (hS : NS v N) (hW : nWF N) (h1 : ∀ l, l < 10 → nP N l = true → gI v 905 0 l = nI (W l) ∧ W l ≤ 10) (h2 : ∀ l, l < 10 → nP N l = true → gI v 900 0 l = nI (R l) ∧ R l ≤ 10) : ZI (d + 2) m_X8_isLower [vR 8 0, vR 0 0] v (fun u r => u = v ∧ ((r = 1 ∧ leW N W R) ∨ (r = 0 ∧ leW N R W))) := fun Q k => E_X8_isLower (B_X8_isLower_0 (by
  have ho := nO_lt hW
  refine z_up0 (P := fun l => (∀ i, i < l → nP N i = true → W i = R i) → z_Wp (z_C (d + 1)) 4 k_X8_isLower Q 2 [some (vR 8 0), some (vR 0 0), some (vI (nI l))] [] v) 10 ?_ ?_ (fun i h => absurd h (by omega))
  · intro hall
    exact B_X8_isLower_2 (pk_le 10 10 (fun _ => k v 0 ⟨rfl, Or.inr ⟨rfl, fun l hl hp _ => by rw [hall l hl hp]; exact Nat.le_refl _⟩⟩) (fun q => absurd q (by omega)))
  · intro l hl ih hall
    refine B_X8_isLower_2 (pk_le 10 l (fun q => absurd q (by omega)) (fun _ => ?_))
    rw [nI_1]
    have next : (nP N l = true → W l = R l) → z_Wp (z_C (d + 1)) 4 k_X8_isLower Q 2 [some (vR 8 0), some (vR 0 0), some (vI (nI (l + 1)))] [] v := fun e => ih (fun i hi hp => by
      by_cases z : i = l
      · subst z
        exact e hp
      · exact hall i (by omega) hp)
    refine cP (s_isOpenX (d := d) (by omega) hS.1 (by omega)) (br_z (fun e => next (fun z => by rw [e] at z; cases z)) (fun e => z_ii l rfl hl (z_ii l rfl hl ?_)))
    have a1 := h1 l hl e
    have a2 := h2 l hl e
    rw [n_nI (by omega), a1.1, a2.1]
    refine pk_eq (W l) (R l) (fun z => next (fun _ => z)) (fun ne => z_ii l rfl hl (z_ii l rfl hl (pk_le (R l) (W l) (fun z => k v 0 ⟨rfl, Or.inr ⟨rfl, fun l' hl' hp' hpre => ?_⟩⟩) (fun z => k v 1 ⟨rfl, Or.inl ⟨rfl, fun l' hl' hp' hpre => ?_⟩⟩))))
    · rcases Nat.lt_trichotomy l' l with y | y | y
      · rw [hall l' y hp']
        exact Nat.le_refl _
      · rw [y]
        exact z
      · exact absurd (hpre l y e) ne
    · rcases Nat.lt_trichotomy l' l with y | y | y
      · rw [hall l' y hp']
        exact Nat.le_refl _
      · rw [y]
        omega
      · exact absurd (hpre l y e).symm ne))
/-- the ways so far, and the lowest row of them -/
def RsW (v : z_V) (N : z_N) (y : Nat) (S : (Nat → Nat) → Prop) : Prop := gL v 8 0 3 = lN y ∧ (y = 0 → ∀ W, ¬ S W) ∧ (0 < y → ∃ W, S W ∧ (∀ l, l < 10 → nP N l = true → gI v 900 0 l = nI (W l) ∧ W l ≤ 10) ∧ ∀ W', S W' → leW N W W')
theorem RsW.cg {y : Nat} {S S' : (Nat → Nat) → Prop} (h : RsW v N y S) (e : ∀ W, S W ↔ S' W) : RsW v N y S' := by
  obtain ⟨h1, h2, h3⟩ := h
  refine ⟨h1, fun z W y => h2 z W ((e W).mpr y), fun z => ?_⟩
  obtain ⟨W, g1, g2, g3⟩ := h3 z
  exact ⟨W, (e W).mp g1, g2, fun W' y => g3 W' ((e W').mpr y)⟩
theorem RsW.fr {u : z_V} {y : Nat} {S : (Nat → Nat) → Prop} {F : Nat → Nat → Prop} (h : RsW v N y S) (f : Fr F v u) (h1 : ¬ F 8 3) (h2 : ∀ k, ¬ F 900 k) : RsW u N y S := by
  obtain ⟨a1, a2, a3⟩ := h
  refine ⟨(f.l h1).trans a1, a2, fun z => ?_⟩
  obtain ⟨W, g1, g2, g3⟩ := a3 z
  exact ⟨W, g1, fun l hl hp => ⟨(f.i (h2 l)).trans (g2 l hl hp).1, (g2 l hl hp).2⟩, g3⟩
def fKl : Nat → Nat → Prop := fun t k => t = 900 ∨ (t = 8 ∧ k = 3)
theorem s_keepLowest {y : Nat} {S : (Nat → Nat) → Prop} (hS : NS v N) (hW : nWF N) (h1 : ∀ l, l < 10 → nP N l = true → gI v 905 0 l = nI (W l) ∧ W l ≤ 10) (hR : RsW v N y S) (hy : y < 2 ^ 62) : ZV (d + 3) m_X8_keepLowest [vR 8 0, vR 0 0] (pL v 8 0 3 (gL v 8 0 3 + 1)) (fun u => RsW u N (y + 1) (fun W' => S W' ∨ ∀ l, l < 10 → nP N l = true → W' l = W l) ∧ Fr fKl v u) := fun Q k => E_X8_keepLowest (B_X8_keepLowest_0 (by
  obtain ⟨r1, r2, r3⟩ := hR
  have e3 : gL (pL v 8 0 3 (gL v 8 0 3 + 1)) 8 0 3 = lN (y + 1) := by rw [gL_pL_s, r1, lN_1]
  have f0 : Fr fKl v (pL v 8 0 3 (gL v 8 0 3 + 1)) := Fr.rfl.pL (Or.inr ⟨rfl, rfl⟩)
  have cp : (∀ W', S W' → leW N W W') → RsW (pC (pL v 8 0 3 (gL v 8 0 3 + 1)) 905 0 0 900 0 0 10) N (y + 1) (fun W' => S W' ∨ ∀ l, l < 10 → nP N l = true → W' l = W l) := fun hlow => by
    refine ⟨e3, fun z => absurd z (by omega), fun _ => ⟨W, Or.inr (fun _ _ _ => rfl), fun l hl hp => ⟨?_, (h1 l hl hp).2⟩, fun W' z => ?_⟩⟩
    · rw [gI_pC_s, pk_cpy_in (by omega) (by omega), show 0 + (l - 0) = l by omega]
      exact (h1 l hl hp).1
    · rcases z with z | z
      · exact hlow W' z
      · exact fun l hl hp _ => by rw [z l hl hp]; exact Nat.le_refl _
  have fc : Fr fKl v (pC (pL v 8 0 3 (gL v 8 0 3 + 1)) 905 0 0 900 0 0 10) := f0.pC (fun _ => Or.inl rfl)
  have ecmp : lg_cmp (lN (y + 1)) 1 ≤ 0 ↔ y = 0 := by
    have := lg_cmpI (a := ((y + 1 : Nat) : Int)) (b := 1) (by omega) (by omega) (by omega) (by omega)
    rw [lI_lN, show lI 1 = 1 by decide] at this
    rw [this]
    constructor
    · intro z
      split at z
      · exact absurd z (by decide)
      · omega
    · intro z
      subst z
      decide
  rw [e3]
  refine ⟨fun z => ?_, fun z => ?_⟩
  · have y0 := ecmp.mp z
    exact k _ ⟨cp (fun W' h => absurd h (r2 y0 W')), fc⟩
  · have yp : 0 < y := Nat.pos_of_ne_zero (fun e => z (ecmp.mpr e))
    obtain ⟨R, g1, g2, g3⟩ := r3 yp
    refine cI (s_isLower (d := d) (W := W) (R := R) (hS.fr f0 (fun k => by unfold fKl; omega) (fun k => by unfold fKl; omega) (fun k => by unfold fKl; omega) (fun k => by unfold fKl; omega)) hW h1 g2) (fun w r hr => ?_)
    obtain ⟨rfl, hr⟩ := hr
    rcases hr with ⟨rfl, hlo⟩ | ⟨rfl, hlo⟩
    · exact br_nT (by decide) (k _ ⟨cp (fun W' h => hlo.tr (g3 W' h)), fc⟩)
    · refine br_nF rfl (k _ ⟨⟨e3, fun q => absurd q (by omega), fun _ => ⟨R, Or.inl g1, g2, fun W' q => ?_⟩⟩, f0⟩)
      rcases q with q | q
      · exact g3 W' q
      · refine hlo.tr (fun l hl hp _ => ?_)
        rw [q l hl hp]
        exact Nat.le_refl _))
end WT5
