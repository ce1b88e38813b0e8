/-! the class spaces halts apart -/
theorem lg_eq0 {a b : Int64} : lg_cmp a b = 0 ↔ a = b := by
  unfold lg_cmp
  constructor
  · intro z
    by_cases h : a > b
    · rw [if_pos h] at z
      exact absurd z (by decide)
    · rw [if_neg h] at z
      by_cases e : a = b
      · exact e
      · rw [if_neg e] at z
        exact absurd z (by decide)
  · intro z
    subst z
    rw [if_neg (by intro q; rw [gt_iff_lt, Int64.lt_iff_toInt_lt] at q; omega), if_pos rfl]
theorem bs_or2 {n : Nat} {f g : Nat → Bool} : bs n f ||| bs n g = bs n (fun i => f i || g i) := bs_eq (Nat.or_lt_two_pow (bs_lt n f) (bs_lt n g)) (fun i hi => by
  rw [Nat.testBit_or, bs_bit, bs_bit]
  simp [hi])
theorem NS.fn {v w : z_V} {N : z_N} {S : Nat → Nat → Prop} (h : NS v N) (f : Fn S v w) (h0 : ¬ S 0 0) (h1 : ¬ S 100 0) (h2 : ¬ S 101 0) (h3 : ¬ S 102 0) : NS w N := by
  obtain ⟨a1, a2, a3, a4, a5, a6, a7⟩ := h
  exact ⟨(f.i h0).trans a1, (f.i h0).trans a2, (f.i h0).trans a3, (f.i h0).trans a4, (f.l h0).trans a5, fun l hl hp => ⟨(f.i h1).trans (a6 l hl hp).1, (f.i h2).trans (a6 l hl hp).2⟩, fun g hg => (f.i h3).trans (a7 g hg)⟩
theorem br_by {c x s : Nat} {K : Int32 → Prop} (hc : c < 4) (hx : x < 31) (hs : s < 2 ^ 63) (k : K (bI (decide (0 < c) && (decide (c ≤ x) && s.testBit (x - c))))) : (nI c ≤ 0 → K 0) ∧ (¬ nI c ≤ 0 → (nI x < nI c → K 0) ∧ (¬ nI x < nI c → (lg_cmp (l_shr (lN s) (nI x - nI c) &&& 1) 0 = 0 → K 0) ∧ (¬ lg_cmp (l_shr (lN s) (nI x - nI c) &&& 1) 0 = 0 → K 1))) := by
  refine pk_le c 0 (fun z => ?_) (fun z => ?_)
  · obtain rfl : c = 0 := by omega
    exact k
  · rw [decide_eq_true (show 0 < c by omega), Bool.true_and] at k
    refine pk_lt x c (fun y => ?_) (fun y => ?_)
    · rw [decide_eq_false (by omega), Bool.false_and] at k
      exact k
    · rw [decide_eq_true (show c ≤ x by omega), Bool.true_and] at k
      have e : nI x - nI c = nI (x - c) := pk_sub (by omega)
      rw [e]
      refine br_lb hs (by omega) (fun e => ?_) (fun e => ?_) <;> rw [e] at k <;> exact k
section PL2
variable {d : Nat} {v : z_V} {N : z_N} {near far : Nat}
theorem s_overTwo {h : Nat} (hS : NS v N) (hh : h < 7) : ZP (d + 1) m_X2_overTwo [vR 0 0, vI (nI h)] v (nI (bs 7 (fun j => ov N h j && decide (j ≠ h)))) := fun Q k => E_X2_overTwo (B_X2_overTwo_0 (by
  have hb := hS.2.2.2.2.2.2
  have zh : ∀ {T : Prop}, T → z_if (z_in (nI h) 7) T := fun t => z_ii h rfl hh t
  have hl7 := bs_lt 7 (nAdj N h)
  refine z_up0 (P := fun i => z_Wp (z_C d) 1 k_X2_overTwo Q 4 [some (vR 0 0), some (vI (nI h)), some (vI (nI (bs 7 (fun j => anyL i (fun x => nAdj N h x && nAdj N x j))))), some (vI (nI i))] [] v) 7 ?_ ?_
  · refine B_X2_overTwo_4 (pk_le 7 7 (fun _ => zh ?_) (fun z => absurd z (by omega)))
    rw [n_nI (by omega), hb h hh, nI_shl (by omega), nI_andn7 (bs_lt 7 _), nI_andn7 (bs_lt 7 _)]
    have : bs 7 (fun i => (bs 7 (fun i => (bs 7 (fun j => anyL 7 (fun x => nAdj N h x && nAdj N x j))).testBit i && !(bs 7 (nAdj N h)).testBit i)).testBit i && !(2 ^ h).testBit i) = bs 7 (fun j => ov N h j && decide (j ≠ h)) := bs_cong (fun i hi => by
      rw [bs_bit, bs_bit, bs_bit, decide_eq_true hi, Bool.true_and, Bool.true_and, Bool.true_and, Nat.testBit_two_pow]
      unfold ov
      rw [anyL_cg (fun x _ => by rw [nAdj_comm (g := x)]) (g := fun x => nAdj N h x && nAdj N i x), Bool.and_comm (!nAdj N h i)]
      congr 1
      by_cases z : h = i
      · simp [z]
      · simp [z, Ne.symm z])
    rw [this]
    exact k
  · intro i hi ih
    refine B_X2_overTwo_4 (pk_le 7 i (fun z => absurd z (by omega)) (fun _ => zh ?_))
    rw [n_nI (by omega), hb h hh, nI_bitb (by omega) (by omega), bs_bit, decide_eq_true hi, Bool.true_and, nI_1]
    refine br_z (fun e => ?_) (fun e => z_ii i rfl hi ?_)
    · have : bs 7 (fun j => anyL i (fun x => nAdj N h x && nAdj N x j)) = bs 7 (fun j => anyL (i + 1) (fun x => nAdj N h x && nAdj N x j)) := bs_cong (fun j _ => by simp [anyL, e])
      rw [this]
      exact ih
    · rw [n_nI (by omega), hb i hi, nI_or, bs_or2]
      have : bs 7 (fun j => anyL i (fun x => nAdj N h x && nAdj N x j) || nAdj N i j) = bs 7 (fun j => anyL (i + 1) (fun x => nAdj N h x && nAdj N x j)) := bs_cong (fun j _ => by simp [anyL, e])
      rw [this]
      exact ih))
theorem s_sums (hn : near < 4) (hf : far < 4) : ZPL (d + 1) m_X2_sums [vI (nI near), vI (nI far)] v (lN (smS near far 30)) := fun Q k => E_X2_sums (B_X2_sums_0 (by
  have key : ∀ x, x ≤ 30 → ∀ u5 u6, z_Wp (z_C d) 2 k_X2_sums Q 5 [some (vI (nI near)), some (vI (nI far)), some (vL (lN (smS near far x))), none, some (vI (nI (x + 1))), u5, u6] [] v := by
    refine z_up 30 (fun u5 u6 => ?_) (fun x hx ih u5 u6 => ?_)
    · exact B_X2_sums_5 (pk_lt 30 31 (fun _ => k) (fun z => absurd z (by omega)))
    · have hs : smS near far x < 2 ^ 63 := Nat.lt_of_lt_of_le (smS_lt near hn far hf x (by omega)) (Nat.pow_le_pow_right (by decide) (by omega))
      refine B_X2_sums_5 (pk_lt 30 (x + 1) (fun z => absurd z (by omega)) (fun _ => br_by (K := fun s0 => z_Wp (z_C d) 2 k_X2_sums Q 40 [some (vI (nI near)), some (vI (nI far)), some (vL (lN (smS near far x))), none, some (vI (nI (x + 1))), none, none] [.inl s0] v) hn (by omega) hs ?_))
      refine B_X2_sums_40 (br_by (K := fun s0 => z_Wp (z_C d) 2 k_X2_sums Q 70 [some (vI (nI near)), some (vI (nI far)), some (vL (lN (smS near far x))), none, some (vI (nI (x + 1))), some (vI (bI (decide (0 < near) && (decide (near ≤ x + 1) && (smS near far x).testBit (x + 1 - near))))), none] [vI s0] v) hf (by omega) hs ?_)
      have e1 : (lN (smS near far x)) ||| (l_shl 1 (nI (x + 1))) = lN (smS near far x ||| 2 ^ (x + 1)) := by rw [lp_tab (x + 1) (by omega), lN_or]
      refine B_X2_sums_70 ?_
      rw [nI_1, e1]
      have eT : ((decide (0 < near) && (decide (near ≤ x + 1) && (smS near far x).testBit (x + 1 - near))) || (decide (0 < far) && (decide (far ≤ x + 1) && (smS near far x).testBit (x + 1 - far)))) = true → smS near far (x + 1) = smS near far x ||| 2 ^ (x + 1) := fun z => by
        show smS near far x ||| (if _ then _ else _) = _
        rw [if_pos z]
      have eF : ((decide (0 < near) && (decide (near ≤ x + 1) && (smS near far x).testBit (x + 1 - near))) || (decide (0 < far) && (decide (far ≤ x + 1) && (smS near far x).testBit (x + 1 - far)))) = false → smS near far (x + 1) = smS near far x := fun z => by
        show smS near far x ||| (if _ then _ else _) = _
        rw [if_neg (by rw [z]; decide), Nat.or_zero]
      refine br_n (fun z => ?_) (fun z => br_z (fun y => ?_) (fun y => ?_))
      · rw [← eT (by rw [z, Bool.true_or])]
        exact ih _ _
      · have := ih (some (vI (bI (decide (0 < near) && (decide (near ≤ x + 1) && (smS near far x).testBit (x + 1 - near)))))) (some (vI (bI (decide (0 < far) && (decide (far ≤ x + 1) && (smS near far x).testBit (x + 1 - far))))))
        rw [eF (by rw [z, y]; rfl)] at this
        exact this
      · rw [← eT (by rw [y, Bool.or_true])]
        exact ih _ _
  exact key 0 (by omega) _ _))
/-- what the spaced places hold -/
def spOK (u : z_V) (N : z_N) (near far : Nat) : Prop := ∃ t L, isOp 2 near far N t L ∧ gI u 2 0 1 = nI t ∧ ∀ h, h < 7 → nW N h = true → gI u 300 0 h = nI (L h)
def cSp (v : z_V) : Prop := ∀ N near far, nWF N → near < 4 → far < 4 → gL v 2 0 4 = lN (kN N 10) → gI v 2 0 5 = nI near → gI v 2 0 6 = nI far → spOK v N near far
def fSp : Nat → Nat → Prop := fun t m => (t = 2 ∧ m = 0) ∨ (t = 300 ∧ m = 0) ∨ ((t = 352 ∨ t = 353) ∧ m < 7)
theorem spOK.cg {u : z_V} {M : z_N} (hN : nWF N) (hM : nWF M) (h : smN N M) (z : spOK u N near far) : spOK u M near far := by
  obtain ⟨t, L, h1, h2, h3⟩ := z
  refine ⟨t, L, isOp_cg hN hM h h1, h2, ?_⟩
  rw [← nW_cg hN hM h]
  exact h3
theorem cSp_of {u : z_V} (hW : nWF N) (hn : near < 4) (hf : far < 4) (h4 : gL u 2 0 4 = lN (kN N 10)) (h5 : gI u 2 0 5 = nI near) (h6 : gI u 2 0 6 = nI far) (h : spOK u N near far) : cSp u := fun M near' far' hM hn' hf' k4 k5 k6 => by
  obtain rfl : near = near' := (nI_eq (by omega) (by omega)).mp (h5.symm.trans k5)
  obtain rfl : far = far' := (nI_eq (by omega) (by omega)).mp (h6.symm.trans k6)
  exact h.cg hW hM (smN_k hW hM (h4.symm.trans k4))
def SPq (v : z_V) (N : z_N) (near far : Nat) (u : z_V) : Prop := NS u N ∧ Fn fSp v u ∧ gL u 2 0 4 = lN (kN N 10) ∧ gI u 2 0 5 = nI near ∧ gI u 2 0 6 = nI far
theorem SPq.fn {u w : z_V} {S : Nat → Nat → Prop} (h : SPq v N near far u) (f : Fn S u w) (hs : ∀ t m, S t m → fSp t m) (h2 : ¬ S 2 0) : SPq v N near far w := by
  obtain ⟨a1, a2, a3, a4, a5⟩ := h
  have q : ∀ t m, ¬ fSp t m → ¬ S t m := fun t m z y => z (hs t m y)
  exact ⟨a1.fn f (q _ _ (by unfold fSp; omega)) (q _ _ (by unfold fSp; omega)) (q _ _ (by unfold fSp; omega)) (q _ _ (by unfold fSp; omega)), a2.trans (f.mono hs), (f.l h2).trans a3, (f.i h2).trans a4, (f.i h2).trans a5⟩
theorem s_space (hS : NS v N) (hW : nWF N) (hn : near < 4) (hf : far < 4) (hc : cSp v) : ZV (d + 18) m_X2_space [vR 2 0, vR 0 0, vI (nI near), vI (nI far)] v (fun u => spOK u N near far ∧ cSp u ∧ Fn fSp v u) := fun Q k => E_X2_space (B_X2_space_0 (by
  -- a search from the start
  have sm31 : ∀ t, t < 31 → lN (smS near far 30) &&& (l_shl 1 (nI t + 1) - 1) = lN (bs 31 (fun x => (smS near far 30).testBit x && decide (x < t + 1))) := fun t ht => by
    rw [nI_1, lm_tab (t + 1) (by omega), lN_and]
    have e : smS near far 30 = bs 31 (fun x => (smS near far 30).testBit x) := bs_eq (smS_lt near hn far hf 30 (by decide)) (fun _ _ => rfl)
    have e2 : smS near far 30 &&& bs 31 (fun i => decide (i < t + 1)) = bs 31 (fun x => (smS near far 30).testBit x && decide (x < t + 1)) := by
      conv => lhs; rw [e]
      exact bs_and
    rw [e2]
  have top : ∀ t, t ≤ 31 → ∀ (u : z_V), SPq v N near far u → PM u 0 (LoF near far N) (fun _ _ => 30) → (∀ t', t' < t → ∀ L', ¬ niceL 2 near far N t' L') → ∀ u2 u3 u7, z_Wp (z_C (d + 17)) 0 k_X2_space Q 171 [some (vR 2 0), some (vR 0 0), u2, u3, some (vL (lN (smS near far 30))), none, some (vI (nI t)), u7] [] u := by
    refine z_up 31 (fun u _ _ hno => absurd (nice_3 (by omega) (by omega)) (hno 18 (by omega) _)) (fun t ht ih u hu hP hno u2 u3 u7 => ?_)
    refine B_X2_space_171 (pk_lt 30 t (fun z => absurd z (by omega)) (fun _ => ?_))
    rw [sm31 t ht]
    have hg := s_goOnP (n := 0) (N := N) (Lo := LoF near far N) (Hi := fun _ _ => 30) (U := fun x => (smS near far 30).testBit x && decide (x < t + 1)) 7 d (pL u 2 0 7 (lN (bs 31 (fun x => (smS near far 30).testBit x && decide (x < t + 1))))) 0 (fun _ => 0) (by omega) hP gL_pL_s (fun g hg => absurd hg (by omega)) (fun g hg => absurd hg (by omega))
    have e5 : gI u 0 0 5 = nI (bs 7 (fun i => nW N i && decide (0 ≤ i))) := hu.1.2.2.1.trans (congrArg nI (bs_cong (fun i _ => by simp)))
    have e0 : (0 : Int32) = nI (bs 7 (fun i => nW N i && decide (i < 0))) := congrArg nI ((bs_cong (fun i _ => by simp)).trans (show bs 7 (fun _ => false) = 0 by decide)).symm
    have hg2 : ZI (d + 17) m_X2_goOn [vR 2 0, vI (gI u 0 0 5), vI 0] (pL u 2 0 7 (lN (bs 31 (fun x => (smS near far 30).testBit x && decide (x < t + 1))))) (fun w r => resP N (LoF near far N) (fun _ _ => 30) (fun x => (smS near far 30).testBit x && decide (x < t + 1)) 0 0 (fun _ => 0) w r ∧ Fn (f300 0) (pL u 2 0 7 (lN (bs 31 (fun x => (smS near far 30).testBit x && decide (x < t + 1))))) w) := by
      rw [← e5, ← e0] at hg
      exact hg.m (fun w r h => ⟨h.1, h.2.1⟩)
    refine cI hg2 (fun w r hr => ?_)
    obtain ⟨hr1, hr2⟩ := hr
    have f1 : SPq v N near far w := by
      have f2 : Fn (fun t m => t = 2 ∧ m = 0) u (pL u 2 0 7 (lN (bs 31 (fun x => (smS near far 30).testBit x && decide (x < t + 1))))) := Fn.rfl.pL ⟨rfl, rfl⟩
      obtain ⟨a1, a2, a3, a4, a5⟩ := hu
      have hu2 : SPq v N near far (pL u 2 0 7 (lN (bs 31 (fun x => (smS near far 30).testBit x && decide (x < t + 1))))) := ⟨a1.fn f2 (by omega) (by omega) (by omega) (by omega), a2.trans (f2.mono (fun t m z => Or.inl z)), (gL_pL_k (by decide)).trans a3, a4, a5⟩
      exact hu2.fn hr2 (fun t m z => Or.inr (Or.inl z)) (by unfold f300; omega)
    rcases hr1 with ⟨rfl, h1⟩ | ⟨rfl, L, _, h2, h3, h4⟩
    · refine br_T rfl ?_
      rw [nI_1]
      refine ih w f1 (PM.fn (v := pL u 2 0 7 (lN (bs 31 (fun x => (smS near far 30).testBit x && decide (x < t + 1))))) hP hr2) (fun t' ht' L' => ?_) _ _ _
      rcases Nat.lt_succ_iff_lt_or_eq.mp ht' with z | z
      · exact hno t' z L'
      · subst z
        exact no2 hn hf (by omega) (fun L q => h1 L (fun g hg => absurd hg (by omega)) q) L'
    · refine br_F (by decide) ?_
      have hl := lf2 hn hf (by omega) (L := L) ⟨h2, fun L' hL' h hh hw hpre => h3 L' (fun g hg => absurd hg (by omega)) hL' h hh hw hpre⟩
      have f2 : Fn (fun t m => t = 2 ∧ m = 0) w (pI w 2 0 1 (nI t)) := Fn.rfl.pI ⟨rfl, rfl⟩
      have ok : spOK (pI w 2 0 1 (nI t)) N near far := ⟨t, L, ⟨hl, hno⟩, gI_pI_s, fun h hh hw => (gI_pI_t (by decide)).trans (h4 h hh hw)⟩
      exact k _ ⟨ok, cSp_of hW hn hf f1.2.2.1 ((gI_pI_k (by decide)).trans f1.2.2.2.1) ((gI_pI_k (by decide)).trans f1.2.2.2.2) ok, f1.2.1.trans (f2.mono (fun t m z => Or.inl z))⟩
  have fill : ∀ g, g ≤ 7 → ∀ (u : z_V), SPq v N near far u → (∀ a h, a < g → h < 7 → gI u 352 (7 * 0 + a) h = nI (LoF near far N a h) ∧ gI u 353 (7 * 0 + a) h = nI 30) → ∀ u5 u6 u7, z_Wp (z_C (d + 17)) 0 k_X2_space Q 50 [some (vR 2 0), some (vR 0 0), some (vI (nI near)), some (vI (nI far)), some (vI (nI g)), u5, u6, u7] [] u := by
    refine z_up 7 (fun u hu hr u5 u6 u7 => ?_) (fun g hg ih u hu hr u5 u6 u7 => ?_)
    · refine B_X2_space_50 (pk_le 7 7 (fun _ => cPL (s_sums (d := d + 16) hn hf) ?_) (fun z => absurd z (by omega)))
      have f2 : Fn (fun t m => t = 2 ∧ m = 0) u (pI u 2 0 1 30) := Fn.rfl.pI ⟨rfl, rfl⟩
      obtain ⟨a1, a2, a3, a4, a5⟩ := hu
      refine top 0 (by omega) _ ⟨a1.fn f2 (by omega) (by omega) (by omega) (by omega), a2.trans (f2.mono (fun t m z => Or.inl z)), a3, (gI_pI_k (by decide)).trans a4, (gI_pI_k (by decide)).trans a5⟩ (fun a h ha hh => ⟨(gI_pI_t (by decide)).trans (hr a h ha hh).1, (gI_pI_t (by decide)).trans (hr a h ha hh).2, ?_, by show 30 < 31; omega⟩) (fun t' h => absurd h (by omega)) _ _ _
      unfold LoF
      split
      · omega
      · split <;> omega
    · refine B_X2_space_50 (pk_le 7 g (fun z => absurd z (by omega)) (fun _ => cP (s_overTwo (d := d + 16) hu.1 hg) ?_))
      have row : ∀ h, h ≤ 7 → ∀ (u : z_V), SPq v N near far u → (∀ a h, a < g → h < 7 → gI u 352 (7 * 0 + a) h = nI (LoF near far N a h) ∧ gI u 353 (7 * 0 + a) h = nI 30) → (∀ h', h' < h → gI u 352 (7 * 0 + g) h' = nI (LoF near far N g h') ∧ gI u 353 (7 * 0 + g) h' = nI 30) → ∀ u7, z_Wp (z_C (d + 17)) 0 k_X2_space Q 68 [some (vR 2 0), some (vR 0 0), some (vI (nI near)), some (vI (nI far)), some (vI (nI g)), some (vI (nI (bs 7 (fun j => ov N g j && decide (j ≠ g))))), some (vI (nI h)), u7] [] u := by
        refine z_up 7 (fun u hu hr hrow u7 => ?_) (fun h hh ihr u hu hr hrow u7 => ?_)
        · refine B_X2_space_68 (pk_le 7 7 (fun _ => ?_) (fun z => absurd z (by omega)))
          rw [nI_1]
          refine ih u hu (fun a h ha hh => ?_) _ _ _
          rcases Nat.lt_succ_iff_lt_or_eq.mp ha with z | z
          · exact hr a h z hh
          · subst z
            exact hrow h hh
        · have zh : ∀ {T : Prop}, T → z_if (z_in (nI h) 7) T := fun t => z_ii h rfl hh t
          have zg : ∀ {T : Prop}, T → z_if (z_in (nI g) 7) T := fun t => z_ii g rfl hg t
          have cell : ∀ val, val = LoF near far N g h → ∀ u7, z_Wp (z_C (d + 17)) 0 k_X2_space Q 68 [some (vR 2 0), some (vR 0 0), some (vI (nI near)), some (vI (nI far)), some (vI (nI g)), some (vI (nI (bs 7 (fun j => ov N g j && decide (j ≠ g))))), some (vI (nI (h + 1))), u7] [] (pI (pI u 352 (7 * 0 + g) h (nI val)) 353 (7 * 0 + g) h (nI 30)) := by
            intro val hv u7
            subst hv
            have f2 : Fn (fun t m => (t = 352 ∨ t = 353) ∧ m = g) u (pI (pI u 352 (7 * 0 + g) h (nI (LoF near far N g h))) 353 (7 * 0 + g) h (nI 30)) := (Fn.rfl.pI ⟨Or.inl rfl, by omega⟩).pI ⟨Or.inr rfl, by omega⟩
            refine ihr _ (hu.fn f2 (fun t m z => Or.inr (Or.inr ⟨z.1, by omega⟩)) (by omega)) (fun a b ha hb => ⟨(f2.i (by omega)).trans (hr a b ha hb).1, (f2.i (by omega)).trans (hr a b ha hb).2⟩) (fun b hb => ?_) u7
            rcases Nat.lt_succ_iff_lt_or_eq.mp hb with z | z
            · refine ⟨?_, ?_⟩
              · rw [gI_pI_t (by decide), gI_pI_k (by omega)]
                exact (hrow b z).1
              · rw [gI_pI_k (by omega), gI_pI_t (by decide)]
                exact (hrow b z).2
            · subst z
              exact ⟨by rw [gI_pI_t (by decide), gI_pI_s], gI_pI_s⟩
          have hb7 := bs_lt 7 (nAdj N g)
          have ho7 := bs_lt 7 (fun j => ov N g j && decide (j ≠ g))
          refine B_X2_space_68 (pk_le 7 h (fun z => absurd z (by omega)) (fun _ => zg ?_))
          rw [n_nI (by omega), hu.1.2.2.2.2.2.2 g hg, nI_bitb (by omega) (by omega), bs_bit, decide_eq_true hh, Bool.true_and]
          have go : ∀ b, nAdj N g h = b → z_Wp (z_C (d + 17)) 0 k_X2_space Q 95 [some (vR 2 0), some (vR 0 0), some (vI (nI near)), some (vI (nI far)), some (vI (nI g)), some (vI (nI (bs 7 (fun j => ov N g j && decide (j ≠ g))))), some (vI (nI h)), none] [vI (bI b)] u := by
            intro b hb
            refine B_X2_space_95 ?_
            rw [n_nI (n := g) (by omega), n_nI (n := h) (by omega), nI_1, nI_bitb (by omega) (by omega), bs_bit, decide_eq_true hh, Bool.true_and]
            refine zg (br_z (fun z => br_z (fun y => zh (zg (zh ?_))) (fun y => zh (zg (zh ?_)))) (fun z => zh (zg (zh ?_))))
            · refine cell 0 ?_ _
              unfold LoF
              rw [hb, z, y]
              rfl
            · refine cell far ?_ _
              unfold LoF
              rw [hb, z, y]
              rfl
            · refine cell near ?_ _
              unfold LoF
              rw [hb, z]
              rfl
          exact br_z (fun e => go false e) (fun e => go true e)
      exact row 0 (by omega) u hu hr (fun h' hh' => absurd hh' (by omega)) _
  have start : ∀ u4 u5 u6 u7, z_Wp (z_C (d + 17)) 0 k_X2_space Q 29 [some (vR 2 0), some (vR 0 0), some (vI (nI near)), some (vI (nI far)), u4, u5, u6, u7] [] v := by
    intro u4 u5 u6 u7
    refine B_X2_space_29 (fill 0 (by omega) _ ⟨?_, ?_, ?_, ?_, ?_⟩ (fun a h ha => absurd ha (by omega)) _ _ _)
    · exact hS.fn (((Fn.rfl.pL ⟨rfl, rfl⟩).pI ⟨rfl, rfl⟩).pI ⟨rfl, rfl⟩ : Fn (fun t m => t = 2 ∧ m = 0) v _) (by omega) (by omega) (by omega) (by omega)
    · exact ((Fn.rfl.pL (Or.inl ⟨rfl, rfl⟩)).pI (Or.inl ⟨rfl, rfl⟩)).pI (Or.inl ⟨rfl, rfl⟩)
    · exact gL_pL_s.trans hS.2.2.2.2.1
    · rw [gI_pI_k (by decide), gI_pI_s]
    · exact gI_pI_s
  refine ⟨fun _ => start _ _ _ _, fun e => ⟨fun _ => start _ _ _ _, fun e2 => ⟨fun _ => start _ _ _ _, fun e3 => k v ⟨?_, hc, Fn.rfl⟩⟩⟩⟩
  exact hc N near far hW hn hf ((lg_eq0.mp e).trans hS.2.2.2.2.1) e2 e3))
end PL2
