/-! MENDING by the class -/
def ouB (N : z_N) (s l : Nat) : Bool := !(s.testBit (nA N l) || s.testBit (nB N l))
def faM (N : z_N) (nu : Nat → Nat) (s m : Nat) (F : Nat → Bool) : Prop := ∀ x, F x = true ↔ x = 0 ∨ ∃ l, l < m ∧ nP N l = true ∧ ouB N s l = true ∧ fL N nu l = x
def ptM (N : z_N) (nu : Nat → Nat) (s m : Nat) : Prop := (∀ l, l < m → nP N l = true → ouB N s l = true → fL N nu l ≠ 0) ∧ ∀ l l', l < l' → l' < m → nP N l = true → nP N l' = true → ouB N s l = true → ouB N s l' = true → fL N nu l ≠ fL N nu l'
theorem ms_tab : ∀ s, s < 128 → ∀ a, a < 7 → ∀ b, b < 7 → (i_shr (nI s) (nI a) ||| i_shr (nI s) (nI b)) &&& 1 = bI (s.testBit a || s.testBit b) := by decide +kernel
section MN1
variable {d : Nat} {v : z_V} {N : z_N} {nu : Nat → Nat} {s : Nat}
theorem fL_out {L : Nat → Nat} {l : Nat} (hW : nWF N) (hl : nP N l = true) (ho : ouB N s l = true) (h : ∀ h, h < 7 → s.testBit h = false → L h = nu h) : fL N L l = fL N nu l := by
  have hw := hW.2.2.1 l (nP_lt hW hl)
  unfold ouB at ho
  rw [Bool.not_eq_true', Bool.or_eq_false_iff] at ho
  unfold fL
  rw [h _ hw.1 ho.1, h _ hw.2.1 ho.2]
theorem s_mends (hS : NS v N) (hW : nWF N) (hs : s < 128) (hin : inNW N s) (hnu : ∀ h, h < 7 → gI v 500 0 h = nI (nu h) ∧ nu h ≤ 99) (h7 : gI v 1 0 7 = nI 20) (h8 : gI v 1 0 8 = bI false) (h9 : gI v 1 0 9 = bI false) (h10 : gI v 1 0 10 = 0) : ZI (d + 18) m_X1_mends [vR 1 0, vR 0 0, vR 500 0, vI (nI s)] v (fun u r => ((r = 0 ∧ ¬ mdC N nu s) ∨ (r = 1 ∧ mdC N nu s)) ∧ Fr fGo v u) := fun Q k => E_X1_mends (B_X1_mends_0 (by
  have ho := nO_lt hW
  have hn := hW.1
  refine cV (s_clear (d := d + 16)) (fun w hw => ?_)
  have bad : ∀ l, l < 10 → nP N l = true → ouB N s l = true → (fL N nu l = 0 ∨ ∃ l', l' < l ∧ nP N l' = true ∧ ouB N s l' = true ∧ fL N nu l' = fL N nu l) → ¬ mdC N nu s := by
    intro l _ hl hol hb hm
    obtain ⟨L, g1, g2, g3⟩ := hm
    rcases hb with z | ⟨l', k1, k2, k3, k4⟩
    · exact g3.1 l hl ((fL_out hW hl hol g1).trans z)
    · exact g3.2 l' l (by omega) k2 hl ((fL_out hW k2 k3 g1).trans (k4.trans (fL_out hW hl hol g1).symm))
  have loop : ∀ l, l ≤ 10 → ∀ (u : z_V) (F : Nat → Bool), Fr fGo v u → FS u F → faM N nu s l F → ptM N nu s l → (∀ g, g < 7 → gI u 202 0 g = nI (nu g)) → ∀ u2, z_Wp (z_C (d + 17)) 4 k_X1_mends Q 19 [some (vR 1 0), some (vR 0 0), u2, some (vI (nI s)), some (vI (nI l))] [] u := by
    refine z_up 10 (fun u F f hF hfa hpt hrow u2 => ?_) (fun l hl ih u F f hF hfa hpt hrow u2 => ?_)
    · have hSu : NS u N := hS.fr f (fun k => by unfold fGo; omega) (fun k => by unfold fGo; omega) (fun k => by unfold fGo; omega) (fun k => by unfold fGo; omega)
      refine B_X1_mends_19 (pk_le 10 10 (fun _ => ?_) (fun z => absurd z (by omega)))
      rw [hSu.2.2.1, nI_andn7 (bs_lt 7 _)]
      have e1 : bs 7 (fun i => (bs 7 (nW N)).testBit i && !s.testBit i) = bs 7 (fun i => nW N i && !s.testBit i) := bs_cong (fun i hi => by rw [bs_bit, decide_eq_true hi, Bool.true_and])
      rw [e1]
      have e2 : nI s = nI (bs 7 s.testBit) := congrArg nI (bs_eq (n := 7) hs (fun _ _ => rfl))
      have l10 : ∀ l, nP N l = true → l < 10 := fun l hl => by
        have := nP_lt hW hl
        omega
      have ends : ∀ l, nP N l = true → ouB N s l = true → (nW N (nA N l) && !s.testBit (nA N l)) = true ∧ (nW N (nB N l) && !s.testBit (nB N l)) = true := fun l hl ho => by
        have hn := nW_ends hW hl
        unfold ouB at ho
        rw [Bool.not_eq_true', Bool.or_eq_false_iff] at ho
        rw [hn.1, hn.2, ho.1, ho.2]
        exact ⟨rfl, rfl⟩
      have ends' : ∀ l, (nW N (nA N l) && !s.testBit (nA N l)) = true → (nW N (nB N l) && !s.testBit (nB N l)) = true → ouB N s l = true := fun l h1 h2 => by
        rw [Bool.and_eq_true] at h1 h2
        unfold ouB
        rw [Bool.not_eq_true'] at h1 h2
        rw [h1.2, h2.2]
        rfl
      have hc : CtN N false false 20 u (fun i => nW N i && !s.testBit i) s.testBit nu F (fun _ => false) := by
        refine ⟨hSu, hF, (f.i (by unfold fGo; omega)).trans h8, (f.i (by unfold fGo; omega)).trans h9, (f.i (by unfold fGo; omega)).trans h7, fun z => absurd z (by decide), fun h z => ?_, fun g hg _ => ⟨hrow g hg, (hnu g hg).2⟩, ⟨fun z => absurd z (by decide), fun l hl a b e => ?_, fun l l' hne hl hl' a b a' b' => ?_⟩, fun x => ?_⟩
        · show (nW N h && !s.testBit h) = false
          rw [z, Bool.not_true, Bool.and_false]
        · exact hpt.1 l (l10 l hl) hl (ends' l a b) (dst0.mpr e)
        · rcases Nat.lt_or_gt_of_ne hne with y | y
          · exact hpt.2 l l' y (l10 l' hl') hl hl' (ends' l a b) (ends' l' a' b')
          · exact fun e => hpt.2 l' l y (l10 l hl) hl' hl (ends' l' a' b') (ends' l a b) e.symm
        · rw [hfa x]
          constructor
          · rintro (z | ⟨l, _, a, b, c⟩)
            · exact Or.inl z
            · exact Or.inr ⟨l, a, (ends l a b).1, (ends l a b).2, c⟩
          · rintro (z | ⟨l, a, b1, b2, c⟩)
            · exact Or.inl z
            · exact Or.inr ⟨l, l10 l a, a, ends' l b1 b2, c⟩
      have hj := cntL_le 7 s.testBit
      obtain ⟨d', hd'⟩ : ∃ d', d + 17 = d' + 2 * cntL 7 s.testBit + 3 := ⟨d + 14 - 2 * cntL 7 s.testBit, by omega⟩
      have key := s_goOnN hW (by decide) (cntL 7 s.testBit) d' u _ _ nu F _ rfl hc ((f.i (by unfold fGo; omega)).trans h10)
      rw [← hd', ← e2] at key
      have hUW : ∀ h, nW N h = true → ((nW N h && !s.testBit h) || s.testBit h) = true := fun h z => by
        rw [z]
        cases s.testBit h <;> rfl
      refine cI key (fun w1 r hr => ?_)
      obtain ⟨hres, _, f2⟩ := hr
      have ff : Fr fGo v w1 := f.trans f2
      rcases hres with ⟨rfl, hno⟩ | ⟨rfl, L', e3, e4, _⟩
      · refine z_if_k (by decide) (k _ _ ⟨Or.inl ⟨rfl, fun hm => ?_⟩, ff⟩)
        obtain ⟨L, g1, g2, g3⟩ := hm
        refine hno L (fun g hg z => ?_) ⟨⟨fun z => absurd z (by decide), fun l hl _ _ e => g3.1 l hl (dst0.mpr e), fun l l' hne hl hl' _ _ _ _ => g3.2 l l' hne hl hl'⟩, fun h hh z => g2 h hh z⟩
        rw [Bool.and_eq_true, Bool.not_eq_true'] at z
        exact g1 g hg z.2
      · refine z_if_k (by decide) (k _ _ ⟨Or.inr ⟨rfl, fun h => if s.testBit h = true then L' h else nu h, fun h hh z => ?_, fun h hh z => ?_, faiL_cg (L := L') hW (fun h hh hw => ?_) ⟨fun l hl e => ?_, fun l l' hne hl hl' => ?_⟩⟩, ff⟩)
        · show (if s.testBit h = true then L' h else nu h) = nu h
          rw [z]
          rfl
        · show (if s.testBit h = true then L' h else nu h) ≤ 20
          rw [if_pos z]
          exact e4.2 h hh z
        · show L' h = (if s.testBit h = true then L' h else nu h)
          cases y : s.testBit h
          · exact e3 h hh (by show (nW N h && !s.testBit h) = true; rw [hw, y]; rfl)
          · rfl
        · have hn := nW_ends hW hl
          exact e4.1.2.1 l hl (hUW _ hn.1) (hUW _ hn.2) (dst0.mp e)
        · have hn := nW_ends hW hl
          have hn' := nW_ends hW hl'
          exact e4.1.2.2 l l' hne hl hl' (hUW _ hn.1) (hUW _ hn.2) (hUW _ hn'.1) (hUW _ hn'.2)
    · have hSu : NS u N := hS.fr f (fun k => by unfold fGo; omega) (fun k => by unfold fGo; omega) (fun k => by unfold fGo; omega) (fun k => by unfold fGo; omega)
      refine B_X1_mends_19 (pk_le 10 l (fun z => absurd z (by omega)) (fun _ => ?_))
      -- a line that does not count
      have skip : (nP N l = true → ouB N s l = false) → ∀ u2, z_Wp (z_C (d + 17)) 4 k_X1_mends Q 19 [some (vR 1 0), some (vR 0 0), u2, some (vI (nI s)), some (vI (nI (l + 1)))] [] u := fun no u2 => by
        refine ih u F f hF (fun x => ?_) ⟨fun i hi a b => ?_, fun i j hij hj a a' b b' => ?_⟩ hrow u2
        · rw [hfa x]
          constructor
          · rintro (z | ⟨i, a, b⟩)
            · exact Or.inl z
            · exact Or.inr ⟨i, by omega, b⟩
          · rintro (z | ⟨i, a, b, c, e⟩)
            · exact Or.inl z
            · by_cases y : i = l
              · subst y
                rw [no b] at c
                cases c
              · exact Or.inr ⟨i, by omega, b, c, e⟩
        · by_cases y : i = l
          · subst y
            rw [no a] at b
            cases b
          · exact hpt.1 i (by omega) a b
        · by_cases y : j = l
          · subst y
            rw [no a'] at b'
            cases b'
          · exact hpt.2 i j hij (by omega) a a' b b'
      rw [nI_1]
      refine cP (s_isOpenX (d := d + 16) (by omega) hSu.1 (by omega)) (br_z (fun e => skip (fun z => ?_) none) (fun e => z_ii l rfl hl (z_ii l rfl hl ?_)))
      · rw [e] at z
        cases z
      · have hw' := hW.2.2.1 l (nP_lt hW e)
        have hl2 := hSu.2.2.2.2.2.1 l hl e
        have ha := (hnu _ hw'.1).2
        have hb := (hnu _ hw'.2.1).2
        have r1 := hrow _ hw'.1
        have r2 := hrow _ hw'.2.1
        rw [n_nI (n := l) (by omega), hl2.1, hl2.2, ms_tab s hs _ hw'.1 _ hw'.2.1]
        refine br_z (fun eo => z_ii l rfl hl (z_ii _ rfl hw'.1 (z_ii l rfl hl (z_ii _ rfl hw'.2.1 ?_)))) (fun eo => skip (fun _ => by unfold ouB; rw [eo]; rfl) none)
        have ho : ouB N s l = true := by
          unfold ouB
          rw [eo]
          rfl
        rw [n_nI (n := nA N l) (by omega), n_nI (n := nB N l) (by omega), r1, r2, i_abs_sub (by omega) (by omega)]
        refine cI (s_note (d := d + 16) hF (dst_le ha hb)) (fun w1 r hr => ?_)
        obtain ⟨rfl, hF1, f1⟩ := hr
        have hx : dst (nu (nA N l)) (nu (nB N l)) = fL N nu l := rfl
        rw [hx] at hF1 ⊢
        have ff : Fr fGo v w1 := f.trans (f1.mono (fun t k z => by unfold fNo at z; unfold fGo; omega))
        refine br_n (fun z => ?_) (fun z => ?_)
        · rw [Bool.not_eq_true'] at z
          have nz : fL N nu l ≠ 0 ∧ ∀ i, i < l → nP N i = true → ouB N s i = true → fL N nu i ≠ fL N nu l := by
            refine ⟨fun y => ?_, fun i hi a b y => ?_⟩
            · rw [(hfa _).mpr (Or.inl y)] at z
              cases z
            · rw [(hfa _).mpr (Or.inr ⟨i, hi, a, b, y⟩)] at z
              cases z
          refine ih w1 _ ff hF1 (fun x => ?_) ⟨fun i hi a b => ?_, fun i j hij hj a a' b b' => ?_⟩ (fun g hg => (f1.i (by unfold fNo; omega)).trans (hrow g hg)) none
          · show (F x || decide (x = fL N nu l)) = true ↔ _
            rw [Bool.or_eq_true, hfa x, decide_eq_true_eq]
            constructor
            · rintro ((y | ⟨i, a, b⟩) | y)
              · exact Or.inl y
              · exact Or.inr ⟨i, by omega, b⟩
              · exact Or.inr ⟨l, by omega, e, ho, y.symm⟩
            · rintro (y | ⟨i, a, b, c, g⟩)
              · exact Or.inl (Or.inl y)
              · by_cases y : i = l
                · subst y
                  exact Or.inr g.symm
                · exact Or.inl (Or.inr ⟨i, by omega, b, c, g⟩)
          · by_cases y : i = l
            · subst y
              exact nz.1
            · exact hpt.1 i (by omega) a b
          · by_cases y : j = l
            · subst y
              exact nz.2 i hij a b
            · exact hpt.2 i j hij (by omega) a a' b b'
        · rw [Bool.not_eq_false'] at z
          refine k _ _ ⟨Or.inl ⟨rfl, bad l hl e ho ?_⟩, ff⟩
          rcases (hfa _).mp z with y | ⟨i, a, b, c, g⟩
          · exact Or.inl y
          · exact Or.inr ⟨i, a, b, c, g⟩
  refine loop 0 (by omega) _ F00 ((hw.2.2.mono (fun t k z => by unfold fCl at z; unfold fGo; omega)).pC (fun k => Or.inl rfl)) ⟨hw.1.1, hw.1.2.1, hw.1.2.2⟩ (fun x => ?_) ⟨fun l hl => absurd hl (by omega), fun l l' _ hl => absurd hl (by omega)⟩ (fun g hg => ?_) _
  · unfold F00
    rw [decide_eq_true_eq]
    constructor
    · exact fun z => Or.inl z
    · rintro (z | ⟨l, z, _⟩)
      · exact z
      · exact absurd z (by omega)
  · rw [gI_pC_s, pk_cpy_in (by omega) (by omega), show 0 + (g - 0) = g by omega, hw.2.2.i (by unfold fCl; omega)]
    exact (hnu g hg).1))
def fMd : Nat → Nat → Prop := fun t k => fGo t k ∨ fBn t k
theorem pc10_7 (hs : s < 128) : pc 10 s = pc 7 s := by
  have h7 : s.testBit 7 = false := Nat.testBit_lt_two_pow (by omega)
  have h8 : s.testBit 8 = false := Nat.testBit_lt_two_pow (by omega)
  have h9 : s.testBit 9 = false := Nat.testBit_lt_two_pow (by omega)
  show pc 7 s + (if s.testBit 7 = true then 1 else 0) + (if s.testBit 8 = true then 1 else 0) + (if s.testBit 9 = true then 1 else 0) = pc 7 s
  rw [h7, h8, h9]
  rfl
theorem s_mending (hS : NS v N) (hW : nWF N) (hnu : ∀ h, h < 7 → gI v 500 0 h = nI (nu h) ∧ nu h ≤ 99) : ZI (d + 19) m_X1_mending [vR 1 0, vR 0 0, vR 500 0] v (fun u r => mnA N nu r ∧ Fr fMd v u) := fun Q k => E_X1_mending (B_X1_mending_0 (by
  have hb := s_begin (d := d + 16) (v := v) (uq := false) (ct := false) (a := 20)
  refine cV hb (fun w hw => ?_)
  obtain ⟨b1, b2, b3, b4, b5, b6, _, _, b9⟩ := hw
  have f0 : Fr fMd v w := (b9 rfl).mono (fun t k z => Or.inr z)
  have hm := nM_le (N := N)
  have st : ∀ u, Fr fGo w u → NS u N ∧ (∀ h, h < 7 → gI u 500 0 h = nI (nu h) ∧ nu h ≤ 99) ∧ gI u 1 0 7 = nI 20 ∧ gI u 1 0 8 = bI false ∧ gI u 1 0 9 = bI false ∧ gI u 1 0 10 = 0 ∧ Fr fMd v u := fun u f => by
    have f2 : Fr fMd v u := f0.trans (f.mono (fun t k z => Or.inl z))
    exact ⟨hS.fr f2 (fun k => by unfold fMd fGo fBn; omega) (fun k => by unfold fMd fGo fBn; omega) (fun k => by unfold fMd fGo fBn; omega) (fun k => by unfold fMd fGo fBn; omega), fun h hh => ⟨(f2.i (by unfold fMd fGo fBn; omega)).trans (hnu h hh).1, (hnu h hh).2⟩, (f.i (by unfold fGo; omega)).trans b6, (f.i (by unfold fGo; omega)).trans b3, (f.i (by unfold fGo; omega)).trans b5, (f.i (by unfold fGo; omega)).trans b4, f2⟩
  have fin : ∀ u r, Fr fGo w u → mnC N nu r → Q u (some (vI r)) := fun u r f h => k _ _ ⟨mnC_A hW h, (st u f).2.2.2.2.2.2⟩
  have inner : ∀ n, n ≤ nM N → (∀ u, Fr fGo w u → (∀ t, t < 128 → inNW N t → mdC N nu t → n + 1 ≤ pc 7 t) → ∀ u4 u5, z_Wp (z_C (d + 18)) 1 k_X1_mending Q 10 [some (vR 1 0), some (vR 0 0), some (vR 500 0), some (vI (nI (n + 1))), u4, u5] [] u) → ∀ s, s ≤ 128 → ∀ u, Fr fGo w u → (∀ t, t < 128 → inNW N t → mdC N nu t → n ≤ pc 7 t ∧ (n = pc 7 t → s ≤ t)) → ∀ u5, z_Wp (z_C (d + 18)) 1 k_X1_mending Q 21 [some (vR 1 0), some (vR 0 0), some (vR 500 0), some (vI (nI n)), some (vI (nI s)), u5] [] u := by
    intro n hn next
    refine z_up 128 (fun u f hno u5 => ?_) (fun s hs ih u f hno u5 => ?_)
    · refine B_X1_mending_21 (pk_lt 127 128 (fun _ => ?_) (fun z => absurd z (by omega)))
      rw [nI_1]
      refine next u f (fun t ht hi hm => ?_) _ _
      have := hno t ht hi hm
      omega
    · obtain ⟨a1, a2, a3, a4, a5, a6, a7⟩ := st u f
      refine B_X1_mending_21 (pk_lt 127 s (fun z => absurd z (by omega)) (fun _ => ?_))
      rw [a1.2.2.1, nI_andn7 hs, nI_1]
      have skip : ∀ u', Fr fGo w u' → (inNW N s → pc 7 s = n → ¬ mdC N nu s) → ∀ u5, z_Wp (z_C (d + 18)) 1 k_X1_mending Q 21 [some (vR 1 0), some (vR 0 0), some (vR 500 0), some (vI (nI n)), some (vI (nI (s + 1))), u5] [] u' := fun u' f' no u5 => by
        refine ih u' f' (fun t ht hi hm => ?_) u5
        have := hno t ht hi hm
        refine ⟨this.1, fun z => ?_⟩
        have h2 := this.2 z
        by_cases y : t = s
        · subst y
          exact absurd hm (no hi z.symm)
        · omega
      have hbit : bs 7 (fun i => s.testBit i && !(bs 7 (nW N)).testBit i) = 0 ↔ inNW N s := by
        constructor
        · intro z h hh hb
          cases y : nW N h
          · have : (bs 7 (fun i => s.testBit i && !(bs 7 (nW N)).testBit i)).testBit h = true := by
              rw [bs_bit, bs_bit, hb, y, decide_eq_true hh]
              rfl
            rw [z] at this
            simp at this
          · rfl
        · intro z
          have : bs 7 (fun i => s.testBit i && !(bs 7 (nW N)).testBit i) = bs 7 (fun _ => false) := bs_cong (fun i hi => by
            rw [bs_bit, decide_eq_true hi, Bool.true_and]
            cases y : s.testBit i
            · rfl
            · rw [z i hi y]
              rfl)
          rw [this]
          decide
      have hlt := bs_lt 7 (fun i => s.testBit i && !(bs 7 (nW N)).testBit i)
      refine pk_ne _ 0 (fun z => br_T rfl (skip u f (fun hi => absurd (hbit.mpr hi) z) _)) (fun z => ?_) rfl rfl (by omega) (by decide)
      have hi := hbit.mp z
      refine cP (s_bitCount (d := d + 17) (by omega)) ?_
      rw [pc10_7 hs]
      have hp := pc_le 7 s
      refine pk_ne (pc 7 s) n (fun y => br_T rfl (skip u f (fun _ e => absurd e y) _)) (fun y => br_F (by decide) ?_)
      refine cI (s_mends (d := d) a1 hW hs hi a2 a3 a4 a5 a6) (fun w1 r hr => ?_)
      obtain ⟨hr1, f1⟩ := hr
      rcases hr1 with ⟨rfl, no⟩ | ⟨rfl, yes⟩
      · exact br_T rfl (skip w1 (f.trans f1) (fun _ _ => no) _)
      · refine br_F (by decide) (fin w1 _ (f.trans f1) (Or.inr ⟨s, hs, rfl, hi, yes, fun t ht hit hmt => ?_⟩))
        have := hno t ht hit hmt
        unfold leM
        omega
  have outer : ∀ n, n ≤ nM N + 1 → ∀ u, Fr fGo w u → (∀ t, t < 128 → inNW N t → mdC N nu t → n ≤ pc 7 t) → ∀ u4 u5, z_Wp (z_C (d + 18)) 1 k_X1_mending Q 10 [some (vR 1 0), some (vR 0 0), some (vR 500 0), some (vI (nI n)), u4, u5] [] u := by
    refine z_up (nM N + 1) (fun u f hno u4 u5 => ?_) (fun n hn ih u f hno u4 u5 => ?_)
    · have e6 : gI u 0 0 6 = nI (nM N) := (st u f).1.2.2.2.1.trans (congrArg nI pc_bs7)
      refine B_X1_mending_10 (pk_lt (nM N) (nM N + 1) (fun _ => fin u _ f (Or.inl ⟨rfl, fun t ht hi hm => ?_⟩)) (fun z => absurd z (by omega)) e6 rfl)
      have h1 := hno t ht hi hm
      have h2 : pc 7 t ≤ nM N := by
        have h3 : pc 7 t ≤ pc 7 (bs 7 (nW N)) := pc_mono 7 (fun i hi' z => by
          rw [bs_bit, decide_eq_true hi', Bool.true_and]
          exact hi i hi' z)
        have h4 : pc 7 (bs 7 (nW N)) = nM N := (pc10_7 (bs_lt 7 _)).symm.trans pc_bs7
        omega
      omega
    · have e6 : gI u 0 0 6 = nI (nM N) := (st u f).1.2.2.2.1.trans (congrArg nI pc_bs7)
      refine B_X1_mending_10 (pk_lt (nM N) n (fun z => absurd z (by omega)) (fun _ => ?_) e6 rfl)
      exact inner n (by omega) ih 0 (by omega) u f (fun t ht hi hm => ⟨hno t ht hi hm, fun _ => Nat.zero_le _⟩) _
  exact outer 0 (by omega) w Fr.rfl (fun _ _ _ _ => Nat.zero_le _) _ _))
def fMdC : Nat → Nat → Prop := fun t k => sNet t k ∨ fMd t k
theorem s_mendC (hC : CW v 0 N nu) : ZI (d + 20) m_X10_mend [vR 10 0] v (fun u r => mnA N nu r ∧ Fr fMdC v u) := fun Q k => E_X10_mend (B_X10_mend_0 (by
  refine cV (s_look (d := d + 17) hC) (fun u hu => ?_)
  refine cI (s_mending (d := d) hu.1 hC.1 (fun h hh => ⟨(hu.2.i (sNet_not (by decide))).trans (hC.2.2.2.2 h hh).1, (hC.2.2.2.2 h hh).2⟩)) (fun w x hx => ?_)
  exact k _ _ ⟨hx.1, (hu.2.mono (fun t k z => Or.inl z)).trans (hx.2.mono (fun t k z => Or.inr z))⟩))
end MN1
