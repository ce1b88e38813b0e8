/-! long bits -/
theorem lN_tb (a : Nat) : (lN a).toBitVec = BitVec.ofNat 64 a := rfl
theorem lN_and (a b : Nat) : lN a &&& lN b = lN (a &&& b) := by
  apply Int64.toBitVec_inj.1
  show BitVec.ofNat 64 a &&& BitVec.ofNat 64 b = BitVec.ofNat 64 (a &&& b)
  apply BitVec.eq_of_getLsbD_eq
  intro i hi
  simp [hi]
theorem lN_or (a b : Nat) : lN a ||| lN b = lN (a ||| b) := by
  apply Int64.toBitVec_inj.1
  show BitVec.ofNat 64 a ||| BitVec.ofNat 64 b = BitVec.ofNat 64 (a ||| b)
  apply BitVec.eq_of_getLsbD_eq
  intro i hi
  simp [hi]
theorem bs_and {n : Nat} {f g : Nat → Bool} : bs n f &&& bs n g = bs n (fun i => f i && g i) := bs_eq (Nat.and_lt_two_pow _ (bs_lt n g)) (fun i hi => by
  rw [Nat.testBit_and, bs_bit, bs_bit]
  simp [hi])
theorem lN_andn {f g h : Nat → Bool} : lN (bs 31 f) &&& (lN (bs 31 g) &&& (lN (bs 31 h) ^^^ (-1))) = lN (bs 31 (fun i => f i && (g i && !h i))) := by
  apply Int64.toBitVec_inj.1
  show BitVec.ofNat 64 _ &&& (BitVec.ofNat 64 _ &&& (BitVec.ofNat 64 _ ^^^ BitVec.allOnes 64)) = BitVec.ofNat 64 _
  apply BitVec.eq_of_getLsbD_eq
  intro i hi
  simp only [BitVec.getLsbD_and, BitVec.getLsbD_xor, BitVec.getLsbD_ofNat, BitVec.getLsbD_allOnes, hi, decide_true, Bool.true_and, bs_bit]
  cases decide (i < 31) <;> simp
theorem nI_andn7 {a b : Nat} (ha : a < 128) : nI a &&& (nI b ^^^ (-1)) = nI (bs 7 (fun i => a.testBit i && !b.testBit i)) := by
  apply Int32.toBitVec_inj.1
  show BitVec.ofNat 32 _ &&& (BitVec.ofNat 32 _ ^^^ BitVec.allOnes 32) = BitVec.ofNat 32 _
  apply BitVec.eq_of_getLsbD_eq
  intro i hi
  simp only [BitVec.getLsbD_and, BitVec.getLsbD_xor, BitVec.getLsbD_ofNat, BitVec.getLsbD_allOnes, hi, decide_true, Bool.true_and, bs_bit]
  by_cases z : i < 7
  · simp [z]
  · rw [Nat.testBit_lt_two_pow (Nat.lt_of_lt_of_le ha (show 2 ^ 7 ≤ 2 ^ i from Nat.pow_le_pow_right (by decide) (by omega)))]
    simp [z]
theorem lN_bit {s l : Nat} (hs : s < 2 ^ 63) (hl : l < 63) : l_shr (lN s) (nI l) &&& 1 = lN (if s.testBit l = true then 1 else 0) := by
  have hsm : ∀ l, l < 63 → (((nI l).toInt64 &&& 63).toBitVec.smod 64).toNat = l := by decide +kernel
  apply Int64.toBitVec_inj.1
  rw [Int64.toBitVec_and]
  unfold l_shr
  rw [Int64.toBitVec_shiftRight, BitVec.sshiftRight', hsm l hl, lN_tb]
  have hm : (BitVec.ofNat 64 s).msb = false := by
    rw [BitVec.msb_eq_decide]
    simp
    omega
  apply BitVec.eq_of_getLsbD_eq
  intro i hi
  rw [BitVec.getLsbD_and, BitVec.getLsbD_sshiftRight, hm]
  have h1 : (1 : Int64).toBitVec.getLsbD i = decide (i = 0) := by
    show (1#64).getLsbD i = _
    rw [BitVec.getLsbD_one]
    simp
  rw [h1, lN_tb, BitVec.getLsbD_ofNat]
  by_cases z : i = 0
  · subst z
    simp [show l < 64 by omega]
    cases s.testBit l <;> rfl
  · simp [z, hi]
    rw [← BitVec.getLsbD_eq_getElem, BitVec.getLsbD_ofNat]
    cases s.testBit l
    · simp
    · cases i with
      | zero => exact absurd rfl z
      | succ j => simp [Nat.testBit_succ]
theorem lg_10 : ¬ lg_cmp (lN 1) 0 = 0 := by decide +kernel
theorem lg_00 : lg_cmp (lN 0) 0 = 0 := by decide +kernel
theorem br_lb {s l : Nat} {A B : Prop} (hs : s < 2 ^ 63) (hl : l < 63) (f : s.testBit l = false → A) (t : s.testBit l = true → B) : (lg_cmp (l_shr (lN s) (nI l) &&& 1) 0 = 0 → A) ∧ (¬ lg_cmp (l_shr (lN s) (nI l) &&& 1) 0 = 0 → B) := by
  rw [lN_bit hs hl]
  cases e : s.testBit l
  · exact ⟨fun _ => f e, fun q => absurd lg_00 q⟩
  · exact ⟨fun q => absurd q lg_10, fun _ => t e⟩
theorem bs31 (f : Nat → Bool) : bs 31 f < 2 ^ 63 := Nat.lt_of_lt_of_le (bs_lt 31 f) (by decide)
theorem ar_tab : ∀ a, a < 31 → ∀ r, r < 31 → l_shl (l_shl 1 (i_min 30 (nI a + nI r) - i_max 0 (nI a - nI r) + 1) - 1) (i_max 0 (nI a - nI r)) = lN (bs 31 (fun i => decide (dst i a ≤ r))) := by decide +kernel
theorem lm_tab : ∀ k, k < 32 → l_shl 1 (nI k) - 1 = lN (bs 31 (fun i => decide (i < k))) := by decide +kernel
theorem lp_tab : ∀ k, k < 32 → l_shl 1 (nI k) = lN (2 ^ k) := by decide +kernel
theorem nI_pos0 {k : Nat} (h : k < 2 ^ 31) : (0 : Int32) ≤ nI k := (pk_le (A := (0 : Int32) ≤ nI k) (B := (0 : Int32) ≤ nI k) 0 k (fun _ => by
  rw [Int32.le_iff_toInt_le, nI_toInt h, Int32.toInt_zero]
  omega) (fun z => absurd z (by omega)) rfl rfl).elim (fun f _ => by
  rw [Int32.le_iff_toInt_le, nI_toInt h, Int32.toInt_zero]
  omega)
section PL0
variable {d : Nat} {v : z_V} {N : z_N} {n : Nat} {Lo Hi : Nat → Nat → Nat} {U : Nat → Bool}
theorem s_around {a r : Nat} (ha : a < 31) (hr : r < 31) : ZPL (d + 1) m_X2_around [vI (nI a), vI (nI r)] v (lN (bs 31 (fun i => decide (dst i a ≤ r)))) := fun Q k => E_X2_around (B_X2_around_0 (by
  refine br_T (nI_pos0 (by omega)) ?_
  rw [ar_tab a ha r hr]
  exact k))
theorem s_aroundL {a r : Nat} (ha : a < 31) (hr : r < 31) : ZPL (d + 1) m_X2_around [vI (nI a), vI (nI r - 1)] v (lN (bs 31 (fun i => decide (dst i a < r)))) := fun Q k => by
  by_cases z : r = 0
  · subst z
    refine E_X2_around (B_X2_around_0 (br_F (by decide) ?_))
    have : bs 31 (fun i => decide (dst i a < 0)) = 0 := (bs_cong (fun i _ => decide_eq_false (by omega))).trans (show bs 31 (fun _ => false) = 0 by decide)
    rw [this] at k
    exact k
  · have e : nI r - 1 = nI (r - 1) := pk_sub (b := 1) (by omega)
    rw [e]
    refine s_around ha (by omega) Q ?_
    have : bs 31 (fun i => decide (dst i a ≤ r - 1)) = bs 31 (fun i => decide (dst i a < r)) := bs_cong (fun i _ => by rw [decide_eq_decide]; omega)
    rw [this]
    exact k
/-- what stands between two halts -/
def PM (v : z_V) (n : Nat) (Lo Hi : Nat → Nat → Nat) : Prop := ∀ g h, g < 7 → h < 7 → gI v 352 (7 * n + g) h = nI (Lo g h) ∧ gI v 353 (7 * n + g) h = nI (Hi g h) ∧ Lo g h < 31 ∧ Hi g h < 31
def okP (Lo Hi : Nat → Nat → Nat) (h g x y : Nat) : Bool := decide (dst x y ≤ Hi h g) && !decide (dst x y < Lo h g)
theorem allL_s {m : Nat} {f : Nat → Bool} : allL (m + 1) f = (allL m f && f m) := by
  apply Bool.eq_iff_iff.mpr
  rw [Bool.and_eq_true, allL_iff, allL_iff]
  constructor
  · exact fun z => ⟨fun k hk => z k (by omega), z m (by omega)⟩
  · rintro ⟨z1, z2⟩ k hk
    rcases Nat.lt_succ_iff_lt_or_eq.mp hk with q | q
    · exact z1 k q
    · exact q ▸ z2
def fitP (Lo Hi : Nat → Nat → Nat) (U S : Nat → Bool) (L : Nat → Nat) (h k x : Nat) : Bool := U x && allL k (fun g => !S g || okP Lo Hi h g x (L g))
theorem s_fittingP {S : Nat → Bool} {L : Nat → Nat} {h : Nat} (hP : PM v n Lo Hi) (hU : gL v 2 n 7 = lN (bs 31 U)) (hL : ∀ g, g < 7 → S g = true → gI v 300 n g = nI (L g) ∧ L g < 31) (hh : h < 7) : ZPL (d + 2) m_X2_fitting [vR 2 n, vI (nI h), vI (nI (bs 7 S))] v (lN (bs 31 (fitP Lo Hi U S L h 7))) := fun Q k => E_X2_fitting (B_X2_fitting_0 (by
  have hb := bs_lt 7 S
  rw [hU]
  have e0 : bs 31 U = bs 31 (fitP Lo Hi U S L h 0) := bs_cong (fun i _ => by simp [fitP, allL, anyL])
  rw [e0]
  refine z_up0 (P := fun g => z_Wp (z_C (d + 1)) 2 k_X2_fitting Q 8 [some (vR 2 n), some (vI (nI h)), some (vI (nI (bs 7 S))), some (vL (lN (bs 31 (fitP Lo Hi U S L h g)))), none, some (vI (nI g))] [] v) 7 ?_ ?_
  · exact B_X2_fitting_8 (pk_le 7 7 (fun _ => k) (fun z => absurd z (by omega)))
  · intro g hg ih
    refine B_X2_fitting_8 (pk_le 7 g (fun z => absurd z (by omega)) (fun _ => ?_))
    rw [nI_bitb (by omega) (by omega), bs_bit, decide_eq_true hg, Bool.true_and, nI_1]
    refine br_z (fun e => ?_) (fun e => ?_)
    · have : bs 31 (fitP Lo Hi U S L h g) = bs 31 (fitP Lo Hi U S L h (g + 1)) := bs_cong (fun i _ => by unfold fitP; rw [allL_s, e]; simp)
      rw [this]
      exact ih
    · obtain ⟨l1, l2⟩ := hL g hg e
      obtain ⟨p1, p2, p3, p4⟩ := hP h g hh hg
      have zl : ∀ {T : Prop}, T → z_if (z_in (nI g) 7) T := fun t => z_ii g rfl hg t
      have zh : ∀ {T : Prop}, T → z_if (z_in (nI h) 7) T := fun t => z_ii h rfl hh t
      refine zl (zh (zl ?_))
      rw [n_nI (by omega), n_nI (by omega), l1, p2]
      refine cPL (s_around l2 p4) (zl (zh (zl ?_)))
      rw [l1, p1]
      refine cPL (s_aroundL l2 p3) ?_
      rw [lN_andn]
      have : bs 31 (fun i => fitP Lo Hi U S L h g i && (decide (dst i (L g) ≤ Hi h g) && !decide (dst i (L g) < Lo h g))) = bs 31 (fitP Lo Hi U S L h (g + 1)) := bs_cong (fun i _ => by
        unfold fitP okP
        rw [allL_s, e]
        simp [Bool.and_assoc])
      rw [this]
      exact ih))
/-- rows of places -/
def solP (N : z_N) (Lo Hi : Nat → Nat → Nat) (U : Nat → Bool) (L : Nat → Nat) : Prop := ∀ h, h < 7 → nW N h = true → L h < 31 ∧ U (L h) = true ∧ ∀ g, g < h → nW N g = true → okP Lo Hi h g (L h) (L g) = true
def extP (N : z_N) (k : Nat) (L L' : Nat → Nat) : Prop := ∀ g, g < k → nW N g = true → L' g = L g
def resP (N : z_N) (Lo Hi : Nat → Nat → Nat) (U : Nat → Bool) (n k : Nat) (L : Nat → Nat) (u : z_V) (r : Int32) : Prop := (r = 0 ∧ ∀ L', extP N k L L' → ¬ solP N Lo Hi U L') ∨ (r = 1 ∧ ∃ L', extP N k L L' ∧ solP N Lo Hi U L' ∧ (∀ L'', extP N k L' L'' → solP N Lo Hi U L'' → ∀ h, h < 7 → nW N h = true → (∀ g, g < h → nW N g = true → L'' g = L' g) → L' h ≤ L'' h) ∧ ∀ g, g < 7 → nW N g = true → gI u 300 n g = nI (L' g))
def f300 (n : Nat) : Nat → Nat → Prop := fun t m => t = 300 ∧ m = n
theorem PM.fn {u : z_V} (h : PM v n Lo Hi) (f : Fn (f300 n) v u) : PM u n Lo Hi := fun g k hg hk => ⟨(f.i (fun z => absurd z.1 (by decide))).trans (h g k hg hk).1, (f.i (fun z => absurd z.1 (by decide))).trans (h g k hg hk).2.1, (h g k hg hk).2.2⟩
theorem s_goOnP : ∀ j (d : Nat) (v : z_V) (k : Nat) (L : Nat → Nat), k + j = 7 → PM v n Lo Hi → gL v 2 n 7 = lN (bs 31 U) → (∀ g, g < k → nW N g = true → gI v 300 n g = nI (L g)) → (∀ h, h < k → nW N h = true → L h < 31 ∧ U (L h) = true ∧ ∀ g, g < h → nW N g = true → okP Lo Hi h g (L h) (L g) = true) → ZI (d + 2 * j + 3) m_X2_goOn [vR 2 n, vI (nI (bs 7 (fun i => nW N i && decide (k ≤ i)))), vI (nI (bs 7 (fun i => nW N i && decide (i < k))))] v (fun u r => resP N Lo Hi U n k L u r ∧ Fn (f300 n) v u ∧ ∀ g, g < k → nW N g = true → gI u 300 n g = gI v 300 n g) := by
  intro j
  induction j using Nat.strongRecOn with
  | ind j ih =>
    intro d v k L hkj hP hU hL hok Q q
    refine E_X2_goOn (B_X2_goOn_0 ?_)
    have hb1 := bs_lt 7 (fun i => nW N i && decide (k ≤ i))
    have fin : (∀ i, i < 7 → nW N i = true → i < k) → Q v (some (vI 1)) := fun hi => q v 1 ⟨Or.inr ⟨rfl, L, fun _ _ _ => rfl, fun h hh hw => hok h (hi h hh hw) hw, fun L'' he _ h hh hw _ => Nat.le_of_eq (he h (hi h hh hw) hw).symm, fun g hg hw => hL g (hi g hg hw) hw⟩, Fn.rfl, fun _ _ _ => rfl⟩
    have found : ∀ h, h < 7 → k ≤ h → nW N h = true → (∀ i, i < h → nW N i = true → i < k) → z_C (d + 2 * j + 2) m_X2_fitting [vR 2 n, vI (nI h), vI (nI (bs 7 (fun i => nW N i && decide (i < k))))] v (fun w1 o2 => ∃ l3 : Int64, o2 = some (vL l3) ∧ z_Wp (z_C (d + 2 * j + 2)) 4 k_X2_goOn Q 41 [some (vR 2 n), some (vI (nI (bs 7 (fun i => nW N i && decide (k ≤ i))))), some (vI (nI (bs 7 (fun i => nW N i && decide (i < k))))), some (vI (nI h)), some (vL l3), none, some (vI 0)] [] w1) := by
      intro h hh hkh hw hi
      have hS : ∀ g, g < 7 → (nW N g && decide (g < k)) = true → gI v 300 n g = nI (L g) ∧ L g < 31 := fun g hg z => by
        rw [Bool.and_eq_true, decide_eq_true_eq] at z
        exact ⟨hL g z.2 z.1, (hok g z.2 z.1).1⟩
      refine cPL (s_fittingP (d := d + 2 * j) hP hU hS hh) ?_
      have hbF := bs31 (fitP Lo Hi U (fun i => nW N i && decide (i < k)) L h 7)
      have fiff : ∀ x, x < 31 → ((bs 31 (fitP Lo Hi U (fun i => nW N i && decide (i < k)) L h 7)).testBit x = true ↔ U x = true ∧ ∀ g, g < h → nW N g = true → okP Lo Hi h g x (L g) = true) := by
        intro x hx
        rw [bs_bit, decide_eq_true hx, Bool.true_and]
        unfold fitP
        rw [Bool.and_eq_true, allL_iff]
        refine and_congr_right (fun _ => ⟨fun z g hg hwg => ?_, fun z g hg => ?_⟩)
        · have := z g (by omega)
          simpa [hwg, hi g hg hwg] using this
        · by_cases y : nW N g = true ∧ g < k
          · rw [z g (by omega) y.1, Bool.or_true]
          · have : (nW N g && decide (g < k)) = false := by
              cases e : nW N g
              · rfl
              · rw [Bool.true_and]
                exact decide_eq_false (fun q => y ⟨e, q⟩)
            show (!(nW N g && decide (g < k)) || _) = true
            rw [this]
            rfl
      have nofree : ∀ x, x < 31 → (bs 31 (fitP Lo Hi U (fun i => nW N i && decide (i < k)) L h 7)).testBit x = false → ∀ L', extP N k L L' → L' h = x → ¬ solP N Lo Hi U L' := fun x hx e L' he hx' hs => by
        have hz := hs h hh hw
        rw [hx'] at hz
        have : (bs 31 (fitP Lo Hi U (fun i => nW N i && decide (i < k)) L h 7)).testBit x = true := (fiff x hx).mpr ⟨hz.2.1, fun g hg hwg => by
          rw [← he g (hi g hg hwg) hwg]
          exact hz.2.2 g hg hwg⟩
        rw [e] at this
        cases this
      have eS : (nI (bs 7 (fun i => nW N i && decide (k ≤ i)))) &&& ((i_shl 1 (nI h)) ^^^ (-1)) = nI (bs 7 (fun i => nW N i && decide (h + 1 ≤ i))) := by
        rw [nI_shl (by omega), nI_andn7 (bs_lt 7 _)]
        congr 1
        refine bs_cong (fun i hi7 => ?_)
        rw [bs_bit, Nat.testBit_two_pow, decide_eq_true hi7, Bool.true_and]
        cases e : nW N i
        · rfl
        · rw [Bool.true_and, Bool.true_and]
          have := hi i
          by_cases z : h = i
          · simp [z]
          · by_cases z2 : i < h
            · have := this z2 e
              simp [z, show ¬ k ≤ i by omega, show ¬ h + 1 ≤ i by omega]
            · simp [z, show k ≤ i by omega, show h + 1 ≤ i by omega]
      have eT : (nI (bs 7 (fun i => nW N i && decide (i < k)))) ||| (i_shl 1 (nI h)) = nI (bs 7 (fun i => nW N i && decide (i < h + 1))) := by
        rw [nI_shl (by omega), nI_or, or_bs hh]
        congr 1
        refine bs_cong (fun i hi7 => ?_)
        have := hi i
        by_cases z : i = h
        · subst z
          simp [hw]
        · cases e : nW N i
          · simp [z]
          · by_cases z2 : i < h
            · simp [this z2 e, show i < h + 1 by omega]
            · simp [z, show ¬ i < k by omega, show ¬ i < h + 1 by omega]
      obtain ⟨j', hj'⟩ : ∃ j', h + 1 + j' = 7 := ⟨7 - (h + 1), by omega⟩
      obtain ⟨d', hd'⟩ : ∃ d', d + 2 * j + 1 = d' + 2 * j' + 3 := ⟨d + 2 * j + 1 - (2 * j' + 3), by omega⟩
      have loop : ∀ x, x ≤ 31 → ∀ u, Fn (f300 n) v u → (∀ g, g < k → nW N g = true → gI u 300 n g = gI v 300 n g) → (∀ y, y < x → ∀ L', extP N k L L' → L' h = y → ¬ solP N Lo Hi U L') → z_Wp (z_C (d + 2 * j + 2)) 4 k_X2_goOn Q 41 [some (vR 2 n), some (vI (nI (bs 7 (fun i => nW N i && decide (k ≤ i))))), some (vI (nI (bs 7 (fun i => nW N i && decide (i < k))))), some (vI (nI h)), some (vL (lN (bs 31 (fitP Lo Hi U (fun i => nW N i && decide (i < k)) L h 7)))), none, some (vI (nI x))] [] u := by
        refine z_up 31 ?_ ?_
        · intro u f hg hno
          exact B_X2_goOn_41 (pk_lt 30 31 (fun _ => q u 0 ⟨Or.inl ⟨rfl, fun L' he hs => hno (L' h) (hs h hh hw).1 L' he rfl hs⟩, f, hg⟩) (fun z => absurd z (by omega)))
        · intro x hx ihx u f hg hno
          refine B_X2_goOn_41 (pk_lt 30 x (fun z => absurd z (by omega)) (fun _ => br_lb hbF (by omega) (fun e => ?_) (fun e => ?_)))
          · rw [nI_1]
            exact ihx u f hg (fun y hy => by
              rcases Nat.lt_succ_iff_lt_or_eq.mp hy with z | z
              · exact hno y z
              · subst z
                exact nofree y hx e)
          · have hfx := (fiff x hx).mp e
            have hkey := ih j' (by omega) d' (pI u 300 n h (nI x)) (h + 1) (sU L h x) hj' (fun a b ha hb => ((hP.fn f).fn (Fn.rfl.pI ⟨rfl, rfl⟩)) a b ha hb) ((f.l (fun z => absurd z.1 (by decide))).trans hU) (fun g hg1 hwg => by
              by_cases z : g = h
              · subst z
                rw [gI_pI_s, sU_s]
              · have hgk := hi g (by omega) hwg
                rw [gI_pI_k z, sU_n z, hg g hgk hwg]
                exact hL g hgk hwg) (fun a ha hwa => by
              by_cases z : a = h
              · subst z
                rw [sU_s]
                refine ⟨hx, hfx.1, fun g hg1 hwg => ?_⟩
                rw [sU_n (by omega)]
                exact hfx.2 g hg1 hwg
              · have hak := hi a (by omega) hwa
                rw [sU_n z]
                have ho := hok a hak hwa
                refine ⟨ho.1, ho.2.1, fun g hg1 hwg => ?_⟩
                rw [sU_n (by omega)]
                exact ho.2.2 g hg1 hwg)
            rw [← hd'] at hkey
            refine E_X2_goOnWith (d := d + 2 * j + 1) (B_X2_goOnWith_0 (z_ii h rfl hh ?_))
            rw [eS, eT, n_nI (by omega)]
            refine cI hkey (fun w r hr => ?_)
            obtain ⟨hr1, hr2, hr3⟩ := hr
            have fw : Fn (f300 n) v w := (f.trans (Fn.rfl.pI ⟨rfl, rfl⟩)).trans hr2
            have gw : ∀ g, g < k → nW N g = true → gI w 300 n g = gI v 300 n g := fun g hgk hwg => by
              rw [hr3 g (by omega) hwg, gI_pI_k (by omega), hg g hgk hwg]
            have hext : ∀ L', extP N k L L' → L' h = x → extP N (h + 1) (sU L h x) L' := fun L' he hx' g hg1 hwg => by
              by_cases z : g = h
              · subst z
                rw [sU_s, hx']
              · rw [sU_n z]
                exact he g (hi g (by omega) hwg) hwg
            rcases hr1 with ⟨rfl, hn⟩ | ⟨rfl, L', h1, h2, h3, h4⟩
            · refine z_if_k (by decide) ⟨0, rfl, br_T rfl ?_⟩
              rw [nI_1]
              exact ihx w fw gw (fun y hy => by
                rcases Nat.lt_succ_iff_lt_or_eq.mp hy with z | z
                · exact hno y z
                · subst z
                  exact fun L' he hx' => hn L' (hext L' he hx'))
            · have hx' : L' h = x := (h1 h (by omega) hw).trans sU_s
              have he' : extP N k L L' := fun g hgk hwg => by
                rw [h1 g (by omega) hwg, sU_n (by omega)]
              refine z_if_k (by decide) ⟨1, rfl, br_F (by decide) (q w 1 ⟨Or.inr ⟨rfl, L', he', h2, fun L'' he hs a ha hwa hpre => ?_, h4⟩, fw, gw⟩)⟩
              by_cases z : h < a
              · refine h3 L'' (fun g hg1 hwg => ?_) hs a ha hwa hpre
                exact hpre g (by omega) hwg
              · by_cases z2 : a = h
                · subst z2
                  rw [hx']
                  rcases Nat.lt_or_ge (L'' a) x with y | y
                  · exact absurd hs (hno _ y L'' (fun g hgk hwg => (he g hgk hwg).trans (he' g hgk hwg)) rfl)
                  · exact y
                · exact Nat.le_of_eq (he a (hi a (by omega) hwa) hwa).symm
      exact loop 0 (by omega) v Fn.rfl (fun _ _ _ => rfl) (fun y hy => absurd hy (by omega))
    refine z_up0 (P := fun i => (∀ g, g < i → nW N g = true → g < k) → z_Wp (z_C (d + 2 * j + 2)) 4 k_X2_goOn Q 2 [some (vR 2 n), some (vI (nI (bs 7 (fun i => nW N i && decide (k ≤ i))))), some (vI (nI (bs 7 (fun i => nW N i && decide (i < k))))), some (vI (nI i)), none, none, none] [] v) 7 ?_ ?_ (fun g hg => absurd hg (by omega))
    · intro hi
      exact B_X2_goOn_2 (pk_le 7 7 (fun _ => pk_lt 7 7 (fun z => absurd z (by omega)) (fun _ => fin hi)) (fun z => absurd z (by omega)))
    · intro h hh ihh hi
      refine B_X2_goOn_2 (pk_le 7 h (fun z => absurd z (by omega)) (fun _ => ?_))
      rw [nI_bitb (by omega) (by omega), bs_bit, decide_eq_true hh, Bool.true_and, nI_1]
      refine br_n (fun e => ?_) (fun e => ?_)
      · rw [Bool.and_eq_true, decide_eq_true_eq] at e
        exact pk_lt h 7 (fun _ => found h hh e.2 e.1 hi) (fun z => absurd z (by omega))
      · refine ihh (fun g hg hwg => ?_)
        rcases Nat.lt_succ_iff_lt_or_eq.mp hg with z | z
        · exact hi g z hwg
        · subst z
          rw [hwg, Bool.true_and] at e
          have := of_decide_eq_false e
          omega
end PL0
