/-! the class binds, and tells of places -/
theorem pc_bs7 {f : Nat → Bool} : pc 10 (bs 7 f) = cntL 7 f := by
  have key : ∀ k, k ≤ 7 → pc k (bs 7 f) = cntL k f := by
    intro k
    induction k with
    | zero => exact fun _ => rfl
    | succ k ih =>
      intro hk
      simp only [pc, cntL]
      rw [ih (by omega), bs_bit, decide_eq_true (by omega : k < 7), Bool.true_and]
  have : pc 10 (bs 7 f) = pc 7 (bs 7 f) := by
    simp only [pc]
    rw [bs_bit 7 f 7, bs_bit 7 f 8, bs_bit 7 f 9]
    simp
  rw [this, key 7 (by omega)]
section PL3
variable {d : Nat} {v : z_V} {N : z_N} {nu : Nat → Nat}
def bdOK (u : z_V) (N : z_N) : Prop := ∃ t L, isLF (nW N) (niceL 3 t 0 N (nM N - 1)) L ∧ (∀ t', t' < t → ∀ L', ¬ niceL 3 t' 0 N (nM N - 1) L') ∧ gI u 2 1 1 = nI t ∧ ∀ h, h < 7 → nW N h = true → gI u 300 1 h = nI (L h)
def cBd (v : z_V) : Prop := ∀ N, nWF N → gL v 2 1 4 = lN (kN N 10) → bdOK v N
def fBd : Nat → Nat → Prop := fun t m => (t = 2 ∧ m = 1) ∨ (t = 300 ∧ m = 1) ∨ ((t = 352 ∨ t = 353) ∧ 7 ≤ m)
theorem bdOK.cg {u : z_V} {M : z_N} (hN : nWF N) (hM : nWF M) (h : smN N M) (z : bdOK u N) : bdOK u M := by
  obtain ⟨t, L, h1, h0, h2, h3⟩ := z
  have e := nM_cg hN hM h
  refine ⟨t, L, ?_, ?_, h2, ?_⟩
  · rw [← nW_cg hN hM h, ← e]
    exact (isLF_cg (fun L => niceL_cg hN hM h)).mp h1
  · intro t' ht' L' q
    rw [← e] at q
    exact h0 t' ht' L' ((niceL_cg hN hM h).mpr q)
  · rw [← nW_cg hN hM h]
    exact h3
theorem cBd_of {u : z_V} (hW : nWF N) (h4 : gL u 2 1 4 = lN (kN N 10)) (h : bdOK u N) : cBd u := fun M hM k4 => h.cg hW hM (smN_k hW hM (h4.symm.trans k4))
def BDq (v : z_V) (N : z_N) (u : z_V) : Prop := NS u N ∧ Fn fBd v u ∧ gL u 2 1 4 = lN (kN N 10) ∧ gL u 2 1 7 = lN (bs 31 (fun x => decide (x < nM N)))
theorem BDq.fn {u w : z_V} {S : Nat → Nat → Prop} (h : BDq v N u) (f : Fn S u w) (hs : ∀ t m, S t m → fBd t m) (h2 : ¬ S 2 1) : BDq v N w := by
  obtain ⟨a1, a2, a3, a4⟩ := h
  have q : ∀ t m, ¬ fBd t m → ¬ S t m := fun t m z y => z (hs t m y)
  exact ⟨a1.fn f (q _ _ (by unfold fBd; omega)) (q _ _ (by unfold fBd; omega)) (q _ _ (by unfold fBd; omega)) (q _ _ (by unfold fBd; omega)), a2.trans (f.mono hs), (f.l h2).trans a3, (f.l h2).trans a4⟩
theorem s_bind (hS : NS v N) (hW : nWF N) (hc : cBd v) : ZV (d + 18) m_X2_bind [vR 2 1, vR 0 0] v (fun u => bdOK u N ∧ cBd u ∧ Fn fBd v u) := fun Q k => E_X2_bind (B_X2_bind_0 (by
  have band : ∀ t, t ≤ 7 → ∀ (u : z_V), BDq v N u → (∀ t', t' < t → ∀ L', ¬ niceL 3 t' 0 N (nM N - 1) L') → ∀ u3 u4, z_Wp (z_C (d + 17)) 0 k_X2_bind Q 41 [some (vR 2 1), some (vR 0 0), some (vI (nI t)), u3, u4] [] u := by
    refine z_up 7 (fun u _ hno => absurd nice_b (hno 6 (by omega) _)) (fun t ht ih u hu hno u3 u4 => ?_)
    refine B_X2_bind_41 (pk_le 7 t (fun z => absurd z (by omega)) (fun _ => ?_))
    have rows : ∀ g, g ≤ 7 → ∀ (u : z_V), BDq v N u → (∀ a h, a < g → h < 7 → gI u 352 (7 * 1 + a) h = nI 1 ∧ gI u 353 (7 * 1 + a) h = nI (HiB t N a h)) → ∀ u4, z_Wp (z_C (d + 17)) 0 k_X2_bind Q 49 [some (vR 2 1), some (vR 0 0), some (vI (nI t)), some (vI (nI g)), u4] [] u := by
      refine z_up 7 (fun u hu hr u4 => ?_) (fun g hg ihg u hu hr u4 => ?_)
      · refine B_X2_bind_49 (pk_le 7 7 (fun _ => ?_) (fun z => absurd z (by omega)))
        have hP : PM u 1 (fun _ _ => 1) (HiB t N) := fun a h ha hh => ⟨(hr a h ha hh).1, (hr a h ha hh).2, by show 1 < 31; omega, by unfold HiB; split <;> omega⟩
        have hg := s_goOnP (n := 1) (N := N) (Lo := fun _ _ => 1) (Hi := HiB t N) (U := fun x => decide (x < nM N)) 7 d u 0 (fun _ => 0) (by omega) hP hu.2.2.2 (fun g hg => absurd hg (by omega)) (fun g hg => absurd hg (by omega))
        have e5 : gI u 0 0 5 = nI (bs 7 (fun i => nW N i && decide (0 ≤ i))) := hu.1.2.2.1.trans (congrArg nI (bs_cong (fun i _ => by simp)))
        have e0 : (0 : Int32) = nI (bs 7 (fun i => nW N i && decide (i < 0))) := congrArg nI ((bs_cong (fun i _ => by simp)).trans (show bs 7 (fun _ => false) = 0 by decide)).symm
        have hg2 : ZI (d + 17) m_X2_goOn [vR 2 1, vI (gI u 0 0 5), vI 0] u (fun w r => resP N (fun _ _ => 1) (HiB t N) (fun x => decide (x < nM N)) 1 0 (fun _ => 0) w r ∧ Fn (f300 1) u w) := by
          rw [← e5, ← e0] at hg
          exact hg.m (fun w r h => ⟨h.1, h.2.1⟩)
        refine cI hg2 (fun w r hr => ?_)
        obtain ⟨hr1, hr2⟩ := hr
        have f1 : BDq v N w := hu.fn hr2 (fun t m z => Or.inr (Or.inl z)) (by unfold f300; omega)
        rcases hr1 with ⟨rfl, h1⟩ | ⟨rfl, L, _, h2, h3, h4⟩
        · refine br_T rfl ?_
          rw [nI_1]
          refine ih w f1 (fun t' ht' L' => ?_) _ _
          rcases Nat.lt_succ_iff_lt_or_eq.mp ht' with z | z
          · exact hno t' z L'
          · subst z
            exact fun q => h1 L' (fun g hg => absurd hg (by omega)) (sol3.mpr q)
        · refine br_F (by decide) ?_
          have hl : isLF (nW N) (niceL 3 t 0 N (nM N - 1)) L := (isLF_cg (fun L => sol3)).mp ⟨h2, fun L' hL' h hh hw hpre => h3 L' (fun g hg => absurd hg (by omega)) hL' h hh hw hpre⟩
          have f2 : Fn (fun t m => t = 2 ∧ m = 1) w (pI w 2 1 1 (nI t)) := Fn.rfl.pI ⟨rfl, rfl⟩
          have ok : bdOK (pI w 2 1 1 (nI t)) N := ⟨t, L, hl, hno, gI_pI_s, fun h hh hw => (gI_pI_t (by decide)).trans (h4 h hh hw)⟩
          exact k _ ⟨ok, cBd_of hW f1.2.2.1 ok, f1.2.1.trans (f2.mono (fun t m z => Or.inl z))⟩
      · refine B_X2_bind_49 (pk_le 7 g (fun z => absurd z (by omega)) (fun _ => ?_))
        have row : ∀ h, h ≤ 7 → ∀ (u : z_V), BDq v N u → (∀ a h, a < g → h < 7 → gI u 352 (7 * 1 + a) h = nI 1 ∧ gI u 353 (7 * 1 + a) h = nI (HiB t N a h)) → (∀ h', h' < h → gI u 352 (7 * 1 + g) h' = nI 1 ∧ gI u 353 (7 * 1 + g) h' = nI (HiB t N g h')) → z_Wp (z_C (d + 17)) 0 k_X2_bind Q 58 [some (vR 2 1), some (vR 0 0), some (vI (nI t)), some (vI (nI g)), some (vI (nI h))] [] u := by
          refine z_up 7 (fun u hu hr hrow => ?_) (fun h hh ihr u hu hr hrow => ?_)
          · refine B_X2_bind_58 (pk_le 7 7 (fun _ => ?_) (fun z => absurd z (by omega)))
            rw [nI_1]
            refine ihg u hu (fun a h ha hh => ?_) _
            rcases Nat.lt_succ_iff_lt_or_eq.mp ha with z | z
            · exact hr a h z hh
            · subst z
              exact hrow h hh
          · have zh : ∀ {T : Prop}, T → z_if (z_in (nI h) 7) T := fun t => z_ii h rfl hh t
            have zg : ∀ {T : Prop}, T → z_if (z_in (nI g) 7) T := fun t => z_ii g rfl hg t
            have cell : ∀ val, val = HiB t N g h → z_Wp (z_C (d + 17)) 0 k_X2_bind Q 58 [some (vR 2 1), some (vR 0 0), some (vI (nI t)), some (vI (nI g)), some (vI (nI (h + 1)))] [] (pI (pI u 352 (7 * 1 + g) h (nI 1)) 353 (7 * 1 + g) h (nI val)) := by
              intro val hv
              subst hv
              have f2 : Fn (fun t m => (t = 352 ∨ t = 353) ∧ m = 7 + g) u (pI (pI u 352 (7 * 1 + g) h (nI 1)) 353 (7 * 1 + g) h (nI (HiB t N g h))) := (Fn.rfl.pI ⟨Or.inl rfl, by omega⟩).pI ⟨Or.inr rfl, by omega⟩
              refine ihr _ (hu.fn f2 (fun t m z => Or.inr (Or.inr ⟨z.1, by omega⟩)) (by omega)) (fun a b ha hb => ⟨(f2.i (by omega)).trans (hr a b ha hb).1, (f2.i (by omega)).trans (hr a b ha hb).2⟩) (fun b hb => ?_)
              rcases Nat.lt_succ_iff_lt_or_eq.mp hb with z | z
              · refine ⟨?_, ?_⟩
                · rw [gI_pI_t (by decide), gI_pI_k (by omega)]
                  exact (hrow b z).1
                · rw [gI_pI_k (by omega), gI_pI_t (by decide)]
                  exact (hrow b z).2
              · subst z
                exact ⟨by rw [gI_pI_t (by decide), gI_pI_s], gI_pI_s⟩
            have hb7 := bs_lt 7 (nAdj N g)
            refine B_X2_bind_58 (pk_le 7 h (fun z => absurd z (by omega)) (fun _ => zg (zh (zg (zg ?_)))))
            rw [n_nI (n := g) (by omega), n_nI (n := h) (by omega), nI_1, hu.1.2.2.2.2.2.2 g hg, nI_bitb (by omega) (by omega), bs_bit, decide_eq_true hh, Bool.true_and]
            refine br_z (fun e => zh ?_) (fun e => zh ?_)
            · refine cell 30 ?_
              unfold HiB
              rw [e]
              rfl
            · refine cell t ?_
              unfold HiB
              rw [e]
              rfl
        exact row 0 (by omega) u hu hr (fun h' hh' => absurd hh' (by omega))
    exact rows 0 (by omega) u hu (fun a h ha => absurd ha (by omega)) _
  refine ⟨fun _ => ?_, fun e => k v ⟨hc N hW ((lg_eq0.mp e).trans hS.2.2.2.2.1), hc, Fn.rfl⟩⟩
  have hm := nM_le (N := N)
  have e7 : l_shl 1 (gI v 0 0 6) - 1 = lN (bs 31 (fun x => decide (x < nM N))) := by
    rw [hS.2.2.2.1, pc_bs7]
    exact lm_tab (nM N) (by omega)
  rw [e7]
  have f2 : Fn (fun t m => t = 2 ∧ m = 1) v (pI (pL (pL v 2 1 4 (gL v 0 0 7)) 2 1 7 (lN (bs 31 (fun x => decide (x < nM N))))) 2 1 1 7) := ((Fn.rfl.pL ⟨rfl, rfl⟩).pL ⟨rfl, rfl⟩).pI ⟨rfl, rfl⟩
  refine band 0 (by omega) _ ⟨hS.fn f2 (by omega) (by omega) (by omega) (by omega), f2.mono (fun t m z => Or.inl z), ?_, gL_pL_s⟩ (fun t' h => absurd h (by omega)) _ _
  show gL (pL (pL v 2 1 4 (gL v 0 0 7)) 2 1 7 _) 2 1 4 = _
  rw [gL_pL_k (by decide), gL_pL_s]
  exact hS.2.2.2.2.1))
/-- what the searches tell -/
theorem s_isBeside {h : Nat} (hS : NS v N) (hh : h < 7) : ZP (d + 1) m_X0_isBeside [vR 0 0, vI (nI h)] v (bI (nW N h)) := fun Q k => E_X0_isBeside (B_X0_isBeside_0 (by
  have hb := bs_lt 7 (nW N)
  rw [hS.2.2.1, nI_bitb (by omega) (by omega), bs_bit, decide_eq_true hh, Bool.true_and]
  exact br_z (fun e => bq (b' := false) k e) (fun e => bq (b' := true) k e)))
theorem s_ofSearchB {n h : Nat} {L : Nat → Nat} (hS : NS v N) (hh : h < 7) (hL : nW N h = true → gI v 300 n h = nI (L h)) : ZP (d + 2) m_X0_ofSearch [vR 0 0, vR 300 n, vI (nI h)] v (lbV N L h) := fun Q k => E_X0_ofSearch_b (B_X0_ofSearch_b_0 (cP (s_isBeside hS hh) (by
  refine br_z (fun e => ?_) (fun e => z_ii h rfl hh ?_)
  · unfold lbV at k
    rw [e] at k
    exact k
  · rw [n_nI (by omega), hL e]
    unfold lbV at k
    rw [e] at k
    exact k)))
theorem br_rm {a : Int32} {A B C : Prop} (f : ¬ (a = -1) → inr a 7 = false → A) (f' : ¬ (a = -1) → inr a 7 = false → B) (t : a = -1 ∨ inr a 7 = true → C) : (a < -1 → A) ∧ (¬ a < -1 → (a < 7 → C) ∧ (¬ a < 7 → B)) := by
  have e1 : ((-1 : Int32)).toInt = -1 := by decide
  have e7 : ((7 : Int32)).toInt = 7 := by decide
  have hne : a ≠ -1 ↔ a.toInt ≠ -1 := by
    rw [← e1]
    exact not_congr Int32.toInt_inj.symm
  refine ⟨fun h => ?_, fun h => ⟨fun h2 => ?_, fun h2 => ?_⟩⟩
  · rw [Int32.lt_iff_toInt_lt, e1] at h
    exact f (hne.mpr (by omega)) (decide_eq_false (by omega))
  · rw [Int32.lt_iff_toInt_lt, e1] at h
    rw [Int32.lt_iff_toInt_lt, e7] at h2
    by_cases z : a.toInt = -1
    · exact t (Or.inl (Int32.toInt_inj.mp (z.trans e1.symm)))
    · exact t (Or.inr (decide_eq_true (by omega)))
  · rw [Int32.lt_iff_toInt_lt, e1] at h
    rw [Int32.lt_iff_toInt_lt, e7] at h2
    exact f' (hne.mpr (by omega)) (decide_eq_false (by omega))
theorem br_r4 {a : Int32} {A B C : Prop} (f : inr a 4 = false → A) (f' : inr a 4 = false → B) (t : inr a 4 = true → C) : (a < 0 → A) ∧ (¬ a < 0 → (3 < a → B) ∧ (¬ 3 < a → C)) := by
  have e3 : ((3 : Int32)).toInt = 3 := by decide
  refine ⟨fun h => ?_, fun h => ⟨fun h2 => ?_, fun h2 => ?_⟩⟩
  · rw [Int32.lt_iff_toInt_lt, Int32.toInt_zero] at h
    exact f (decide_eq_false (by omega))
  · rw [Int32.lt_iff_toInt_lt, e3] at h2
    exact f' (decide_eq_false (by omega))
  · rw [Int32.lt_iff_toInt_lt, Int32.toInt_zero] at h
    rw [Int32.lt_iff_toInt_lt, e3] at h2
    exact t (decide_eq_true (by omega))
def fNet : Nat → Nat → Prop := fun t _ => t = 0 ∨ t = 100 ∨ t = 101 ∨ t = 102
theorem fNet_of {u : z_V} (f : Fr sNet v u) : Fn fNet v u := Fn.ofL f (fun t h n => by
  simp only [List.mem_cons, List.not_mem_nil, or_false] at h
  exact h)
theorem cSp.fn {u : z_V} {S : Nat → Nat → Prop} (h : cSp v) (f : Fn S v u) (h1 : ¬ S 2 0) (h2 : ¬ S 300 0) : cSp u := fun N near far hW hn hf k4 k5 k6 => by
  obtain ⟨t, L, a1, a2, a3⟩ := h N near far hW hn hf ((f.l h1).symm.trans k4) ((f.i h1).symm.trans k5) ((f.i h1).symm.trans k6)
  exact ⟨t, L, a1, (f.i h1).trans a2, fun h hh hw => (f.i h2).trans (a3 h hh hw)⟩
theorem cBd.fn {u : z_V} {S : Nat → Nat → Prop} (h : cBd v) (f : Fn S v u) (h1 : ¬ S 2 1) (h2 : ¬ S 300 1) : cBd u := fun N hW k4 => by
  obtain ⟨t, L, a1, a0, a2, a3⟩ := h N hW ((f.l h1).symm.trans k4)
  exact ⟨t, L, a1, a0, (f.i h1).trans a2, fun h hh hw => (f.i h2).trans (a3 h hh hw)⟩
def fApC : Nat → Nat → Prop := fun t m => fNet t m ∨ fSp t m
def fBdC : Nat → Nat → Prop := fun t m => fNet t m ∨ fBd t m
theorem s_apartC {a b c : Int32} (hC : CW v 0 N nu) (hc : cSp v) : ZI (d + 19) m_X10_apart [vR 10 0, vI a, vI b, vI c] v (fun u r => (((inr a 4 && inr b 4) = false ∧ r = -1) ∨ ∃ x y, x < 4 ∧ y < 4 ∧ a = nI x ∧ b = nI y ∧ spA 2 x y N c r) ∧ cSp u ∧ Fn fApC v u) := fun Q k => E_X10_apart (B_X10_apart_0 (by
  refine br_r4 (fun e => k _ _ ⟨Or.inl ⟨by rw [e]; rfl, rfl⟩, hc, Fn.rfl⟩) (fun e => k _ _ ⟨Or.inl ⟨by rw [e]; rfl, rfl⟩, hc, Fn.rfl⟩) (fun e1 => ?_)
  refine br_r4 (fun e => k _ _ ⟨Or.inl ⟨by rw [e]; simp, rfl⟩, hc, Fn.rfl⟩) (fun e => k _ _ ⟨Or.inl ⟨by rw [e]; simp, rfl⟩, hc, Fn.rfl⟩) (fun e2 => ?_)
  obtain ⟨p, hp, rfl, _⟩ := inr_n (by decide) e1
  obtain ⟨q, hq, rfl, _⟩ := inr_n (by decide) e2
  refine br_rm (fun z1 z2 => k _ _ ⟨Or.inr ⟨p, q, hp, hq, rfl, rfl, Or.inl ⟨z1, z2, rfl⟩⟩, hc, Fn.rfl⟩) (fun z1 z2 => k _ _ ⟨Or.inr ⟨p, q, hp, hq, rfl, rfl, Or.inl ⟨z1, z2, rfl⟩⟩, hc, Fn.rfl⟩) (fun e3 => ?_)
  refine cV (s_look (d := d + 16) hC) (fun u hu => ?_)
  have f1 := fNet_of hu.2
  refine cV (s_space hu.1 hC.1 hp hq (hc.fn f1 (by unfold fNet; omega) (by unfold fNet; omega))) (fun w hw => ?_)
  obtain ⟨⟨t, L, g1, g2, g3⟩, hcw, f2⟩ := hw
  have fw : Fn fApC v w := (f1.mono (fun t m z => Or.inl z)).trans (f2.mono (fun t m z => Or.inr z))
  refine ⟨fun z => ?_, fun z => ?_⟩
  · rcases e3 with e3 | e3
    · exact absurd e3 z
    · obtain ⟨h, hh, rfl, _⟩ := inr_n (by decide) e3
      exact cP (s_ofSearchB (d := d + 16) (hu.1.fn f2 (by unfold fSp; omega) (by unfold fSp; omega) (by unfold fSp; omega) (by unfold fSp; omega)) hh (g3 h hh)) (k _ _ ⟨Or.inr ⟨p, q, hp, hq, rfl, rfl, Or.inr ⟨t, L, g1, Or.inr ⟨h, hh, rfl, rfl⟩⟩⟩, hcw, fw⟩)
  · rw [g2]
    exact k _ _ ⟨Or.inr ⟨p, q, hp, hq, rfl, rfl, Or.inr ⟨t, L, g1, Or.inl ⟨z, rfl⟩⟩⟩, hcw, fw⟩))
theorem s_bandC {a : Int32} (hC : CW v 0 N nu) (hc : cBd v) : ZI (d + 19) m_X10_band [vR 10 0, vI a] v (fun u r => bdA N a r ∧ cBd u ∧ Fn fBdC v u) := fun Q k => E_X10_band (B_X10_band_0 (by
  refine br_rm (fun z1 z2 => k _ _ ⟨Or.inl ⟨z1, z2, rfl⟩, hc, Fn.rfl⟩) (fun z1 z2 => k _ _ ⟨Or.inl ⟨z1, z2, rfl⟩, hc, Fn.rfl⟩) (fun e3 => ?_)
  refine cV (s_look (d := d + 16) hC) (fun u hu => ?_)
  have f1 := fNet_of hu.2
  refine cV (s_bind hu.1 hC.1 (hc.fn f1 (by unfold fNet; omega) (by unfold fNet; omega))) (fun w hw => ?_)
  obtain ⟨⟨t, L, g1, g0, g2, g3⟩, hcw, f2⟩ := hw
  have fw : Fn fBdC v w := (f1.mono (fun t m z => Or.inl z)).trans (f2.mono (fun t m z => Or.inr z))
  refine ⟨fun z => ?_, fun z => ?_⟩
  · rcases e3 with e3 | e3
    · exact absurd e3 z
    · obtain ⟨h, hh, rfl, _⟩ := inr_n (by decide) e3
      exact cP (s_ofSearchB (d := d + 16) (hu.1.fn f2 (by unfold fBd; omega) (by unfold fBd; omega) (by unfold fBd; omega) (by unfold fBd; omega)) hh (g3 h hh)) (k _ _ ⟨Or.inr ⟨t, L, g1, g0, Or.inr ⟨h, hh, rfl, rfl⟩⟩, hcw, fw⟩)
  · rw [g2]
    exact k _ _ ⟨Or.inr ⟨t, L, g1, g0, Or.inl ⟨z, rfl⟩⟩, hcw, fw⟩))
end PL3
