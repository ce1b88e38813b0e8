/-! SUMS ALIKE, SUMS UNLIKE by the class: the answers -/
theorem br_rm10 {a : Int32} {A B C : Prop} (f : ¬ (a = -1) → inr a 10 = false → A) (f' : ¬ (a = -1) → inr a 10 = false → B) (t : a = -1 ∨ inr a 10 = true → C) : (a < -1 → A) ∧ (¬ a < -1 → (a < 10 → C) ∧ (¬ a < 10 → B)) := by
  have e1 : ((-1 : Int32)).toInt = -1 := by decide
  have e7 : ((10 : Int32)).toInt = 10 := by decide
  have eq : a = -1 ↔ a.toInt = -1 := by
    rw [← Int32.toInt_inj, e1]
  refine ⟨fun h => ?_, fun h => ⟨fun h2 => ?_, fun h2 => ?_⟩⟩
  · rw [Int32.lt_iff_toInt_lt, e1] at h
    exact f (fun z => by have := eq.mp z; omega) (decide_eq_false (by omega))
  · rw [Int32.lt_iff_toInt_lt, e1] at h
    rw [Int32.lt_iff_toInt_lt, e7] at h2
    by_cases z : a.toInt = -1
    · exact t (Or.inl (eq.mpr z))
    · exact t (Or.inr (decide_eq_true (by omega)))
  · rw [Int32.lt_iff_toInt_lt, e7] at h2
    exact f' (fun z => by have := eq.mp z; omega) (decide_eq_false (by omega))
theorem br_r10 {a : Int32} {A B C : Prop} (f : inr a 10 = false → A) (f' : inr a 10 = false → B) (t : inr a 10 = true → C) : (a < 0 → A) ∧ (¬ a < 0 → (a < 10 → C) ∧ (¬ a < 10 → B)) := by
  have e7 : ((10 : Int32)).toInt = 10 := by decide
  refine ⟨fun h => ?_, fun h => ⟨fun h2 => ?_, fun h2 => ?_⟩⟩
  · rw [Int32.lt_iff_toInt_lt, Int32.toInt_zero] at h
    exact f (decide_eq_false (by omega))
  · rw [Int32.lt_iff_toInt_lt, Int32.toInt_zero] at h
    rw [Int32.lt_iff_toInt_lt, e7] at h2
    exact t (decide_eq_true (by omega))
  · rw [Int32.lt_iff_toInt_lt, e7] at h2
    exact f' (decide_eq_false (by omega))
section WT9
variable {d : Nat} {v : z_V} {N : z_N} {nu : Nat → Nat}
theorem s_solveAlike (hS : NS v N) (hW : nWF N) (hc : cAl v) : ZV (d + 25) m_X8_solveAlike [vR 8 0, vR 0 0] v (fun u => alOK u N ∧ cAl u ∧ Fr fAl v u) := fun Q k => E_X8_solveAlike (B_X8_solveAlike_0 (by
  have hm := oM_le (N := N)
  have hm7 := nM_le (N := N)
  have e4 : gI v 0 0 4 = nI (oM N) := hS.2.1.trans (congrArg nI pcN)
  have e6 : gI v 0 0 6 = nI (nM N) := hS.2.2.2.1.trans (congrArg nI pc_bs7)
  have hlt : oM N * (oM N + 1) ≤ 10 * 11 := Nat.mul_le_mul hm (by omega)
  have f1 : Fr fAl v (pL (pL v 8 0 9 (gL v 0 0 7)) 8 0 3 0) := (Fr.rfl.pL (Or.inr (Or.inr (Or.inr (Or.inr ⟨rfl, by decide⟩))))).pL (Or.inr (Or.inr (Or.inr (Or.inr ⟨rfl, by decide⟩))))
  have k9 : ∀ {u : z_V} {S : Nat → Nat → Prop}, Fr S (pL (pL v 8 0 9 (gL v 0 0 7)) 8 0 3 0) u → ¬ S 8 9 → gL u 8 0 9 = lN (kN N 10) := fun f h => by
    rw [f.l h, gL_pL_k (by decide), gL_pL_s]
    exact hS.2.2.2.2.1
  refine ⟨fun _ => ?_, fun e => k v ⟨hc N hW ((lg_eq0.mp e).trans hS.2.2.2.2.1), hc, Fr.rfl⟩⟩
  rw [e4, e6, show nI (oM N) + 1 = nI (oM N + 1) from nI_1 _, pk_mul]
  have fin : ∀ u, alOK u N → gL u 8 0 9 = lN (kN N 10) → Fr fAl v u → Q u none := fun u h h9 f => k u ⟨h, cAl_of hW h9 h, f⟩
  refine pk_ne (nM N) 0 (fun e => ?_) (fun e => ?_)
  · have ho : 0 < oM N := Nat.pos_of_ne_zero (fun z => e ((oM_0 hW).mpr z))
    have hpos : 0 < nM N := Nat.pos_of_ne_zero e
    have nz : z_nz (nI (nM N)) = true := by
      refine decide_eq_true (fun z => ?_)
      exact e ((nI_eq (a := nM N) (b := 0) (by omega) (by decide)).mp z)
    have ek : nI (oM N * (oM N + 1)) / nI (nM N) = nI (KS N) := pk_div (by omega) hpos (by omega)
    rw [ek, i_rem_nI (by omega) hpos (by omega)]
    have hrl := Nat.mod_lt (oM N * (oM N + 1)) hpos
    refine z_if_k nz (pk_ne (oM N * (oM N + 1) % nM N) 0 (fun ne => fin _ (Or.inr (Or.inl ⟨ho, ne, gL_pL_s⟩)) (k9 (S := fun _ _ => False) Fr.rfl (fun z => z)) f1) (fun e0 => z_if_k nz ?_))
    have f2 : Fr (fun t k => t = 8 ∧ k = 2) (pL (pL v 8 0 9 (gL v 0 0 7)) 8 0 3 0) (pI (pL (pL v 8 0 9 (gL v 0 0 7)) 8 0 3 0) 8 0 2 (nI (KS N))) := Fr.rfl.pI ⟨rfl, rfl⟩
    have f2' : Fr fAl v (pI (pL (pL v 8 0 9 (gL v 0 0 7)) 8 0 3 0) 8 0 2 (nI (KS N))) := f1.trans (f2.mono (fun t k z => by unfold fAl; omega))
    have hS2 : NS (pI (pL (pL v 8 0 9 (gL v 0 0 7)) 8 0 3 0) 8 0 2 (nI (KS N))) N := hS.fr f2' (fun k => by unfold fAl; omega) (fun k => by unfold fAl; omega) (fun k => by unfold fAl; omega) (fun k => by unfold fAl; omega)
    have bg := s_begin8 (d := d + 22) (al := true) (K := KS N) (e := nI (KS N)) hS2 hW (by
      unfold tgI
      rw [if_pos rfl, ← iI_nI]
      congr 1)
    refine cV bg (fun w1 hw1 => ?_)
    obtain ⟨p1, fr1⟩ := hw1
    have f3 : Fr fAl v w1 := f2'.trans (fr1.mono (fun t k z => by unfold fPut at z; unfold fAl; omega))
    have hS3 : NS w1 N := hS.fr f3 (fun k => by unfold fAl; omega) (fun k => by unfold fAl; omega) (fun k => by unfold fAl; omega) (fun k => by unfold fAl; omega)
    have eo : gI w1 0 0 3 = nI (bs 10 (fun l => nP N l && !A0 l)) := by
      rw [hS3.1]
      congr 1
      refine bs_eq (n := 10) (nO_lt hW) (fun i _ => ?_)
      show (nO N).testBit i = (nP N i && !false)
      rw [Bool.not_false, Bool.and_true]
      rfl
    have hR : RsW w1 N 0 (fun _ => False) := ⟨by
      rw [fr1.l (by unfold fPut; omega)]
      show gL (pL (pL v 8 0 9 (gL v 0 0 7)) 8 0 3 0) 8 0 3 = lN 0
      rw [gL_pL_s]
      rfl, fun _ _ z => z, fun z => absurd z (by decide)⟩
    have h0 : ∀ h, h < 7 → nW N h = true → rcN N A0 h = 0 → wAt N A0 (fun _ => 0) h = KS N := fun h hh hw hr => by
      exfalso
      rw [dgr hW hh] at hr
      have hb : bs 7 (nAdj N h) ≠ 0 := by
        rw [nW_bs] at hw
        exact of_decide_eq_true hw
      rw [pc_bs7] at hr
      obtain ⟨g, hg, hA⟩ := anyL_iff.mp (show anyL 7 (nAdj N h) = true by rw [nW_bs] at hw; rw [show anyL 7 (nAdj N h) = nW N h from rfl, nW_bs]; exact hw)
      have := cntL_lt2 hg hA
      omega
    have eC : alC N = 0 + ctV 1 (oM N) (PbC N true (KS N)) (vLs (oK N) 0 (oM N)) (fun _ => 0) := by
      unfold alC
      rw [if_neg (by omega), if_pos e0, Nat.zero_add]
    have hlC := alC_lt (N := N)
    have hj := cntL_le 10 (fun l => nP N l && !A0 l)
    obtain ⟨d', hd'⟩ : ∃ d', d + 24 = d' + 2 * cntL 10 (fun l => nP N l && !A0 l) + 4 := ⟨d + 20 - 2 * cntL 10 (fun l => nP N l && !A0 l), by omega⟩
    have key := s_goAlike hW (KS_le hW) (cntL 10 (fun l => nP N l && !A0 l)) d' w1 A0 (fun _ => 0) (vLs (oK N) 0 (oM N)) 0 (fun _ => False) rfl hS3 p1 PV_0 h0 vO_nd vO_mem hR (by rw [← eC]; exact hlC)
    rw [← hd', ← eo] at key
    refine cV key (fun w2 hw2 => ?_)
    obtain ⟨g1, g2, g3⟩ := hw2
    rw [← eC] at g1
    refine fin w2 (Or.inr (Or.inr ⟨ho, e0, ?_, g1.cg (fun W' => ⟨fun z => ?_, fun z => Or.inr ⟨z, fun i _ y => absurd y Bool.false_ne_true⟩⟩)⟩)) ?_ (f3.trans (g3.mono (fun t k z => by unfold fGw at z; unfold fAl; omega)))
    · rw [g3.i (by unfold fGw; omega), fr1.i (by unfold fPut; omega), gI_pI_s]
    · rcases z with z | z
      · exact False.elim z
      · exact z.1
    · rw [g3.l (by unfold fGw; omega), fr1.l (by unfold fPut; omega)]
      exact k9 f2 (by omega)
  · have o0 := (oM_0 hW).mp e
    have f2 : Fr fAl v (pL (pI (pL (pL v 8 0 9 (gL v 0 0 7)) 8 0 3 0) 8 0 2 0) 8 0 3 1) := (f1.pI (Or.inr (Or.inr (Or.inr (Or.inr ⟨rfl, by decide⟩))))).pL (Or.inr (Or.inr (Or.inr (Or.inr ⟨rfl, by decide⟩))))
    refine fin _ (Or.inl ⟨o0, gL_pL_s, (show gI (pI (pL (pL v 8 0 9 (gL v 0 0 7)) 8 0 3 0) 8 0 2 0) 8 0 2 = 0 from gI_pI_s)⟩) ?_ f2
    rw [gL_pL_k (by decide)]
    exact k9 (S := fun t k => t = 8 ∧ k = 2) (Fr.rfl.pI ⟨rfl, rfl⟩) (by omega)))
theorem oneW {A : Nat → Bool} {W W' : Nat → Nat} {l h : Nat} (hV : PV N A W) (hl : l < 10) (hp : nP N l = true) (hA : A l = false) (h1 : rcN N A h = 1) (ho : nOn N l h = true) (he : ∀ i, i < 10 → A i = true → W' i = W i) : wAt N (nP N) W' h = wAt N A W h + W' l := by
  have hsub : ∀ i, i < 10 → addF A l i = true → nP N i = true := fun i hi z => by
    by_cases e : i = l
    · rw [e]
      exact hp
    · rw [addF_n e] at z
      exact (hV.1 i hi z).1
  have ec := rC_put (h := h) hl hp hA
  rw [if_pos ho] at ec
  have e2 : wAt N (addF A l) W' h = wAt N (addF A l) (sU W l (W' l)) h := wA_cg (fun _ _ => rfl) (fun i hi z => by
    by_cases e : i = l
    · subst e
      rw [sU_s]
    · rw [addF_n e] at z
      rw [sU_n e, he i hi z])
  have e3 : wAt N (addF A l) (sU W l (W' l)) h = wAt N A W h + (if nOn N l h = true then W' l else 0) := wA_put hl hA
  rw [rc0_wA hsub (show rcN N (addF A l) h = 0 by omega), e2, e3, if_pos ho]
theorem s_hasLone (hS : NS v N) (hW : nWF N) (hP : PT v N false 0 A0 (fun _ => 0)) : ZI (d + 2) m_X8_hasLone [vR 8 0, vR 0 0] v (fun u r => u = v ∧ ((r = 1 ∧ ∀ W, ¬ ulkP N W) ∨ r = 0)) := fun Q k => E_X8_hasLone (B_X8_hasLone_0 (by
  have ho := nO_lt hW
  have hm := oM_le (N := N)
  refine z_up0 (P := fun l => z_Wp (z_C (d + 1)) 4 k_X8_hasLone Q 2 [some (vR 8 0), some (vR 0 0), some (vI (nI l))] [] v) 10 ?_ ?_
  · exact B_X8_hasLone_2 (pk_le 10 10 (fun _ => k v 0 ⟨rfl, Or.inr rfl⟩) (fun q => absurd q (by omega)))
  · intro l hl ih
    refine B_X8_hasLone_2 (pk_le 10 l (fun q => absurd q (by omega)) (fun _ => ?_))
    rw [nI_1]
    refine cP (s_isOpenX (d := d) (by omega) hS.1 (by omega)) (br_z (fun _ => ih) (fun e => ?_))
    have hw := hW.2.2.1 l (nP_lt hW e)
    have hwe := nW_ends hW e
    have hl2 := hS.2.2.2.2.2.1 l hl e
    have r1 := rc_le (N := N) (A := A0) (h := nA N l)
    have r2 := rc_le (N := N) (A := A0) (h := nB N l)
    rw [n_nI (n := l) (by omega), hl2.1, hl2.2, n_nI (n := nA N l) (by omega), n_nI (n := nB N l) (by omega), hP.2.2.1 _ hw.1, hP.2.2.1 _ hw.2.1]
    refine z_ii l rfl hl (z_ii _ rfl hw.1 (pk_ne (rcN N A0 (nA N l)) 1 (fun _ => ih) (fun ea => z_ii l rfl hl (z_ii _ rfl hw.2.1 (pk_ne (rcN N A0 (nB N l)) 1 (fun _ => ih) (fun eb => k v 1 ⟨rfl, Or.inl ⟨rfl, fun W hu => ?_⟩⟩))))))
    refine hu.2 _ _ hw.1 hw.2.1 hw.2.2 hwe.1 hwe.2 ?_
    rw [oneW (W := fun _ => 0) PV_0 hl e rfl ea (on_ab.mpr (Or.inl rfl)) (fun _ _ z => absurd z Bool.false_ne_true), oneW (W := fun _ => 0) PV_0 hl e rfl eb (on_ab.mpr (Or.inr rfl)) (fun _ _ z => absurd z Bool.false_ne_true), wA_0, wA_0]))
theorem s_solveUnlike (hS : NS v N) (hW : nWF N) (hc : cUl v) : ZV (d + 25) m_X8_solveUnlike [vR 8 0, vR 0 0] v (fun u => ulOK u N ∧ cUl u ∧ Fr fUl v u) := fun Q k => E_X8_solveUnlike (B_X8_solveUnlike_0 (by
  have f1 : Fr fUl v (pL v 8 0 10 (gL v 0 0 7)) := Fr.rfl.pL (Or.inr (Or.inr (Or.inr (Or.inr ⟨rfl, by decide⟩))))
  have kn : ∀ {u : z_V}, Fr fUl v u → NS u N := fun f => hS.fr f (fun k => by unfold fUl; omega) (fun k => by unfold fUl; omega) (fun k => by unfold fUl; omega) (fun k => by unfold fUl; omega)
  refine ⟨fun _ => ?_, fun e => k v ⟨hc N hW ((lg_eq0.mp e).trans hS.2.2.2.2.1), hc, Fr.rfl⟩⟩
  have fin : ∀ u, ulOK u N → gL u 8 0 10 = lN (kN N 10) → Fr fUl v u → Q u none := fun u h h9 f => k u ⟨h, cUl_of hW h9 h, f⟩
  have bg := s_begin8 (d := d + 22) (al := false) (K := 0) (e := 0) (kn f1) hW (by decide)
  refine cV bg (fun w1 hw1 => ?_)
  obtain ⟨p1, fr1⟩ := hw1
  have fp : ∀ {v u : z_V}, Fr fPut v u → Fr fUl v u := fun f => f.mono (fun t k z => by unfold fPut at z; unfold fUl; omega)
  have f2 : Fr fUl v w1 := f1.trans (fp fr1)
  have k10 : gL w1 8 0 10 = lN (kN N 10) := by
    rw [fr1.l (by unfold fPut; omega), gL_pL_s]
    exact hS.2.2.2.2.1
  have fq : ∀ {u : z_V} {x : Int32}, Fr fUl v u → Fr fUl v (pC (pI u 8 0 4 x) 905 0 0 901 0 0 10) := fun f => (f.pI (Or.inr (Or.inr (Or.inr (Or.inr ⟨rfl, by decide⟩))))).pC (fun _ => Or.inl rfl)
  refine cI (s_hasLone (d := d + 22) (kn f2) hW p1) (fun w r hr => ?_)
  obtain ⟨rfl, hr⟩ := hr
  rcases hr with ⟨rfl, no⟩ | rfl
  · exact br_nT (by decide) (fin _ (Or.inl ⟨(gI_pC_t (by decide)).trans gI_pI_s, no⟩) k10 (fq f2))
  · refine br_nF rfl ?_
    have eA : ∀ i, i < 10 → A0 i = aF N 0 i := fun i _ => by
      unfold aF
      rw [decide_eq_false (by omega), Bool.and_false]
      rfl
    have hD : dfN N A0 (fun _ => 0) := fun g h hg hh hne hwg _ rg _ => by
      exfalso
      rw [dgr hW hg, pc_bs7] at rg
      obtain ⟨i, hi, hA⟩ := anyL_iff.mp hwg
      have := cntL_lt2 hi hA
      omega
    have key := s_goUnlike hW 10 d w 0 (fun _ => 0) (by omega) (kn f2) (p1.cg eA) (PV_0.cg eA) (hD.cg eA)
    refine cI key (fun w2 r hr => ?_)
    obtain ⟨hr, f3⟩ := hr
    have f4 : Fr fUl v w2 := f2.trans (fp f3)
    have k10' : gL w2 8 0 10 = lN (kN N 10) := (f3.l (by unfold fPut; omega)).trans k10
    rcases hr with ⟨rfl, no, _⟩ | ⟨rfl, W', g1, _, g3, g4⟩
    · refine br_T rfl (fin _ (Or.inl ⟨(gI_pC_t (by decide)).trans gI_pI_s, fun W hW' => no W hW' (fun i hi z => ?_)⟩) k10' (fq f4))
      rw [← eA i hi] at z
      exact absurd z Bool.false_ne_true
    · refine br_F (by decide) (fin _ (Or.inr ⟨(gI_pC_t (by decide)).trans gI_pI_s, W', ⟨g1, fun W2 k1 => g3 W2 k1 (fun i hi z => ?_)⟩, fun l hl hp => ?_⟩) k10' (fq f4))
      · rw [← eA i hi] at z
        exact absurd z Bool.false_ne_true
      · rw [gI_pC_s, pk_cpy_in (by omega) (by omega), show 0 + (l - 0) = l by omega]
        exact (gI_pI_t (by decide)).trans (g4 l hl hp)))
def fAlC : Nat → Nat → Prop := fun t k => sNet t k ∨ fAl t k
def fUlC : Nat → Nat → Prop := fun t k => sNet t k ∨ fUl t k
theorem nAl {u w : z_V} (hS : NS u N) (f : Fr fAl u w) : NS w N := hS.fr f (fun k => by unfold fAl; omega) (fun k => by unfold fAl; omega) (fun k => by unfold fAl; omega) (fun k => by unfold fAl; omega)
theorem nUl {u w : z_V} (hS : NS u N) (f : Fr fUl u w) : NS w N := hS.fr f (fun k => by unfold fUl; omega) (fun k => by unfold fUl; omega) (fun k => by unfold fUl; omega) (fun k => by unfold fUl; omega)
theorem ni_no {a : Int32} (h : inr a 10 = false) : ∀ l, l < 10 → nP N l = true → a ≠ nI l := fun l hl _ e => by
  rw [e, inr_nI (by omega), decide_eq_false_iff_not] at h
  exact h hl
theorem alNo {a : Int32} (ho : 0 < oM N) (h : oM N * (oM N + 1) % nM N ≠ 0 ∨ ∀ W, ¬ alkP N (KS N) W) : alA N a (-1) := by
  by_cases z : a = -1 ∨ ∃ l, l < 10 ∧ nP N l = true ∧ a = nI l
  · exact Or.inr ⟨z, Or.inr (Or.inl ⟨ho, h, rfl⟩)⟩
  · exact Or.inl ⟨fun e => z (Or.inl e), fun l hl hp e => z (Or.inr ⟨l, hl, hp, e⟩), rfl⟩
theorem s_alikeC {a : Int32} (hC : CW v 0 N nu) (hc : cAl v) : ZI (d + 26) m_X10_alike [vR 10 0, vI a] v (fun u r => alA N a r ∧ cAl u ∧ Fr fAlC v u) := fun Q k => E_X10_alike (B_X10_alike_0 (by
  have hW := hC.1
  have ho := nO_lt hW
  refine br_rm10 (fun z1 z2 => k _ _ ⟨Or.inl ⟨z1, ni_no z2, rfl⟩, hc, Fr.rfl⟩) (fun z1 z2 => k _ _ ⟨Or.inl ⟨z1, ni_no z2, rfl⟩, hc, Fr.rfl⟩) (fun e3 => ?_)
  refine cV (s_look (d := d + 23) hC) (fun u hu => ?_)
  refine cV (s_solveAlike (d := d) hu.1 hW (hc.fr hu.2 (sNet_not (by decide)) (sNet_not (by decide)) (sNet_not (by decide)) (fun _ => sNet_not (by decide)))) (fun w hw => ?_)
  obtain ⟨ok, hcw, f2⟩ := hw
  have fw : Fr fAlC v w := (hu.2.mono (fun t k z => Or.inl z)).trans (f2.mono (fun t k z => Or.inr z))
  have hSw := nAl hu.1 f2
  have K : ∀ r, alA N a r → Q w (some (vI r)) := fun r h => k _ _ ⟨h, hcw, fw⟩
  have nol : ∀ l, l < 10 → a = nI l → nP N l = false → ∀ l', l' < 10 → nP N l' = true → a ≠ nI l' := fun l hl e hp l' hl' hp' e' => by
    have := nI_u hl hl' (e.symm.trans e')
    rw [this, hp'] at hp
    cases hp
  have isO : ∀ (yes : ∀ l, l < 10 → a = nI l → nP N l = true → z_if (z_in a 10) (Q w (some (vI (gI w 900 0 (n_ a)))))), a ≠ -1 → z_C (d + 25) m_X0_isOpen [vR 0 0, vI a] w (fun w5 o6 => ∃ i7 : Int32, o6 = some (vI i7) ∧ ((i7 = 0 → Q w5 (some (vI (-1)))) ∧ (¬ i7 = 0 → z_if (z_in a 10) (Q w5 (some (vI (gI w5 900 0 (n_ a)))))))) := fun yes ne => by
    rcases e3 with e3 | e3
    · exact absurd e3 ne
    · obtain ⟨l, hl, e, _⟩ := inr_n (by decide) e3
      have op : ZP (d + 25) m_X0_isOpen [vR 0 0, vI a] w (bI (nP N l)) := by
        rw [e]
        exact s_isOpenX (d := d + 24) (by omega) hSw.1 (by omega)
      exact cP op (br_z (fun y => K _ (Or.inl ⟨ne, nol l hl e y, rfl⟩)) (fun y => yes l hl e y))
  rcases ok with ⟨o0, b, c⟩ | ⟨op, b, c⟩ | ⟨op, b, c, r1, r2, r3⟩
  · rw [b]
    refine br_nT (by decide) ⟨fun z => isO (fun l hl _ hp => ?_) z, fun z => ?_⟩
    · have := oR_lt hl hp
      omega
    · rw [c]
      exact K 0 (Or.inr ⟨Or.inl z, Or.inl ⟨o0, rfl⟩⟩)
  · rw [c]
    exact br_nF (by decide) (K _ (alNo op (Or.inl b)))
  · rw [r1]
    rcases Nat.eq_zero_or_pos (alC N) with y | y
    · rw [y]
      exact br_nF (by decide) (K _ (alNo op (Or.inr (r2 y))))
    · have hlC := alC_lt (N := N)
      have nz : ¬ lg_cmp (lN (alC N)) 0 = 0 := fun z => by
        have := lN_inj (a := alC N) (b := 0) (by omega) (by decide) (lg_eq0.mp z)
        omega
      obtain ⟨W, g1, g2, g3⟩ := r3 y
      have lg : isLG N (alkP N (KS N)) W := ⟨g1, g3⟩
      refine br_nT nz ⟨fun z => isO (fun l hl e hp => ?_) z, fun z => ?_⟩
      · refine z_ii l e hl ?_
        rw [e, n_nI (by omega), (g2 l hl hp).1]
        exact K _ (Or.inr ⟨Or.inr ⟨l, hl, hp, e⟩, Or.inr (Or.inr ⟨op, b, W, lg, Or.inr ⟨l, hl, hp, e, rfl⟩⟩)⟩)
      · rw [c]
        exact K _ (Or.inr ⟨Or.inl z, Or.inr (Or.inr ⟨op, b, W, lg, Or.inl ⟨z, rfl⟩⟩)⟩)))
theorem s_alikesC (hC : CW v 0 N nu) (hc : cAl v) : ZL (d + 26) m_X10_alikes [vR 10 0] v (fun u x => x = lN (alC N) ∧ cAl u ∧ Fr fAlC v u) := fun Q k => E_X10_alikes (B_X10_alikes_0 (by
  refine cV (s_look (d := d + 23) hC) (fun u hu => ?_)
  refine cV (s_solveAlike (d := d) hu.1 hC.1 (hc.fr hu.2 (sNet_not (by decide)) (sNet_not (by decide)) (sNet_not (by decide)) (fun _ => sNet_not (by decide)))) (fun w hw => ?_)
  obtain ⟨ok, hcw, f2⟩ := hw
  refine k _ _ ⟨?_, hcw, (hu.2.mono (fun t k z => Or.inl z)).trans (f2.mono (fun t k z => Or.inr z))⟩
  rcases ok with ⟨o0, b, c⟩ | ⟨op, b, c⟩ | ⟨op, b, c, r1, r2, r3⟩
  · rw [b]
    unfold alC
    rw [if_pos o0]
  · rw [c]
    unfold alC
    rw [if_neg (by omega), if_neg b]
  · exact r1))
theorem s_unlikeC {a : Int32} (hC : CW v 0 N nu) (hc : cUl v) : ZI (d + 26) m_X10_unlike [vR 10 0, vI a] v (fun u r => ulA N a r ∧ cUl u ∧ Fr fUlC v u) := fun Q k => E_X10_unlike (B_X10_unlike_0 (by
  have hW := hC.1
  have ho := nO_lt hW
  refine br_r10 (fun z2 => k _ _ ⟨Or.inl ⟨ni_no z2, rfl⟩, hc, Fr.rfl⟩) (fun z2 => k _ _ ⟨Or.inl ⟨ni_no z2, rfl⟩, hc, Fr.rfl⟩) (fun e3 => ?_)
  refine cV (s_look (d := d + 23) hC) (fun u hu => ?_)
  refine cV (s_solveUnlike (d := d) hu.1 hW (hc.fr hu.2 (sNet_not (by decide)) (sNet_not (by decide)) (fun _ => sNet_not (by decide)))) (fun w hw => ?_)
  obtain ⟨ok, hcw, f2⟩ := hw
  have fw : Fr fUlC v w := (hu.2.mono (fun t k z => Or.inl z)).trans (f2.mono (fun t k z => Or.inr z))
  have hSw := nUl hu.1 f2
  have K : ∀ r, ulA N a r → Q w (some (vI r)) := fun r h => k _ _ ⟨h, hcw, fw⟩
  obtain ⟨l, hl, e, _⟩ := inr_n (by decide) e3
  have nol : nP N l = false → ∀ l', l' < 10 → nP N l' = true → a ≠ nI l' := fun hp l' hl' hp' e' => by
    have := nI_u hl hl' (e.symm.trans e')
    rw [this, hp'] at hp
    cases hp
  have op : ZP (d + 25) m_X0_isOpen [vR 0 0, vI a] w (bI (nP N l)) := by
    rw [e]
    exact s_isOpenX (d := d + 24) (by omega) hSw.1 (by omega)
  rcases ok with ⟨b, no⟩ | ⟨b, W, g1, g2⟩
  · rw [b]
    refine br_T rfl ?_
    cases hp : nP N l
    · exact K _ (Or.inl ⟨nol hp, rfl⟩)
    · exact K _ (Or.inr ⟨l, hl, hp, e, Or.inl ⟨no, rfl⟩⟩)
  · rw [b]
    refine br_F (by decide) (cP op (br_z (fun hp => K _ (Or.inl ⟨nol hp, rfl⟩)) (fun hp => z_ii l e hl ?_)))
    rw [e, n_nI (by omega), g2 l hl hp]
    exact K _ (Or.inr ⟨l, hl, hp, e, Or.inr ⟨W, g1, rfl⟩⟩)))
end WT9
