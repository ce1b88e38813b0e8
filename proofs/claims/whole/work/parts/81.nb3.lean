/-! the class goes on with a number -/
theorem and_p2 {s k : Nat} : s &&& 2 ^ k = if s.testBit k = true then 2 ^ k else 0 := by
  apply Nat.eq_of_testBit_eq
  intro i
  rw [Nat.testBit_and, Nat.testBit_two_pow]
  cases e : s.testBit k
  · rw [if_neg (by decide), Nat.zero_testBit]
    by_cases z : k = i
    · subst z
      rw [e]
      rfl
    · simp [z]
  · rw [if_pos rfl, Nat.testBit_two_pow]
    by_cases z : k = i
    · subst z
      rw [e]
      rfl
    · simp [z]
theorem br_bm {s k : Nat} {A B : Prop} (hs : s < 128) (hk : k < 31) (a : s.testBit k = false → A) (b : s.testBit k = true → B) : (nI s &&& i_shl 1 (nI k) = 0 → A) ∧ (¬ nI s &&& i_shl 1 (nI k) = 0 → B) := by
  rw [nI_shl hk, nI_and, and_p2]
  have hp : 0 < 2 ^ k := Nat.two_pow_pos k
  have hp2 : 2 ^ k < 2 ^ 31 := Nat.pow_lt_pow_right (by decide) hk
  cases e : s.testBit k
  · exact ⟨fun _ => a e, fun q => absurd rfl q⟩
  · refine ⟨fun q => absurd q ?_, fun _ => b e⟩
    show ¬ nI (2 ^ k) = nI 0
    rw [nI_eq hp2 (by decide)]
    omega
section NB3
variable {d : Nat} {v : z_V} {N : z_N} {uq io : Bool} {S Lf F G : Nat → Bool} {L : Nat → Nat} {h x top : Nat}
def fSt : Nat → Nat → Prop := fun t k => t = 202 ∨ (t = 1 ∧ (k = 11 ∨ k = 12 ∨ k = 13 ∨ k = 14))
def stN (N : z_N) (S : Nat → Bool) (L : Nat → Nat) (F : Nat → Bool) (h x m : Nat) (v w : z_V) : Prop := FS w (addN N S L h x m F) ∧ gL w 1 0 11 = gL v 1 0 11 ||| l_shl 1 (nI x) ∧ gI w 202 0 h = nI x ∧ (∀ g, g ≠ h → gI w 202 0 g = gI v 202 0 g) ∧ Fr fSt v w
def rsN (v w1 : z_V) (x : Nat) : z_V := pL (pL (pL (pL w1 1 0 11 (gL w1 1 0 11 &&& (l_shl 1 (nI x) ^^^ (-1)))) 1 0 12 (gL v 1 0 12)) 1 0 13 (gL v 1 0 13)) 1 0 14 (gL v 1 0 14)
theorem s_goOnWithN {P : z_V → z_V → Int32 → Prop} {rest : Int32} (hS : NS v N) (hF : FS v F) (hL : ∀ g, g < 7 → S g = true → gI v 202 0 g = nI (L g) ∧ L g ≤ 99) (hh : h < 7) (hSh : S h = false) (hx : x ≤ 63) (ih : ∀ w, stN N S L F h x 7 v w → ZI (d + 1) m_X1_goOn [vR 1 0, vR 0 0, vI rest, vI (nI (bs 7 (addF S h)))] w (P w)) : ZI (d + 2) m_X1_goOnWith [vR 1 0, vR 0 0, vI (nI h), vI (nI x), vI rest, vI (nI (bs 7 S))] v (fun u r => ∃ w w1 r', stN N S L F h x 7 v w ∧ P w w1 r' ∧ ((r' = 0 ∧ r = 0 ∧ u = rsN v w1 x) ∨ (r' ≠ 0 ∧ r = 1 ∧ u = w1))) := fun Q k => E_X1_goOnWith (B_X1_goOnWith_0 (by
  refine z_ii h rfl hh ?_
  rw [n_nI (by omega)]
  have key : ∀ m, m ≤ 7 → ∀ w, stN N S L F h x m v w → z_Wp (z_C (d + 1)) 4 k_X1_goOnWith Q 40 [some (vR 1 0), some (vR 0 0), some (vI (nI h)), some (vI (nI x)), some (vI rest), some (vI (nI (bs 7 S))), some (vL (gL v 1 0 12)), none, some (vL (gL v 1 0 13)), none, some (vL (gL v 1 0 14)), none, some (vI (nI m))] [] w := by
    refine z_up 7 (fun w hw => ?_) (fun m hm ihm w hw => ?_)
    · refine B_X1_goOnWith_40 (pk_le 7 7 (fun _ => ?_) (fun z => absurd z (by omega)))
      rw [nI_shl (by omega), nI_or, or_bs hh]
      have hg := ih w hw
      unfold addF at hg
      refine cI hg (fun w1 r hr => ⟨fun z => ?_, fun z => ?_⟩)
      · exact k _ _ ⟨w, w1, r, hw, hr, Or.inl ⟨z, rfl, rfl⟩⟩
      · exact k _ _ ⟨w, w1, r, hw, hr, Or.inr ⟨z, rfl, rfl⟩⟩
    · obtain ⟨a1, a2, a3, a4, a5⟩ := hw
      have hSw : NS w N := hS.fr a5 (fun k => by unfold fSt; omega) (fun k => by unfold fSt; omega) (fun k => by unfold fSt; omega) (fun k => by unfold fSt; omega)
      have hb7 := bs_lt 7 (fun i => nAdj N h i && S i)
      refine B_X1_goOnWith_40 (pk_le 7 m (fun z => absurd z (by omega)) (fun _ => z_ii h rfl hh ?_))
      rw [n_nI (n := h) (by omega), hSw.2.2.2.2.2.2 h hh, nI_and, bs_and, nI_1]
      refine br_bm hb7 (by omega) (fun e => ?_) (fun e => z_ii m rfl hm ?_)
      · rw [bs_bit, decide_eq_true hm, Bool.true_and] at e
        refine ihm w ⟨?_, a2, a3, a4, a5⟩
        have : addN N S L h x (m + 1) F = addN N S L h x m F := funext (fun y => by
          unfold addN
          show (F y || (anyL m _ || ((nAdj N h m && S m) && decide (y = dst x (L m))))) = _
          rw [e, Bool.false_and, Bool.or_false])
        rw [this]
        exact a1
      · rw [bs_bit, decide_eq_true hm, Bool.true_and] at e
        have e2 := e
        rw [Bool.and_eq_true] at e2
        have hne : m ≠ h := fun z => by
          rw [z, hSh] at e2
          cases e2.2
        obtain ⟨l1, l2⟩ := hL m hm e2.2
        have hd : dst x (L m) ≤ 99 := by
          unfold dst
          split <;> omega
        rw [n_nI (by omega), a4 m hne, l1, i_abs_sub (by omega) (by omega)]
        refine cI (s_note a1 hd) (fun u r hr => ihm u ?_)
        obtain ⟨_, b1, b2⟩ := hr
        refine ⟨?_, (b2.l (by unfold fNo; omega)).trans a2, (b2.i (by unfold fNo; omega)).trans a3, fun g hg => (b2.i (by unfold fNo; omega)).trans (a4 g hg), a5.trans (b2.mono (fun t k z => Or.inr ⟨z.1, Or.inr z.2⟩))⟩
        have : addN N S L h x (m + 1) F = addF (addN N S L h x m F) (dst x (L m)) := funext (fun y => by
          unfold addN addF
          show (F y || (anyL m _ || ((nAdj N h m && S m) && decide (y = dst x (L m))))) = _
          rw [e, Bool.true_and, Bool.or_assoc])
        rw [this]
        exact b1
  refine key 0 (by omega) _ ⟨?_, gL_pL_s, (show gI (pI v 202 0 h (nI x)) 202 0 h = nI x from gI_pI_s), fun g hg => (show gI (pI v 202 0 h (nI x)) 202 0 g = gI v 202 0 g from gI_pI_k hg), (Fr.rfl.pI (Or.inl rfl)).pL (Or.inr ⟨rfl, Or.inl rfl⟩)⟩
  have : addN N S L h x 0 F = F := funext (fun y => by simp [addN, anyL])
  rw [this]
  exact ⟨(gL_pL_k (by decide)).trans hF.1, (gL_pL_k (by decide)).trans hF.2.1, (gL_pL_k (by decide)).trans hF.2.2⟩))
/-- where a search stands -/
def CtN (N : z_N) (uq io : Bool) (top : Nat) (v : z_V) (S Lf : Nat → Bool) (L : Nat → Nat) (F G : Nat → Bool) : Prop := NS v N ∧ FS v F ∧ gI v 1 0 8 = bI uq ∧ gI v 1 0 9 = bI io ∧ gI v 1 0 7 = nI top ∧ (uq = true → gL v 1 0 11 = lW G ∧ gaN S L G) ∧ (∀ h, Lf h = true → S h = false) ∧ (∀ g, g < 7 → S g = true → gI v 202 0 g = nI (L g) ∧ L g ≤ 99) ∧ ptN N uq S L ∧ faN N S L F
def lsF (Lf : Nat → Bool) (h : Nat) : Nat → Bool := fun i => Lf i && !decide (i = h)
theorem lsF_U (hl : Lf h = true) (g : Nat) : (addF S h g || lsF Lf h g) = (S g || Lf g) := by
  unfold addF lsF
  by_cases z : g = h
  · subst z
    simp [hl]
  · simp [z]
theorem lsF_lt (hh : h < 7) (hl : Lf h = true) : cntL 7 (lsF Lf h) < cntL 7 Lf := cntL_lt 7 (fun i _ z => by
  unfold lsF at z
  rw [Bool.and_eq_true] at z
  exact z.1) ⟨h, hh, by simp [lsF], hl⟩
theorem ls_bits (hh : h < 7) : nI (bs 7 Lf) &&& (i_shl 1 (nI h) ^^^ (-1)) = nI (bs 7 (lsF Lf h)) := by
  rw [nI_shl (by omega), nI_andn7 (bs_lt 7 _)]
  congr 1
  refine bs_cong (fun i hi => ?_)
  rw [bs_bit, decide_eq_true hi, Bool.true_and, Nat.testBit_two_pow]
  unfold lsF
  rw [show decide (i = h) = decide (h = i) from by rw [decide_eq_decide]; exact eq_comm]
/-- the next standing -/
theorem CtN.step {w : z_V} (hc : CtN N uq io top v S Lf L F G) (hW : nWF N) (hh : h < 7) (hl : Lf h = true) (hx : x ≤ 63) (hfit : fitN N F G uq S L h 7 x = true) (hw : stN N S L F h x 7 v w) : CtN N uq io top w (addF S h) (lsF Lf h) (sU L h x) (addN N S L h x 7 F) (addF G x) := by
  obtain ⟨c1, c2, c3, c4, c5, c6, c7, c8, c9, c10⟩ := hc
  obtain ⟨a1, a2, a3, a4, a5⟩ := hw
  have hSh := c7 h hl
  refine ⟨c1.fr a5 (fun k => by unfold fSt; omega) (fun k => by unfold fSt; omega) (fun k => by unfold fSt; omega) (fun k => by unfold fSt; omega), a1, (a5.i (by unfold fSt; omega)).trans c3, (a5.i (by unfold fSt; omega)).trans c4, (a5.i (by unfold fSt; omega)).trans c5, fun hu => ⟨?_, gaN_ok hh hSh (c6 hu).2⟩, fun g hg => ?_, fun g hg hg2 => ?_, (fitN_iff hW hh hSh c9 c10 (fun hu => (c6 hu).2)).mp hfit, addN_ok hW hSh c10⟩
  · rw [a2, (c6 hu).1, lW_one x (by omega), lW_or]
    rfl
  · unfold lsF at hg
    rw [Bool.and_eq_true, Bool.not_eq_true', decide_eq_false_iff_not] at hg
    rw [addF_n hg.2]
    exact c7 g hg.1
  · by_cases z : g = h
    · subst z
      rw [sU_s]
      exact ⟨a3, by omega⟩
    · rw [addF_n z] at hg2
      rw [sU_n z, a4 g z]
      exact c8 g hg hg2
end NB3
