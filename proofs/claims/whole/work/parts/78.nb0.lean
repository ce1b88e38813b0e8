/-! words of sixty-four bits -/
def lW (f : Nat → Bool) : Int64 := lN (bs 64 f)
theorem lW_b (f : Nat → Bool) (i : Nat) : (lW f).toBitVec.getLsbD i = (decide (i < 64) && f i) := by
  unfold lW
  rw [lN_tb, BitVec.getLsbD_ofNat, bs_bit]
  cases decide (i < 64) <;> rfl
theorem lW_x {x : Int64} {f : Nat → Bool} (h : ∀ i, i < 64 → x.toBitVec.getLsbD i = f i) : x = lW f := by
  apply Int64.toBitVec_inj.1
  apply BitVec.eq_of_getLsbD_eq
  intro i hi
  rw [h i hi, lW_b, decide_eq_true hi, Bool.true_and]
theorem lW_cg {f g : Nat → Bool} (h : ∀ i, i < 64 → f i = g i) : lW f = lW g := by
  unfold lW
  rw [bs_cong h]
theorem lW_and {f g : Nat → Bool} : lW f &&& lW g = lW (fun i => f i && g i) := lW_x (fun i hi => by
  rw [Int64.toBitVec_and, BitVec.getLsbD_and, lW_b, lW_b]
  simp [hi])
theorem lW_or {f g : Nat → Bool} : lW f ||| lW g = lW (fun i => f i || g i) := lW_x (fun i hi => by
  rw [Int64.toBitVec_or, BitVec.getLsbD_or, lW_b, lW_b]
  simp [hi])
theorem lW_not {f : Nat → Bool} : lW f ^^^ (-1) = lW (fun i => !f i) := lW_x (fun i hi => by
  rw [Int64.toBitVec_xor, show (-1 : Int64).toBitVec = BitVec.allOnes 64 from by decide, BitVec.getLsbD_xor, BitVec.getLsbD_allOnes, lW_b]
  simp [hi])
theorem sm64 : ∀ l, l < 64 → (((nI l).toInt64 &&& 63).toBitVec.smod 64).toNat = l := by decide +kernel
theorem um64 : ∀ l, l < 64 → (((nI l).toInt64.toUInt64 &&& Int64.toUInt64 63).toBitVec % 64).toNat = l := by decide +kernel
theorem lW_shl {f : Nat → Bool} {k : Nat} (hk : k < 64) : l_shl (lW f) (nI k) = lW (fun i => decide (k ≤ i) && f (i - k)) := lW_x (fun i hi => by
  unfold l_shl
  rw [Int64.toBitVec_shiftLeft, BitVec.shiftLeft_eq', sm64 k hk, BitVec.getLsbD_shiftLeft, lW_b]
  by_cases z : i < k
  · simp [z, hi, show ¬ k ≤ i by omega]
  · simp [z, hi, show k ≤ i by omega, show i - k < 64 by omega])
theorem lW_ush {f : Nat → Bool} {k : Nat} (hk : k < 64) : l_ush (lW f) (nI k) = lW (fun i => decide (i + k < 64) && f (i + k)) := lW_x (fun i hi => by
  unfold l_ush
  show (((lW f).toUInt64 >>> _).toBitVec).getLsbD i = _
  rw [UInt64.toBitVec_shiftRight, BitVec.ushiftRight_eq', um64 k hk]
  show ((lW f).toBitVec >>> k).getLsbD i = _
  rw [BitVec.getLsbD_ushiftRight, lW_b, Nat.add_comm k i])
theorem lW_bit {f : Nat → Bool} {k : Nat} (hk : k < 64) : l_shr (lW f) (nI k) &&& 1 = lW (fun i => decide (i = 0) && f k) := lW_x (fun i hi => by
  unfold l_shr
  rw [Int64.toBitVec_and, Int64.toBitVec_shiftRight, BitVec.sshiftRight', sm64 k hk, BitVec.getLsbD_and, BitVec.getLsbD_sshiftRight]
  have h1 : (1 : Int64).toBitVec.getLsbD i = decide (i = 0) := by
    show (1#64).getLsbD i = _
    rw [BitVec.getLsbD_one]
    simp
  rw [h1]
  by_cases z : i = 0
  · subst z
    rw [if_pos (by omega), Nat.add_zero, lW_b]
    simp [hk]
  · simp [z])
theorem lW_0 : (0 : Int64) = lW (fun _ => false) := by decide +kernel
theorem lW_1 : (1 : Int64) = lW (fun i => decide (i = 0)) := by decide +kernel
theorem lW_m : (-9223372036854775808 : Int64) = lW (fun i => decide (63 - i = 0)) := by decide +kernel
theorem lW_t : (-1 : Int64) = lW (fun _ => true) := by decide +kernel
theorem lW_one : ∀ k, k < 64 → l_shl 1 (nI k) = lW (fun i => decide (i = k)) := by decide +kernel
theorem lW_msk : ∀ k, k < 64 → l_shl 1 (nI k) - 1 = lW (fun i => decide (i < k)) := by decide +kernel
theorem lW_ne {f : Nat → Bool} {k : Nat} (hk : k < 64) (h : f k = true) : ¬ lW f = 0 := fun e => by
  have := lW_b f k
  rw [e, lW_0, lW_b, h] at this
  simp [hk] at this
theorem br_w {f : Nat → Bool} {k : Nat} {A B : Prop} (hk : k < 64) (a : f k = false → A) (b : f k = true → B) : (lg_cmp (l_shr (lW f) (nI k) &&& 1) 0 = 0 → A) ∧ (¬ lg_cmp (l_shr (lW f) (nI k) &&& 1) 0 = 0 → B) := by
  rw [lW_bit hk, lg_eq0]
  cases e : f k
  · refine ⟨fun _ => a e, fun q => absurd ?_ q⟩
    rw [lW_0]
    exact lW_cg (fun i _ => by simp)
  · exact ⟨fun q => absurd q (lW_ne (k := 0) (by decide) (by simp)), fun _ => b e⟩
theorem br_w' {f : Nat → Bool} {k : Nat} {A B : Prop} (hk : k < 64) (b : f k = true → B) (a : f k = false → A) : (¬ lg_cmp (l_shr (lW f) (nI k) &&& 1) 0 = 0 → B) ∧ (lg_cmp (l_shr (lW f) (nI k) &&& 1) 0 = 0 → A) := ⟨(br_w hk a b).2, (br_w hk a b).1⟩
theorem br_v' {f : Nat → Bool} {k : Nat} {A B : Prop} (hk : k < 64) (b : f k = true → B) (a : f k = false → A) : (¬ lg_cmp (lW f &&& l_shl 1 (nI k)) 0 = 0 → B) ∧ (lg_cmp (lW f &&& l_shl 1 (nI k)) 0 = 0 → A) := by
  rw [lW_one k hk, lW_and, lg_eq0]
  cases e : f k
  · refine ⟨fun q => absurd ?_ q, fun _ => a e⟩
    rw [lW_0]
    refine lW_cg (fun i _ => ?_)
    by_cases z : i = k
    · subst z
      rw [e]
      rfl
    · simp [z]
  · exact ⟨fun _ => b e, fun q => absurd q (lW_ne hk (by simp [e]))⟩
section NB0
variable {d : Nat} {v : z_V} {F : Nat → Bool}
/-- the fares that are there -/
def FS (v : z_V) (F : Nat → Bool) : Prop := gL v 1 0 12 = lW F ∧ gL v 1 0 13 = lW (fun i => F (63 - i)) ∧ gL v 1 0 14 = lW (fun i => F (127 - i))
def addF (F : Nat → Bool) (x : Nat) : Nat → Bool := fun i => F i || decide (i = x)
def fNo : Nat → Nat → Prop := fun t k => t = 1 ∧ (k = 12 ∨ k = 13 ∨ k = 14)
theorem s_note {x : Nat} (h : FS v F) (hx : x ≤ 99) : ZI (d + 1) m_X1_note [vR 1 0, vI (nI x)] v (fun u r => r = bI (!F x) ∧ FS u (addF F x) ∧ Fr fNo v u) := fun Q k => E_X1_note (B_X1_note_0 (by
  obtain ⟨h1, h2, h3⟩ := h
  rw [h1, h2, h3]
  by_cases z : x ≤ 63
  · have e1 : nI 63 - nI x = nI (63 - x) := pk_sub z
    rw [show (63 : Int32) - nI x = nI (63 - x) from e1, lW_one x (by omega), lW_one (63 - x) (by omega), lW_or, lW_or]
    have ok : FS (pL (pL v 1 0 12 (lW (fun i => F i || decide (i = x)))) 1 0 13 (lW (fun i => F (63 - i) || decide (i = 63 - x)))) (addF F x) := by
      refine ⟨(gL_pL_k (by decide)).trans gL_pL_s, gL_pL_s.trans (lW_cg (fun i hi => ?_)), ((gL_pL_k (by decide)).trans ((gL_pL_k (by decide)).trans h3)).trans (lW_cg (fun i hi => ?_))⟩
      · show (F (63 - i) || _) = (F (63 - i) || _)
        congr 1
        rw [decide_eq_decide]
        omega
      · show F (127 - i) = (F (127 - i) || _)
        rw [decide_eq_false (by omega), Bool.or_false]
    have fr : Fr fNo v (pL (pL v 1 0 12 (lW (fun i => F i || decide (i = x)))) 1 0 13 (lW (fun i => F (63 - i) || decide (i = 63 - x)))) := (Fr.rfl.pL ⟨rfl, Or.inl rfl⟩).pL ⟨rfl, Or.inr (Or.inl rfl)⟩
    refine pk_le x 63 (fun _ => ?_) (fun q => absurd q (by omega))
    exact br_w' (by omega) (fun e => k _ _ ⟨by rw [e]; rfl, ok, fr⟩) (fun e => k _ _ ⟨by rw [e]; rfl, ok, fr⟩)
  · have e1 : nI 127 - nI x = nI (127 - x) := pk_sub (by omega)
    refine pk_le x 63 (fun q => absurd q (by omega)) (fun _ => ?_)
    rw [show (127 : Int32) - nI x = nI (127 - x) from e1]
    have ok : FS (pL v 1 0 14 (lW (fun i => F (127 - i)) ||| l_shl 1 (nI (127 - x)))) (addF F x) := by
      rw [lW_one (127 - x) (by omega), lW_or]
      refine ⟨((gL_pL_k (by decide)).trans h1).trans (lW_cg (fun i hi => ?_)), ((gL_pL_k (by decide)).trans h2).trans (lW_cg (fun i hi => ?_)), gL_pL_s.trans (lW_cg (fun i hi => ?_))⟩
      · show F i = (F i || _)
        rw [decide_eq_false (by omega), Bool.or_false]
      · show F (63 - i) = (F (63 - i) || _)
        rw [decide_eq_false (by omega), Bool.or_false]
      · show (F (127 - i) || _) = (F (127 - i) || _)
        congr 1
        rw [decide_eq_decide]
        omega
    have fr : Fr fNo v (pL v 1 0 14 (lW (fun i => F (127 - i)) ||| l_shl 1 (nI (127 - x)))) := Fr.rfl.pL ⟨rfl, Or.inr (Or.inr rfl)⟩
    have e3 : F (127 - (127 - x)) = F x := by rw [show 127 - (127 - x) = x by omega]
    exact br_v' (f := fun i => F (127 - i)) (by omega) (fun e => k _ _ ⟨by rw [← e3, e]; rfl, ok, fr⟩) (fun e => k _ _ ⟨by rw [← e3, e]; rfl, ok, fr⟩)))
theorem s_spoilt {a : Nat} (h : FS v F) (ha : a ≤ 99) : ZPL (d + 1) m_X1_spoilt [vR 1 0, vI (nI a)] v (lW (fun i => F (dst i a))) := fun Q k => E_X1_spoilt (B_X1_spoilt_0 (by
  obtain ⟨h1, h2, h3⟩ := h
  rw [h1, h2, h3]
  refine pk_lt 63 a (fun z => ?_) (fun z => ?_)
  · have e1 : (127 : Int32) - nI a = nI (127 - a) := pk_sub (a := 127) (by omega)
    have e2 : nI a - 63 = nI (a - 63) := pk_sub (b := 63) (by omega)
    rw [e1, e2, lW_ush (by omega), lW_shl (by omega), lW_or]
    have : lW (fun i => (decide (i + (127 - a) < 64) && F (127 - (i + (127 - a)))) || (decide (a - 63 ≤ i) && F (63 - (i - (a - 63))))) = lW (fun i => F (dst i a)) := lW_cg (fun i hi => by
      have hd : dst i a = a - i := by
        unfold dst
        rw [if_pos (by omega)]
      rw [hd]
      by_cases y : i + (127 - a) < 64
      · rw [decide_eq_true y, decide_eq_false (by omega), Bool.true_and, Bool.false_and, Bool.or_false, show 127 - (i + (127 - a)) = a - i by omega]
      · rw [decide_eq_false y, decide_eq_true (by omega), Bool.true_and, Bool.false_and, Bool.false_or, show 63 - (i - (a - 63)) = a - i by omega])
    rw [this]
    exact k
  · have e1 : (63 : Int32) - nI a = nI (63 - a) := pk_sub (a := 63) (by omega)
    rw [e1, lW_ush (by omega), lW_shl (by omega), lW_or]
    have : lW (fun i => (decide (a ≤ i) && F (i - a)) || (decide (i + (63 - a) < 64) && F (63 - (i + (63 - a))))) = lW (fun i => F (dst i a)) := lW_cg (fun i hi => by
      unfold dst
      by_cases y : i ≤ a
      · rw [if_pos y, decide_eq_true (show i + (63 - a) < 64 by omega), Bool.true_and, show 63 - (i + (63 - a)) = a - i by omega]
        by_cases y2 : a ≤ i
        · rw [show a - i = i - a by omega]
          simp
        · rw [decide_eq_false y2, Bool.false_and, Bool.false_or]
      · rw [if_neg y, decide_eq_true (show a ≤ i by omega), decide_eq_false (show ¬ i + (63 - a) < 64 by omega), Bool.true_and, Bool.false_and, Bool.or_false])
    rw [this]
    exact k))
theorem hf_tab : ∀ s, s < 200 → nI s / 2 = nI (s / 2) := by decide +kernel
theorem s_halfWay {a b : Nat} (ha : a ≤ 99) (hb : b ≤ 99) : ZPL (d + 1) m_X1_halfWay [vI (nI a), vI (nI b)] v (lW (fun i => decide (dst i a = dst i b))) := fun Q k => E_X1_halfWay (B_X1_halfWay_0 (by
  rw [nI_add, show (1 : Int32) = nI 1 from rfl, nI_and, Nat.and_one_is_mod, hf_tab (a + b) (by omega)]
  have no : (∀ i, i < 64 → dst i a ≠ dst i b) → Q v (some (vL 0)) := fun z => by
    have : lW (fun i => decide (dst i a = dst i b)) = 0 := by
      rw [lW_0]
      exact lW_cg (fun i hi => decide_eq_false (z i hi))
    rw [this] at k
    exact k
  refine pk_ne a b (fun ne => pk_ne ((a + b) % 2) 0 (fun z => no (fun i hi => ?_)) (fun z => pk_le 128 (a + b) (fun y => no (fun i hi => ?_)) (fun y => ?_))) (fun e => ?_)
  · unfold dst
    split <;> split <;> omega
  · unfold dst
    split <;> split <;> omega
  · rw [lW_one ((a + b) / 2) (by omega)]
    have : lW (fun i => decide (dst i a = dst i b)) = lW (fun i => decide (i = (a + b) / 2)) := lW_cg (fun i hi => by
      rw [decide_eq_decide]
      unfold dst
      split <;> split <;> omega)
    rw [this] at k
    exact k
  · subst e
    have : lW (fun i => decide (dst i a = dst i a)) = -1 := by
      rw [lW_t]
      exact lW_cg (fun i _ => by simp)
    rw [this] at k
    exact k))
end NB0
