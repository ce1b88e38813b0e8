/-! what is left alone; the class's world and its net -/
def Fr (S : Nat → Nat → Prop) (v w : z_V) : Prop := (∀ t n k, ¬ S t k → gI w t n k = gI v t n k ∧ gL w t n k = gL v t n k) ∧ gJ w = gJ v
theorem Fr.rfl {S : Nat → Nat → Prop} {v : z_V} : Fr S v v := ⟨fun _ _ _ _ => ⟨Eq.refl _, Eq.refl _⟩, Eq.refl _⟩
theorem Fr.trans {S : Nat → Nat → Prop} {u v w : z_V} (h1 : Fr S u v) (h2 : Fr S v w) : Fr S u w := ⟨fun t n k h => ⟨((h2.1 t n k h).1).trans (h1.1 t n k h).1, ((h2.1 t n k h).2).trans (h1.1 t n k h).2⟩, h2.2.trans h1.2⟩
theorem Fr.mono {S S' : Nat → Nat → Prop} {v w : z_V} (h : Fr S v w) (hs : ∀ t k, S t k → S' t k) : Fr S' v w := ⟨fun t n k q => h.1 t n k (fun z => q (hs t k z)), h.2⟩
theorem Fr.pI {S : Nat → Nat → Prop} {u v : z_V} {t n k : Nat} {x : Int32} (h : Fr S u v) (hs : S t k) : Fr S u (pI v t n k x) := h.trans ⟨fun t' n' k' q => ⟨if_neg (fun e => q (by rw [e.1, e.2.1]; exact hs)), Eq.refl _⟩, Eq.refl _⟩
theorem Fr.pL {S : Nat → Nat → Prop} {u v : z_V} {t n k : Nat} {x : Int64} (h : Fr S u v) (hs : S t k) : Fr S u (pL v t n k x) := h.trans ⟨fun t' n' k' q => ⟨Eq.refl _, if_neg (fun e => q (by rw [e.1, e.2.1]; exact hs))⟩, Eq.refl _⟩
theorem Fr.i {S : Nat → Nat → Prop} {v w : z_V} (h : Fr S v w) {t n k : Nat} (hs : ¬ S t k) : gI w t n k = gI v t n k := (h.1 t n k hs).1
theorem Fr.l {S : Nat → Nat → Prop} {v w : z_V} (h : Fr S v w) {t n k : Nat} (hs : ¬ S t k) : gL w t n k = gL v t n k := (h.1 t n k hs).2
def sT (L : List Nat) : Nat → Nat → Prop := fun t _ => t ∈ L
theorem gI_pI_t {v : z_V} {t n k : Nat} {x : Int32} {t' n' k' : Nat} (h : t' ≠ t) : gI (pI v t n k x) t' n' k' = gI v t' n' k' := if_neg (fun e => h e.1)
theorem gI_pI_k {v : z_V} {t n k : Nat} {x : Int32} {t' n' k' : Nat} (h : k' ≠ k) : gI (pI v t n k x) t' n' k' = gI v t' n' k' := if_neg (fun e => h e.2.1)
theorem gI_pI_s {v : z_V} {t n k : Nat} {x : Int32} : gI (pI v t n k x) t n k = x := if_pos ⟨Eq.refl _, Eq.refl _, Eq.refl _⟩
theorem gL_pL_t {v : z_V} {t n k : Nat} {x : Int64} {t' n' k' : Nat} (h : t' ≠ t) : gL (pL v t n k x) t' n' k' = gL v t' n' k' := if_neg (fun e => h e.1)
theorem gL_pL_k {v : z_V} {t n k : Nat} {x : Int64} {t' n' k' : Nat} (h : k' ≠ k) : gL (pL v t n k x) t' n' k' = gL v t' n' k' := if_neg (fun e => h e.2.1)
theorem gL_pL_s {v : z_V} {t n k : Nat} {x : Int64} : gL (pL v t n k x) t n k = x := if_pos ⟨Eq.refl _, Eq.refl _, Eq.refl _⟩
theorem MS.fr {v w : z_V} {N : z_N} {nu : Nat → Nat} {S : Nat → Nat → Prop} (h : MS v N nu) (f : Fr S v w) (hs : ∀ k, ¬ S 1200 k) : MS w N nu := ⟨h.1, (f.i (hs _)).trans h.2.1, (f.i (hs _)).trans h.2.2.1, fun l hl => ⟨(f.i (hs _)).trans (h.2.2.2.1 l hl).1, (f.i (hs _)).trans (h.2.2.2.1 l hl).2⟩, fun g hg => ⟨(f.i (hs _)).trans (h.2.2.2.2 g hg).1, (h.2.2.2.2 g hg).2⟩⟩
/-- the world number w has this net and these numbers -/
def CW (v : z_V) (w : Nat) (N : z_N) (nu : Nat → Nat) : Prop := nWF N ∧ gI v 9 w 8 = nI (nN N) ∧ (∃ sh, gI v 4 (31 * w) 3 = nI sh ∧ sh + nO N + 1 = 2 ^ nN N) ∧ (∀ l, l < nN N → gI v 1001 w l = nI (nA N l) ∧ gI v 1002 w l = nI (nB N l)) ∧ ∀ h, h < 7 → gI v 500 (31 * w) h = nI (nu h) ∧ nu h ≤ 99
theorem CW.fr {v u : z_V} {w : Nat} {N : z_N} {nu : Nat → Nat} {S : Nat → Nat → Prop} (h : CW v w N nu) (f : Fr S v u) (h1 : ¬ S 9 8) (h2 : ¬ S 4 3) (h3 : ∀ k, ¬ S 1001 k) (h4 : ∀ k, ¬ S 1002 k) (h5 : ∀ k, ¬ S 500 k) : CW u w N nu := by
  obtain ⟨a1, a2, ⟨sh, a3, a4⟩, a5, a6⟩ := h
  exact ⟨a1, (f.i h1).trans a2, ⟨sh, (f.i h2).trans a3, a4⟩, fun l hl => ⟨(f.i (h3 _)).trans (a5 l hl).1, (f.i (h4 _)).trans (a5 l hl).2⟩, fun g hg => ⟨(f.i (h5 _)).trans (a6 g hg).1, (a6 g hg).2⟩⟩
theorem ob_tab : ∀ n, n < 11 → ∀ sh, sh < 2 ^ n → (i_shl 1 (nI n) - 1) &&& (nI sh ^^^ (-1)) = nI (2 ^ n - 1 - sh) := by decide +kernel
theorem pc_cong : ∀ (n : Nat) {s t : Nat}, (∀ i, i < n → s.testBit i = t.testBit i) → pc n s = pc n t
  | 0, _, _, _ => Eq.refl _
  | n + 1, s, t, h => by
    simp only [pc]
    rw [pc_cong n (fun i hi => h i (by omega)), h n (by omega)]
def bcF (a0 : Int32) : Int32 := ((((((((a0 - ((i_ush a0 1) &&& 1431655765)) &&& 858993459) + ((i_ush (a0 - ((i_ush a0 1) &&& 1431655765)) 2) &&& 858993459)) + (i_ush (((a0 - ((i_ush a0 1) &&& 1431655765)) &&& 858993459) + ((i_ush (a0 - ((i_ush a0 1) &&& 1431655765)) 2) &&& 858993459)) 4)) &&& 252645135) + (i_ush (((((a0 - ((i_ush a0 1) &&& 1431655765)) &&& 858993459) + ((i_ush (a0 - ((i_ush a0 1) &&& 1431655765)) 2) &&& 858993459)) + (i_ush (((a0 - ((i_ush a0 1) &&& 1431655765)) &&& 858993459) + ((i_ush (a0 - ((i_ush a0 1) &&& 1431655765)) 2) &&& 858993459)) 4)) &&& 252645135) 8)) + (i_ush ((((((a0 - ((i_ush a0 1) &&& 1431655765)) &&& 858993459) + ((i_ush (a0 - ((i_ush a0 1) &&& 1431655765)) 2) &&& 858993459)) + (i_ush (((a0 - ((i_ush a0 1) &&& 1431655765)) &&& 858993459) + ((i_ush (a0 - ((i_ush a0 1) &&& 1431655765)) 2) &&& 858993459)) 4)) &&& 252645135) + (i_ush (((((a0 - ((i_ush a0 1) &&& 1431655765)) &&& 858993459) + ((i_ush (a0 - ((i_ush a0 1) &&& 1431655765)) 2) &&& 858993459)) + (i_ush (((a0 - ((i_ush a0 1) &&& 1431655765)) &&& 858993459) + ((i_ush (a0 - ((i_ush a0 1) &&& 1431655765)) 2) &&& 858993459)) 4)) &&& 252645135) 8)) 16)) &&& 63)
def bcG (a0 : Int64) : Int32 := ((((((((((a0 - ((l_ush a0 1) &&& 6148914691236517205)) &&& 3689348814741910323) + ((l_ush (a0 - ((l_ush a0 1) &&& 6148914691236517205)) 2) &&& 3689348814741910323)) + (l_ush (((a0 - ((l_ush a0 1) &&& 6148914691236517205)) &&& 3689348814741910323) + ((l_ush (a0 - ((l_ush a0 1) &&& 6148914691236517205)) 2) &&& 3689348814741910323)) 4)) &&& 1085102592571150095) + (l_ush (((((a0 - ((l_ush a0 1) &&& 6148914691236517205)) &&& 3689348814741910323) + ((l_ush (a0 - ((l_ush a0 1) &&& 6148914691236517205)) 2) &&& 3689348814741910323)) + (l_ush (((a0 - ((l_ush a0 1) &&& 6148914691236517205)) &&& 3689348814741910323) + ((l_ush (a0 - ((l_ush a0 1) &&& 6148914691236517205)) 2) &&& 3689348814741910323)) 4)) &&& 1085102592571150095) 8)) + (l_ush ((((((a0 - ((l_ush a0 1) &&& 6148914691236517205)) &&& 3689348814741910323) + ((l_ush (a0 - ((l_ush a0 1) &&& 6148914691236517205)) 2) &&& 3689348814741910323)) + (l_ush (((a0 - ((l_ush a0 1) &&& 6148914691236517205)) &&& 3689348814741910323) + ((l_ush (a0 - ((l_ush a0 1) &&& 6148914691236517205)) 2) &&& 3689348814741910323)) 4)) &&& 1085102592571150095) + (l_ush (((((a0 - ((l_ush a0 1) &&& 6148914691236517205)) &&& 3689348814741910323) + ((l_ush (a0 - ((l_ush a0 1) &&& 6148914691236517205)) 2) &&& 3689348814741910323)) + (l_ush (((a0 - ((l_ush a0 1) &&& 6148914691236517205)) &&& 3689348814741910323) + ((l_ush (a0 - ((l_ush a0 1) &&& 6148914691236517205)) 2) &&& 3689348814741910323)) 4)) &&& 1085102592571150095) 8)) 16)) + (l_ush (((((((a0 - ((l_ush a0 1) &&& 6148914691236517205)) &&& 3689348814741910323) + ((l_ush (a0 - ((l_ush a0 1) &&& 6148914691236517205)) 2) &&& 3689348814741910323)) + (l_ush (((a0 - ((l_ush a0 1) &&& 6148914691236517205)) &&& 3689348814741910323) + ((l_ush (a0 - ((l_ush a0 1) &&& 6148914691236517205)) 2) &&& 3689348814741910323)) 4)) &&& 1085102592571150095) + (l_ush (((((a0 - ((l_ush a0 1) &&& 6148914691236517205)) &&& 3689348814741910323) + ((l_ush (a0 - ((l_ush a0 1) &&& 6148914691236517205)) 2) &&& 3689348814741910323)) + (l_ush (((a0 - ((l_ush a0 1) &&& 6148914691236517205)) &&& 3689348814741910323) + ((l_ush (a0 - ((l_ush a0 1) &&& 6148914691236517205)) 2) &&& 3689348814741910323)) 4)) &&& 1085102592571150095) 8)) + (l_ush ((((((a0 - ((l_ush a0 1) &&& 6148914691236517205)) &&& 3689348814741910323) + ((l_ush (a0 - ((l_ush a0 1) &&& 6148914691236517205)) 2) &&& 3689348814741910323)) + (l_ush (((a0 - ((l_ush a0 1) &&& 6148914691236517205)) &&& 3689348814741910323) + ((l_ush (a0 - ((l_ush a0 1) &&& 6148914691236517205)) 2) &&& 3689348814741910323)) 4)) &&& 1085102592571150095) + (l_ush (((((a0 - ((l_ush a0 1) &&& 6148914691236517205)) &&& 3689348814741910323) + ((l_ush (a0 - ((l_ush a0 1) &&& 6148914691236517205)) 2) &&& 3689348814741910323)) + (l_ush (((a0 - ((l_ush a0 1) &&& 6148914691236517205)) &&& 3689348814741910323) + ((l_ush (a0 - ((l_ush a0 1) &&& 6148914691236517205)) 2) &&& 3689348814741910323)) 4)) &&& 1085102592571150095) 8)) 16)) 32)).toInt32) &&& 127)
theorem bc_tab : ∀ s, s < 1024 → bcF (nI s) = nI (pc 10 s) := by decide +kernel
theorem bg_tab : ∀ s, s < 2048 → bcG (lN s) = nI (pc 11 s) := by decide +kernel
/-- the halts beside any -/
def nW (N : z_N) (h : Nat) : Bool := anyL 7 (nAdj N h)
theorem nW_bs {N : z_N} {h : Nat} : nW N h = decide (bs 7 (nAdj N h) ≠ 0) := by
  by_cases e : bs 7 (nAdj N h) = 0
  · rw [decide_eq_false (by simpa using e)]
    cases hw : nW N h
    · rfl
    · obtain ⟨i, h1, h2⟩ := anyL_iff.mp hw
      have := bs_bit 7 (nAdj N h) i
      rw [e] at this
      simp [h1, h2] at this
  · rw [decide_eq_true e]
    cases hw : nW N h
    · exfalso
      apply e
      apply Nat.eq_of_testBit_eq
      intro i
      rw [bs_bit, Nat.zero_testBit]
      by_cases hi : i < 7
      · cases ha : nAdj N h i
        · simp
        · have : nW N h = true := anyL_iff.mpr ⟨i, hi, ha⟩
          rw [hw] at this
          cases this
      · simp [hi]
    · rfl
def kN (N : z_N) : Nat → Nat
  | 0 => 0
  | l + 1 => kN N l * 64 + (if nP N l = true then 1 + nA N l * 7 + nB N l else 0)
theorem nP_lt {N : z_N} (h : nWF N) {l : Nat} (hl : nP N l = true) : l < nN N := by
  rcases Nat.lt_or_ge l (nN N) with q | q
  · exact q
  · unfold nP at hl
    rw [Nat.testBit_lt_two_pow (Nat.lt_of_lt_of_le h.2.1 (Nat.pow_le_pow_right (by decide) q))] at hl
    cases hl
theorem kN_lt {N : z_N} (h : nWF N) : ∀ l, kN N l < 64 ^ l
  | 0 => Nat.one_pos
  | l + 1 => by
    have := kN_lt h l
    simp only [kN, Nat.pow_succ]
    split
    · rename_i hp
      have h2 := h.2.2.1 l (nP_lt h hp)
      omega
    · omega
theorem lN_shl6 {a : Nat} : l_shl (lN a) 6 = lN (a * 64) := by
  unfold l_shl lN
  apply Int64.toBitVec_inj.mp
  rw [Int64.toBitVec_shiftLeft]
  show BitVec.ofNat 64 a <<< (((6 : Int32).toInt64 &&& 63).toBitVec.smod 64) = BitVec.ofNat 64 (a * 64)
  rw [show (((6 : Int32).toInt64 &&& 63).toBitVec.smod 64) = 6#64 from by decide +kernel]
  apply BitVec.eq_of_toNat_eq
  simp [BitVec.toNat_shiftLeft, Nat.shiftLeft_eq]
/-- the class's Net holds this net -/
def NS (v : z_V) (N : z_N) : Prop := gI v 0 0 3 = nI (nO N) ∧ gI v 0 0 4 = nI (pc 10 (nO N)) ∧ gI v 0 0 5 = nI (bs 7 (nW N)) ∧ gI v 0 0 6 = nI (pc 10 (bs 7 (nW N))) ∧ gL v 0 0 7 = lN (kN N 10) ∧ (∀ l, l < 10 → nP N l = true → gI v 100 0 l = nI (nA N l) ∧ gI v 101 0 l = nI (nB N l)) ∧ ∀ h, h < 7 → gI v 102 0 h = nI (bs 7 (nAdj N h))
theorem NS.fr {v w : z_V} {N : z_N} {S : Nat → Nat → Prop} (h : NS v N) (f : Fr S v w) (h0 : ∀ k, ¬ S 0 k) (h1 : ∀ k, ¬ S 100 k) (h2 : ∀ k, ¬ S 101 k) (h3 : ∀ k, ¬ S 102 k) : NS w N := by
  obtain ⟨a1, a2, a3, a4, a5, a6, a7⟩ := h
  exact ⟨(f.i (h0 _)).trans a1, (f.i (h0 _)).trans a2, (f.i (h0 _)).trans a3, (f.i (h0 _)).trans a4, (f.l (h0 _)).trans a5, fun l hl hp => ⟨(f.i (h1 _)).trans (a6 l hl hp).1, (f.i (h2 _)).trans (a6 l hl hp).2⟩, fun g hg => (f.i (h3 _)).trans (a7 g hg)⟩
section CSS
variable {d : Nat} {v : z_V} {N : z_N} {nu : Nat → Nat} {w : Nat}
theorem s_bitCount {s : Nat} (hs : s < 1024) : ZP (d + 1) m_J6_bitCount_0f7a4 [vI (nI s)] v (nI (pc 10 s)) := fun Q h => E_J6_bitCount_0f7a4 (B_J6_bitCount_0f7a4_0 (by
  show Q v (some (vI (bcF (nI s))))
  rw [bc_tab s hs]
  exact h))
theorem s_bitCountL {s : Nat} (hs : s < 2048) : ZP (d + 1) m_J13_bitCount_95d88 [vL (lN s)] v (nI (pc 11 s)) := fun Q h => E_J13_bitCount_95d88 (B_J13_bitCount_95d88_0 (by
  show Q v (some (vI (bcG (lN s))))
  rw [bg_tab s hs]
  exact h))
theorem lt0_nI {a : Int32} {n : Nat} {A B C : Prop} (hn : n < 2 ^ 31) (f : inr a n = false → A) (g : inr a n = false → B) (t : inr a n = true → C) : (a < 0 → A) ∧ (¬ a < 0 → (nI n ≤ a → B) ∧ (¬ nI n ≤ a → C)) := by
  have e := nI_toInt hn
  refine ⟨fun h => f (decide_eq_false (fun q => ?_)), fun h0 => ⟨fun h => g (decide_eq_false (fun q => ?_)), fun h => t (decide_eq_true ?_)⟩⟩
  · rw [Int32.lt_iff_toInt_lt, Int32.toInt_zero] at h
    omega
  · rw [Int32.le_iff_toInt_le, e] at h
    omega
  · rw [Int32.le_iff_toInt_le, e] at h
    rw [Int32.lt_iff_toInt_lt, Int32.toInt_zero] at h0
    omega
theorem s_hasLine {a : Int32} (hC : CW v w N nu) : ZP (d + 1) m_X9_hasLine [vR 9 w, vI a] v (bI (inr a (nN N))) := fun Q h => E_X9_hasLine (B_X9_hasLine_0 (by
  have := hC.1.1
  rw [hC.2.1]
  exact lt0_nI (by omega) (fun e => bq (b' := false) h e) (fun e => bq (b' := false) h e) (fun e => bq (b' := true) h e)))
theorem s_openBits (hC : CW v w N nu) : ZP (d + 1) m_X9_openBits [vR 9 w] v (nI (nO N)) := fun Q h => E_X9_openBits (B_X9_openBits_0 (by
  obtain ⟨sh, h1, h2⟩ := hC.2.2.1
  have := hC.1.1
  rw [hC.2.1, h1, ob_tab _ (by omega) sh (by omega), show 2 ^ nN N - 1 - sh = nO N by omega]
  exact h))
theorem i_abs_sub {a b : Nat} (ha : a < 2 ^ 30) (hb : b < 2 ^ 30) : i_abs (nI a - nI b) = nI (dst a b) := by
  unfold i_abs dst
  by_cases h : a ≤ b
  · rw [if_pos h]
    by_cases e : a = b
    · subst e
      rw [pk_sub (Nat.le_refl _), Nat.sub_self]
      rfl
    · have hneg := pk_sneg (a := a) hb (by omega)
      rw [if_neg (fun q => Int32.not_le.mpr hneg q)]
      have : nI b - nI a = nI (b - a) := pk_sub h
      rw [← this]
      rw [← Int32.toBitVec_inj]
      simp [Int32.toBitVec_sub]
  · rw [if_neg h, pk_sub (by omega), if_pos (nI_pos' (by omega))]
theorem s_fareX {l : Nat} (hC : CW v w N nu) (hl : l < nN N) : ZP (d + 1) m_X9_fareOf [vR 9 w, vI (nI l)] v (nI (fare N nu l)) := fun Q h => E_X9_fareOf (B_X9_fareOf_0 (by
  have hn := hC.1.1
  have hw := hC.1.2.2.1 l hl
  have hl2 := hC.2.2.2.1 l hl
  have h1 := hC.2.2.2.2 _ hw.1
  have h2 := hC.2.2.2.2 _ hw.2.1
  refine ⟨fun q => absurd q (nI_pos (by omega)), fun _ => pk_lt l (nN N) (fun _ => ?_) (fun q => absurd hl (by omega)) rfl hC.2.1⟩
  rw [n_nI (by omega), hl2.1, hl2.2]
  refine z_ii l rfl (by omega) (z_ii _ rfl hw.1 (z_ii l rfl (by omega) (z_ii _ rfl hw.2.1 ?_)))
  rw [n_nI (by omega), n_nI (by omega), h1.1, h2.1, i_abs_sub (by omega) (by omega)]
  exact h))
end CSS
