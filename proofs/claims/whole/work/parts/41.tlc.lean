/-! the class tells by a law -/
theorem br_T {c A B : Prop} (h : c) (a : A) : (c → A) ∧ (¬ c → B) := ⟨fun _ => a, fun q => absurd h q⟩
theorem br_F {c A B : Prop} (h : ¬ c) (b : B) : (c → A) ∧ (¬ c → B) := ⟨fun q => absurd q h, fun _ => b⟩
theorem br_nT {c A B : Prop} (h : ¬ c) (a : A) : (¬ c → A) ∧ (c → B) := ⟨fun _ => a, fun q => absurd q h⟩
theorem br_nF {c A B : Prop} (h : c) (b : B) : (¬ c → A) ∧ (c → B) := ⟨fun q => absurd h q, fun _ => b⟩
theorem bz {Q : z_RT} {v : z_V} {c : Prop} [i : Decidable c] (h : Q v (some (vI (iI (xb (decide c)))))) : (c → Q v (some (vI 1))) ∧ (¬ c → Q v (some (vI 0))) := by
  by_cases q : c
  · rw [decide_eq_true q] at h
    exact ⟨fun _ => h, fun z => absurd q z⟩
  · rw [decide_eq_false q] at h
    exact ⟨fun z => absurd z q, fun _ => h⟩
def fav (N : z_N) (nu : Nat → Nat) (x : Int) : Int := if 0 ≤ x ∧ x < (nN N : Int) then (fare N nu x.toNat : Int) else 0
def sgv (nu : Nat → Nat) (x : Int) : Int := if 0 ≤ x ∧ x < 7 then (nu x.toNat : Int) else 0
def nmv (N : z_N) (nu : Nat → Nat) (D F wh num : Nat) (k : Nat) : Int := match k with
  | 0 => (D : Int)
  | 1 => (wh : Int)
  | 2 => (F : Int)
  | 3 => (pc 10 (nO N) : Int)
  | 4 => fav N nu (wh : Int)
  | 5 => if wh < nN N then (min (nu (nA N wh)) (nu (nB N wh)) : Nat) else (0 : Int)
  | 6 => if wh < nN N then (max (nu (nA N wh)) (nu (nB N wh)) : Nat) else (0 : Int)
  | 7 => sgv nu (wh : Int)
  | 8 => (num : Int)
  | _ => (pc 10 (bs 7 (nAdj N wh)) : Int)
theorem dst_le {a b c : Nat} (ha : a ≤ c) (hb : b ≤ c) : dst a b ≤ c := by
  unfold dst
  split <;> omega
theorem fav_bd {N : z_N} {nu : Nat → Nat} (hW : nWF N) (hu : ∀ h, h < 7 → nu h ≤ 99) (x : Int) : bd (fav N nu x) := by
  unfold fav
  split
  · rename_i h
    have hw := hW.2.2.1 x.toNat (by omega)
    have := dst_le (hu _ hw.1) (hu _ hw.2.1)
    unfold bd fare
    omega
  · exact ⟨by decide, by decide⟩
theorem sgv_bd {nu : Nat → Nat} (hu : ∀ h, h < 7 → nu h ≤ 99) (x : Int) : bd (sgv nu x) := by
  unfold sgv
  split
  · have := hu x.toNat (by omega)
    unfold bd
    omega
  · exact ⟨by decide, by decide⟩
theorem nmv_bd {N : z_N} {nu : Nat → Nat} {D F wh num : Nat} (hW : nWF N) (hu : ∀ h, h < 7 → nu h ≤ 99) (hD : D ≤ 9999) (hF : F ≤ 99999) (hw : wh ≤ 99) (hn : num ≤ 99) (k : Nat) : bd (nmv N nu D F wh num k) := by
  unfold nmv
  split
  · unfold bd; omega
  · unfold bd; omega
  · unfold bd; omega
  · have := pc_le 10 (nO N)
    unfold bd; omega
  · exact fav_bd hW hu _
  · split
    · rename_i h
      have hw := hW.2.2.1 wh h
      have h1 := hu _ hw.1
      have h2 := hu _ hw.2.1
      unfold bd
      omega
    · exact ⟨by decide, by decide⟩
  · split
    · rename_i h
      have hw := hW.2.2.1 wh h
      have h1 := hu _ hw.1
      have h2 := hu _ hw.2.1
      unfold bd
      omega
    · exact ⟨by decide, by decide⟩
  · exact sgv_bd hu _
  · unfold bd; omega
  · have := pc_le 10 (bs 7 (nAdj N wh))
    unfold bd; omega
/-- the world with its day and its fund -/
def CE (v : z_V) (w : Nat) (N : z_N) (nu : Nat → Nat) (D F : Nat) : Prop := CW v w N nu ∧ gI v 4 (31 * w) 5 = nI D ∧ gI v 4 (31 * w) 4 = nI F ∧ D ≤ 9999 ∧ F ≤ 99999
def sTl : Nat → Nat → Prop := sT [5, 600]
theorem sTl_in {t k : Nat} (h : t ∈ [5, 600]) : sTl t k := h
theorem sTl_not {t k : Nat} (h : t ≠ 5 ∧ t ≠ 600) : ¬ sTl t k := by
  intro q
  have q : t ∈ [5, 600] := q
  simp only [List.mem_cons, List.not_mem_nil, or_false] at q
  omega
theorem CE.fr {v u : z_V} {w : Nat} {N : z_N} {nu : Nat → Nat} {D F : Nat} {S : Nat → Nat → Prop} (h : CE v w N nu D F) (f : Fr S v u) (h1 : ¬ S 9 8) (h2 : ∀ k, ¬ S 4 k) (h3 : ∀ k, ¬ S 1001 k) (h4 : ∀ k, ¬ S 1002 k) (h5 : ∀ k, ¬ S 500 k) : CE u w N nu D F := ⟨h.1.fr f h1 (h2 _) h3 h4 h5, (f.i (h2 _)).trans h.2.1, (f.i (h2 _)).trans h.2.2.1, h.2.2.2⟩
theorem CE.tl {v u : z_V} {w : Nat} {N : z_N} {nu : Nat → Nat} {D F : Nat} (h : CE v w N nu D F) (f : Fr sTl v u) : CE u w N nu D F := h.fr f (sTl_not (by decide)) (fun _ => sTl_not (by decide)) (fun _ => sTl_not (by decide)) (fun _ => sTl_not (by decide)) (fun _ => sTl_not (by decide))
def TS (u : z_V) (w wh num t : Nat) (st : Nat → Int) : Prop := gI u 5 w 1 = nI t ∧ gI u 5 w 2 = nI wh ∧ gI u 5 w 3 = nI num ∧ t ≤ 64 ∧ ∀ j, j < t → gI u 600 w j = iI (st j)
def ps (st : Nat → Int) (t : Nat) (x : Int) : Nat → Int := fun j => if j = t then x else st j
theorem sh_bit {N : z_N} (hW : nWF N) {sh l : Nat} (h : sh + nO N + 1 = 2 ^ nN N) (hl : l < nN N) : sh.testBit l = !nP N l := by
  have : sh = 2 ^ nN N - (nO N + 1) := by omega
  rw [this, Nat.testBit_two_pow_sub_succ hW.2.1]
  simp [hl, nP]
section TLC
variable {d : Nat} {v : z_V} {N : z_N} {nu : Nat → Nat} {w D F : Nat}
theorem s_besideX {h : Nat} (hC : CW v w N nu) (hh : h < 7) : ZP (d + 1) m_X9_besideBits [vR 9 w, vI (nI h)] v (nI (bs 7 (nAdj N h))) := fun Q k => E_X9_besideBits (B_X9_besideBits_0 (by
  have hn := hC.1.1
  obtain ⟨sh, hs1, hs2⟩ := hC.2.2.1
  have hp := Nat.pow_le_pow_right (n := 2) (by decide) hn
  refine z_up0 (P := fun l => ∀ s, s < 128 → (∀ g, g < 7 → s.testBit g = anyL l (fun l => nP N l && nEd N l h g)) → z_Wp (z_C d) 1 k_X9_besideBits Q 4 [some (vR 9 w), some (vI (nI h)), some (vI (nI s)), some (vI (nI l))] [] v) (nN N) ?_ ?_ 0 (by decide) (fun g _ => by simp [anyL])
  · intro s hs hb
    refine B_X9_besideBits_4 (pk_le (nN N) (nN N) (fun _ => ?_) (fun q => absurd q (by omega)) hC.2.1)
    rw [show s = bs 7 (nAdj N h) from bs_eq hs hb]
    exact k
  · intro l hl ih s hs hb
    have hw := hC.1.2.2.1 l hl
    have hwl := hC.2.2.2.1 l hl
    have hE := fun g => nEd_l (N := N) (l := l) (g := h) (h := g) hw.2.2
    refine B_X9_besideBits_4 (pk_le (nN N) l (fun q => absurd q (by omega)) (fun _ => ?_) hC.2.1)
    rw [hs1, nI_bitb (by omega) (by omega), sh_bit hC.1 hs2 hl]
    refine br_z (fun e => ?_) (fun e => ?_)
    · have e : nP N l = true := by simpa using e
      refine z_ii l rfl (by omega) ?_
      rw [n_nI (by omega), hwl.1, hwl.2]
      refine pk_ne (nA N l) h (fun q => z_ii l rfl (by omega) (pk_ne (nB N l) h (fun q2 => ?_) (fun q2 => z_ii l rfl (by omega) ?_))) (fun q => z_ii l rfl (by omega) ?_)
      · rw [nI_1]
        refine ih s hs (fun g hg => ?_)
        simp only [anyL]
        rw [hb g hg, hE g, if_neg (fun z => q z.symm), if_neg (fun z => q2 z.symm), Bool.and_false, Bool.or_false]
      · rw [nI_1, nI_shl (by omega), nI_or]
        refine ih _ (Nat.or_lt_two_pow (n := 7) hs (Nat.pow_lt_pow_right (by decide) hw.1)) (fun g hg => ?_)
        simp only [anyL]
        rw [Nat.testBit_or, Nat.testBit_two_pow, hb g hg, hE g, if_neg (fun z => q z.symm), if_pos q2.symm, e, Bool.true_and]
        simp only [eq_comm]
      · rw [nI_1, nI_shl (by omega), nI_or]
        refine ih _ (Nat.or_lt_two_pow (n := 7) hs (Nat.pow_lt_pow_right (by decide) hw.2.1)) (fun g hg => ?_)
        simp only [anyL]
        rw [Nat.testBit_or, Nat.testBit_two_pow, hb g hg, hE g, if_pos q.symm, e, Bool.true_and]
        simp only [eq_comm]
    · rw [nI_1]
      refine ih s hs (fun g hg => ?_)
      simp only [anyL]
      have e : nP N l = false := by simpa using e
      rw [hb g hg, e, Bool.false_and, Bool.or_false]))
theorem iI_pos {x : Int} (h1 : -2147483648 ≤ x) (h2 : x < 2147483648) : iI x < 0 ↔ x < 0 := by
  rw [show (0 : Int32) = iI 0 by decide, iI_lt h1 h2 (by decide) (by decide)]
theorem s_fareV {x : Int} (hC : CW v w N nu) (h1 : -2147483648 ≤ x) (h2 : x < 2147483648) : ZP (d + 1) m_X9_fareOf [vR 9 w, vI (iI x)] v (iI (fav N nu x)) := by
  have hn := hC.1.1
  by_cases q : 0 ≤ x ∧ x < (nN N : Int)
  · obtain ⟨k, rfl⟩ : ∃ k : Nat, x = k := ⟨x.toNat, by omega⟩
    unfold fav
    rw [if_pos q, iI_nI, iI_nI, Int.toNat_natCast]
    exact s_fareX hC (by omega)
  · unfold fav
    rw [if_neg q]
    intro Q k
    refine E_X9_fareOf (B_X9_fareOf_0 ⟨fun _ => k, fun z => ?_⟩)
    rw [iI_pos h1 h2] at z
    rw [hC.2.1, ← iI_nI]
    exact ⟨fun y => absurd ((iI_lt h1 h2 (by omega) (by omega)).mp y) (by omega), fun _ => k⟩
theorem s_signV {x : Int} (hC : CW v w N nu) (h1 : -2147483648 ≤ x) (h2 : x < 2147483648) : ZP (d + 1) m_X5_signOf [vR 9 w, vI (iI x)] v (iI (sgv nu x)) := by
  unfold sgv
  intro Q k
  by_cases q : 0 ≤ x ∧ x < 7
  · rw [if_pos q] at k
    obtain ⟨n, rfl⟩ : ∃ k : Nat, x = k := ⟨x.toNat, by omega⟩
    rw [iI_nI, Int.toNat_natCast] at k
    rw [iI_nI]
    refine E_X5_signOf (B_X5_signOf_0 (br_F (nI_pos (by omega)) (pk_le 7 n (fun z => absurd q.2 (by omega)) (fun _ => ?_))))
    refine z_ii n rfl (by omega) ?_
    rw [n_nI (by omega), (hC.2.2.2.2 n (by omega)).1]
    exact k
  · rw [if_neg q] at k
    refine E_X5_signOf (B_X5_signOf_0 ⟨fun _ => k, fun z => ⟨fun _ => k, fun y => ?_⟩⟩)
    rw [iI_pos h1 h2] at z
    rw [show (7 : Int32) = iI 7 by decide, iI_le (by decide) (by decide) h1 h2] at y
    omega
variable {wh num t : Nat} {st : Nat → Int}
theorem s_endA (hC : CW v w N nu) (hT : TS v w wh num t st) (hw : wh < nN N) : ZP (d + 2) m_X5_endSign [vR 5 w, vR 9 w, vR 1001 w] v (nI (nu (nA N wh))) := fun Q k => E_X5_endSign_a (B_X5_endSign_a_0 (by
  have hn := hC.1.1
  have h1 := hC.1.2.2.1 wh hw
  have h2 := hC.2.2.2.1 wh hw
  rw [hT.2.1]
  refine cP (s_hasLine hC) ?_
  rw [inr_nI (by omega), decide_eq_true hw]
  refine br_F (by decide) ?_
  refine z_ii wh hT.2.1 (by omega) ?_
  rw [hT.2.1, n_nI (by omega), h2.1, ← iI_nI]
  refine cP (s_signV hC (by omega) (by omega)) ?_
  unfold sgv
  rw [if_pos (by omega), Int.toNat_natCast, iI_nI]
  exact k))
theorem s_endB (hC : CW v w N nu) (hT : TS v w wh num t st) (hw : wh < nN N) : ZP (d + 2) m_X5_endSign [vR 5 w, vR 9 w, vR 1002 w] v (nI (nu (nB N wh))) := fun Q k => E_X5_endSign_b (B_X5_endSign_b_0 (by
  have hn := hC.1.1
  have h1 := hC.1.2.2.1 wh hw
  have h2 := hC.2.2.2.1 wh hw
  rw [hT.2.1]
  refine cP (s_hasLine hC) ?_
  rw [inr_nI (by omega), decide_eq_true hw]
  refine br_F (by decide) ?_
  refine z_ii wh hT.2.1 (by omega) ?_
  rw [hT.2.1, n_nI (by omega), h2.2, ← iI_nI]
  refine cP (s_signV hC (by omega) (by omega)) ?_
  unfold sgv
  rw [if_pos (by omega), Int.toNat_natCast, iI_nI]
  exact k))
theorem i_max_nI {a b : Nat} (ha : a < 2 ^ 31) (hb : b < 2 ^ 31) : i_max (nI a) (nI b) = nI (max a b) := by
  unfold i_max
  by_cases q : a < b
  · rw [if_pos (nI_lt q hb), Nat.max_eq_right (by omega)]
  · rw [if_neg (nI_nlt (by omega) ha), Nat.max_eq_left (by omega)]
/-- names -/
theorem s_nameOf {k : Nat} {r : Bool} (hE : CE v w N nu D F) (hT : TS v w wh num t st) (hk : k < 10) (hr : 4 ≤ k → (k < 7 ↔ r = true)) (h1 : r = true → wh < nN N) (h2 : r = false → wh < 7) (hwh : wh < 10) : ZP (d + 3) m_X5_nameOf [vR 5 w, vR 9 w, vI (nI (k + 8))] v (iI (nmv N nu D F wh num k)) := fun Q c => E_X5_nameOf (B_X5_nameOf_0 (by
  have hC := hE.1
  have hn := hC.1.1
  have ho := nO_lt hC.1
  rw [hT.2.1, hE.2.1, hE.2.2.1, hT.2.2.1]
  match k, hk with
  | 0, _ =>
    refine br_T (by rfl) ?_
    rw [← iI_nI]
    exact c
  | 1, _ =>
    refine br_F (by decide) (br_T (by rfl) ?_)
    rw [← iI_nI]
    exact c
  | 2, _ =>
    refine br_F (by decide) (br_F (by decide) (br_T (by rfl) ?_))
    rw [← iI_nI]
    exact c
  | 3, _ =>
    refine br_F (by decide) (br_F (by decide) (br_F (by decide) (br_T (by rfl) ?_)))
    refine cP (s_openBits hC) (cP (s_bitCount ho) ?_)
    rw [← iI_nI]
    exact c
  | 4, _ =>
    refine br_F (by decide) (br_F (by decide) (br_F (by decide) (br_F (by decide) (br_T (by rfl) ?_))))
    rw [← iI_nI]
    exact cP (s_fareV hC (by omega) (by omega)) c
  | 5, _ =>
    have hl := h1 ((hr (by omega)).mp (by omega))
    have hw := hC.1.2.2.1 wh hl
    have n1 := (hC.2.2.2.2 _ hw.1).2
    have n2 := (hC.2.2.2.2 _ hw.2.1).2
    refine br_F (by decide) (br_F (by decide) (br_F (by decide) (br_F (by decide) (br_F (by decide) (br_T (by rfl) ?_)))))
    refine cP (s_endA hC hT hl) (cP (s_endB hC hT hl) ?_)
    rw [i_min_nI (by omega) (by omega), ← iI_nI]
    simp only [nmv] at c
    rw [if_pos hl] at c
    exact c
  | 6, _ =>
    have hl := h1 ((hr (by omega)).mp (by omega))
    have hw := hC.1.2.2.1 wh hl
    have n1 := (hC.2.2.2.2 _ hw.1).2
    have n2 := (hC.2.2.2.2 _ hw.2.1).2
    refine br_F (by decide) (br_F (by decide) (br_F (by decide) (br_F (by decide) (br_F (by decide) (br_F (by decide) (br_T (by rfl) ?_))))))
    refine cP (s_endA hC hT hl) (cP (s_endB hC hT hl) ?_)
    rw [i_max_nI (by omega) (by omega), ← iI_nI]
    simp only [nmv] at c
    rw [if_pos hl] at c
    exact c
  | 7, _ =>
    refine br_F (by decide) (br_F (by decide) (br_F (by decide) (br_F (by decide) (br_F (by decide) (br_F (by decide) (br_F (by decide) (br_T (by rfl) ?_)))))))
    rw [← iI_nI]
    exact cP (s_signV hC (by omega) (by omega)) c
  | 8, _ =>
    refine br_F (by decide) (br_F (by decide) (br_F (by decide) (br_F (by decide) (br_F (by decide) (br_F (by decide) (br_F (by decide) (br_F (by decide) (br_T (by rfl) ?_))))))))
    rw [← iI_nI]
    exact c
  | 9, _ =>
    have hf : r = false := by
      cases r
      · rfl
      · exact absurd ((hr (by omega)).mpr rfl) (by omega)
    refine br_F (by decide) (br_F (by decide) (br_F (by decide) (br_F (by decide) (br_F (by decide) (br_F (by decide) (br_F (by decide) (br_F (by decide) (br_F (by decide) ?_))))))))
    have hb := bs_lt 7 (nAdj N wh)
    refine cP (s_besideX hC (h2 hf)) (cP (s_bitCount (by omega)) ?_)
    rw [← iI_nI]
    exact c))
theorem s_push {x : Int} (hT : TS v w wh num t st) (h1 : -2147483648 ≤ x) (h2 : x < 2147483648) (ht : t < 64) : ZV (d + 1) m_X5_push [vR 5 w, vI (iI x)] v (fun u => TS u w wh num (t + 1) (ps st t (xcl x)) ∧ Fr sTl v u) := fun Q k => E_X5_push (B_X5_push_0 (by
  obtain ⟨a1, a2, a3, a4, a5⟩ := hT
  rw [a1]
  refine pk_le 64 t (fun q => absurd q (by omega)) (fun _ => z_ii t rfl ht ?_)
  rw [n_nI (by omega), i_clip h1 h2, nI_1]
  refine k _ ⟨⟨gI_pI_s, ?_, ?_, by omega, fun j hj => ?_⟩, (Fr.rfl.pI (sTl_in (by decide))).pI (sTl_in (by decide))⟩
  · rw [gI_pI_k (by decide), gI_pI_t (by decide)]
    exact a2
  · rw [gI_pI_k (by decide), gI_pI_t (by decide)]
    exact a3
  · rw [gI_pI_t (by decide)]
    unfold ps
    by_cases e : j = t
    · subst e
      rw [gI_pI_s, if_pos rfl]
    · rw [gI_pI_k e, if_neg e]
      exact a5 j (by omega)))
theorem s_pop (hT : TS v w wh num (t + 1) st) : ZI (d + 1) m_X5_pop [vR 5 w] v (fun u x => x = iI (st t) ∧ TS u w wh num t st ∧ Fr sTl v u) := fun Q k => E_X5_pop (B_X5_pop_0 (by
  obtain ⟨a1, a2, a3, a4, a5⟩ := hT
  rw [gI_pI_s, a1, nI_pred]
  refine br_T (nI_lt (a := 0) (b := t + 1) (by omega) (by omega)) ?_
  refine z_ii t rfl (by omega) ?_
  rw [n_nI (by omega), a5 t (by omega)]
  refine k _ _ ⟨rfl, ⟨gI_pI_s, ?_, ?_, by omega, fun j hj => ?_⟩, Fr.rfl.pI (sTl_in (by decide))⟩
  · rw [gI_pI_k (by decide)]
    exact a2
  · rw [gI_pI_k (by decide)]
    exact a3
  · rw [gI_pI_t (by decide)]
    exact a5 j (by omega)))
end TLC
