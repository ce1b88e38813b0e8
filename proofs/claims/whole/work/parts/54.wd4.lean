/-! the class's world: a line more; one world becomes another -/
theorem nEd_mk {N : z_N} {l a b : Nat} : nEd N l a b = true ↔ (nA N l = a ∧ nB N l = b) ∨ (nB N l = a ∧ nA N l = b) := by
  unfold nEd
  simp only [Bool.or_eq_true, Bool.and_eq_true, beq_iff_eq]
def lyB (W : z_W) (a b : Nat) : Bool := anyL (wN W) (fun l => nEd (wNet W) l a b)
theorem okW.ly {W : z_W} {a b : Nat} (h : okW W) (ha : a < 7) (hb : b < 7) (hab : a ≠ b) (hn : wN W < 10) (he : lyB W a b = false) : okW ((wN W + 1, (fun l => if l = wN W then a else wA W l), (fun l => if l = wN W then b else wB W l), W.2.2.2) : z_W) := by
  obtain ⟨⟨h1, h2, h3, h4⟩, h5, h6, h7, h8, h9, h10, h11⟩ := h
  have hA : ∀ l, l < wN W → (if l = wN W then a else wA W l) = wA W l := fun l hl => if_neg (by omega)
  have hB : ∀ l, l < wN W → (if l = wN W then b else wB W l) = wB W l := fun l hl => if_neg (by omega)
  refine ⟨⟨by show wN W + 1 ≤ 10; omega, ?_, fun l hl => ?_, fun l k hlk hk => ?_⟩, h5.up (Nat.le_succ _), h6, fun i hi => (h7 i hi).up (Nat.le_succ _), h8, h9, h10, fun i hi => ⟨Nat.lt_succ_of_lt (h11 i hi).1, (h11 i hi).2⟩⟩
  · show 2 ^ (wN W + 1) - 1 - wS W 4 < 2 ^ (wN W + 1)
    have := Nat.two_pow_pos (wN W + 1)
    omega
  · have hl : l < wN W + 1 := hl
    show (if l = wN W then a else wA W l) < 7 ∧ (if l = wN W then b else wB W l) < 7 ∧ (if l = wN W then a else wA W l) ≠ (if l = wN W then b else wB W l)
    by_cases e : l = wN W
    · rw [if_pos e, if_pos e]
      exact ⟨ha, hb, hab⟩
    · rw [if_neg e, if_neg e]
      exact h3 l (by show l < wN W; omega)
  · have hk : k < wN W + 1 := hk
    show ¬ nEd ((wN W + 1, (_, (fun l => if l = wN W then a else wA W l), (fun l => if l = wN W then b else wB W l))) : z_N) l (if k = wN W then a else wA W k) (if k = wN W then b else wB W k) = true
    rw [nEd_mk]
    show ¬ (((if l = wN W then a else wA W l) = (if k = wN W then a else wA W k) ∧ (if l = wN W then b else wB W l) = (if k = wN W then b else wB W k)) ∨ ((if l = wN W then b else wB W l) = (if k = wN W then a else wA W k) ∧ (if l = wN W then a else wA W l) = (if k = wN W then b else wB W k)))
    rw [hA l (by omega), hB l (by omega)]
    by_cases e : k = wN W
    · rw [if_pos e, if_pos e]
      intro q
      have : lyB W a b = true := anyL_iff.mpr ⟨l, by omega, nEd_mk.mpr q⟩
      rw [he] at this
      cases this
    · rw [if_neg e, if_neg e]
      intro q
      exact h4 l k hlk (by show k < wN W; omega) (nEd_mk.mpr q)
section WD4
variable {d : Nat} {v : z_V} {w : Nat} {W : z_W} {T : Nat → z_T}
theorem s_addLine {a b : Int32} (hR : RC v w W) : ZI (d + 1) m_X9_addLine [vR 9 w, vI a, vI b] v (fun u r => r = (wLy W a b).2 ∧ RC u w (wLy W a b).1 ∧ Fn (sWo w) v u) := fun Q k => E_X9_addLine (B_X9_addLine_0 (by
  have no : ¬ ((inr a 7 && (inr b 7 && (decide (a ≠ b) && (decide (wN W < 10) && !anyL (wN W) (fun l => nEd (wNet W) l (n_ a) (n_ b)))))) = true) → Q v (some (vI (-1))) := fun z => by
    unfold wLy at k
    rw [if_neg z] at k
    exact k _ _ ⟨rfl, hR, Fn.rfl⟩
  refine lt0_nI (n := 7) (by decide) (fun e => no (by rw [e]; simp)) (fun e => no (by rw [e]; simp)) (fun e1 => ?_)
  refine lt0_nI (n := 7) (by decide) (fun e => no (by rw [e]; simp)) (fun e => no (by rw [e]; simp)) (fun e2 => ?_)
  refine ⟨fun e => no (by rw [decide_eq_false (fun z => z e)]; simp), fun hab => ?_⟩
  obtain ⟨x, hx, rfl, hn1⟩ := inr_n (by decide) e1
  obtain ⟨y, hy, rfl, hn2⟩ := inr_n (by decide) e2
  have hxy : x ≠ y := fun q => hab (by rw [q])
  have hn := hR.1.n
  refine pk_lt (wN W) 10 (fun e3 => ?_) (fun e3 => no (by rw [decide_eq_false (show ¬ wN W < 10 by omega)]; simp)) hR.2.1 rfl
  have no' : lyB W x y = true → Q v (some (vI (-1))) := fun z => no (by
    rw [hn1, hn2, show anyL (wN W) (fun l => nEd (wNet W) l x y) = true from z]
    simp)
  refine z_up0 (P := fun l => anyL l (fun l => nEd (wNet W) l x y) = false → z_Wp (z_C d) 1 k_X9_addLine Q 38 [some (vR 9 w), some (vI (nI x)), some (vI (nI y)), some (vI (nI l))] [] v) (wN W) ?_ ?_ rfl
  · intro he
    have he : lyB W x y = false := he
    have hok := hR.1.ly hx hy hxy e3 he
    unfold wLy at k
    rw [hn1, hn2, if_pos (by rw [e1, e2, decide_eq_true hab, decide_eq_true e3, show anyL (wN W) (fun l => nEd (wNet W) l x y) = false from he]; rfl)] at k
    obtain ⟨a0, a1, a2, a3, a4, a5, ⟨g, b1, b2, b3⟩, a7, a8, a9⟩ := hR
    refine B_X9_addLine_38 ?_
    rw [a1, n_nI (by omega), gI_pI_s, nI_1, nI_pred]
    refine pk_le (wN W) (wN W) (fun _ => z_ii (wN W) rfl e3 (z_ii (wN W) rfl e3 ?_)) (fun q => absurd q (by omega))
    have f : Fn (fun t n => (t = 9 ∨ t = 1001 ∨ t = 1002) ∧ n = w) v (pI (pI (pI v 1001 w (wN W) (nI x)) 1002 w (wN W) (nI y)) 9 w 8 (nI (wN W + 1))) := ((Fn.rfl.pI ⟨Or.inr (Or.inl rfl), rfl⟩).pI ⟨Or.inr (Or.inr rfl), rfl⟩).pI ⟨Or.inl rfl, rfl⟩
    refine k _ _ ⟨rfl, ⟨hok, gI_pI_s, ?_, ?_, ?_, ?_, ⟨g, b1, ?_, fun i hi => ?_⟩, fun l hl => ?_, ?_, fun i hi => ?_⟩, f.mono (fun t n q => Or.inl (Or.inl ⟨by omega, q.2⟩))⟩
    · rw [gI_pI_k (by decide), gI_pI_t (by decide), gI_pI_t (by decide)]
      exact a2
    · rw [gI_pI_k (by decide), gI_pI_t (by decide), gI_pI_t (by decide)]
      exact a3
    · rw [gI_pI_k (by decide), gI_pI_t (by decide), gI_pI_t (by decide)]
      exact a4
    · rw [gI_pI_k (by decide), gI_pI_t (by decide), gI_pI_t (by decide)]
      exact a5
    · rw [gI_pI_k (by decide), gI_pI_t (by decide), gI_pI_t (by decide)]
      exact b2
    · exact (b3 i hi).fn f (by omega) (by omega) (by omega)
    · have hl : l < wN W + 1 := hl
      show gI (pI (pI (pI v 1001 w (wN W) (nI x)) 1002 w (wN W) (nI y)) 9 w 8 (nI (wN W + 1))) 1001 w l = nI (if l = wN W then x else wA W l) ∧ gI (pI (pI (pI v 1001 w (wN W) (nI x)) 1002 w (wN W) (nI y)) 9 w 8 (nI (wN W + 1))) 1002 w l = nI (if l = wN W then y else wB W l)
      have l1 := gI_pI_t (v := pI (pI v 1001 w (wN W) (nI x)) 1002 w (wN W) (nI y)) (t := 9) (n := w) (k := 8) (x := nI (wN W + 1)) (t' := 1001) (n' := w) (k' := l) (by decide)
      have l2 := gI_pI_t (v := pI (pI v 1001 w (wN W) (nI x)) 1002 w (wN W) (nI y)) (t := 9) (n := w) (k := 8) (x := nI (wN W + 1)) (t' := 1002) (n' := w) (k' := l) (by decide)
      have l3 := gI_pI_t (v := pI v 1001 w (wN W) (nI x)) (t := 1002) (n := w) (k := wN W) (x := nI y) (t' := 1001) (n' := w) (k' := l) (by decide)
      rw [l1, l2, l3]
      by_cases e : l = wN W
      · subst e
        rw [gI_pI_s, gI_pI_s, if_pos rfl, if_pos rfl]
        exact ⟨rfl, rfl⟩
      · have l4 := gI_pI_k (v := v) (t := 1001) (n := w) (x := nI x) (t' := 1001) (n' := w) e
        have l5 := gI_pI_k (v := pI v 1001 w (wN W) (nI x)) (t := 1002) (n := w) (x := nI y) (t' := 1002) (n' := w) e
        rw [l4, l5, gI_pI_t (by decide), if_neg e, if_neg e]
        exact a7 l (by omega)
    · exact a8.fn f (by omega) (by omega) (by omega)
    · exact ⟨(f.i (by omega)).trans (a9 i hi).1, (f.i (by omega)).trans (a9 i hi).2⟩
  · intro l hl ih he
    have hw := hR.1.1.2.2.1 l hl
    have hA7 : wA W l < 7 := hw.1
    have hB7 : wB W l < 7 := hw.2.1
    have hwl := hR.2.2.2.2.2.2.2.1 l hl
    have zz : ∀ {T : Prop}, T → z_if (z_in (nI l) 10) T := fun t => z_ii l rfl (by omega) t
    have next : ¬ ((wA W l = x ∧ wB W l = y) ∨ (wB W l = x ∧ wA W l = y)) → z_Wp (z_C d) 1 k_X9_addLine Q 38 [some (vR 9 w), some (vI (nI x)), some (vI (nI y)), some (vI (nI l + 1))] [] v := fun z => by
      rw [nI_1]
      refine ih ?_
      simp only [anyL]
      rw [he, Bool.false_or]
      cases q : nEd (wNet W) l x y
      · rfl
      · exact absurd (nEd_mk.mp q) z
    have bad : ((wA W l = x ∧ wB W l = y) ∨ (wB W l = x ∧ wA W l = y)) → Q v (some (vI (-1))) := fun z => no' (anyL_iff.mpr ⟨l, hl, nEd_mk.mpr z⟩)
    refine B_X9_addLine_38 ?_
    rw [hR.2.1, n_nI (n := l) (by omega), hwl.1, hwl.2]
    refine pk_le (wN W) l (fun q => absurd q (by omega)) (fun _ => zz (pk_ne (wA W l) x (fun q1 => ?_) (fun q1 => ?_)))
    · refine zz (pk_ne (wA W l) y (fun q2 => next (by omega)) (fun q2 => zz (pk_ne (wB W l) x (fun q3 => next (by omega)) (fun q3 => bad (Or.inr ⟨q3, q2⟩)))))
    · refine zz (pk_eq (wB W l) y (fun q2 => bad (Or.inl ⟨q1, q2⟩)) (fun q2 => zz (pk_ne (wA W l) y (fun q3 => next (by omega)) (fun q3 => zz (pk_ne (wB W l) x (fun q4 => next (by omega)) (fun q4 => bad (Or.inr ⟨q4, q3⟩)))))))))
theorem nI_all (x : Int32) : ∃ n, x = nI n := ⟨x.toBitVec.toNat, by
  apply Int32.toBitVec_inj.mp
  show x.toBitVec = BitVec.ofNat 32 x.toBitVec.toNat
  simp⟩
theorem RS_ex (v : z_V) (n : Nat) : ∃ s, RS v n s := by
  refine ⟨fun k => (if k = 0 then gI v 4 n 5 else if k = 1 then gI v 4 n 6 else if k = 2 then gI v 4 n 4 else if k = 3 then gI v 4 n 2 else if k = 4 then gI v 4 n 3 else if k < 12 then gI v 500 n (k - 5) else gI v 501 n (k - 12)).toBitVec.toNat, ?_⟩
  have e : ∀ x : Int32, x = nI x.toBitVec.toNat := fun x => by
    apply Int32.toBitVec_inj.mp
    show x.toBitVec = BitVec.ofNat 32 x.toBitVec.toNat
    simp
  refine ⟨e _, e _, e _, e _, e _, fun h hh => ?_, fun k hk => ?_⟩
  · dsimp only
    rw [← e, if_neg (by omega), if_neg (by omega), if_neg (by omega), if_neg (by omega), if_neg (by omega), if_pos (by omega), show 5 + h - 5 = h by omega]
  · dsimp only
    rw [← e, if_neg (by omega), if_neg (by omega), if_neg (by omega), if_neg (by omega), if_neg (by omega), if_neg (by omega), show 12 + k - 12 = k by omega]
def sTe (a : Nat) : Nat → Nat → Prop := fun t n => (t = 6 ∨ (700 ≤ t ∧ t ≤ 703)) ∧ n = a
theorem s_become6 {a b : Nat} (e : b ≠ a) : ZV (d + 1) m_X6_become [vR 6 a, vR 6 b] v (fun u => (∀ X, TC v b X → TC u a X) ∧ Fn (sTe a) v u) := fun Q k => E_X6_become (B_X6_become_0 (by
  have f : Fn (sTe a) v (pC (pC (pC (pC v 700 b 0 700 a 0 300) 701 b 0 701 a 0 24) 702 b 0 702 a 0 24) 703 b 0 703 a 0 24) := (((Fn.rfl.pC ⟨Or.inr (by decide), rfl⟩).pC ⟨Or.inr (by decide), rfl⟩).pC ⟨Or.inr (by decide), rfl⟩).pC ⟨Or.inr (by decide), rfl⟩
  have i6 : ∀ {u : z_V} {k : Nat} {x : Int32}, Fn (sTe a) v u → Fn (sTe a) v (pI u 6 a k x) := fun h => h.pI ⟨Or.inl rfl, rfl⟩
  refine k _ ⟨fun X hX => ?_, i6 (i6 (i6 (i6 (i6 (i6 f)))))⟩
  generalize hu : pI (pI (pI (pI (pI (pI (pC (pC (pC (pC v 700 b 0 700 a 0 300) 701 b 0 701 a 0 24) 702 b 0 702 a 0 24) 703 b 0 703 a 0 24) 6 a 4 (gI v 6 b 4)) 6 a 5 (gI v 6 b 5)) 6 a 6 (gI v 6 b 6)) 6 a 7 (gI v 6 b 7)) 6 a 8 (gI v 6 b 8)) 6 a 9 (gI v 6 b 9) = u
  have g5 : gI u 6 a 5 = gI v 6 b 5 := by rw [← hu, gI_pI_k (by decide), gI_pI_k (by decide), gI_pI_k (by decide), gI_pI_k (by decide), gI_pI_s]
  have g6 : gI u 6 a 6 = gI v 6 b 6 := by rw [← hu, gI_pI_k (by decide), gI_pI_k (by decide), gI_pI_k (by decide), gI_pI_s]
  have g7 : gI u 6 a 7 = gI v 6 b 7 := by rw [← hu, gI_pI_k (by decide), gI_pI_k (by decide), gI_pI_s]
  have g8 : gI u 6 a 8 = gI v 6 b 8 := by rw [← hu, gI_pI_k (by decide), gI_pI_s]
  have g9 : gI u 6 a 9 = gI v 6 b 9 := by rw [← hu, gI_pI_s]
  have t0 : ∀ t, t ≠ 6 → ∀ k, gI u t a k = gI (pC (pC (pC (pC v 700 b 0 700 a 0 300) 701 b 0 701 a 0 24) 702 b 0 702 a 0 24) 703 b 0 703 a 0 24) t a k := fun t ht k => by rw [← hu, gI_pI_t ht, gI_pI_t ht, gI_pI_t ht, gI_pI_t ht, gI_pI_t ht, gI_pI_t ht]
  have h0 : ∀ j, j < 300 → gI u 700 a j = gI v 700 b j := fun j hj => by
    rw [t0 _ (by decide), gI_pC_t (by decide), gI_pC_t (by decide), gI_pC_t (by decide), gI_pC_s, pk_cpy_in (by omega) (by omega), show 0 + (j - 0) = j by omega]
  have h1 : ∀ j, j < 24 → gI u 701 a j = gI v 701 b j := fun j hj => by
    rw [t0 _ (by decide), gI_pC_t (by decide), gI_pC_t (by decide), gI_pC_s, pk_cpy_in (by omega) (by omega), show 0 + (j - 0) = j by omega, gI_pC_t (by decide)]
  have h2 : ∀ j, j < 24 → gI u 702 a j = gI v 702 b j := fun j hj => by
    rw [t0 _ (by decide), gI_pC_t (by decide), gI_pC_s, pk_cpy_in (by omega) (by omega), show 0 + (j - 0) = j by omega, gI_pC_t (by decide), gI_pC_t (by decide)]
  have h3 : ∀ j, j < 24 → gI u 703 a j = gI v 703 b j := fun j hj => by
    rw [t0 _ (by decide), gI_pC_s, pk_cpy_in (by omega) (by omega), show 0 + (j - 0) = j by omega, gI_pC_t (by decide), gI_pC_t (by decide), gI_pC_t (by decide)]
  have hl : ∀ {x y : Nat} {r : Bool} {law : Option z_X}, gI u 6 a x = gI v 6 b x → gI u 6 a y = gI v 6 b y → LC1 v b x y r law → LC1 u a x y r law := by
    intro x y r law ex ey q
    cases law with
    | none => exact ⟨ex.trans q.1, ey.trans q.2⟩
    | some e =>
      obtain ⟨g, q1, q2, q3, q4, q5⟩ := q
      exact ⟨g, ex.trans q1, ey.trans q2, q3, rC_cong (fun i _ hi => h0 i (by omega)) q4, q5⟩
  have hcl := hX.2.2.2.1
  exact ⟨hl g6 g7 hX.1, hl g8 g9 hX.2.1, g5.trans hX.2.2.1, hcl, fun j hj => ⟨(h1 j (by omega)).trans (hX.2.2.2.2 j hj).1, (h2 j (by omega)).trans (hX.2.2.2.2 j hj).2.1, (h3 j (by omega)).trans (hX.2.2.2.2 j hj).2.2.1, (hX.2.2.2.2 j hj).2.2.2⟩⟩))
def sWt (w : Nat) : Nat → Nat → Prop := fun t n => inW w t n ∨ ((t = 6 ∨ (700 ≤ t ∧ t ≤ 703)) ∧ 4 * w ≤ n ∧ n < 4 * w + 4)
theorem s_become9 {w1 : Nat} (hw : w1 ≠ w) (hR : RC v w1 W) : ZV (d + 2) m_X9_become [vR 9 w, vR 9 w1] v (fun u => RC u w W ∧ (∀ k X, k < 4 → TC v (4 * w1 + k) X → TC u (4 * w + k) X) ∧ Fn (sWt w) v u) := fun Q k => E_X9_become (B_X9_become_0 (by
  have hR0 := hR
  obtain ⟨a0, a1, a2, a3, a4, a5, ⟨g, b1, b2, b3⟩, a7, a8, a9⟩ := hR
  have hc := a0.2.2.1
  refine cV (s_become4 a8 (by omega)) (fun u0 hu0 => ?_)
  have f1 : Fn (sWt w) v (pC (pC (pC (pC u0 1001 w1 0 1001 w 0 10) 1002 w1 0 1002 w 0 10) 1004 w1 0 1004 w 0 8) 1005 w1 0 1005 w 0 8) := ((((hu0.2.mono (fun t n q => Or.inl (Or.inr ⟨q.1, by have := q.2; omega, by have := q.2; omega⟩))).pC (Or.inl (Or.inl ⟨by decide, rfl⟩))).pC (Or.inl (Or.inl ⟨by decide, rfl⟩))).pC (Or.inl (Or.inl ⟨by decide, rfl⟩))).pC (Or.inl (Or.inl ⟨by decide, rfl⟩))
  generalize hu1 : pC (pC (pC (pC u0 1001 w1 0 1001 w 0 10) 1002 w1 0 1002 w 0 10) 1004 w1 0 1004 w 0 8) 1005 w1 0 1005 w 0 8 = u1 at f1
  have hn0 : ∀ t, t ≠ 4 → t ≠ 500 → t ≠ 501 → ∀ n k, gI u0 t n k = gI v t n k := fun t h1 h2 h3 n k => hu0.2.i (fun q => by have := q.1; omega)
  have hL1 : ∀ l, l < wN W → gI u1 1001 w l = nI (wA W l) ∧ gI u1 1002 w l = nI (wB W l) := fun l hl => by
    have := a0.n
    rw [← hu1, gI_pC_t (by decide), gI_pC_t (by decide), gI_pC_t (by decide), gI_pC_s, pk_cpy_in (by omega) (by omega), gI_pC_t (by decide), gI_pC_t (by decide), gI_pC_s, pk_cpy_in (by omega) (by omega), show 0 + (l - 0) = l by omega, gI_pC_t (by decide), hn0 _ (by decide) (by decide) (by decide), hn0 _ (by decide) (by decide) (by decide)]
    exact a7 l hl
  have hQ1 : ∀ i, i < wQ W → gI u1 1004 w i = nI (wL W i) ∧ gI u1 1005 w i = nI (wM W i) := fun i hi => by
    have := a0.2.2.2.2.2.2.1
    rw [← hu1, gI_pC_t (by decide), gI_pC_s, pk_cpy_in (by omega) (by omega), gI_pC_s, pk_cpy_in (by omega) (by omega), show 0 + (i - 0) = i by omega, gI_pC_t (by decide), gI_pC_t (by decide), gI_pC_t (by decide), gI_pC_t (by decide), gI_pC_t (by decide), hn0 _ (by decide) (by decide) (by decide), hn0 _ (by decide) (by decide) (by decide)]
    exact a9 i hi
  have hS1 : RS u1 (31 * w) (wS W) := by
    have h4 : ∀ t, t = 4 ∨ t = 500 ∨ t = 501 → ∀ n k, gI u1 t n k = gI u0 t n k := fun t ht n k => by
      rw [← hu1, gI_pC_t (by omega), gI_pC_t (by omega), gI_pC_t (by omega), gI_pC_t (by omega)]
    obtain ⟨c0, c1, c2, c3, c4, c5, c6⟩ := hu0.1
    exact ⟨(h4 4 (by decide) _ _).trans c0, (h4 4 (by decide) _ _).trans c1, (h4 4 (by decide) _ _).trans c2, (h4 4 (by decide) _ _).trans c3, (h4 4 (by decide) _ _).trans c4, fun i hi => (h4 500 (by decide) _ _).trans (c5 i hi), fun i hi => (h4 501 (by decide) _ _).trans (c6 i hi)⟩
  -- the texts
  refine z_up0 (P := fun i => ∀ u, Fn (sWt w) v u → (∀ l, l < wN W → gI u 1001 w l = nI (wA W l) ∧ gI u 1002 w l = nI (wB W l)) → (∀ i, i < wQ W → gI u 1004 w i = nI (wL W i) ∧ gI u 1005 w i = nI (wM W i)) → RS u (31 * w) (wS W) → (∀ k X, k < i → TC v (4 * w1 + k) X → TC u (4 * w + k) X) → z_Wp (z_C (d + 1)) 0 k_X9_become Q 73 [some (vR 9 w), some (vR 9 w1), some (vI (nI i))] [] u) 4 ?_ ?_ u1 f1 hL1 hQ1 hS1 (fun k X hk => absurd hk (by omega))
  · intro u f hL hQ hS hT
    refine B_X9_become_73 (pk_le 4 4 (fun _ => ?_) (fun q => absurd q (by decide)))
    -- the steps
    refine z_up0 (P := fun i => ∀ u, Fn (sWt w) v u → (∀ l, l < wN W → gI u 1001 w l = nI (wA W l) ∧ gI u 1002 w l = nI (wB W l)) → (∀ i, i < wQ W → gI u 1004 w i = nI (wL W i) ∧ gI u 1005 w i = nI (wM W i)) → RS u (31 * w) (wS W) → (∀ k X, k < 4 → TC v (4 * w1 + k) X → TC u (4 * w + k) X) → (∀ j s, j < i → RS v (31 * w1 + 1 + j) s → RS u (31 * w + 1 + j) s) → z_Wp (z_C (d + 1)) 0 k_X9_become Q 101 [some (vR 9 w), some (vR 9 w1), some (vI (nI i))] [] u) 30 ?_ ?_ u f hL hQ hS hT (fun j s hj => absurd hj (by omega))
    · intro u f hL hQ hS hT hJ
      have n9 : ∀ k, gI u 9 w1 k = gI v 9 w1 k := fun k => f.i (fun q => by
        rcases q with (⟨z, z2⟩ | ⟨z, _⟩) | ⟨z, _⟩ <;> omega)
      refine B_X9_become_101 (pk_le 30 30 (fun _ => ?_) (fun q => absurd q (by decide)))
      rw [n9, n9, n9, n9, n9, n9, a1, a2, a3, a4, a5, b2]
      have f9 : Fn (fun t n => t = 9 ∧ n = w) u (pI (pI (pI (pI (pI (pI u 9 w 8 (nI (wN W))) 9 w 9 (nI (wT W))) 9 w 10 (wR W)) 9 w 11 (nI (wQ W))) 9 w 12 (nI (wC W))) 9 w 13 (nI g)) := (((((Fn.rfl.pI ⟨rfl, rfl⟩).pI ⟨rfl, rfl⟩).pI ⟨rfl, rfl⟩).pI ⟨rfl, rfl⟩).pI ⟨rfl, rfl⟩).pI ⟨rfl, rfl⟩
      refine k _ ⟨⟨a0, ?_, ?_, ?_, ?_, ?_, ⟨g, b1, gI_pI_s, fun i hi => ?_⟩, fun l hl => ?_, ?_, fun i hi => ?_⟩, fun k X hk hX => ?_, f.trans (f9.mono (fun t n q => Or.inl (Or.inl ⟨Or.inl q.1, q.2⟩)))⟩
      · rw [gI_pI_k (by decide), gI_pI_k (by decide), gI_pI_k (by decide), gI_pI_k (by decide), gI_pI_k (by decide), gI_pI_s]
      · rw [gI_pI_k (by decide), gI_pI_k (by decide), gI_pI_k (by decide), gI_pI_k (by decide), gI_pI_s]
      · rw [gI_pI_k (by decide), gI_pI_k (by decide), gI_pI_k (by decide), gI_pI_s]
      · rw [gI_pI_k (by decide), gI_pI_k (by decide), gI_pI_s]
      · rw [gI_pI_k (by decide), gI_pI_s]
      · exact (hJ _ _ (Nat.mod_lt _ (by decide)) (b3 i hi)).fn f9 (by omega) (by omega) (by omega)
      · exact ⟨(f9.i (by omega)).trans (hL l hl).1, (f9.i (by omega)).trans (hL l hl).2⟩
      · exact hS.fn f9 (by omega) (by omega) (by omega)
      · exact ⟨(f9.i (by omega)).trans (hQ i hi).1, (f9.i (by omega)).trans (hQ i hi).2⟩
      · exact (hT k X hk hX).fn f9 (by omega) (by omega) (by omega) (by omega) (by omega)
    · intro i hi ih u f hL hQ hS hT hJ
      refine B_X9_become_101 (pk_le 30 i (fun q => absurd q (by omega)) (fun _ => z_ii i rfl hi (z_ii i rfl hi ?_)))
      rw [n_nI (by omega), nI_1]
      obtain ⟨s, hs⟩ := RS_ex u (31 * w1 + 1 + i)
      have nI4 : ∀ {t n : Nat}, ¬ sWt w t (31 * w1 + 1 + i) ∨ ¬ (t = 4 ∨ t = 500 ∨ t = 501) := by
        intro t n
        by_cases q : t = 4 ∨ t = 500 ∨ t = 501
        · refine Or.inl (fun z => ?_)
          rcases z with (⟨z, _⟩ | ⟨_, z2, z3⟩) | ⟨z, _⟩ <;> omega
        · exact Or.inr q
      refine cV (s_become4 hs (by omega)) (fun u' hu' => ?_)
      have ff := hu'.2
      refine ih u' (f.trans (ff.mono (fun t n q => Or.inl (Or.inr ⟨q.1, by have := q.2; omega, by have := q.2; omega⟩)))) (fun l hl => ?_) (fun j hj => ?_) ?_ (fun k X hk hX => ?_) (fun j s' hj hs' => ?_)
      · exact ⟨(ff.i (fun q => by have := q.1; omega)).trans (hL l hl).1, (ff.i (fun q => by have := q.1; omega)).trans (hL l hl).2⟩
      · exact ⟨(ff.i (fun q => by have := q.1; omega)).trans (hQ j hj).1, (ff.i (fun q => by have := q.1; omega)).trans (hQ j hj).2⟩
      · exact hS.fn ff (fun q => by have := q.2; omega) (fun q => by have := q.2; omega) (fun q => by have := q.2; omega)
      · exact (hT k X hk hX).fn ff (fun q => by have := q.1; omega) (fun q => by have := q.1; omega) (fun q => by have := q.1; omega) (fun q => by have := q.1; omega) (fun q => by have := q.1; omega)
      · by_cases e : j = i
        · subst e
          have n4 : ∀ t, t = 4 ∨ t = 500 ∨ t = 501 → ¬ sWt w t (31 * w1 + 1 + j) := fun t ht z => by
            rcases z with (⟨z, _⟩ | ⟨_, z2, z3⟩) | ⟨z, _⟩ <;> omega
          have h2 := hs'.fn f (n4 4 (by decide)) (n4 500 (by decide)) (n4 501 (by decide))
          -- the copy is what was there
          obtain ⟨c0, c1, c2, c3, c4, c5, c6⟩ := hu'.1
          obtain ⟨d0, d1, d2, d3, d4, d5, d6⟩ := hs
          obtain ⟨e0, e1, e2, e3, e4, e5, e6⟩ := h2
          exact ⟨c0.trans (d0.symm.trans e0), c1.trans (d1.symm.trans e1), c2.trans (d2.symm.trans e2), c3.trans (d3.symm.trans e3), c4.trans (d4.symm.trans e4), fun k hk => (c5 k hk).trans ((d5 k hk).symm.trans (e5 k hk)), fun k hk => (c6 k hk).trans ((d6 k hk).symm.trans (e6 k hk))⟩
        · exact (hJ j s' (by omega) hs').fn ff (fun q => by have := q.2; omega) (fun q => by have := q.2; omega) (fun q => by have := q.2; omega)
  · intro i hi ih u f hL hQ hS hT
    refine B_X9_become_73 (pk_le 4 i (fun q => absurd q (by omega)) (fun _ => z_ii i rfl hi (z_ii i rfl hi ?_)))
    rw [n_nI (by omega), nI_1]
    refine cV (s_become6 (by omega)) (fun u' hu' => ?_)
    have ff := hu'.2
    refine ih u' (f.trans (ff.mono (fun t n q => Or.inr ⟨q.1, by have := q.2; omega, by have := q.2; omega⟩))) (fun l hl => ?_) (fun j hj => ?_) ?_ (fun k X hk hX => ?_)
    · exact ⟨(ff.i (fun q => by have := q.1; omega)).trans (hL l hl).1, (ff.i (fun q => by have := q.1; omega)).trans (hL l hl).2⟩
    · exact ⟨(ff.i (fun q => by have := q.1; omega)).trans (hQ j hj).1, (ff.i (fun q => by have := q.1; omega)).trans (hQ j hj).2⟩
    · exact hS.fn ff (fun q => by have := q.1; omega) (fun q => by have := q.1; omega) (fun q => by have := q.1; omega)
    · by_cases e : k = i
      · subst e
        have n6 : ∀ t, t = 6 ∨ (700 ≤ t ∧ t ≤ 703) → ¬ sWt w t (4 * w1 + k) := fun t ht z => by
          rcases z with (⟨z, _⟩ | ⟨z, _⟩) | ⟨_, z2, z3⟩ <;> omega
        exact hu'.1 X (hX.fn f (n6 6 (by decide)) (n6 700 (by decide)) (n6 701 (by decide)) (n6 702 (by decide)) (n6 703 (by decide)))
      · exact (hT k X (by omega) hX).fn ff (fun q => by have := q.2; omega) (fun q => by have := q.2; omega) (fun q => by have := q.2; omega) (fun q => by have := q.2; omega) (fun q => by have := q.2; omega)))
end WD4
