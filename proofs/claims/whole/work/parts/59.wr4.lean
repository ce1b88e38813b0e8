/-! the reference: a line more, the image -/
section WR4
variable {d : Nat} {v : z_V} {W : z_W} {T : Nat → z_T}
theorem nOn_ed {N : z_N} {l a b : Nat} (hAB : nA N l ≠ nB N l) (hab : a ≠ b) : nEd N l a b = (nOn N l a && nOn N l b) := by
  apply Bool.eq_iff_iff.mpr
  rw [nEd_mk, Bool.and_eq_true]
  unfold nOn
  simp only [Bool.or_eq_true, beq_iff_eq]
  omega
theorem s_layR {a b : Int32} (h : RRf (gI v 1200 0) W) : ZI (d + 3) m_X11_lay [vR 11 0, vI a, vI b] v (fun u r => r = (wLy W a b).2 ∧ RRf (gI u 1200 0) (wLy W a b).1 ∧ Fr (sT [1200]) v u) := fun Q k => E_X11_lay (B_X11_lay_0 (by
  have no : ¬ ((inr a 7 && (inr b 7 && (decide (a ≠ b) && (decide (wN W < 10) && !anyL (wN W) (fun l => nEd (wNet W) l (n_ a) (n_ b)))))) = true) → Q v (some (vI (-1))) := fun z => by
    unfold wLy at k
    rw [if_neg z] at k
    exact k _ _ ⟨rfl, h, Fr.rfl⟩
  refine cP s_isHalt (br_z (fun e => no (by rw [e]; simp)) (fun e1 => ?_))
  refine cP s_isHalt (br_z (fun e => no (by rw [e]; simp)) (fun e2 => ?_))
  refine ⟨fun e => no (by rw [decide_eq_false (fun z => z e)]; simp), fun hab => ?_⟩
  obtain ⟨x, hx, rfl, hn1⟩ := inr_n (by decide) e1
  obtain ⟨y, hy, rfl, hn2⟩ := inr_n (by decide) e2
  have hxy : x ≠ y := fun q => hab (by rw [q])
  have hn := h.1.n
  have hM := h.me.1
  refine pk_ne (wN W) 10 (fun e3 => ?_) (fun e3 => no (by rw [decide_eq_false (show ¬ wN W < 10 by omega)]; simp)) h.2.1 rfl
  have e3 : wN W < 10 := by omega
  have no' : lyB W x y = true → Q v (some (vI (-1))) := fun z => no (by
    rw [hn1, hn2, show anyL (wN W) (fun l => nEd (wNet W) l x y) = true from z]
    simp)
  refine z_up0 (P := fun l => anyL l (fun l => nEd (wNet W) l x y) = false → z_Wp (z_C (d + 2)) 1 k_X11_lay Q 34 [some (vR 11 0), some (vI (nI x)), some (vI (nI y)), some (vI (nI l))] [] v) (wN W) ?_ ?_ rfl
  · intro he
    have he : lyB W x y = false := he
    have hok := h.1.ly hx hy hxy e3 he
    unfold wLy at k
    rw [hn1, hn2, if_pos (by rw [e1, e2, decide_eq_true hab, decide_eq_true e3, show anyL (wN W) (fun l => nEd (wNet W) l x y) = false from he]; rfl)] at k
    have h0 := h
    obtain ⟨a0, a1, a2, a3, a4, a5, a6, a7, a8, a9⟩ := h
    have hc := a0.2.2.1
    have hq := a0.2.2.2.2.2.2.1
    refine B_X11_lay_34 ?_
    rw [a1, show (17 : Int32) + 2 * nI (wN W) = nI (17 + 2 * wN W) by rw [show (17 : Int32) = nI 17 from rfl, show (2 : Int32) = nI 2 from rfl, pk_mul, nI_add], nI_1]
    refine pk_le (wN W) (wN W) (fun _ => z_ii _ rfl (by omega) (z_ii _ rfl (by omega) ?_)) (fun q => absurd q (by omega))
    rw [n_nI (by omega), n_nI (by omega)]
    have h9 : gI v 1200 0 9 = nI (2 ^ wN W - 1 - wS W 4) := a6.2.2.2.2.1
    rw [gI_pI_k (by omega), gI_pI_k (by omega), h9, nI_shl (by omega), nI_or, or_tab _ (by omega) _ (by have := Nat.two_pow_pos (wN W); omega)]
    refine B_X11_lay_116 ?_
    rw [gI_pI_k (by decide), gI_pI_k (by omega), gI_pI_k (by omega), a1, nI_1]
    generalize hu : pI (pI (pI (pI v 1200 0 (17 + 2 * wN W) (nI x)) 1200 0 (17 + 2 * wN W + 1) (nI y)) 1200 0 9 (nI (2 ^ wN W - 1 - wS W 4 + 2 ^ wN W))) 1200 0 0 (nI (wN W + 1)) = u
    have f : Fr (sT [1200]) v u := by
      rw [← hu]
      exact Fr_A.trans (Fr_A.trans (Fr_A.trans Fr_A))
    have g0 : gI u 1200 0 0 = nI (wN W + 1) := by rw [← hu, gI_pI_s]
    have g9 : gI u 1200 0 9 = nI (2 ^ (wN W + 1) - 1 - wS W 4) := by
      rw [← hu, gI_pI_k (by decide), gI_pI_s]
      congr 1
      have := a0.2.1.2.2.2.2.1
      rw [Nat.pow_succ]
      omega
    have gx : gI u 1200 0 (17 + 2 * wN W) = nI x := by rw [← hu, gI_pI_k (by omega), gI_pI_k (by omega), gI_pI_k (by omega), gI_pI_s]
    have gy : gI u 1200 0 (17 + 2 * wN W + 1) = nI y := by rw [← hu, gI_pI_k (by omega), gI_pI_k (by omega), gI_pI_s]
    have ge : ∀ j, j ≠ 0 → j ≠ 9 → j ≠ 17 + 2 * wN W → j ≠ 17 + 2 * wN W + 1 → gI u 1200 0 j = gI v 1200 0 j := fun j h1 h2 h3 h4 => by rw [← hu, gI_pI_k h1, gI_pI_k h2, gI_pI_k h4, gI_pI_k h3]
    refine k _ _ ⟨rfl, ⟨hok, g0, (ge _ (by omega) (by omega) (by omega) (by omega)).trans a2, (ge _ (by omega) (by omega) (by omega) (by omega)).trans a3, (ge _ (by omega) (by omega) (by omega) (by omega)).trans a4, (ge _ (by omega) (by omega) (by omega) (by omega)).trans a5, ?_, fun i hi => ?_, fun l hl => ?_, fun i hi => ?_⟩, f⟩
    · obtain ⟨b0, b1, b2, b3, b4, b5, b6⟩ := a6
      exact ⟨(ge _ (by omega) (by omega) (by omega) (by omega)).trans b0, (ge _ (by omega) (by omega) (by omega) (by omega)).trans b1, (ge _ (by omega) (by omega) (by omega) (by omega)).trans b2, (ge _ (by omega) (by omega) (by omega) (by omega)).trans b3, g9, fun g hg => (ge _ (by omega) (by omega) (by omega) (by omega)).trans (b5 g hg), fun j hj => (ge _ (by omega) (by omega) (by omega) (by omega)).trans (b6 j hj)⟩
    · have hi : i < wC W := hi
      obtain ⟨m, m1, m2, m3, m4⟩ := a7 i hi
      exact ⟨m, Nat.le_succ_of_le m1, (ge _ (by omega) (by omega) (by omega) (by omega)).trans m2, m3, m4.cg (fun j hj => ge _ (by omega) (by omega) (by omega) (by omega)) (fun j hj => ge _ (by omega) (by omega) (by omega) (by omega)) (fun _ _ => rfl)⟩
    · have hl : l < wN W + 1 := hl
      show gI u 1200 0 (17 + 2 * l) = nI (if l = wN W then x else wA W l) ∧ gI u 1200 0 (18 + 2 * l) = nI (if l = wN W then y else wB W l)
      by_cases e : l = wN W
      · subst e
        rw [if_pos rfl, if_pos rfl, show 18 + 2 * wN W = 17 + 2 * wN W + 1 by omega]
        exact ⟨gx, gy⟩
      · rw [if_neg e, if_neg e]
        exact ⟨(ge _ (by omega) (by omega) (by omega) (by omega)).trans (a8 l (by omega)).1, (ge _ (by omega) (by omega) (by omega) (by omega)).trans (a8 l (by omega)).2⟩
    · have hi : i < wQ W := hi
      exact ⟨(ge _ (by omega) (by omega) (by omega) (by omega)).trans (a9 i hi).1, (ge _ (by omega) (by omega) (by omega) (by omega)).trans (a9 i hi).2⟩
  · intro l hl ih he
    have hw := h.1.1.2.2.1 l hl
    have next : nEd (wNet W) l x y = false → z_Wp (z_C (d + 2)) 1 k_X11_lay Q 34 [some (vR 11 0), some (vI (nI x)), some (vI (nI y)), some (vI (nI l + 1))] [] v := fun z => by
      rw [nI_1]
      refine ih ?_
      simp only [anyL]
      rw [he, z]
      rfl
    have hE := nOn_ed (N := wNet W) (l := l) hw.2.2 hxy
    refine B_X11_lay_34 ?_
    rw [h.2.1]
    refine pk_le (wN W) l (fun q => absurd q (by omega)) (fun _ => ?_)
    refine cP (s_isOn hM hl (by omega)) (br_z (fun e4 => next (by rw [hE, e4]; rfl)) (fun e4 => ?_))
    refine cP (s_isOn hM hl (by omega)) (br_z (fun e5 => next (by rw [hE, e4, e5]; rfl)) (fun e5 => ?_))
    exact no' (anyL_iff.mpr ⟨l, hl, by rw [hE, e4, e5]; rfl⟩)))
theorem cp0_s {f g : Nat → Int32} {k : Nat} : upd (fun j => if j < k then f j else g j) k (f k) = fun j => if j < k + 1 then f j else g j := by
  funext j
  unfold upd
  by_cases e : j = k
  · subst e
    rw [if_pos rfl, if_pos (by omega)]
  · rw [if_neg e]
    show (if j < k then f j else g j) = _
    by_cases q : j < k
    · rw [if_pos q, if_pos (by omega)]
    · rw [if_neg q, if_neg (by omega)]
theorem s_copyA : ZV (d + 1) m_X11_copy [vR 1200 0, vR 1201 0] v (fun u => (∀ W, RRf (gI v 1200 0) W → RRf (gI u 1201 0) W) ∧ Fr (sT [1201]) v u) := fun Q k => E_X11_copy_a (B_X11_copy_a_0 (by
  have := z_up0 (P := fun i => z_Wp (z_C d) 0 k_X11_copy Q 2 [some (vR 1200 0), some (vR 1201 0), some (vI (nI i))] [] (pR v 1201 (fun j => if j < i then gI v 1200 0 j else gI v 1201 0 j))) 1218 ?_ ?_
  · have e : (fun j => if j < 0 then gI v 1200 0 j else gI v 1201 0 j) = gI v 1201 0 := by
      funext j
      exact if_neg (by omega)
    rw [e, pR_id] at this
    exact this
  · refine B_X11_copy_a_2 (pk_le 1218 1218 (fun _ => k _ ⟨fun W h => ?_, Fr_pR⟩) (fun q => absurd q (by decide)))
    rw [gI_pR_f]
    exact h.cg (fun j hj => if_pos hj)
  · intro i hi ih
    refine B_X11_copy_a_2 (pk_le 1218 i (fun q => absurd q (by omega)) (fun _ => z_ii i rfl hi (z_ii i rfl hi ?_)))
    rw [n_nI (by omega), gI_pR_t (by decide), pR_pI, cp0_s, nI_1]
    exact ih))
theorem s_copyB : ZV (d + 1) m_X11_copy [vR 1201 0, vR 1200 0] v (fun u => (∀ W, RRf (gI v 1201 0) W → RRf (gI u 1200 0) W) ∧ Fr (sT [1200]) v u) := fun Q k => E_X11_copy_b (B_X11_copy_b_0 (by
  have := z_up0 (P := fun i => z_Wp (z_C d) 0 k_X11_copy Q 2 [some (vR 1201 0), some (vR 1200 0), some (vI (nI i))] [] (pR v 1200 (fun j => if j < i then gI v 1201 0 j else gI v 1200 0 j))) 1218 ?_ ?_
  · have e : (fun j => if j < 0 then gI v 1201 0 j else gI v 1200 0 j) = gI v 1200 0 := by
      funext j
      exact if_neg (by omega)
    rw [e, pR_id] at this
    exact this
  · refine B_X11_copy_b_2 (pk_le 1218 1218 (fun _ => k _ ⟨fun W h => ?_, Fr_pR⟩) (fun q => absurd q (by decide)))
    rw [gI_pR_f]
    exact h.cg (fun j hj => if_pos hj)
  · intro i hi ih
    refine B_X11_copy_b_2 (pk_le 1218 i (fun q => absurd q (by omega)) (fun _ => z_ii i rfl hi (z_ii i rfl hi ?_)))
    rw [n_nI (by omega), gI_pR_t (by decide), pR_pI, cp0_s, nI_1]
    exact ih))
end WR4
