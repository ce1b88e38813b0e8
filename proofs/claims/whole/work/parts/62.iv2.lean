/-! played, foretold, image and back, the text that rules, what is said, the tape: both sides -/
section IV2
variable {d : Nat} {v : z_V} {q : z_Q}
theorem s_isPlayed {t j : Nat} {W : z_W} {T : Nat → z_T} (hR : RRf (gI v 1200 0) W) (hX : TXR v W T) (hw : gI v 11 0 23 = bI true) (ht : t < wT W) (hj : j < (T t).2.2.1) : ZI (d + 9) m_X11_isPlayed [vR 11 0, vI (nI (681 * t + 1 + 3 * j))] v (fun u r => r = bI (wPf W T ((T t).2.2.2.1 j) ((T t).2.2.2.2.1 j) ((T t).2.2.2.2.2 j)).2 ∧ RRf (gI u 1200 0) (wPf W T ((T t).2.2.2.1 j) ((T t).2.2.2.2.1 j) ((T t).2.2.2.2.2 j)).1 ∧ Fr sPs v u) := fun Q c => E_X11_isPlayed (B_X11_isPlayed_0 (by
  have h4 := hR.1.2.2.2.2.1
  have hn := hR.1.n
  have hT := hX t ht
  have h24 := hT.2.1
  obtain ⟨c1, c2, c3, c4⟩ := hT.2.2.1 j hj
  rw [show nI (681 * t + 1 + 3 * j) + 1 = nI (681 * t + 1 + 3 * j + 1) from nI_add _ 1, show nI (681 * t + 1 + 3 * j) + 2 = nI (681 * t + 1 + 3 * j + 2) from nI_add _ 2]
  refine z_ii _ rfl (by omega) (z_ii _ rfl (by omega) (z_ii _ rfl (by omega) ?_))
  rw [n_nI (by omega), n_nI (by omega), n_nI (by omega), c1]
  generalize hk : (T t).2.2.2.1 j = k at c2 c3 c4 c ⊢
  generalize ha : (T t).2.2.2.2.1 j = a at c3 c4 c ⊢
  generalize hb : (T t).2.2.2.2.2 j = b at c3 c4 c ⊢
  obtain ⟨_, h2, h3, h4', h5, h6⟩ := c4
  unfold wPf at c
  have two : ∀ {r : Int32} {u : z_V} {W' : z_W}, nn r → RRf (gI u 1200 0) W' → Fr sPs v u → (∀ u x, x = bI (decide (r ≠ -1)) ∧ RRf (gI u 1200 0) W' ∧ Fr sPs v u → Q u (some (vI x))) → (r < 0 → Q u (some (vI 0))) ∧ (¬ r < 0 → Q u (some (vI 1))) := fun {r u W'} hnn h1 h2 c => nn_pick hnn (fun e => c u 0 ⟨by rw [decide_eq_false (fun z => z e)]; rfl, h1, h2⟩) (fun e => c u 1 ⟨by rw [decide_eq_true e]; rfl, h1, h2⟩)
  have hc : k = 0 ∨ k = 1 ∨ k = 2 ∨ k = 3 ∨ k = 4 ∨ k = 5 ∨ k = 6 := by omega
  rcases hc with e | e | e | e | e | e | e <;> subst e
  · exact br_F (by decide) (br_F (by decide) (br_F (by decide) (br_F (by decide) (br_F (by decide) (c _ _ ⟨rfl, hR, Fr.rfl⟩)))))
  · exact br_F (by decide) (br_F (by decide) (br_F (by decide) (br_F (by decide) (br_F (by decide) (c _ _ ⟨rfl, hR, Fr.rfl⟩)))))
  · rw [(c3 (by decide)).1, (c3 (by decide)).2 (by decide)]
    rw [if_pos rfl] at c
    exact br_T (by rfl) (cI (s_layR hR) (fun u r hu => by
      rw [hu.1]
      exact two (wLy_nn hn) hu.2.1 (sPs_a hu.2.2) c))
  · rw [(c3 (by decide)).1, (c3 (by decide)).2 (by decide)]
    rw [if_neg (by decide), if_pos rfl] at c
    exact br_F (by decide) (br_T (by rfl) (cI (s_plateR hR hX hw) (fun u r hu => by
      rw [hu.1]
      exact two wPl_nn hu.2.1 hu.2.2 c)))
  · rw [(c3 (by decide)).1]
    rw [if_neg (by decide), if_neg (by decide), if_pos rfl] at c
    refine br_F (by decide) (br_F (by decide) (br_T (by rfl) (cI (s_turnR hR hw) (fun u r hu => ?_))))
    rw [hu.1]
    refine z_if_k wTu_01 (c _ _ ⟨?_, hu.2.1, hu.2.2⟩)
    unfold wTu
    split <;> rfl
  · rw [(c3 (by decide)).1]
    rw [if_neg (by decide), if_neg (by decide), if_neg (by decide), if_pos rfl] at c
    refine br_F (by decide) (br_F (by decide) (br_F (by decide) (br_T (by rfl) (cI (s_grantR hR) (fun u r hu => ?_)))))
    rw [hu.1]
    refine z_if_k wGr_01 (c _ _ ⟨?_, hu.2.1, hu.2.2⟩)
    unfold wGr
    split <;> rfl
  · rw [(c3 (by decide)).1]
    rw [if_neg (by decide), if_neg (by decide), if_neg (by decide), if_neg (by decide), if_pos rfl] at c
    refine br_F (by decide) (br_F (by decide) (br_F (by decide) (br_F (by decide) (br_T (by rfl) (cI (s_arePassed hR hX hw (h6 rfl).2) (fun u r hu => ?_))))))
    rw [hu.1]
    exact z_i01 (c _ _ ⟨rfl, hu.2.1, hu.2.2.2⟩)))
theorem R_played {a : Int32} (h : InvR v q) : GR (d + 10) m_X11_played [vR 11 0, vI a] v (wPd' (qW q) (qT q) a).2 (qSet q (wPd' (qW q) (qT q) a).1) := fun Q k => E_X11_played (B_X11_played_0 (by
  have hR := h.2.1
  have ht := hR.1.2.2.2.2.1
  unfold wPd' at k
  rw [hR.2.2.1]
  refine cP s_isIn ?_
  rw [inr_le (n := wT (qW q)) (by omega)]
  refine br_n (fun e => ?_) (fun e => ?_)
  · rw [if_pos e] at k
    obtain ⟨t, h1, rfl, hn⟩ := inr_n (by omega) e
    rw [hn] at k
    have hX := h.2.2.2.1
    have key : ∀ j i (W : z_W) (u : z_V), i + j = (qT q t).2.2.1 → RRf (gI u 1200 0) W → TXR u W (qT q) → wT W = wT (qW q) → Fr sPs v u → (∀ u', RRf (gI u' 1200 0) (wPy (qT q) (qT q t) j i W).1 → Fr sPs v u' → Q u' (some (vI (wPy (qT q) (qT q t) j i W).2))) → z_Wp (z_C (d + 9)) 1 k_X11_played Q 21 [some (vR 11 0), some (vI (nI t)), some (vI (nI i))] [] u := by
      intro j
      induction j with
      | zero =>
        intro i W u hij hR hX hw f k
        have hT := hX t (by omega)
        have h24 := hT.2.1
        refine B_X11_played_21 ?_
        rw [show (681 : Int32) * nI t = nI (681 * t) from pk_mul 681 t]
        refine z_ii _ rfl (by omega) ?_
        rw [n_nI (by omega), hT.1]
        exact pk_le (qT q t).2.2.1 i (fun _ => k u hR f) (fun q => absurd q (by omega))
      | succ j ih =>
        intro i W u hij hR hX hw f k
        have hT := hX t (by omega)
        have h24 := hT.2.1
        unfold wPy at k
        refine B_X11_played_21 ?_
        rw [show (681 : Int32) * nI t = nI (681 * t) from pk_mul 681 t, show (3 : Int32) * nI i = nI (3 * i) from pk_mul 3 i, nI_1, nI_add]
        refine z_ii _ rfl (by omega) ?_
        rw [n_nI (by omega), hT.1]
        refine pk_le (qT q t).2.2.1 i (fun q => absurd q (by omega)) (fun _ => ?_)
        refine cI (s_isPlayed hR hX ((f.i (sPs_not (by omega))).trans h.2.2.2.2.2.2.2.2) (by omega) (by omega)) (fun u2 r2 hu2 => ?_)
        rw [hu2.1]
        refine br_n (fun e => ?_) (fun e => ?_)
        · rw [if_pos e] at k
          rw [nI_1]
          exact ih (i + 1) _ u2 (by omega) hu2.2.1 ((hX.ps hu2.2.2).T wPf_T) (wPf_T.trans hw) (f.trans hu2.2.2) k
        · rw [if_neg (by rw [e]; decide)] at k
          exact k u2 hu2.2.1 (f.trans hu2.2.2)
    exact key _ 0 (qW q) v (by omega) hR hX rfl Fr.rfl (fun u' hR' f' => k _ _ ⟨rfl, h.ps f' hR' wPy_T, FR.ps f'⟩)
  · rw [if_neg (by rw [e]; decide)] at k
    exact k _ _ ⟨rfl, h, Fn.rfl⟩))
/-- what the image holds -/
def qIm (q : z_Q) : z_Q := (qW q, (qW q, q.2.2))
def qBk (q : z_Q) : z_Q := (qI q, (qI q, q.2.2))
theorem FC.wt {v u : z_V} {w : Nat} (f : Fn (sWt w) v u) : FC v u := f.mono (fun t n q => by
  unfold sWt inW at q
  unfold tCl
  omega)
theorem KC.wt {v u : z_V} {w : Nat} (f : Fn (sWt w) v u) : KC v u := f.mono (fun t n q => by
  unfold sWt inW at q
  unfold tCa
  omega)
theorem C_image (h : InvC v q) : GC (d + 3) m_X10_image [vR 10 0] v (nI (wS (qW q) 0)) (qIm q) := fun Q k => E_X10_image (B_X10_image_0 (by
  obtain ⟨a0, a1, a2, a3, a4, a5, a6, a7⟩ := h
  refine cV (s_become9 (w := 1) (by decide) a1) (fun u hu => ?_)
  obtain ⟨hR, hT, f⟩ := hu
  have h4 := a1.1.2.2.2.2.1
  have n : ∀ t n, ¬ ((t = 9 ∨ t = 1001 ∨ t = 1002 ∨ t = 1004 ∨ t = 1005) ∧ n = 1) ∧ ¬ ((t = 4 ∨ t = 500 ∨ t = 501) ∧ 31 ≤ n) ∧ ¬ ((t = 6 ∨ (700 ≤ t ∧ t ≤ 703)) ∧ 4 ≤ n) → ¬ sWt 1 t n := fun t n z q => by unfold sWt inW at q; omega
  have hR0 : RC u 0 (qW q) := a1.fn f (fun t m q => n _ _ (by unfold inW at q; omega))
  rw [show gI u 4 0 5 = nI (wS (qW q) 0) from hR0.2.2.2.2.2.2.2.2.1.1]
  refine k _ _ ⟨rfl, ⟨⟨Nat.le_refl _, a0.2⟩, hR0, hR, fun i hi => by
    have hi : i < wT (qW q) := hi
    exact (a3 i hi).fn f (n _ _ (by omega)) (n _ _ (by omega)) (n _ _ (by omega)) (n _ _ (by omega)) (n _ _ (by omega)), fun i hi => by
    have hi : i < wT (qW q) := hi
    exact hT i _ (by omega) (a3 i hi), (f.i (n _ _ (by omega))).trans a5, fun j hj => (f.i (n _ _ (by omega))).trans (a6 j hj), ?_⟩, FC.wt f, KC.wt f⟩
  rcases a7 with ⟨b1, b2, b3⟩ | ⟨b1, b2, b3⟩
  · exact Or.inl ⟨(f.i (n _ _ (by omega))).trans b1, b2, b3⟩
  · exact Or.inr ⟨(f.i (n _ _ (by omega))).trans b1, (f.i (n _ _ (by omega))).trans b2, (f.i (n _ _ (by omega))).trans b3⟩))
theorem C_back (h : InvC v q) : GC (d + 3) m_X10_back [vR 10 0] v (nI (wS (qI q) 0)) (qBk q) := fun Q k => E_X10_back (B_X10_back_0 (by
  obtain ⟨a0, a1, a2, a3, a4, a5, a6, a7⟩ := h
  refine cV (s_become9 (w := 0) (by decide) a2) (fun u hu => ?_)
  obtain ⟨hR, hT, f⟩ := hu
  have h4 := a2.1.2.2.2.2.1
  have n : ∀ t n, ¬ ((t = 9 ∨ t = 1001 ∨ t = 1002 ∨ t = 1004 ∨ t = 1005) ∧ n = 0) ∧ ¬ ((t = 4 ∨ t = 500 ∨ t = 501) ∧ n < 31) ∧ ¬ ((t = 6 ∨ (700 ≤ t ∧ t ≤ 703)) ∧ n < 4) → ¬ sWt 0 t n := fun t n z q => by unfold sWt inW at q; omega
  have hR1 : RC u 1 (qI q) := a2.fn f (fun t m q => n _ _ (by unfold inW at q; omega))
  rw [show gI u 4 0 5 = nI (wS (qI q) 0) from hR.2.2.2.2.2.2.2.2.1.1]
  refine k _ _ ⟨rfl, ⟨⟨Nat.le_refl _, a0.2⟩, hR, hR1, fun i hi => hT i _ (by have : i < wT (qI q) := hi; omega) (a4 i hi), fun i hi => (a4 i hi).fn f (n _ _ (by omega)) (n _ _ (by omega)) (n _ _ (by omega)) (n _ _ (by omega)) (n _ _ (by omega)), (f.i (n _ _ (by omega))).trans a5, fun j hj => (f.i (n _ _ (by omega))).trans (a6 j hj), ?_⟩, FC.wt f, KC.wt f⟩
  rcases a7 with ⟨b1, b2, b3⟩ | ⟨b1, b2, b3⟩
  · exact Or.inl ⟨(f.i (n _ _ (by omega))).trans b1, b2, b3⟩
  · exact Or.inr ⟨(f.i (n _ _ (by omega))).trans b1, (f.i (n _ _ (by omega))).trans b2, (f.i (n _ _ (by omega))).trans b3⟩))
theorem R_image (h : InvR v q) : GR (d + 2) m_X11_image [vR 11 0] v (nI (wS (qW q) 0)) (qIm q) := fun Q k => E_X11_image (B_X11_image_0 (by
  obtain ⟨a0, a1, a2, a3, a4, a5, a6, a7, a8⟩ := h
  refine cV s_copyA (fun u hu => ?_)
  have n : ∀ t k, t ≠ 1201 → ¬ sT [1201] t k := fun t k z (q : t ∈ [1201]) => by
    simp only [List.mem_cons, List.not_mem_nil, or_false] at q
    exact z q
  have h0 : RRf (gI u 1200 0) (qW q) := a1.cg (fun j _ => hu.2.i (n _ _ (by decide)))
  rw [show gI u 1200 0 5 = nI (wS (qW q) 0) from h0.2.2.2.2.2.2.1.1]
  exact k _ _ ⟨rfl, ⟨⟨Nat.le_refl _, a0.2⟩, h0, hu.1 _ a1, a3.fr hu.2 (fun _ => n _ _ (by decide)), (hu.2.i (n _ _ (by decide))).trans a4, fun j hj => (hu.2.i (n _ _ (by decide))).trans (a5 j hj), (hu.2.i (n _ _ (by decide))).trans a6, (hu.2.i (n _ _ (by decide))).trans a7, (hu.2.i (n _ _ (by decide))).trans a8⟩, Fn.ofT hu.2 (fun t n k (q : t ∈ [1201]) => by
    simp only [List.mem_cons, List.not_mem_nil, or_false] at q
    unfold tRf
    omega)⟩))
theorem R_back (h : InvR v q) : GR (d + 2) m_X11_back [vR 11 0] v (nI (wS (qI q) 0)) (qBk q) := fun Q k => E_X11_back (B_X11_back_0 (by
  obtain ⟨a0, a1, a2, a3, a4, a5, a6, a7, a8⟩ := h
  refine cV s_copyB (fun u hu => ?_)
  have h0 : RRf (gI u 1200 0) (qI q) := hu.1 _ a2
  rw [show gI u 1200 0 5 = nI (wS (qI q) 0) from h0.2.2.2.2.2.2.1.1]
  exact k _ _ ⟨rfl, ⟨⟨Nat.le_refl _, a0.2⟩, h0, a2.cg (fun j _ => hu.2.i (sA_not (by decide))), fun i hi => (a3.fr hu.2 (fun _ => sA_not (by decide))) i (by have : i < wT (qI q) := hi; have := a0.1; omega), (hu.2.i (sA_not (by decide))).trans a4, fun j hj => (hu.2.i (sA_not (by decide))).trans (a5 j hj), (hu.2.i (sA_not (by decide))).trans a6, (hu.2.i (sA_not (by decide))).trans a7, (hu.2.i (sA_not (by decide))).trans a8⟩, FR.ps (sPs_a hu.2)⟩))
/-- the text that rules -/
def wBy (W : z_W) (a : Int32) : z_W × Int32 := if a = -1 ∨ inr a (wT W) = true then ((W.1, W.2.1, W.2.2.1, W.2.2.2.1, W.2.2.2.2.1, W.2.2.2.2.2.1, a, W.2.2.2.2.2.2.2), 1) else (W, 0)
theorem wBy_ok {W : z_W} {a : Int32} (h : okW W) : okW (wBy W a).1 := by
  unfold wBy
  split
  · rename_i e
    refine ⟨h.1, h.2.1, h.2.2.1, h.2.2.2.1, h.2.2.2.2.1, ?_, h.2.2.2.2.2.2⟩
    rcases e with e | e
    · exact Or.inl e
    · obtain ⟨t, h1, h2⟩ := inr_t e
      exact Or.inr ⟨t, h1, h2⟩
  · exact h
theorem C_by {a : Int32} (h : InvC v q) : GC (d + 2) m_X10_by [vR 10 0, vI a] v (wBy (qW q) a).2 (qSet q (wBy (qW q) a).1) := fun Q k => E_X10_by (B_X10_by_0 (by
  have hR := h.2.1
  have hok := wBy_ok (a := a) hR.1
  unfold wBy at k hok
  have yes : (a = -1 ∨ inr a (wT (qW q)) = true) → Q (pI v 9 0 10 a) (some (vI 1)) := fun e => by
    rw [if_pos e] at k hok
    have f : Fn (fun t n => t = 9 ∧ n = 0) v (pI v 9 0 10 a) := Fn.rfl.pI ⟨rfl, rfl⟩
    have f' : Fn (sWo 0) v (pI v 9 0 10 a) := f.mono (fun t n q => Or.inl (Or.inl ⟨Or.inl q.1, q.2⟩))
    obtain ⟨a0, a1, a2, a3, a4, a5, ⟨g, b1, b2, b3⟩, a7, a8, a9⟩ := hR
    refine k _ _ ⟨rfl, h.w0 f' ⟨hok, ?_, ?_, gI_pI_s, ?_, ?_, ⟨g, b1, ?_, fun i hi => (b3 i hi).fn f (by omega) (by omega) (by omega)⟩, fun l hl => ?_, a8.fn f (by omega) (by omega) (by omega), fun i hi => ?_⟩ rfl, FC.w0 f', KC.w0 f'⟩
    · rw [gI_pI_k (by decide)]; exact a1
    · rw [gI_pI_k (by decide)]; exact a2
    · rw [gI_pI_k (by decide)]; exact a4
    · rw [gI_pI_k (by decide)]; exact a5
    · rw [gI_pI_k (by decide)]; exact b2
    · exact ⟨(f.i (by omega)).trans (a7 l hl).1, (f.i (by omega)).trans (a7 l hl).2⟩
    · exact ⟨(f.i (by omega)).trans (a9 i hi).1, (f.i (by omega)).trans (a9 i hi).2⟩
  refine ⟨fun e => yes (Or.inl e), fun e => cP (s_hasTextX hR) (br_n (fun e2 => yes (Or.inr e2)) (fun e2 => ?_))⟩
  rw [if_neg (by rw [e2]; simp [e])] at k
  exact k _ _ ⟨rfl, h, Fn.rfl, Fn.rfl⟩))
theorem R_by {a : Int32} (h : InvR v q) : GR (d + 2) m_X11_by [vR 11 0, vI a] v (wBy (qW q) a).2 (qSet q (wBy (qW q) a).1) := fun Q k => E_X11_by (B_X11_by_0 (by
  have hR := h.2.1
  have hok := wBy_ok (a := a) hR.1
  have ht := hR.1.2.2.2.2.1
  unfold wBy at k hok
  rw [hR.2.2.1]
  refine cP s_isIn ?_
  have e0 : decide ((-1 : Int32) ≤ a ∧ a ≤ nI (wT (qW q)) - 1) = decide (a = -1 ∨ inr a (wT (qW q)) = true) := by
    refine decide_eq_decide.mpr ?_
    have e1 := inr_le (a := a) (n := wT (qW q)) (by omega)
    have em : (nI (wT (qW q)) - 1).toInt = (wT (qW q) : Int) - 1 := by
      generalize wT (qW q) = n at ht
      match n, ht with
      | 0, _ => rfl
      | 1, _ => rfl
      | 2, _ => rfl
      | 3, _ => rfl
      | 4, _ => rfl
    rw [← e1]
    constructor
    · rintro ⟨h1, h2⟩
      by_cases z : a = -1
      · exact Or.inl z
      · refine Or.inr (decide_eq_true ⟨?_, h2⟩)
        rw [Int32.le_iff_toInt_le] at h1 ⊢
        rw [show (-1 : Int32).toInt = -1 by decide] at h1
        have : a.toInt ≠ -1 := fun y => z (by rw [← Int32.toInt_inj, y]; decide)
        rw [Int32.toInt_zero]
        omega
    · rintro (z | z)
      · subst z
        refine ⟨by decide, ?_⟩
        rw [Int32.le_iff_toInt_le, em, show (-1 : Int32).toInt = -1 by decide]
        omega
      · obtain ⟨h1, h2⟩ := of_decide_eq_true z
        refine ⟨?_, h2⟩
        rw [Int32.le_iff_toInt_le] at h1 ⊢
        rw [show (-1 : Int32).toInt = -1 by decide]
        rw [Int32.toInt_zero] at h1
        omega
  rw [e0]
  refine br_n (fun e => ?_) (fun e => ?_)
  · have e := of_decide_eq_true e
    rw [if_pos e] at k hok
    obtain ⟨a0, a1, a2, a3, a4, a5, a6, a7, a8, a9⟩ := hR
    have g : ∀ j, j ≠ 2 → gI (pI v 1200 0 2 a) 1200 0 j = gI v 1200 0 j := fun j hj => gI_pI_k hj
    refine k _ _ ⟨rfl, h.ps (sPs_a Fr_A) ⟨hok, (g _ (by omega)).trans a1, (g _ (by omega)).trans a2, gI_pI_s, (g _ (by omega)).trans a4, (g _ (by omega)).trans a5, a6.cg (fun j _ => g _ (by omega)) (fun j _ => g _ (by omega)) (fun _ _ => rfl), fun i hi => ?_, fun l hl => ⟨(g _ (by omega)).trans (a8 l hl).1, (g _ (by omega)).trans (a8 l hl).2⟩, fun i hi => ⟨(g _ (by omega)).trans (a9 i hi).1, (g _ (by omega)).trans (a9 i hi).2⟩⟩ rfl, FR.ps (sPs_a Fr_A)⟩
    obtain ⟨m, m1, m2, m3, m4⟩ := a7 i hi
    exact ⟨m, m1, (g _ (by omega)).trans m2, m3, m4.cg (fun j _ => g _ (by omega)) (fun j _ => g _ (by omega)) (fun _ _ => rfl)⟩
  · rw [if_neg (of_decide_eq_false e)] at k
    exact k _ _ ⟨rfl, h, Fn.rfl⟩))
end IV2
