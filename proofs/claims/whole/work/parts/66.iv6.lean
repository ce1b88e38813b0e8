/-! whose law, foretold: both sides -/
def laR (W : z_W) (X : z_T) (l : Nat) : Nat := lv (wNet W) (wnu W) (wS W 0) (wS W 2) l 0 X.1 5 10
theorem laR_le {W : z_W} {X : z_T} {l : Nat} : laR W X l ≤ 10 := lv_le (by decide)
def whT (W : z_W) (X : z_T) : Bool := !anyL (wQ W) (fun i => decide (laR W X (wL W i) ≠ wM W i))
def whV (W : z_W) (T : Nat → z_T) (t : Nat) : Nat := bs 4 (fun i => decide (i < t) && whT W (T i))
theorem whV_s {W : z_W} {T : Nat → z_T} {t : Nat} (ht : t < 4) : (if whT W (T t) = true then whV W T t ||| 2 ^ t else whV W T t) = whV W T (t + 1) := by
  have hb := bs_lt 4 (fun i => decide (i < t) && whT W (T i))
  by_cases e : whT W (T t) = true
  · rw [if_pos e]
    refine bs_eq (Nat.or_lt_two_pow hb (Nat.pow_lt_pow_right (by decide) ht)) (fun i hi => ?_)
    unfold whV
    rw [Nat.testBit_or, bs_bit, Nat.testBit_two_pow]
    by_cases q : i = t
    · subst q
      simp [e]
    · simp only [hi, decide_true, Bool.true_and, decide_eq_false (Ne.symm q), Bool.or_false, show (i < t + 1) = (i < t) from propext (by omega)]
  · rw [if_neg e]
    refine bs_cong (fun i hi => ?_)
    by_cases q : i = t
    · subst q
      simp [e]
    · simp only [show (i < t + 1) = (i < t) from propext (by omega)]
section IV6
variable {d : Nat} {v : z_V} {q : z_Q}
theorem s_saysAll {t : Nat} {W : z_W} {X : z_T} (hR : RC v 0 W) (hX : TC v t X) : ZI (d + 6) m_X9_saysAll [vR 9 0, vR 6 t] v (fun u r => r = bI (whT W X) ∧ Fr sTl v u) := fun Q k => E_X9_saysAll (B_X9_saysAll_0 (by
  have h8 := hR.1.2.2.2.2.2.2.1
  refine z_up0 (P := fun i => ∀ u, Fr sTl v u → anyL i (fun i => decide (laR W X (wL W i) ≠ wM W i)) = false → z_Wp (z_C (d + 5)) 4 k_X9_saysAll Q 2 [some (vR 9 0), some (vR 6 t), some (vI (nI i))] [] u) (wQ W) ?_ ?_ v Fr.rfl rfl
  · intro u f e
    refine B_X9_saysAll_2 (pk_le (wQ W) (wQ W) (fun _ => k _ 1 ⟨?_, f⟩) (fun q => absurd q (by omega)) (hR.tl f).2.2.2.2.1)
    unfold whT
    rw [e]
    rfl
  · intro i hi ih u f e
    have hRu := hR.tl f
    have hs := hR.1.2.2.2.2.2.2.2 i hi
    have hsu := hRu.2.2.2.2.2.2.2.2.2 i hi
    have n5 : ∀ t, t ≠ 5 → t ≠ 600 → ∀ k, ¬ sTl t k := fun t h1 h2 k => sTl_not ⟨h1, h2⟩
    have hXu : TC u t X := hX.fn (S := fun t _ => t = 5 ∨ t = 600) (Fn.ofT f (fun t n k (q : t ∈ [5, 600]) => by simpa using q)) (by omega) (by omega) (by omega) (by omega) (by omega)
    refine B_X9_saysAll_2 (pk_le (wQ W) i (fun q => absurd q (by omega)) (fun _ => z_ii i rfl (by omega) ?_) hRu.2.2.2.2.1)
    rw [n_nI (by omega), hsu.1]
    refine cI (s_tellR hRu.ce hXu.1 hs.1) (fun u2 r2 hu2 => ?_)
    have f2 := f.trans hu2.2
    have hm := (hR.tl f2).2.2.2.2.2.2.2.2.2 i hi
    rw [hu2.1, hm.2]
    have hla := laR_le (W := W) (X := X) (l := wL W i)
    refine z_ii i rfl (by omega) (pk_eq (laR W X (wL W i)) (wM W i) (fun z => ?_) (fun z => ?_))
    · rw [nI_1]
      refine ih u2 f2 ?_
      simp only [anyL, e, Bool.false_or]
      exact decide_eq_false (fun y => y z)
    · refine k _ 0 ⟨?_, f2⟩
      unfold whT
      rw [anyL_iff.mpr ⟨i, hi, decide_eq_true z⟩]
      rfl))
theorem C_whose (h : InvC v q) : GC (d + 7) m_X10_whose [vR 10 0] v (nI (whV (qW q) (qT q) (wT (qW q)))) q := fun Q k => E_X10_whose (B_X10_whose_0 (by
  have h4 := h.2.1.1.2.2.2.2.1
  refine z_up0 (P := fun t => ∀ u, Fr sTl v u → z_Wp (z_C (d + 6)) 1 k_X10_whose Q 4 [some (vR 10 0), some (vI (nI (whV (qW q) (qT q) t))), some (vI (nI t))] [] u) (wT (qW q)) ?_ ?_ v Fr.rfl |> fun z => by
      have e0 : whV (qW q) (qT q) 0 = 0 := by
        unfold whV
        exact (bs_eq (by decide) (fun i _ => by simp)).symm
      rw [e0] at z
      exact z
  · intro u f
    exact B_X10_whose_4 (pk_le (wT (qW q)) (wT (qW q)) (fun _ => k _ _ ⟨rfl, h.tl f, FC.tl f, KC.tl f⟩) (fun q => absurd q (by omega)) (h.2.1.tl f).2.2.1)
  · intro t ht ih u f
    have hRu := h.2.1.tl f
    have hXu : TX u 0 (qW q) (qT q) := h.2.2.2.1.wo (w := 0) (sWo_tl f)
    have hb := bs_lt 4 (fun i => decide (i < t) && whT (qW q) (qT q i))
    refine B_X10_whose_4 (pk_le (wT (qW q)) t (fun q => absurd q (by omega)) (fun _ => z_ii t rfl (by omega) ?_) hRu.2.2.1)
    rw [n_nI (by omega)]
    refine cI (s_saysAll hRu (X := qT q t) (hXu t ht : TC u (4 * 0 + t) (qT q t))) (fun u2 r2 hu2 => ?_)
    have hs := whV_s (W := qW q) (T := qT q) (t := t) (by omega)
    rw [hu2.1, nI_1]
    refine br_z (fun e => ?_) (fun e => ?_)
    · rw [if_neg (by rw [e]; decide)] at hs
      rw [hs]
      exact ih u2 (f.trans hu2.2)
    · rw [if_pos e] at hs
      rw [nI_shl (by omega), nI_or, hs]
      exact ih u2 (f.trans hu2.2)))
theorem R_whose (h : InvR v q) : GR (d + 7) m_X11_whose [vR 11 0] v (nI (whV (qW q) (qT q) (wT (qW q)))) q := fun Q k => E_X11_whose (B_X11_whose_0 (by
  have hR := h.2.1
  have h4 := hR.1.2.2.2.2.1
  have h8 := hR.1.2.2.2.2.2.2.1
  have hn := hR.1.n
  have rr : ∀ {u}, Fr sTr v u → RRf (gI u 1200 0) (qW q) := fun f => hR.fr f (fun _ => sTr_not (by decide))
  refine z_up0 (P := fun t => ∀ u, Fr sTr v u → ∀ u3 u4, z_Wp (z_C (d + 6)) 1 k_X11_whose Q 4 [some (vR 11 0), some (vI (nI (whV (qW q) (qT q) t))), some (vI (nI t)), u3, u4] [] u) (wT (qW q)) ?_ ?_ v Fr.rfl none none |> fun z => by
      have e0 : whV (qW q) (qT q) 0 = 0 := by
        unfold whV
        exact (bs_eq (by decide) (fun i _ => by simp)).symm
      rw [e0] at z
      exact z
  · intro u f u3 u4
    exact B_X11_whose_4 (pk_le (wT (qW q)) (wT (qW q)) (fun _ => k _ _ ⟨rfl, h.tr f, FR.tr f⟩) (fun q => absurd q (by omega)) (rr f).2.2.1)
  · intro t ht ih u f u3 u4
    have hb := bs_lt 4 (fun i => decide (i < t) && whT (qW q) (qT q i))
    refine B_X11_whose_4 (pk_le (wT (qW q)) t (fun q => absurd q (by omega)) (fun _ => ?_) (rr f).2.2.1)
    refine z_up0 (P := fun i => ∀ (b : Bool) u, b = (!anyL i (fun i => decide (laR (qW q) (qT q t) (wL (qW q) i) ≠ wM (qW q) i))) → Fr sTr v u → z_Wp (z_C (d + 6)) 1 k_X11_whose Q 20 [some (vR 11 0), some (vI (nI (whV (qW q) (qT q) t))), some (vI (nI t)), some (vI (bI b)), some (vI (nI (37 + 2 * i)))] [] u) (wQ (qW q)) ?_ ?_ true u rfl f
    · intro b u hb2 f
      refine B_X11_whose_20 ?_
      rw [(rr f).2.2.2.2.2.1, show (37 : Int32) + 2 * nI (wQ (qW q)) = nI (37 + 2 * wQ (qW q)) by rw [show (37 : Int32) = nI 37 from rfl, show (2 : Int32) = nI 2 from rfl, pk_mul, nI_add], nI_1]
      refine pk_le (37 + 2 * wQ (qW q)) (37 + 2 * wQ (qW q)) (fun _ => ?_) (fun q => absurd q (by omega))
      have hs := whV_s (W := qW q) (T := qT q) (t := t) (by omega)
      have hb2 : b = whT (qW q) (qT q t) := hb2
      refine br_z (fun e => ?_) (fun e => ?_)
      · rw [if_neg (by rw [← hb2, e]; decide)] at hs
        rw [show nI (whV (qW q) (qT q) t) ||| 0 = nI (whV (qW q) (qT q) t) by rw [show (0 : Int32) = nI 0 from rfl, nI_or, Nat.or_zero], hs]
        exact ih u f _ _
      · rw [if_pos (by rw [← hb2, e])] at hs
        rw [nI_shl (by omega), nI_or, hs]
        exact ih u f _ _
    · intro i hi ihi b u hb2 f
      have hs := hR.1.2.2.2.2.2.2.2 i hi
      have hsu := (rr f).2.2.2.2.2.2.2.2.2 i hi
      refine B_X11_whose_20 ?_
      rw [(rr f).2.2.2.2.2.1, show (37 : Int32) + 2 * nI (wQ (qW q)) = nI (37 + 2 * wQ (qW q)) by rw [show (37 : Int32) = nI 37 from rfl, show (2 : Int32) = nI 2 from rfl, pk_mul, nI_add], show nI (37 + 2 * i) + 2 = nI (37 + 2 * (i + 1)) from nI_add _ 2, show nI (37 + 2 * i) + 1 = nI (38 + 2 * i) by rw [nI_1]; congr 1; omega]
      refine pk_le (37 + 2 * wQ (qW q)) (37 + 2 * i) (fun q => absurd q (by omega)) (fun _ => ?_)
      refine br_z (fun e => ?_) (fun e => ?_)
      · refine ihi false u ?_ f
        simp only [anyL, Bool.not_or, ← hb2, e, Bool.false_and]
      · refine z_ii _ rfl (by omega) ?_
        rw [n_nI (by omega), hsu.1]
        refine cI (s_ridesR (rr f).me hs.1 (by omega) ((h.2.2.2.1.fr f (fun _ => sTr_not (by decide))) t ht)) (fun u2 r2 hu2 => ?_)
        have f2 := f.trans hu2.2
        have hm := (rr f2).2.2.2.2.2.2.2.2.2 i hi
        refine z_ii _ rfl (by omega) ?_
        rw [n_nI (by omega), hu2.1, hm.2]
        have hla := laR_le (W := qW q) (X := qT q t) (l := wL (qW q) i)
        refine pk_ne (laR (qW q) (qT q t) (wL (qW q) i)) (wM (qW q) i) (fun z => ihi false u2 ?_ f2) (fun z => ihi true u2 ?_ f2) rfl rfl (by omega) (by omega)
        · simp only [anyL, decide_eq_true z, Bool.or_true]
          rfl
        · simp only [anyL, decide_eq_false (fun y => y z : ¬ (laR (qW q) (qT q t) (wL (qW q) i) ≠ wM (qW q) i)), Bool.or_false, ← hb2, e]))
/-- standings alike but for the book -/
def ag (s s' : z_St) : Prop := ∀ k, k < 12 → k ≠ 3 → s k = s' k
theorem lv_cg {N : z_N} {nu nu' : Nat → Nat} {D F wh num wo top : Nat} {law : Option z_X} (h : nWF N) (e : ∀ g, g < 7 → nu g = nu' g) : lv N nu D F wh num law wo top = lv N nu' D F wh num law wo top := by
  have hf : fav N nu = fav N nu' := by
    funext x
    unfold fav
    by_cases z : 0 ≤ x ∧ x < (nN N : Int)
    · rw [if_pos z, if_pos z]
      have hw := h.2.2.1 x.toNat (by omega)
      unfold fare
      rw [e _ hw.1, e _ hw.2.1]
    · rw [if_neg z, if_neg z]
  have hg : sgv nu = sgv nu' := by
    funext x
    unfold sgv
    by_cases z : 0 ≤ x ∧ x < 7
    · rw [if_pos z, if_pos z, e _ (by omega)]
    · rw [if_neg z, if_neg z]
  have hm : nmv N nu D F wh num = nmv N nu' D F wh num := by
    funext k
    match k with
    | 0 => rfl
    | 1 => rfl
    | 2 => rfl
    | 3 => rfl
    | 4 =>
      show fav N nu wh = fav N nu' wh
      rw [hf]
    | 5 =>
      show (if wh < nN N then _ else _) = (if wh < nN N then _ else _)
      by_cases z : wh < nN N
      · have hw := h.2.2.1 wh z
        rw [if_pos z, if_pos z, e _ hw.1, e _ hw.2.1]
      · rw [if_neg z, if_neg z]
    | 6 =>
      show (if wh < nN N then _ else _) = (if wh < nN N then _ else _)
      by_cases z : wh < nN N
      · have hw := h.2.2.1 wh z
        rw [if_pos z, if_pos z, e _ hw.1, e _ hw.2.1]
      · rw [if_neg z, if_neg z]
    | 7 =>
      show sgv nu wh = sgv nu' wh
      rw [hg]
    | 8 => rfl
    | _ + 9 => rfl
  unfold lv
  rw [hf, hg, hm]
theorem rid_ag {W : z_W} {T : Nat → z_T} {s s' : z_St} {l : Nat} (hW : okW W) (h : ag s s') : wRid W T s l = wRid W T s' l := by
  have hn : wNet (wS' W s) = wNet (wS' W s') := by
    show (wN W, (2 ^ wN W - 1 - s 4, (wA W, wB W))) = (wN W, (2 ^ wN W - 1 - s' 4, (wA W, wB W)))
    rw [h 4 (by decide) (by decide)]
  unfold wRid rdV
  rw [show wTx (wS' W s) T = wTx (wS' W s') T from rfl, hn, show wS (wS' W s) 0 = wS (wS' W s') 0 from h 0 (by decide) (by decide), show wS (wS' W s) 2 = wS (wS' W s') 2 from h 2 (by decide) (by decide)]
  split
  · rfl
  · exact lv_cg (nWF_o hW.1 (by have := Nat.two_pow_pos (wN W); show 2 ^ wN W - 1 - s' 4 < 2 ^ wN W; omega)) (fun g hg => h (5 + g) (by omega) (by omega))
theorem fr_ag {W : z_W} {s s' : z_St} {l : Nat} (hW : okW W) (h : ag s s') (hl : l < wN W) : wFr W s l = wFr W s' l := by
  have hw := hW.1.2.2.1 l hl
  show dst (s (5 + wA W l)) (s (5 + wB W l)) = dst (s' (5 + wA W l)) (s' (5 + wB W l))
  rw [h (5 + wA W l) (by have : wA W l < 7 := hw.1; omega) (by omega), h (5 + wB W l) (by have : wB W l < 7 := hw.2.1; omega) (by omega)]
theorem ag_sU {s s' : z_St} {k x : Nat} (h : ag s s') : ag (sU s k x) (sU s' k x) := fun j h1 h2 => by
  by_cases e : j = k
  · subst e
    rw [sU_s, sU_s]
  · rw [sU_n e, sU_n e]
    exact h j h1 h2
theorem ag_w {s s' : z_St} {a b c : Nat} (h : ag s s') : ag (sWr s a b c) s' := fun j h1 h2 => by
  unfold sWr
  split
  · rw [sU_n h2, sU_n (by omega)]
    exact h j h1 h2
  · rw [sU_n h2, sU_n (by omega), sSh_o (by omega)]
    exact h j h1 h2
theorem pd_ag {W : z_W} {T : Nat → z_T} (hW : okW W) : ∀ {k l : Nat} {s s' : z_St} {c c' : Nat}, l + k = wN W → ag s s' → ag (pdL (wRid W T) (wFr W) k l s c).1 (pdG false (wRid W T) (wFr W) k l s' c').1 ∧ ∀ j, (j = 3 ∨ 12 ≤ j) → (pdG false (wRid W T) (wFr W) k l s' c').1 j = s' j
  | 0, _, _, _, _, _, _, h => ⟨h, fun _ _ => rfl⟩
  | k + 1, l, s, s', c, c', hl, h => by
    unfold pdL pdG
    have hd : ag (sDr s) (sDr s') := by
      unfold sDr
      rw [h 1 (by decide) (by decide)]
      exact ag_sU h
    have hdj : ∀ j, (j = 3 ∨ 12 ≤ j) → sDr s' j = s' j := fun j hj => sU_n (by omega)
    rw [h 4 (by decide) (by decide), h 1 (by decide) (by decide), rid_ag hW hd, h 2 (by decide) (by decide), fr_ag hW h (show l < wN W by omega)]
    split
    · exact pd_ag hW (by omega) h
    · split
      · have := pd_ag (T := T) (k := k) (l := l + 1) (c := c + wFr W s' l) (c' := c' + wFr W s' l) hW (by omega) (ag_w (a := 2) (b := l) (c := wFr W s' l) (ag_sU (k := 2) (x := min 99999 (s' 2 + wFr W s' l)) hd))
        exact ⟨this.1, fun j hj => (this.2 j hj).trans ((sU_n (by omega)).trans (hdj j hj))⟩
      · have := pd_ag (T := T) (k := k) (l := l + 1) (c := c) (c' := c') hW (by omega) hd
        exact ⟨this.1, fun j hj => (this.2 j hj).trans (hdj j hj)⟩
/-- so many days foretold -/
def wFo (W : z_W) (T : Nat → z_T) : Nat → z_St → z_St
  | 0, s => s
  | k + 1, s => if s 0 < 9999 then wFo W T k (sU (pdL (wRid W T) (wFr W) (wN W) 0 s 0).1 0 ((pdL (wRid W T) (wFr W) (wN W) 0 s 0).1 0 + 1)) else s
def foV (W : z_W) (T : Nat → z_T) (a : Int32) : Int32 := if irg a 1 60 = true then nI (wFo W T (n_ a) (wS W) 2) else -1
theorem C_foretold {a : Int32} (h : InvC v q) : GC (d + 7) m_X10_foretold [vR 10 0, vI a] v (foV (qW q) (qT q) a) q := fun Q k => E_X10_foretold (B_X10_foretold_0 (by
  have hR := h.2.1
  have no : irg a 1 60 = false → Q v (some (vI (-1))) := fun e => k _ _ ⟨by unfold foV; rw [e]; rfl, h, Fn.rfl, Fn.rfl⟩
  have yes : irg a 1 60 = true → z_C (d + 6) m_X4_become [vR 4 62, vR 4 0] v (fun w1 o2 => o2 = none ∧ z_Wp (z_C (d + 6)) 1 k_X10_foretold Q 29 [some (vR 10 0), some (vI a), some (vI 0)] [] w1) := fun e => by
    unfold foV at k
    rw [if_pos e] at k
    obtain ⟨n, n1, n2, rfl, hn⟩ := irg_i (lo := 1) (hi := 60) e
    rw [hn] at k
    have hS0 : RS v 0 (wS (qW q)) := hR.2.2.2.2.2.2.2.2.1
    refine cV (s_become4 (a := 62) hS0 (by decide)) (fun u0 hu0 => ?_)
    obtain ⟨hS62, f0⟩ := hu0
    have n62 : ∀ t m, inW 0 t m → ¬ sSt 62 t m := fun t m z y => by unfold inW at z; unfold sSt at y; omega
    have hR0 : RC u0 0 (qW q) := hR.fn f0 n62
    have hX0 : TX u0 0 (qW q) (qT q) := fun i hi => (h.2.2.2.1 i hi).fn f0 (by unfold sSt; omega) (by unfold sSt; omega) (by unfold sSt; omega) (by unfold sSt; omega) (by unfold sSt; omega)
    have key : ∀ j i (s : z_St) (u : z_V), i + j = n → RC u 0 (wS' (qW q) s) → TX u 0 (qW q) (qT q) → Fn (sWo 0) u0 u → (∀ u' s', wFo (qW q) (qT q) j s = s' → RC u' 0 (wS' (qW q) s') → Fn (sWo 0) u0 u' → z_C (d + 6) m_X4_become [vR 4 0, vR 4 62] u' (fun w1 o2 => o2 = none ∧ Q w1 (some (vI (nI (s' 2)))))) → z_Wp (z_C (d + 6)) 1 k_X10_foretold Q 29 [some (vR 10 0), some (vI (nI n)), some (vI (nI i))] [] u := by
      intro j
      induction j with
      | zero =>
        intro i s u hij hRu hXu f k
        refine B_X10_foretold_29 (pk_le n i (fun _ => ?_) (fun q => absurd q (by omega)))
        rw [show gI u 4 0 4 = nI (s 2) from hRu.2.2.2.2.2.2.2.2.1.2.2.1]
        exact k u s rfl hRu f
      | succ j ih =>
        intro i s u hij hRu hXu f k
        have hd := hRu.1.2.1.1
        refine B_X10_foretold_29 (pk_le n i (fun q => absurd q (by omega)) (fun _ => ?_))
        unfold wFo at k
        refine pk_le 9999 (s 0) (fun z => ?_) (fun z => ?_) rfl hRu.2.2.2.2.2.2.2.2.1.1 (by omega) (by have : s 0 ≤ 9999 := hd; omega)
        · rw [show gI u 4 0 4 = nI (s 2) from hRu.2.2.2.2.2.2.2.2.1.2.2.1]
          exact k u s (by rw [if_neg (by omega)]) hRu f
        · rw [if_pos z] at k
          refine cI (s_passDay (b := false) hRu (hXu.T rfl) z) (fun u2 r2 hu2 => ?_)
          rw [nI_1]
          exact ih (i + 1) _ u2 (by omega) hu2.2.1 (hXu.wo hu2.2.2) (f.trans hu2.2.2) k
    refine key n 0 (wS (qW q)) u0 (by omega) hR0 hX0 Fn.rfl (fun u' s' hs' hR' f' => ?_)
    have hS62' : RS u' 62 (wS (qW q)) := hS62.fn f' (by unfold sWo inW; omega) (by unfold sWo inW; omega) (by unfold sWo inW; omega)
    refine cV (s_become4 (a := 0) hS62' (by decide)) (fun u2 hu2 => ?_)
    have hRf : RC u2 0 (qW q) := hR'.set (s := wS (qW q)) hu2.2 hR.1.2.1 hu2.1
    have fF : Fn (fun t m => sWo 0 t m ∨ sSt 62 t m) v u2 := (f0.mono (fun t m z => Or.inr z)).trans ((f'.mono (fun t m z => Or.inl z)).trans ((sWo_st (w := 0) (by omega) (by omega) hu2.2).mono (fun t m z => Or.inl z)))
    rw [← hs']
    refine k _ _ ⟨rfl, ?_, fF.mono (fun t m z => by unfold sWo inW sSt at z; unfold tCl; omega), fF.mono (fun t m z => by unfold sWo inW sSt at z; unfold tCa; omega)⟩
    have hI0 : InvC u0 q := h.sc f0 (fun t m z => Or.inl (by unfold sSt at z; unfold tSc; omega))
    exact hI0.w0 (W := qW q) (f'.trans (sWo_st (w := 0) (by omega) (by omega) hu2.2)) hRf rfl
  have i := irg_s (a := a) (lo := 1) (hi := 60) (A := Q v (some (vI (-1)))) (B := Q v (some (vI (-1)))) (C := irg a 1 60 = true) (by decide) (by decide) (fun e => no e) (fun e => no e) (fun e => e)
  exact ⟨i.1, fun z => ⟨fun z2 => yes ((i.2 z).2 (Int32.not_lt.mpr z2)), fun z2 => (i.2 z).1 (Int32.not_le.mp z2)⟩⟩))
theorem R_foretold {a : Int32} (h : InvR v q) : GR (d + 8) m_X11_foretold [vR 11 0, vI a] v (foV (qW q) (qT q) a) q := fun Q k => E_X11_foretold (B_X11_foretold_0 (by
  have hR := h.2.1
  have hW := hR.1
  refine cP s_isIn ?_
  have e0 : decide ((1 : Int32) ≤ a ∧ a ≤ 60) = irg a 1 60 := by
    unfold irg
    refine decide_eq_decide.mpr ?_
    rw [Int32.le_iff_toInt_le, Int32.le_iff_toInt_le]
    exact Iff.rfl
  rw [e0]
  unfold foV at k
  refine br_n (fun e => ?_) (fun e => k _ _ ⟨by rw [e]; rfl, h, Fn.rfl⟩)
  rw [if_pos e] at k
  obtain ⟨n, n1, n2, rfl, hn⟩ := irg_i (lo := 1) (hi := 60) e
  rw [hn] at k
  -- put aside
  have fS : ∀ {u : z_V}, Fn (fun t m => (t = 11 ∨ t = 1200 ∨ t = 1220 ∨ t = 1221 ∨ t = 1222 ∨ t = 1225)) v u → FR v u := fun f => f.mono (fun t m z => by unfold tRf; omega)
  refine z_up (P := fun i => 5 ≤ i → ∀ u, Fr (sT [1225]) v u → (∀ j, 5 ≤ j → j < i → gI u 1225 0 j = gI v 1200 0 j) → ∀ u3, z_Wp (z_C (d + 7)) 1 k_X11_foretold Q 14 [some (vR 11 0), some (vI (nI n)), some (vI (nI i)), u3] [] u) 17 ?_ ?_ 5 (by decide) (Nat.le_refl _) v Fr.rfl (fun j h1 h2 => by omega) _
  · intro _ u f hA u3
    refine B_X11_foretold_14 (pk_le 17 17 (fun _ => ?_) (fun q => absurd q (by decide)))
    have nA : ∀ t k, t ≠ 1225 → ¬ sT [1225] t k := fun t k z (y : t ∈ [1225]) => by
      simp only [List.mem_cons, List.not_mem_nil, or_false] at y
      exact z y
    have hR1 : RRf (gI (pI u 11 0 23 0) 1200 0) (qW q) := hR.cg (fun j _ => by rw [gI_pI_t (by decide)]; exact f.i (nA _ _ (by decide)))
    have hT1 : TXR (pI u 11 0 23 0) (qW q) (qT q) := (h.2.2.2.1.fr f (fun _ => nA _ _ (by decide))).fr (S := fun t _ => t = 11) (Fr.rfl.pI rfl) (fun _ => by decide)
    have hA1 : ∀ j, 5 ≤ j → j < 17 → gI (pI u 11 0 23 0) 1225 0 j = gI v 1200 0 j := fun j h1 h2 => by rw [gI_pI_t (by decide)]; exact hA j h1 h2
    obtain ⟨c0, hc0⟩ := nI_all (gI (pI u 11 0 23 0) 11 0 24)
    have key : ∀ j i (s s' : z_St) (c : Nat) (u2 : z_V), i + j = n → ag s s' → (∀ j, (j = 3 ∨ 12 ≤ j) → s' j = wS (qW q) j) → RRf (gI u2 1200 0) (wS' (qW q) s') → gI u2 11 0 24 = nI c → Fr sPs (pI u 11 0 23 0) u2 → (∀ u' s2, (∀ j, (j = 3 ∨ 12 ≤ j) → s2 j = wS (qW q) j) → s2 2 = wFo (qW q) (qT q) j s 2 → RRf (gI u' 1200 0) (wS' (qW q) s2) → Fr sPs (pI u 11 0 23 0) u' → z_Wp (z_C (d + 7)) 1 k_X11_foretold Q 82 [some (vR 11 0), some (vI (nI n)), some (vI (nI (s2 2))), some (vI 5)] [] u') → ∀ u3, z_Wp (z_C (d + 7)) 1 k_X11_foretold Q 45 [some (vR 11 0), some (vI (nI n)), some (vI (nI i)), u3] [] u2 := by
      intro j
      induction j with
      | zero =>
        intro i s s' c u2 hij hag hpg hRu hc f2 k u3
        refine B_X11_foretold_45 (pk_le n i (fun _ => ?_) (fun q => absurd q (by omega)))
        rw [show gI u2 1200 0 7 = nI (s' 2) from hRu.2.2.2.2.2.2.1.2.2.1]
        exact k u2 s' hpg (hag 2 (by decide) (by decide)).symm hRu f2
      | succ j ih =>
        intro i s s' c u2 hij hag hpg hRu hc f2 k u3
        have hd : s' 0 ≤ 9999 := hRu.1.2.1.1
        have hs0 : s 0 = s' 0 := hag 0 (by decide) (by decide)
        refine B_X11_foretold_45 (pk_le n i (fun q => absurd q (by omega)) (fun _ => ?_))
        rw [nI_1]
        unfold wFo at k
        refine pk_le 9999 (s' 0) (fun z => ?_) (fun z => ?_) rfl hRu.2.2.2.2.2.2.1.1
        · refine ih (i + 1) s s' c u2 (by omega) hag hpg hRu hc f2 (fun u' s2 h1 h2 h3 h4 => k u' s2 h1 ?_ h3 h4) _
          rw [h2, if_neg (by omega)]
          have : ∀ j, wFo (qW q) (qT q) j s = s := fun j => by
            cases j with
            | zero => rfl
            | succ j =>
              unfold wFo
              rw [if_neg (by omega)]
          rw [this]
        · rw [if_pos (by omega)] at k
          have hpd := pd_ag (T := qT q) (k := wN (qW q)) (l := 0) (c := 0) (c' := c) hW (by omega) hag
          have hw0 : gI u2 11 0 23 = bI false := (f2.i (sPs_not (by omega))).trans gI_pI_s
          refine cV (s_passR (b := false) (T := qT q) hRu ((hT1.ps f2).T rfl) hw0 z hc) (fun u4 hu4 => ?_)
          have e1 : wRid (wS' (qW q) s') (qT q) = wRid (qW q) (qT q) := rfl
          refine ih (i + 1) _ _ _ u4 (by omega) ?_ (fun j hj => ?_) hu4.1 hu4.2.1 (f2.trans hu4.2.2) k _
          · have h0 := hpd.1 0 (by decide) (by decide)
            intro m m1 m2
            by_cases y : m = 0
            · subst y
              rw [sU_s, sU_s]
              exact congrArg (· + 1) h0
            · rw [sU_n y, sU_n y]
              exact hpd.1 m m1 m2
          · rw [sU_n (by omega)]
            exact (hpd.2 j hj).trans (hpg j hj)
    refine key n 0 (wS (qW q)) (wS (qW q)) c0 _ (by omega) (fun _ _ _ => rfl) (fun _ _ => rfl) hR1 hc0 Fr.rfl (fun u' s2 h1 h2 h3 h4 => ?_) _
    -- back again
    refine z_up (P := fun i => 5 ≤ i → ∀ w, Fr (sT [1200]) u' w → (∀ j, 5 ≤ j → j < i → gI w 1200 0 j = gI v 1200 0 j) → (∀ j, (j < 5 ∨ 17 ≤ j) → gI w 1200 0 j = gI u' 1200 0 j) → ∀ u1, z_Wp (z_C (d + 7)) 1 k_X11_foretold Q 82 [some (vR 11 0), u1, some (vI (nI (s2 2))), some (vI (nI i))] [] w) 17 ?_ ?_ 5 (by decide) (Nat.le_refl _) u' Fr.rfl (fun j g1 g2 => by omega) (fun j _ => rfl) _
    · intro _ w f3 hB hO u1
      refine B_X11_foretold_82 (pk_le 17 17 (fun _ => ?_) (fun q => absurd q (by decide)))
      rw [h2]
      have hT := hR.2.2.2.2.2.2.1
      have hTw : RT (gI w 1200 0) 5 1193 (wN (qW q)) (wS (qW q)) := by
        obtain ⟨b0, b1, b2, b3, b4, b5, b6⟩ := hT
        refine ⟨(hB 5 (by decide) (by decide)).trans b0, (hB 6 (by decide) (by decide)).trans b1, (hB 7 (by decide) (by decide)).trans b2, (hB 8 (by decide) (by decide)).trans b3, (hB 9 (by decide) (by decide)).trans b4, fun g hg => (hB _ (by omega) (by omega)).trans (b5 g hg), fun g hg => ?_⟩
        rw [hO _ (by omega)]
        have := h3.2.2.2.2.2.2.1.2.2.2.2.2.2 g hg
        rw [this]
        show nI (s2 (12 + g)) = _
        rw [h1 _ (by omega)]
      have hRw : RRf (gI w 1200 0) (qW q) := h3.set (s := wS (qW q)) (fun j g1 g2 => hO j (by omega)) hW.2.1 hTw
      have fT : Fr (fun t k => (t = 11 ∧ k = 23) ∨ t = 1225 ∨ sPs t k) v (pI w 11 0 23 1) := (((f.mono (fun t k (z : t ∈ [1225]) => by
        simp only [List.mem_cons, List.not_mem_nil, or_false] at z
        exact Or.inr (Or.inl z))).pI (Or.inl ⟨rfl, rfl⟩)).trans ((h4.mono (fun t k z => Or.inr (Or.inr z))).trans ((sPs_a f3).mono (fun t k z => Or.inr (Or.inr z))))).pI (Or.inl ⟨rfl, rfl⟩)
      have nT : ∀ t k, ¬ ((t = 11 ∧ k = 23) ∨ t = 1225 ∨ (t = 11 ∧ k = 24) ∨ t = 1200 ∨ t = 1220 ∨ t = 1221 ∨ t = 1222) → ¬ ((t = 11 ∧ k = 23) ∨ t = 1225 ∨ sPs t k) := fun t k z y => by unfold sPs at y; omega
      obtain ⟨a0, a1, a2, a3, a4, a5, a6, a7, a8⟩ := h
      refine k _ _ ⟨rfl, ⟨a0, hRw.cg (fun j _ => gI_pI_t (by decide)), a2.cg (fun j _ => fT.i (nT _ _ (by omega))), a3.fr fT (fun _ => nT _ _ (by omega)), (fT.i (nT _ _ (by omega))).trans a4, fun j hj => (fT.i (nT _ _ (by omega))).trans (a5 j hj), (fT.i (nT _ _ (by omega))).trans a6, (fT.i (nT _ _ (by omega))).trans a7, gI_pI_s⟩, Fn.ofT fT (fun t m k z => by unfold sPs at z; unfold tRf; omega)⟩
    · intro i hi ih h5 w f3 hB hO u1
      have n25 : gI w 1225 0 i = gI v 1200 0 i := by
        rw [f3.i (sA_not (by decide)), h4.i (sPs_not (by omega))]
        exact hA1 i h5 hi
      refine B_X11_foretold_82 (pk_le 17 i (fun q => absurd q (by omega)) (fun _ => z_ii i rfl hi (z_ii i rfl (by omega) ?_)))
      rw [n_nI (by omega), n25, nI_1]
      refine ih (by omega) _ (f3.trans Fr_A) (fun j g1 g2 => ?_) (fun j g1 => ?_) _
      · by_cases y : j = i
        · subst y
          rw [gI_pI_s]
        · rw [gI_pI_k y]
          exact hB j g1 (by omega)
      · rw [gI_pI_k (by omega)]
        exact hO j g1
  · intro i hi ih h5 u f hA u3
    have nA : ∀ t k, t ≠ 1225 → ¬ sT [1225] t k := fun t k z (y : t ∈ [1225]) => by
      simp only [List.mem_cons, List.not_mem_nil, or_false] at y
      exact z y
    refine B_X11_foretold_14 (pk_le 17 i (fun q => absurd q (by omega)) (fun _ => z_ii i rfl (by omega) (z_ii i rfl hi ?_)))
    rw [n_nI (by omega), nI_1, f.i (nA 1200 _ (by decide))]
    refine ih (by omega) _ (f.pI (by decide : 1225 ∈ [1225])) (fun j g1 g2 => ?_) _
    by_cases y : j = i
    · subst y
      rw [gI_pI_s]
    · rw [gI_pI_k y]
      exact hA j g1 (by omega)))
end IV6
