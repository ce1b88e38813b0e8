/-! the reference reads sums and asks: parts that go on, parts that close, operands that begin -/
def opO (c : Nat) : Nat := if c = 38 then 40 else if c = 18 then 2 else if c = 19 then 4 else if c = 20 then 41 else if c = 35 then 5 else 20
section RR4
variable {d : Nat} {B : Nat → Nat} {n kk : Nat} {r : Bool} {p iw w : Nat} {X : List Nat} {u : z_V}
theorem cls_fr {u' : z_V} {us : List Nat} {S : Nat → Nat → Prop} (h : cls kk w us u) (f : Fr S u u') (hs : ∀ k, k < 681 * kk + 73 + 2 * (w + us.length) → ¬ S 1202 k) : cls kk w us u' := fun i hi => by
  rw [gC_eq f (hs _ (by omega)) (hs _ (by omega))]
  exact h i hi
theorem rk0 {o : Nat} (h : 40 ≤ o) : rkR o = 0 := if_pos h
theorem oN_T (h : opT X ≠ 0) : oN X = nI (opT X) := if_neg h
theorem sm_part {Q : z_RT} {us : List Nat} {o o' : Nat} (h : StR B n kk r u p 1 (us ++ o :: X) w) (ho : btw (tkC B n p) (us ++ o :: X) = 0) (hpt : ptI (tkC B n p) (us ++ o :: X) = nI o') (ho' : o' = 42 ∨ o' = 43) (ho4 : 40 ≤ o) (hus : ∀ x, x ∈ us → 1 ≤ rkR x) (hw : w + us.length ≤ 300) (hp : p ≤ n) (hd : 5 ≤ d) (k : ∀ u', StR B n kk r u' (nxT B n p) 0 (o' :: X) (w + us.length) → cls kk w us u' → Fr (fSu kk w) u u' → SMQ d Q u') : SMQ d Q u := fun u1 => by
  obtain ⟨e, rfl⟩ : ∃ e, d = e + 1 := ⟨d - 1, by omega⟩
  refine B_X11_summed_15 ?_
  rw [h.iw1]
  refine ⟨fun z => absurd z (by decide), fun _ => cI (P := fun u' x => x = 1 ∧ StR B n kk r u' (nxT B n p) 0 (o' :: X) (w + us.length) ∧ cls kk w us u' ∧ Fr (fSu kk w) u u') (fun Q k => E_X11_behindOne (B_X11_behindOne_0 (cP (s_between h (d := e) (by omega)) ?_))) (fun w4 x h4 => b_1' h4.1 (k w4 h4.2.1 h4.2.2.1 h4.2.2.2 _))⟩
  rw [ho, m1_0]
  refine ⟨fun _ => cP (s_openNow h.pl (d := e) (by omega)) (cP (s_partOf h (d := e) (by omega)) ?_), fun z => absurd (show (-1 : Int32) < 0 by decide) z⟩
  rw [hpt]
  have n0 : (0 : Int32) ≤ nI o' := by rcases ho' with rfl | rfl <;> decide
  have n1 : ¬ nI o' ≤ 0 := by rcases ho' with rfl | rfl <;> decide
  refine ⟨fun _ => cV (s_settle (s := 1) (us := us) (X := o :: X) (d := e) (by decide) (by decide) (by omega) h hus (by show rkR o < 1; rw [rk0 ho4]; decide) hw) (fun w10 h10 => ?_), fun z => absurd n0 z⟩
  obtain ⟨b1, b2, b3⟩ := h10
  refine cV (s_nextR hp (d := e) (by omega) b1) (fun w12 h12 => ⟨fun z => absurd z n1, fun _ => cP (s_openAt h12.1.pl (d := e) (by omega)) ?_⟩)
  have hA : opA (o :: X) = nI X.length := if_pos ho4
  have bp := h12.1.pl
  have hl : X.length + 1 ≤ 100 := bp.2.2
  rw [hA, n_nI (by omega)]
  have f : Fr (fun t k => t = 1215 ∧ k = X.length ∨ t = 11 ∧ k = 18) w12 (pI (pI w12 1215 0 X.length (nI o')) 11 0 18 0) := (Fr.rfl.pI (Or.inl ⟨rfl, rfl⟩)).pI (Or.inr ⟨rfl, rfl⟩)
  have b1' := h12.1
  obtain ⟨a1, a2, a3, a4, a5, a6, a7, a8, a9, a10⟩ := h12.1
  refine z_ii X.length rfl (by omega) (k _ 1 ⟨rfl, ?_, ?_, ?_⟩)
  · refine b1'.re f (fun k q => by omega) (fun k q => by omega) ((f.i (by omega)).trans a5) gI_pI_s ⟨(f.i (by omega)).trans bp.1, ⟨?_, by omega, bp.2.1.2.2.fr (fun i hi => f.i (by omega))⟩, hl⟩ ((f.i (by omega)).trans ?_) ?_
    · rw [gI_pI_ne (fun z => absurd z.1 (by decide)), gI_pI_s]
    · rw [a8]
      show nI (isO o + opN X) = nI (isO o' + opN X)
      unfold isO
      rw [if_pos (by omega), if_pos (by omega)]
    · show isO o' + opN X ≤ 8
      have a9 : isO o + opN X ≤ 8 := a9
      unfold isO at a9 ⊢
      rw [if_pos (by omega)] at a9 ⊢
      exact a9
  · exact cls_fr (cls_fr (S := fTq) b2 h12.2 (fun k _ => by unfold fTq; omega)) f (fun k _ => by omega)
  · exact ((fSt_su b3 (Nat.le_refl _)).trans (fTq_su h12.2)).trans (f.mono (fun t k q => by unfold fSu; omega))
theorem sm_close {Q : z_RT} {us vs : List Nat} {o : Nat} (h : StR B n kk r u p 1 (us ++ o :: (vs ++ X)) w) (ho : btw (tkC B n p) (us ++ o :: (vs ++ X)) = 0) (hpt : ptI (tkC B n p) (us ++ o :: (vs ++ X)) = 0) (hop : opT (us ++ o :: (vs ++ X)) = o) (ho4 : 40 ≤ o) (hus : ∀ x, x ∈ us → 1 ≤ rkR x) (hvs : ∀ x, x ∈ vs → 7 ≤ rkR x) (ht : tpP X < 7) (hw : w + us.length + (if o = 43 then 1 else 0) + vs.length ≤ 300) (hp : p ≤ n) (hd : 5 ≤ d) (k : ∀ u', StR B n kk r u' (nxT B n p) 1 X (w + us.length + (if o = 43 then 1 else 0) + vs.length) → cls kk w us u' → (o = 43 → (gC kk u' (w + us.length)).1 = nI 3) → cls kk (w + us.length + (if o = 43 then 1 else 0)) vs u' → Fr (fSu kk w) u u' → SMQ d Q u') : SMQ d Q u := fun u1 => by
  obtain ⟨e, rfl⟩ : ∃ e, d = e + 1 := ⟨d - 1, by omega⟩
  refine B_X11_summed_15 ?_
  rw [h.iw1]
  refine ⟨fun z => absurd z (by decide), fun _ => cI (P := fun u' x => x = 1 ∧ StR B n kk r u' (nxT B n p) 1 X (w + us.length + (if o = 43 then 1 else 0) + vs.length) ∧ cls kk w us u' ∧ (o = 43 → (gC kk u' (w + us.length)).1 = nI 3) ∧ cls kk (w + us.length + (if o = 43 then 1 else 0)) vs u' ∧ Fr (fSu kk w) u u') (fun Q k => E_X11_behindOne (B_X11_behindOne_0 (cP (s_between h (d := e) (by omega)) ?_))) (fun w4 x h4 => b_1' h4.1 (k w4 h4.2.1 h4.2.2.1 h4.2.2.2.1 h4.2.2.2.2.1 h4.2.2.2.2.2 _))⟩
  rw [ho, m1_0]
  refine ⟨fun _ => cP (s_openNow h.pl (d := e) (by omega)) (cP (s_partOf h (d := e) (by omega)) ?_), fun z => absurd (show (-1 : Int32) < 0 by decide) z⟩
  rw [hpt, oN_T (by omega), hop]
  refine ⟨fun _ => cV (s_settle (s := 1) (us := us) (X := o :: (vs ++ X)) (d := e) (by decide) (by decide) (by omega) h hus (by show rkR o < 1; rw [rk0 ho4]; decide) (by omega)) (fun w10 h10 => ?_), fun z => absurd (show (0 : Int32) ≤ 0 by decide) z⟩
  obtain ⟨b1, b2, b3⟩ := h10
  refine cV (s_nextR hp (d := e) (by omega) b1) (fun w12 h12 => ⟨fun _ => ?_, fun z => absurd (show (0 : Int32) ≤ 0 by decide) z⟩)
  have b1' := h12.1
  obtain ⟨a1, a2, a3, a4, a5, a6, a7, a8, a9, a10⟩ := h12.1
  have hl : (vs ++ X).length + 1 ≤ 100 := a7.2.2
  have ho44 := a7.2.1.2.1
  have hO : isO o = 1 := if_pos (by omega)
  have a8 : gI w12 11 0 17 = nI (isO o + opN (vs ++ X)) := a8
  have a9 : isO o + opN (vs ++ X) ≤ 8 := a9
  rw [hO] at a8 a9
  have g16 : gI w12 11 0 16 = nI ((vs ++ X).length + 1) := a7.1
  rw [a8, g16, Nat.add_comm 1, nI_s1, nI_s1]
  have f : Fr (fun t k => t = 11 ∧ (k = 16 ∨ k = 17)) w12 (pI (pI w12 11 0 17 (nI (opN (vs ++ X)))) 11 0 16 (nI (vs ++ X).length)) := (Fr.rfl.pI ⟨rfl, Or.inr rfl⟩).pI ⟨rfl, Or.inl rfl⟩
  have S2 : StR B n kk r (pI (pI w12 11 0 17 (nI (opN (vs ++ X)))) 11 0 16 (nI (vs ++ X).length)) (nxT B n p) 1 (vs ++ X) (w + us.length) := by
    refine b1'.re f (fun k q => by omega) (fun k q => by omega) ((f.i (by omega)).trans a5) ((f.i (by omega)).trans a6) ⟨gI_pI_s, a7.2.1.2.2.fr (fun i hi => f.i (by omega)), by omega⟩ ?_ (by omega)
    rw [gI_pI_k (by decide), gI_pI_s]
  have c2 : cls kk w us (pI (pI w12 11 0 17 (nI (opN (vs ++ X)))) 11 0 16 (nI (vs ++ X).length)) := cls_fr (cls_fr (S := fTq) b2 h12.2 (fun k _ => by unfold fTq; omega)) f (fun k _ => by omega)
  have F2 : Fr (fSu kk w) u (pI (pI w12 11 0 17 (nI (opN (vs ++ X)))) 11 0 16 (nI (vs ++ X).length)) := ((fSt_su b3 (Nat.le_refl _)).trans (fTq_su h12.2)).trans (f.mono (fun t k q => by unfold fSu; omega))
  refine pk_ne o 43 (fun n43 => ?_) (fun e43 => ?_)
  · rw [if_neg n43, Nat.add_zero] at k hw
    refine cV (s_settle (s := 7) (us := vs) (X := X) (d := e) (by decide) (by decide) (by omega) S2 hvs ht hw) (fun w14 h14 => k _ 1 ⟨rfl, h14.1, ?_, fun z => absurd z n43, h14.2.1, F2.trans (fSt_su h14.2.2 (by omega))⟩)
    exact cls_fr c2 h14.2.2 (fun k _ => by unfold fStl; omega)
  · rw [if_pos e43] at k hw
    have S2' := S2
    obtain ⟨x1, x2, x3, x4, x5, x6, x7, x8, x9, x10⟩ := S2
    refine cV (s_emitR (d := e) (kk := kk) (w := w + us.length) x10 x3 x5 (by omega) (by omega)) (fun w16 h16 => ?_)
    obtain ⟨y1, y2, y3⟩ := h16
    have S3 : StR B n kk r w16 (nxT B n p) 1 (vs ++ X) (w + us.length + 1) := S2'.re y3 (fun k q => by unfold fEr at q; omega) (fun k q => by unfold fEr at q; omega) y1 ((y3.i (by unfold fEr; omega)).trans x6) ⟨(y3.i (by unfold fEr; omega)).trans x7.1, x7.2.1.fr (fun i hi => y3.i (by unfold fEr; omega)), x7.2.2⟩ ((y3.i (by unfold fEr; omega)).trans x8) x9
    refine cV (s_settle (s := 7) (us := vs) (X := X) (d := e) (by decide) (by decide) (by omega) S3 hvs ht hw) (fun w14 h14 => k _ 1 ⟨rfl, h14.1, ?_, fun _ => ?_, h14.2.1, (F2.trans (fEr_su y3 (by omega))).trans (fSt_su h14.2.2 (by omega))⟩)
    · exact cls_fr (cls_fr c2 y3 (fun k _ => by unfold fEr; omega)) h14.2.2 (fun k _ => by unfold fStl; omega)
    · rw [gC_st h14.2.2 (Nat.lt_succ_self _), y2]
      rfl
theorem s_opened {o : Nat} (h : StR B n kk r u p 0 X w) (hO : isO o = 1) (ho : o < 44) (hX : X.length + 1 ≤ 100) (hp : p ≤ n) (hd : 3 ≤ d) : ZI d m_X11_opened [vR 11 0, vI (nI o)] u (fun u' x => (opN X < 8 ∧ x = 0 ∧ StR B n kk r u' (nxT B n p) 0 (o :: X) w ∧ Fr (fSu kk w) u u') ∨ (opN X = 8 ∧ x = 3 ∧ u' = u)) := by
  obtain ⟨e, rfl⟩ : ∃ e, d = e + 1 := ⟨d - 1, by omega⟩
  intro Q k
  have h' := h
  obtain ⟨a1, a2, a3, a4, a5, a6, a7, a8, a9, a10⟩ := h
  refine E_X11_opened (B_X11_opened_0 ?_)
  rw [a8, a7.1, nI_1, nI_1, n_nI (by omega)]
  refine pk_ne (opN X) 8 (fun n8 => z_ii X.length rfl (by omega) ?_) (fun e8 => k _ 3 (Or.inr ⟨e8, rfl, rfl⟩))
  have f : Fr (fun t k => t = 1215 ∧ k = X.length ∨ t = 11 ∧ (k = 16 ∨ k = 17)) u (pI (pI (pI u 11 0 17 (nI (opN X + 1))) 1215 0 X.length (nI o)) 11 0 16 (nI (X.length + 1))) := ((Fr.rfl.pI (Or.inr ⟨rfl, Or.inr rfl⟩)).pI (Or.inl ⟨rfl, rfl⟩)).pI (Or.inr ⟨rfl, Or.inl rfl⟩)
  have e17 : opN (o :: X) = opN X + 1 := by
    show isO o + opN X = _
    rw [hO, Nat.add_comm]
  have S2 : StR B n kk r (pI (pI (pI u 11 0 17 (nI (opN X + 1))) 1215 0 X.length (nI o)) 11 0 16 (nI (X.length + 1))) p 0 (o :: X) w := by
    refine h'.re f (fun k q => by omega) (fun k q => by omega) ((f.i (by omega)).trans a5) ((f.i (by omega)).trans a6) ⟨gI_pI_s, ⟨?_, ho, a7.2.1.fr (fun i hi => f.i (by omega))⟩, hX⟩ ?_ (by rw [e17]; omega)
    · rw [gI_pI_ne (fun z => absurd z.1 (by decide)), gI_pI_s]
    · rw [gI_pI_k (by decide), gI_pI_ne (fun z => absurd z.1 (by decide)), gI_pI_s, e17]
  exact cV (s_nextR hp (d := e) (by omega) S2) (fun w1 h1 => k _ 0 (Or.inl ⟨by omega, rfl, h1.1, (f.mono (fun t k q => by unfold fSu; omega)).trans (fTq_su h1.2)⟩))
theorem beg39 {Q : z_RT} (h : StR B n kk r u p 0 X w) (h27 : tkC B n p ≠ 27) (hd : 4 ≤ d) (ko : (opR (tkC B n p) = true ∨ (tkC B n p = 26 ∧ askA X = true)) → z_C d m_X11_opened [vR 11 0, vI (nI (opO (tkC B n p)))] u (fun w o => ∃ i : Int32, o = some (vI i) ∧ Q w (some (vI i)))) (kb : ¬ (opR (tkC B n p) = true ∨ (tkC B n p = 26 ∧ askA X = true)) → Q u (some (vI 1))) : z_Wp (z_C d) 1 k_X11_beginOne Q 39 [some (vR 11 0), some (vI (-1))] [] u := by
  have h42 := tk_42 (B := B) (n := n) (p := p)
  obtain ⟨t, t1, t2, t3, t4, t5, t6⟩ := h.t9
  have s38 : t = 40 ↔ tkC B n p = 38 := t6 38 (by decide) (by decide)
  have s35 : t = 45 ↔ tkC B n p = 35 := t6 35 (by decide) (by decide)
  refine B_X11_beginOne_39 ?_
  rw [t1]
  refine pk_eq t 1 (fun z => absurd (t3.mp z) h27) (fun _ => ⟨fun _ => pk_ne t 40 (fun n38 => pk_ne t 45 (fun n35 => ?_) (fun z => ?_)) (fun z => ?_), fun z => absurd (show (-1 : Int32) < 0 by decide) z⟩)
  · refine cPL (s_wq18 (d := d) (by omega)) (cP (s_isWord h.rt h42 (k := 18) (by decide) (d := d) (by omega)) (br_z (fun g18 => ?_) (fun g => ?_)))
    · refine cPL (s_wq19 (d := d) (by omega)) (cP (s_isWord h.rt h42 (k := 19) (by decide) (d := d) (by omega)) (br_z (fun g19 => ?_) (fun g => ?_)))
      · refine cPL (s_wq20 (d := d) (by omega)) (cP (s_isWord h.rt h42 (k := 20) (by decide) (d := d) (by omega)) (br_z (fun g20 => ?_) (fun g => ?_)))
        · have g18 := of_decide_eq_false g18
          have g19 := of_decide_eq_false g19
          have g20 := of_decide_eq_false g20
          have nop : opR (tkC B n p) = false := by
            unfold opR
            simp only [beq_eq_false_iff_ne, Bool.or_eq_false_iff]
            exact ⟨fun z => n38 (s38.mpr z), g18, g19, g20, fun z => n35 (s35.mpr z)⟩
          refine cPL (s_wq26 (d := d) (by omega)) (cP (s_isWord h.rt h42 (k := 26) (by decide) (d := d) (by omega)) (br_z (fun g26 => ?_) (fun g26 => ?_)))
          · exact kb (fun z => by
              rcases z with z | z
              · rw [nop] at z; cases z
              · exact of_decide_eq_false g26 z.1)
          · have g26 := of_decide_eq_true g26
            refine cP (s_isAskAhead h.pl (d := d) (by omega)) (br_z (fun z => kb (fun y => ?_)) (fun z => ?_))
            · rcases y with y | y
              · rw [nop] at y; cases y
              · rw [z] at y; cases y.2
            · have := ko (Or.inr ⟨g26, z⟩)
              rw [g26] at this
              exact this
        · have g := of_decide_eq_true g
          have := ko (Or.inl (by rw [g]; rfl))
          rw [g] at this
          exact this
      · have g := of_decide_eq_true g
        have := ko (Or.inl (by rw [g]; rfl))
        rw [g] at this
        exact this
    · have g := of_decide_eq_true g
      have := ko (Or.inl (by rw [g]; rfl))
      rw [g] at this
      exact this
  · have g := s35.mp z
    have := ko (Or.inl (by rw [g]; rfl))
    rw [g] at this
    exact this
  · have g := s38.mp z
    have := ko (Or.inl (by rw [g]; rfl))
    rw [g] at this
    exact this
end RR4
