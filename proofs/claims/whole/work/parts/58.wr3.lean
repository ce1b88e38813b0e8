/-! the reference: days, by hand, draws, a line more -/
theorem hl_min {a : Nat} : hl (a : Int) 99999 = min 99999 a := by
  unfold hl
  rw [if_neg (by omega)]
  split
  · omega
  · rw [Int.toNat_natCast]
    omega
theorem sWb_0 {b : Bool} {s : z_St} {x what which num : Nat} : sWb b (sU (sDr s) 2 x) what which num 0 = s 0 := by
  unfold sWb
  split
  · unfold sWr
    split
    · rw [sU_n (by omega), sU_n (by omega), sU_n (by decide)]
      exact sU_n (by decide)
    · rw [sU_n (by omega), sU_n (by omega), sSh_o (by omega), sU_n (by decide)]
      exact sU_n (by decide)
  · rw [sU_n (by decide)]
    exact sU_n (by decide)
theorem pdL_c {rid fr : z_St → Nat → Nat} : ∀ {k l : Nat} {s : z_St} {c : Nat}, pdL rid fr k l s c = ((pdL rid fr k l s 0).1, c + (pdL rid fr k l s 0).2)
  | 0, _, _, _ => rfl
  | k + 1, l, s, c => by
    unfold pdL
    split
    · exact pdL_c
    · split
      · rw [pdL_c (c := c + fr s l), pdL_c (c := 0 + fr s l)]
        simp only [Prod.mk.injEq, true_and]
        omega
      · exact pdL_c
section WR3
variable {d : Nat} {v : z_V} {W : z_W} {T : Nat → z_T}
theorem s_pdR {b : Bool} {Q : z_RT} (hW : okW W) (hw : gI v 11 0 23 = bI b) (hT : TXR v W T) : ∀ (k l : Nat) (s : z_St) (c : Nat) (u : z_V), l + k = wN W → s 0 < 9999 → RRf (gI u 1200 0) (wS' W s) → gI u 11 0 24 = nI c → Fr sPs v u → (∀ u', RRf (gI u' 1200 0) (wS' W (sU (pdG b (wRid W T) (wFr W) k l s c).1 0 ((pdG b (wRid W T) (wFr W) k l s c).1 0 + 1))) → gI u' 11 0 24 = nI (pdG b (wRid W T) (wFr W) k l s c).2 → Fr sPs v u' → Q u' none) → z_Wp (z_C (d + 6)) 0 k_X11_pass Q 2 [some (vR 11 0), some (vI (nI l))] [] u := by
  intro k
  induction k with
  | zero =>
    intro l s c u hl hd hR hc f h
    have hs : okS (wN W) s := hR.1.2.1
    have hn := hW.n
    refine B_X11_pass_2 (pk_le (wN W) l (fun _ => ?_) (fun z => absurd z (by omega)) hR.2.1)
    rw [show gI u 1200 0 5 = nI (s 0) from hR.2.2.2.2.2.2.1.1, nI_1]
    refine h _ (hR.pI (k := 0) rfl (by decide) (by decide) (sU_ok0 (x := s 0 + 1) hs (by omega))) ?_ (f.trans (sPs_a Fr_A))
    rw [gI_pI_t (by decide)]
    exact hc
  | succ k ih =>
    intro l s c u hl hd hR hc f h
    have hs : okS (wN W) s := hR.1.2.1
    have hn := hW.n
    unfold pdG at h
    refine B_X11_pass_2 (pk_le (wN W) l (fun z => absurd z (by omega)) (fun _ => ?_) hR.2.1)
    have hsh := sh_bit (l := l) (sh := s 4) hR.1.1 (by
      show s 4 + (2 ^ wN W - 1 - s 4) + 1 = 2 ^ wN W
      have := hs.2.2.2.2.1
      omega) (by show l < wN W; omega)
    refine cP (s_isOpen hR.me.1 (by omega)) (br_z (fun e => ?_) (fun e => ?_))
    · rw [if_pos (by rw [hsh, e]; rfl)] at h
      rw [nI_1]
      exact ih (l + 1) s c u (by omega) hd hR hc f h
    · rw [if_neg (by rw [hsh, e]; decide)] at h
      refine cI (s_drawnBy hR) (fun u2 r2 hu2 => ?_)
      obtain ⟨rfl, hR2, f2⟩ := hu2
      have f2' := f.trans (sPs_a f2)
      refine cI (s_ridesW (T := T) (l := l) hR2 (hT.ps f2') (by show l < wN W; omega) hR2.2.2.2.1) (fun u3 r3 hu3 => ?_)
      obtain ⟨rfl, f3⟩ := hu3
      have f3' := f2'.trans (sPs_r f3)
      have hR3 := hR2.fr f3 (fun _ => sTr_not (by decide))
      have hc3 : gI u3 11 0 24 = nI c := ((f3.i (sTr_not (by decide))).trans (f2.i (sA_not (by decide)))).trans hc
      have erd : rdV (wS' (wS' W s) (sDr (wS (wS' W s)))) T l = wRid W T (sDr s) l := rfl
      rw [erd]
      have hrd : wRid W T (sDr s) l ≤ 10 := rdV_le
      have hx := hs.2.1
      have hsx : wS (wS' W s) 1 % 10 = s 1 % 10 := rfl
      rw [hsx]
      refine pk_lt (s 1 % 10) (wRid W T (sDr s) l) (fun e2 => ?_) (fun e2 => ?_)
      · rw [if_pos e2] at h
        have hf := fare_le hW hs (l := l) (by omega)
        have hfr : fare (wNet (wS' (wS' W s) (sDr (wS (wS' W s))))) (wnu (wS' (wS' W s) (sDr (wS (wS' W s))))) l = wFr W s l := (wFr_D (W := W) (s := s) (l := l))
        refine cP (s_fareOf hR3.me.1 (by show l < wN W; omega)) ?_
        rw [hfr]
        have hfu := hs.2.2.1
        have hfu3 : gI u3 1200 0 7 = nI (s 2) := hR3.2.2.2.2.2.2.1.2.2.1.trans (show nI (sDr s 2) = nI (s 2) from congrArg nI (show sDr s 2 = s 2 from sU_n (by decide)))
        rw [hfu3, nI_add, nI_l (by omega), ← lI_lN, show (99999 : Int32) = nI 99999 from rfl]
        refine cP (s_held (x := ((s 2 + wFr W s l : Nat) : Int)) (top := 99999) (by unfold lr; omega) (by decide)) ?_
        rw [hl_min]
        have h2 := sU_ok2 (sDr_ok hs) (Nat.min_le_left 99999 (s 2 + wFr W s l))
        have hR4 : RRf (gI (pI u3 1200 0 7 (nI (min 99999 (s 2 + wFr W s l)))) 1200 0) (wS' W (sU (sDr s) 2 (min 99999 (s 2 + wFr W s l)))) := hR3.pI (k := 2) rfl (by decide) (by decide) h2
        have hfr4 : fare (wNet (wS' W (sU (sDr s) 2 (min 99999 (s 2 + wFr W s l))))) (wnu (wS' W (sU (sDr s) 2 (min 99999 (s 2 + wFr W s l))))) l = wFr W s l := by
          have q : ∀ g, sU (sDr s) 2 (min 99999 (s 2 + wFr W s l)) (5 + g) = s (5 + g) := fun g => (sU_n (by omega)).trans (sU_n (by omega))
          show dst (sU (sDr s) 2 (min 99999 (s 2 + wFr W s l)) (5 + wA W l)) (sU (sDr s) 2 (min 99999 (s 2 + wFr W s l)) (5 + wB W l)) = dst (s (5 + wA W l)) (s (5 + wB W l))
          rw [q, q]
        refine cP (s_fareOf hR4.me.1 (by show l < wN W; omega)) ?_
        rw [hfr4, hc3, nI_add]
        have f4 : Fr sPs v (pI u3 1200 0 7 (nI (min 99999 (s 2 + wFr W s l)))) := f3'.trans (sPs_a Fr_A)
        have f5 : Fr sPs v (pI (pI u3 1200 0 7 (nI (min 99999 (s 2 + wFr W s l)))) 11 0 24 (nI (c + wFr W s l))) := f4.pI (Or.inl ⟨rfl, rfl⟩)
        have hR5 : RRf (gI (pI (pI u3 1200 0 7 (nI (min 99999 (s 2 + wFr W s l)))) 11 0 24 (nI (c + wFr W s l))) 1200 0) (wS' W (sU (sDr s) 2 (min 99999 (s 2 + wFr W s l)))) := hR4.cg (fun j _ => gI_pI_t (by decide))
        refine cP (s_fareOf hR5.me.1 (by show l < wN W; omega)) ?_
        rw [hfr4]
        refine cV (s_writeB (b := b) (what := 2) (which := l) (num := wFr W s l) hR5 ((f5.i (sPs_not (by omega))).trans hw) (by decide) (by omega) hf) (fun u6 hu6 => ?_)
        rw [nI_1]
        refine ih (l + 1) _ (c + wFr W s l) u6 (by omega) (by show sWb b (sU (sDr s) 2 (min 99999 (s 2 + wFr W s l))) 2 l (wFr W s l) 0 < 9999; rw [sWb_0]; exact hd) hu6.1 ?_ (f5.trans (sPs_a hu6.2)) h
        rw [hu6.2.i (sA_not (by decide)), gI_pI_s]
      · rw [if_neg (by omega)] at h
        rw [nI_1]
        exact ih (l + 1) (sDr s) c u3 (by omega) hd hR3 hc3 f3' h
theorem s_passR {b : Bool} {c : Nat} (h : RRf (gI v 1200 0) W) (hT : TXR v W T) (hw : gI v 11 0 23 = bI b) (hd : wS W 0 < 9999) (hc : gI v 11 0 24 = nI c) : ZV (d + 7) m_X11_pass [vR 11 0] v (fun u => RRf (gI u 1200 0) (wS' W (sU (pdG b (wRid W T) (wFr W) (wN W) 0 (wS W) c).1 0 ((pdG b (wRid W T) (wFr W) (wN W) 0 (wS W) c).1 0 + 1))) ∧ gI u 11 0 24 = nI (pdG b (wRid W T) (wFr W) (wN W) 0 (wS W) c).2 ∧ Fr sPs v u) := fun Q k => E_X11_pass (B_X11_pass_0 (s_pdR h.1 hw hT (wN W) 0 (wS W) c v (by omega) hd h hc Fr.rfl (fun u h1 h2 h3 => k u ⟨h1, h2, h3⟩)))
/-- a day that is written, as a map -/
theorem s_passT {c : Nat} (h : RRf (gI v 1200 0) W) (hT : TXR v W T) (hw : gI v 11 0 23 = bI true) (hd : wS W 0 < 9999) (hc : gI v 11 0 24 = nI c) : ZV (d + 7) m_X11_pass [vR 11 0] v (fun u => RRf (gI u 1200 0) (wPs W T false).1 ∧ gI u 11 0 24 = nI (c + (wPs W T false).2) ∧ Fr sPs v u) := fun Q k => by
  refine s_passR h hT hw hd hc Q (fun u hu => k u ?_)
  rw [pdG_t, pdL_c] at hu
  exact hu
theorem s_plateR {a1 a2 : Int32} (h : RRf (gI v 1200 0) W) (hT : TXR v W T) (hw : gI v 11 0 23 = bI true) : ZI (d + 8) m_X11_plate [vR 11 0, vI a1, vI a2] v (fun u r => r = (wPl W T true a1 a2).2 ∧ RRf (gI u 1200 0) (wPl W T true a1 a2).1 ∧ Fr sPs v u) := fun Q k => E_X11_plate (B_X11_plate_0 (by
  refine cI (s_canPlate h hT) (fun u r hu => ?_)
  obtain ⟨rfl, f⟩ := hu
  have f' := sPs_r f
  have hu := h.fr f (fun _ => sTr_not (by decide))
  unfold wPl at k
  refine br_n (fun e => ?_) (fun e => ?_)
  · have e' := of_decide_eq_true e
    rw [if_pos e'] at k
    obtain ⟨e1, e2, e3⟩ := e'
    rw [Bool.and_eq_true] at e1
    obtain ⟨g, hg, rfl, hn1⟩ := inr_n (by decide) e1.1
    obtain ⟨x, hx, rfl, hn2⟩ := inr_n (by decide) e1.2
    rw [hn1, hn2] at k e3
    refine cV (s_keepR hu) (fun u2 hu2 => ?_)
    have f2 := f'.trans (sPs_a hu2.2)
    refine cI (s_plateNow (T := T) (W := wKp W) (g := g) (x := x) hu2.1 (hT.ps f2) ((f2.i (sPs_not (by omega))).trans hw) hg (by omega) e3) (fun u3 r3 hu3 => ?_)
    exact k _ _ ⟨hu3.1, hu3.2.1, f2.trans hu3.2.2⟩
  · have e' := of_decide_eq_false e
    rw [if_neg e'] at k
    exact k _ _ ⟨rfl, hu, f'⟩))
theorem s_turnR {a : Int32} (h : RRf (gI v 1200 0) W) (hw : gI v 11 0 23 = bI true) : ZI (d + 4) m_X11_turn [vR 11 0, vI a] v (fun u r => r = (wTu W true a).2 ∧ RRf (gI u 1200 0) (wTu W true a).1 ∧ Fr sPs v u) := fun Q k => E_X11_turn (B_X11_turn_0 (by
  have hn := h.1.n
  unfold wTu at k
  refine cP (s_isLine h.me.1) (br_n (fun e => ?_) (fun e => ?_))
  · rw [if_pos (show inr a (wN W) = true from e)] at k
    obtain ⟨l, hl, rfl, hnl⟩ := inr_n (show nN (wNet W) < 2 ^ 31 by show wN W < _; omega) e
    have hl : l < wN W := hl
    rw [hnl] at k
    refine cV (s_keepR h) (fun u2 hu2 => ?_)
    have f2 := sPs_a hu2.2
    refine cV (s_turnNow (W := wKp W) (l := l) hu2.1 ((f2.i (sPs_not (by omega))).trans hw) hl) (fun u3 hu3 => ?_)
    exact k _ _ ⟨rfl, hu3.1, f2.trans hu3.2⟩
  · rw [if_neg (by rw [show inr a (wN W) = false from e]; decide)] at k
    exact k _ _ ⟨rfl, h, Fr.rfl⟩))
theorem s_grantR {a : Int32} (h : RRf (gI v 1200 0) W) : ZI (d + 4) m_X11_grant [vR 11 0, vI a] v (fun u r => r = (wGr W true a).2 ∧ RRf (gI u 1200 0) (wGr W true a).1 ∧ Fr sPs v u) := fun Q k => E_X11_grant (B_X11_grant_0 (by
  unfold wGr at k
  have hs := h.1.2.1
  refine cP (s_canGrant h) (br_n (fun e => ?_) (fun e => ?_))
  · rw [if_pos e] at k
    rw [Bool.and_eq_true] at e
    obtain ⟨p, p1, p2, rfl, hp⟩ := irg_i (lo := 1) (hi := 99) e.1
    have e2 := of_decide_eq_true e.2
    rw [hp] at k e2
    refine cV (s_keepR h) (fun u2 hu2 => ?_)
    rw [show gI u2 1200 0 7 = nI (wS W 2) from hu2.1.2.2.2.2.2.2.1.2.2.1, nI_add]
    exact k _ _ ⟨rfl, hu2.1.pI (k := 2) rfl (by decide) (by decide) (sU_ok2 hs e2), (sPs_a hu2.2).trans (sPs_a Fr_A)⟩
  · rw [if_neg (by rw [e]; decide)] at k
    exact k _ _ ⟨rfl, h, Fr.rfl⟩))
/-- so many days -/
def wIt (T : Nat → z_T) : Nat → z_W → Nat → z_W × Nat
  | 0, W, c => (W, c)
  | k + 1, W, c => wIt T k (wPs W T true).1 (c + (wPs W T true).2)
theorem wPs_day {b : Bool} (hW : okW W) : wS (wPs W T b).1 0 = wS W 0 + 1 := by
  have := pdL_ok (rid := wRid W T) (c := 0) hW (show 0 + wN W ≤ wN W by omega) hW.2.1
  show sU (wPd W T).1 0 ((wPd W T).1 0 + 1) 0 = _
  rw [sU_s]
  show (pdL (wRid W T) (wFr W) (wN W) 0 (wS W) 0).1 0 + 1 = _
  rw [this.2]
theorem wPs_ok {b : Bool} (hW : okW W) (hd : wS W 0 < 9999) : okW (wPs W T b).1 := by
  have := pdL_ok (rid := wRid W T) (c := 0) hW (show 0 + wN W ≤ wN W by omega) hW.2.1
  refine (hW.kb b).set ?_
  rw [wKb_N]
  refine sU_ok0 this.1 ?_
  show (pdL (wRid W T) (wFr W) (wN W) 0 (wS W) 0).1 0 + 1 ≤ 9999
  rw [this.2]
  omega
theorem wPs_T {b : Bool} : wT (wPs W T b).1 = wT W := by cases b <;> rfl
theorem s_arePassed {n : Nat} (h : RRf (gI v 1200 0) W) (hT : TXR v W T) (hw : gI v 11 0 23 = bI true) (hn : n ≤ 60) : ZI (d + 8) m_X11_arePassed [vR 11 0, vI (nI n)] v (fun u r => r = bI (decide (wS W 0 + n ≤ 9999)) ∧ RRf (gI u 1200 0) (wIt T (min n (9999 - wS W 0)) W 0).1 ∧ gI u 11 0 24 = nI (wIt T (min n (9999 - wS W 0)) W 0).2 ∧ Fr sPs v u) := fun Q k => E_X11_arePassed (B_X11_arePassed_0 (by
  have key : ∀ j i (W' : z_W) (c : Nat) (u : z_V), i + j = n → RRf (gI u 1200 0) W' → TXR u W' T → gI u 11 0 24 = nI c → Fr sPs v u → (∀ u', RRf (gI u' 1200 0) (wIt T (min j (9999 - wS W' 0)) W' c).1 → gI u' 11 0 24 = nI (wIt T (min j (9999 - wS W' 0)) W' c).2 → Fr sPs v u' → Q u' (some (vI (bI (decide (wS W' 0 + j ≤ 9999)))))) → z_Wp (z_C (d + 7)) 4 k_X11_arePassed Q 7 [some (vR 11 0), some (vI (nI n)), some (vI (nI i))] [] u := by
    intro j
    induction j with
    | zero =>
      intro i W' c u hij hR hT hc f k
      have hd := hR.1.2.1.1
      refine B_X11_arePassed_7 (pk_le n i (fun _ => ?_) (fun q => absurd q (by omega)))
      rw [decide_eq_true (by omega), Nat.zero_min] at k
      exact k u hR hc f
    | succ j ih =>
      intro i W' c u hij hR hT hc f k
      have hd := hR.1.2.1.1
      refine B_X11_arePassed_7 (pk_le n i (fun q => absurd q (by omega)) (fun _ => ?_))
      refine pk_ne (wS W' 0) 9999 (fun e => ?_) (fun e => ?_) hR.2.2.2.2.2.2.1.1 rfl
      · refine cV (s_keepR hR) (fun u2 hu2 => ?_)
        have f2 := sPs_a hu2.2
        refine cV (s_passT (W := wKp W') (T := T) hu2.1 (hT.ps f2) (((f.trans f2).i (sPs_not (by omega))).trans hw) (show wS W' 0 < 9999 by omega) ((hu2.2.i (sA_not (by decide))).trans hc)) (fun u3 hu3 => ?_)
        have e2 : (wPs (wKp W') T false) = wPs W' T true := rfl
        rw [e2] at hu3
        obtain ⟨hR3, hc3, f3⟩ := hu3
        rw [nI_1]
        have hday := wPs_day (T := T) (b := true) hR.1
        refine ih (i + 1) (wPs W' T true).1 (c + (wPs W' T true).2) u3 (by omega) hR3 (hT.ps (f2.trans f3)) hc3 (f.trans (f2.trans f3)) (fun u' h1 h2 h3 => ?_)
        rw [hday] at h1 h2 ⊢
        have em : min (j + 1) (9999 - wS W' 0) = min j (9999 - (wS W' 0 + 1)) + 1 := by omega
        rw [em, show wS W' 0 + (j + 1) = wS W' 0 + 1 + j by omega] at k
        exact k u' h1 h2 h3
      · rw [e, decide_eq_false (by omega), show min (j + 1) (9999 - 9999) = 0 by omega] at k
        exact k u hR hc f
  have f0 : Fr sPs v (pI v 11 0 24 0) := Fr.rfl.pI (Or.inl ⟨rfl, rfl⟩)
  exact key n 0 W 0 _ (by omega) (h.cg (fun j _ => gI_pI_t (by decide))) (hT.ps f0) gI_pI_s f0 (fun u' h1 h2 h3 => k _ _ ⟨rfl, h1, h2, h3⟩)))
theorem s_happens {x : Nat} (h : RRf (gI v 1200 0) W) (hT : TXR v W T) (hw : gI v 11 0 23 = bI true) (hx : x < 31013) : ZV (d + 8) m_X11_happens [vR 11 0, vI (nI x)] v (fun u => RRf (gI u 1200 0) (wDw W T x) ∧ Fr sPs v u) := fun Q k => E_X11_happens (B_X11_happens_0 (by
  have e6 : i_rem (nI x) 6 = nI (x % 6) := i_rem_nI' (by omega) (by decide) (by decide)
  have e20 : i_rem (nI x) 20 = nI (x % 20) := i_rem_nI' (by omega) (by decide) (by decide)
  have e4 : i_rem (nI x) 4 = nI (x % 4) := i_rem_nI' (by omega) (by decide) (by decide)
  have d6 : nI x / 6 = nI (x / 6) := pk_div (d := 6) (by omega) (by decide) (by decide)
  have e7 : i_rem (nI (x / 6)) 7 = nI (x / 6 % 7) := i_rem_nI' (by omega) (by decide) (by decide)
  have e10 : i_rem (nI (x / 6)) 10 = nI (x / 6 % 10) := i_rem_nI' (by omega) (by decide) (by decide)
  have e9 : i_rem (nI (x / 6)) 9 = nI (x / 6 % 9) := i_rem_nI' (by omega) (by decide) (by decide)
  rw [e6, e20, e4, d6, e7, e10, e9, show (1 : Int32) + nI (x / 6 % 9) = nI (1 + x / 6 % 9) from nI_add 1 _]
  have hn := h.1.n
  have hs := h.1.2.1
  unfold wDw at k
  refine pk_eq (x % 6) 0 (fun q => ?_) (fun q0 => pk_eq (x % 6) 1 (fun q => ?_) (fun q1 => pk_eq (x % 6) 2 (fun q => ?_) (fun q2 => ?_)))
  · rw [if_pos q] at k
    refine cI (s_canPlate h hT) (fun u r hu => ?_)
    obtain ⟨rfl, f⟩ := hu
    have f' := sPs_r f
    have hu := h.fr f (fun _ => sTr_not (by decide))
    unfold wPl at k
    refine br_z (fun e => ?_) (fun e => ?_)
    · rw [if_neg (of_decide_eq_false e)] at k
      exact k _ ⟨hu, f'⟩
    · have e' := of_decide_eq_true e
      rw [if_pos e'] at k
      obtain ⟨e1, e2, e3⟩ := e'
      have hg : x / 6 % 7 < 7 := Nat.mod_lt _ (by decide)
      have hx2 : x % 20 < 20 := Nat.mod_lt _ (by decide)
      rw [n_nI (by omega), n_nI (by omega)] at e3
      rw [n_nI (n := x / 6 % 7) (by omega), n_nI (n := x % 20) (by omega)] at k
      exact cI (s_plateNow (T := T) hu (hT.ps f') ((f'.i (sPs_not (by omega))).trans hw) hg (by omega) e3) (fun u3 r3 hu3 => k _ ⟨hu3.2.1, f'.trans hu3.2.2⟩)
  · rw [if_neg q0, if_pos q] at k
    refine pk_ne (x % 4) 3 (fun z => ?_) (fun z => ?_)
    · rw [if_neg z] at k
      exact k _ ⟨h, Fr.rfl⟩
    · rw [if_pos z] at k
      unfold wTu at k
      have hl10 : x / 6 % 10 < 10 := Nat.mod_lt _ (by decide)
      refine cP (s_isLine h.me.1) (br_z (fun e => ?_) (fun e => ?_))
      · rw [if_neg (by rw [show inr (nI (x / 6 % 10)) (wN W) = false from e]; decide)] at k
        exact k _ ⟨h, Fr.rfl⟩
      · rw [if_pos (show inr (nI (x / 6 % 10)) (wN W) = true from e), n_nI (by omega)] at k
        rw [inr_nI (by omega)] at e
        exact cV (s_turnNow (l := x / 6 % 10) h hw (of_decide_eq_true e)) (fun u3 hu3 => k _ hu3)
  · rw [if_neg q0, if_neg q1, if_pos q] at k
    unfold wGr at k
    refine cP (s_canGrant h) (br_z (fun e => ?_) (fun e => ?_))
    · rw [if_neg (by rw [e]; decide)] at k
      exact k _ ⟨h, Fr.rfl⟩
    · rw [if_pos e] at k
      rw [Bool.and_eq_true] at e
      have e2 := of_decide_eq_true e.2
      have h9 : x / 6 % 9 < 9 := Nat.mod_lt _ (by decide)
      rw [n_nI (by omega)] at k e2
      rw [show gI v 1200 0 7 = nI (wS W 2) from h.2.2.2.2.2.2.1.2.2.1, nI_add]
      exact k _ ⟨h.pI (k := 2) rfl (by decide) (by decide) (sU_ok2 hs e2), sPs_a Fr_A⟩
  · rw [if_neg q0, if_neg q1, if_neg q2] at k
    have hd := hs.1
    obtain ⟨c, hc⟩ := nI_all (gI v 11 0 24)
    refine pk_le 9999 (wS W 0) (fun z => ?_) (fun z => ?_) rfl h.2.2.2.2.2.2.1.1
    · rw [if_neg (by omega)] at k
      exact k _ ⟨h, Fr.rfl⟩
    · rw [if_pos z] at k
      exact cV (s_passT h hT hw z hc) (fun u hu => k _ ⟨hu.1, hu.2.2⟩)))
end WR3
