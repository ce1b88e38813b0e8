/-! the reference writes, draws, plates, turns, grants -/
def sPs : Nat → Nat → Prop := fun t k => (t = 11 ∧ k = 24) ∨ t = 1200 ∨ t = 1220 ∨ t = 1221 ∨ t = 1222
theorem sPs_not {t k : Nat} (h : ¬ (t = 11 ∧ k = 24) ∧ t ≠ 1200 ∧ t ≠ 1220 ∧ t ≠ 1221 ∧ t ≠ 1222) : ¬ sPs t k := by
  intro q
  unfold sPs at q
  omega
theorem sPs_a {v u : z_V} (f : Fr (sT [1200]) v u) : Fr sPs v u := f.mono (fun t k (q : t ∈ [1200]) => by
  simp only [List.mem_cons, List.not_mem_nil, or_false] at q
  unfold sPs
  omega)
theorem sPs_r {v u : z_V} (f : Fr sTr v u) : Fr sPs v u := f.mono (fun t k (q : t ∈ [1220, 1221, 1222]) => by
  simp only [List.mem_cons, List.not_mem_nil, or_false] at q
  unfold sPs
  omega)
theorem TXR.ps {v u : z_V} {W : z_W} {T : Nat → z_T} (h : TXR v W T) (f : Fr sPs v u) : TXR u W T := h.fr f (fun _ => sPs_not (by omega))
def sWb (b : Bool) (s : z_St) (what which num : Nat) : z_St := if b = true then sWr s what which num else s
theorem sWb_ok {b : Bool} {n what which num : Nat} {s : z_St} (h : okS n s) (h1 : what ≤ 2) (h2 : which ≤ 9) (h3 : num ≤ 99) : okS n (sWb b s what which num) := by
  unfold sWb
  split
  · exact sWr_ok h h1 h2 h3
  · exact h
def pdG (b : Bool) (rid fr : z_St → Nat → Nat) : Nat → Nat → z_St → Nat → z_St × Nat
  | 0, _, s, c => (s, c)
  | k + 1, l, s, c => if (s 4).testBit l = true then pdG b rid fr k (l + 1) s c
    else if s 1 % 10 < rid (sDr s) l then pdG b rid fr k (l + 1) (sWb b (sU (sDr s) 2 (min 99999 (s 2 + fr s l))) 2 l (fr s l)) (c + fr s l)
    else pdG b rid fr k (l + 1) (sDr s) c
theorem pdG_t {rid fr : z_St → Nat → Nat} : ∀ {k l : Nat} {s : z_St} {c : Nat}, pdG true rid fr k l s c = pdL rid fr k l s c
  | 0, _, _, _ => rfl
  | k + 1, l, s, c => by
    unfold pdG pdL
    rw [pdG_t, pdG_t, pdG_t]
    rfl
theorem sh1_s {f : Nat → Int32} {k : Nat} (hk : 1 ≤ k) : upd (sh1 f k) (1192 + k) (sh1 f k (1193 + k)) = sh1 f (k + 1) := by
  funext j
  unfold upd sh1
  by_cases e : j = 1192 + k
  · subst e
    rw [if_pos rfl, if_neg (by omega), if_pos (by omega), show 1192 + k + 1 = 1193 + k by omega]
  · rw [if_neg e]
    by_cases q : 1193 ≤ j ∧ j + 1 < 1193 + k
    · rw [if_pos q, if_pos (by omega)]
    · rw [if_neg q, if_neg (by omega)]
theorem sh1_1 {f : Nat → Int32} : sh1 f 1 = f := by
  funext j
  exact if_neg (by omega)
theorem sh1_o {f : Nat → Int32} {k j : Nat} (h : j < 1193 ∨ 1193 + k ≤ j + 1) : sh1 f k j = f j := if_neg (by omega)
theorem sh1_i {f : Nat → Int32} {k j : Nat} (h1 : 1193 ≤ j) (h2 : j + 1 < 1193 + k) : sh1 f k j = f (j + 1) := if_pos ⟨h1, h2⟩
section WR2
variable {d : Nat} {v : z_V} {W : z_W} {T : Nat → z_T}
theorem s_writeB {b : Bool} {what which num : Nat} (h : RRf (gI v 1200 0) W) (hw : gI v 11 0 23 = bI b) (h1 : what ≤ 2) (h2 : which ≤ 9) (h3 : num ≤ 99) : ZV (d + 1) m_X11_write [vR 11 0, vI (nI what), vI (nI which), vI (nI num)] v (fun u => RRf (gI u 1200 0) (wS' W (sWb b (wS W) what which num)) ∧ Fr (sT [1200]) v u) := fun Q k => by
  have key : ∀ f, RRf f W → (∀ u, RRf (gI u 1200 0) (wS' W (sWb b (wS W) what which num)) → Fr (sT [1200]) v u → Q u none) → z_C (d + 1) m_X11_write [vR 11 0, vI (nI what), vI (nI which), vI (nI num)] (pR v 1200 f) Q := by
    intro f h k
    refine E_X11_write (B_X11_write_0 ?_)
    have hs := h.1.2.1
    have hws := hs.2.2.2.1
    rw [gI_pR_t (by decide), hw, gI_pR]
    refine br_n (fun e => ?_) (fun e => k _ (by rw [e, gI_pR_f]; exact h) Fr_pR)
    subst e
    have page : ∀ (g : Nat → Int32) (s' : z_St) (u4 : Option z_AV), RRf g (wS' W s') → s' 0 = wS W 0 → s' 3 < 25 → (∀ g', RRf g' (wS' W (sU (sU s' (12 + s' 3) (sPg (wS W) what which num)) 3 (s' 3 + 1))) → Q (pR v 1200 g') none) → okS (wN W) (sU (sU s' (12 + s' 3) (sPg (wS W) what which num)) 3 (s' 3 + 1)) → z_Wp (z_C d) 0 k_X11_write Q 71 [some (vR 11 0), some (vI (nI what)), some (vI (nI which)), some (vI (nI num)), u4] [] (pR v 1200 g) := by
      intro g s' u4 hg e0 e3 c hok
      have hT : RT g 5 1193 (wN W) s' := hg.2.2.2.2.2.2.1
      refine B_X11_write_71 ?_
      rw [gI_pR, gI_pR, show g 8 = nI (s' 3) from hT.2.2.2.1, show g 5 = nI (s' 0) from hT.1, e0, show (1193 : Int32) + nI (s' 3) = nI (1193 + s' 3) from nI_add 1193 _]
      refine z_ii _ rfl (by omega) ?_
      rw [n_nI (by omega), show (3 : Int32) = nI 3 from rfl, show (10 : Int32) = nI 10 from rfl, show (100 : Int32) = nI 100 from rfl, pk_mul, nI_add, pk_mul, nI_add, pk_mul, nI_add, pR_pI, gI_pR, upd_n (by omega), show g 8 = nI (s' 3) from hT.2.2.2.1, nI_1, pR_pI]
      refine c _ ?_
      have h1 : RT (upd g (1193 + s' 3) (nI (sPg (wS W) what which num))) 5 1193 (wN W) (sU s' (12 + s' 3) (sPg (wS W) what which num)) := hT.up e3
      exact hg.set (fun j hj hj2 => by rw [upd_n (by omega), upd_n (by omega)]) hok (h1.u (k := 3) (by decide) (by decide))
    have hpg : sPg (wS W) what which num < 30000000 := by
      have := hs.1
      unfold sPg
      omega
    rw [show f 8 = nI (wS W 3) from h.2.2.2.2.2.2.1.2.2.2.1]
    refine pk_ne (wS W 3) 25 (fun q => ?_) (fun q => ?_)
    · have hok : okS (wN W) (sWr (wS W) what which num) := sWr_ok hs h1 h2 h3
      unfold sWr at hok
      rw [if_pos (by omega)] at hok
      refine page f (wS W) _ h rfl (by omega) (fun g' hg' => k _ ?_ Fr_pR) hok
      rw [gI_pR_f]
      unfold sWb sWr
      rw [if_pos rfl, if_pos (by omega)]
      exact hg'
    · refine z_up (P := fun i => 1 ≤ i → z_Wp (z_C d) 0 k_X11_write Q 23 [some (vR 11 0), some (vI (nI what)), some (vI (nI which)), some (vI (nI num)), some (vI (nI i))] [] (pR v 1200 (sh1 f i))) 25 ?_ ?_ 1 (by decide) (Nat.le_refl _) |> fun z => by rw [sh1_1] at z; exact z
      · intro _
        refine B_X11_write_23 (pk_le 25 25 (fun _ => ?_) (fun q => absurd q (by decide)))
        have e8 : sh1 f 25 8 = nI 25 := by rw [sh1_o (by omega), ← q]; exact h.2.2.2.2.2.2.1.2.2.2.1
        rw [gI_pR, e8, pR_pI, show nI 25 - 1 = nI 24 from nI_pred 24]
        have hT : RT (sh1 f 25) 5 1193 (wN W) (sSh (wS W)) := by
          obtain ⟨a0, a1, a2, a3, a4, a5, a6⟩ := h.2.2.2.2.2.2.1
          refine ⟨?_, ?_, ?_, ?_, ?_, fun j hj => ?_, fun j hj => ?_⟩
          · rw [sh1_o (by omega), sSh_o (by omega)]; exact a0
          · rw [sh1_o (by omega), sSh_o (by omega)]; exact a1
          · rw [sh1_o (by omega), sSh_o (by omega)]; exact a2
          · rw [sh1_o (by omega), sSh_o (by omega)]; exact a3
          · rw [sh1_o (by omega), sSh_o (by omega)]; exact a4
          · rw [sh1_o (by omega), sSh_o (by omega)]; exact a5 j hj
          · by_cases z : j < 24
            · rw [sh1_i (by omega) (by omega), sSh_i (by omega)]
              exact a6 (j + 1) (by omega)
            · rw [sh1_o (by omega), sSh_o (by omega)]
              exact a6 j hj
        have hok : okS (wN W) (sWr (wS W) what which num) := sWr_ok hs h1 h2 h3
        have hT2 := hT.u (k := 3) (x := 24) (by decide) (by decide)
        have ho2 : okS (wN W) (sU (sSh (wS W)) 3 24) := by
          refine ⟨?_, ?_, ?_, ?_, ?_, fun j hj => ?_, fun j hj => ?_⟩
          · rw [sU_n (by omega), sSh_o (by omega)]; exact hs.1
          · rw [sU_n (by omega), sSh_o (by omega)]; exact hs.2.1
          · rw [sU_n (by omega), sSh_o (by omega)]; exact hs.2.2.1
          · rw [sU_s]; decide
          · rw [sU_n (by omega), sSh_o (by omega)]; exact hs.2.2.2.2.1
          · rw [sU_n (by omega), sSh_o (by omega)]; exact hs.2.2.2.2.2.1 j hj
          · by_cases z : j < 24
            · rw [sU_n (by omega), sSh_i (by omega)]
              exact hs.2.2.2.2.2.2 (j + 1) (by omega)
            · rw [sU_n (by omega), sSh_o (by omega)]
              exact hs.2.2.2.2.2.2 j hj
        have hr2 : RRf (upd (sh1 f 25) 8 (nI 24)) (wS' W (sU (sSh (wS W)) 3 24)) := h.set (fun j hj hj2 => by rw [upd_n (by omega), sh1_o (by omega)]) ho2 hT2
        have eqs : sU (sU (sU (sSh (wS W)) 3 24) (12 + sU (sSh (wS W)) 3 24 3) (sPg (wS W) what which num)) 3 (sU (sSh (wS W)) 3 24 3 + 1) = sWr (wS W) what which num := by
          unfold sWr
          rw [if_neg (by omega)]
          funext j
          rw [sU_s]
          by_cases z : j = 3
          · subst z
            rw [sU_s, sU_s]
          · rw [sU_n z, sU_n z]
            by_cases z2 : j = 36
            · subst z2
              rw [sU_s, sU_s]
            · rw [sU_n z2, sU_n z, sU_n z2]
        refine page _ _ _ hr2 (by rw [sU_n (by decide), sSh_o (by omega)]) (by rw [sU_s]; decide) (fun g' hg' => k _ ?_ Fr_pR) (by rw [eqs]; exact hok)
        rw [eqs] at hg'
        rw [gI_pR_f]
        exact hg'
      · intro i hi ih h1i
        refine B_X11_write_23 (pk_le 25 i (fun q => absurd q (by omega)) (fun _ => ?_))
        rw [show (1193 : Int32) + nI i = nI (1192 + i + 1) by rw [show 1192 + i + 1 = 1193 + i by omega]; exact nI_add 1193 i, nI_pred, nI_1]
        refine z_ii _ rfl (by omega) (z_ii _ rfl (by omega) ?_)
        rw [n_nI (by omega), n_nI (by omega), gI_pR, pR_pI, show 1192 + i + 1 = 1193 + i by omega, sh1_s h1i]
        exact ih (by omega)
  have := key (gI v 1200 0) h (fun u h1 h2 => k u ⟨h1, h2⟩)
  rw [pR_id] at this
  exact this
theorem RRf.u {f : Nat → Int32} {k x : Nat} (h : RRf f W) (hk : k < 12) (h4 : k ≠ 4) (ho : okS (wN W) (sU (wS W) k x)) : RRf (upd f (5 + k) (nI x)) (wS' W (sU (wS W) k x)) := h.set (fun j hj hj2 => upd_n (by omega)) ho (h.2.2.2.2.2.2.1.u hk h4)
theorem RRf.pI {t k x : Nat} (h : RRf (gI v 1200 0) W) (ht : t = 5 + k) (hk : k < 12) (h4 : k ≠ 4) (ho : okS (wN W) (sU (wS W) k x)) : RRf (gI (pI v 1200 0 t (nI x)) 1200 0) (wS' W (sU (wS W) k x)) := (h.u hk h4 ho).cg (fun j _ => by
  subst ht
  by_cases e : j = 5 + k
  · subst e
    rw [gI_pI_s, upd_s]
  · rw [gI_pI_k e, upd_n e])
theorem Fr_A {k : Nat} {x : Int32} : Fr (sT [1200]) v (pI v 1200 0 k x) := Fr.rfl.pI (by decide : 1200 ∈ [1200])
theorem s_anew (h : RRf (gI v 1200 0) W) : ZV (d + 1) m_X11_anew [vR 11 0] v (fun u => RRf (gI u 1200 0) (wS' W (sDr (wS W))) ∧ Fr (sT [1200]) v u) := fun Q k => E_X11_anew (B_X11_anew_0 (by
  have hx := h.1.2.1.2.1
  have e : (l_rem (((nI (wS W 1)).toInt64 * 691) + 569) 31013).toInt32 = nI ((wS W 1 * 691 + 569) % 31013) := by
    rw [nI_l (by omega), show (691 : Int64) = lN 691 from rfl, show (569 : Int64) = lN 569 from rfl, show (31013 : Int64) = lN 31013 from rfl, lN_mul, lN_add]
    unfold l_rem
    rw [pk_lRem (by omega) (by decide) (by decide), lN_i]
  rw [show gI v 1200 0 6 = nI (wS W 1) from h.2.2.2.2.2.2.1.2.1, e]
  exact k _ ⟨h.pI (k := 1) rfl (by decide) (by decide) (sDr_ok h.1.2.1), Fr_A⟩))
theorem s_drawnBy (h : RRf (gI v 1200 0) W) : ZI (d + 2) m_X11_drawnBy [vR 11 0, vI 10] v (fun u r => r = nI (wS W 1 % 10) ∧ RRf (gI u 1200 0) (wS' W (sDr (wS W))) ∧ Fr (sT [1200]) v u) := fun Q k => E_X11_drawnBy (B_X11_drawnBy_0 (by
  have hx := h.1.2.1.2.1
  refine z_if_k (by decide) (cV (s_anew h) (fun u hu => k _ _ ⟨?_, hu⟩))
  rw [show gI v 1200 0 6 = nI (wS W 1) from h.2.2.2.2.2.2.1.2.1]
  exact i_rem_nI' (by omega) (by decide) (by decide)))
theorem wT_S {s : z_St} : wT (wS' W s) = wT W := rfl
def plB (W : z_W) (T : Nat → z_T) (a1 a2 : Int32) : Bool := decide ((inr a1 7 && inr a2 100) = true ∧ wS W (5 + n_ a1) ≠ n_ a2 ∧ csV W T (n_ a1) (n_ a2) ≤ wS W 2)
theorem s_canPlate {a1 a2 : Int32} (h : RRf (gI v 1200 0) W) (hT : TXR v W T) : ZI (d + 7) m_X11_canPlate [vR 11 0, vI a1, vI a2] v (fun u r => r = bI (plB W T a1 a2) ∧ Fr sTr v u) := fun Q k => E_X11_canPlate (B_X11_canPlate_0 (by
  have no : ∀ u, ¬ ((inr a1 7 && inr a2 100) = true ∧ wS W (5 + n_ a1) ≠ n_ a2 ∧ csV W T (n_ a1) (n_ a2) ≤ wS W 2) → Fr sTr v u → Q u (some (vI 0)) := fun u z f => k _ _ ⟨by unfold plB; rw [decide_eq_false z]; rfl, f⟩
  refine cP s_isHalt (br_z (fun e => no _ (by rw [e]; simp) Fr.rfl) (fun e1 => ?_))
  refine cP s_isIn ?_
  rw [show decide ((0 : Int32) ≤ a2 ∧ a2 ≤ 99) = inr a2 100 from inr_le (n := 100) (by decide)]
  refine br_z (fun e => no _ (by rw [e]; simp) Fr.rfl) (fun e2 => ?_)
  obtain ⟨g, hg, rfl, hn1⟩ := inr_n (by decide) e1
  obtain ⟨x, hx, rfl, hn2⟩ := inr_n (by decide) e2
  rw [hn1, hn2] at no
  have hs := h.1.2.1
  have hnu := hs.2.2.2.2.2.1 g hg
  rw [show (10 : Int32) + nI g = nI (10 + g) from nI_add 10 g]
  refine z_ii _ rfl (by omega) ?_
  have hc : gI v 1200 0 (10 + g) = nI (wS W (5 + g)) := h.2.2.2.2.2.2.1.2.2.2.2.2.1 g hg
  rw [n_nI (by omega), hc]
  refine pk_eq (wS W (5 + g)) x (fun e => no _ (fun z => z.2.1 e) Fr.rfl) (fun e => ?_)
  refine cI (s_costsW h hT hg (by omega)) (fun u r hu => ?_)
  obtain ⟨rfl, f⟩ := hu
  have hcs := csV_le (W := W) (T := T) (h := g) (x := x)
  have hf := hs.2.2.1
  have hfu : gI v 1200 0 7 = nI (wS W 2) := h.2.2.2.2.2.2.1.2.2.1
  refine pk_lt (wS W 2) (csV W T g x) (fun q => no _ (fun z => by have := z.2.2; omega) f) (fun q => ?_) hfu rfl
  refine k _ _ ⟨?_, f⟩
  unfold plB
  rw [decide_eq_true ⟨by rw [e1, e2]; rfl, by rw [hn1, hn2]; exact e, by rw [hn1, hn2]; exact q⟩]
  rfl))
theorem s_plateNow {g x : Nat} (h : RRf (gI v 1200 0) W) (hT : TXR v W T) (hw : gI v 11 0 23 = bI true) (hg : g < 7) (hx : x ≤ 99) (hc : csV W T g x ≤ wS W 2) : ZI (d + 7) m_X11_plateNow [vR 11 0, vI (nI g), vI (nI x)] v (fun u r => r = nI (csV W T g x) ∧ RRf (gI u 1200 0) (wS' W (plS (wS W) (csV W T g x) g x)) ∧ Fr sPs v u) := fun Q k => E_X11_plateNow (B_X11_plateNow_0 (by
  refine cI (s_costsW h hT hg hx) (fun u r hu => ?_)
  obtain ⟨rfl, f⟩ := hu
  have hs := h.1.2.1
  have hf := hs.2.2.1
  have hu := h.fr f (fun _ => sTr_not (by decide))
  rw [show (10 : Int32) + nI g = nI (10 + g) from nI_add 10 g]
  refine z_ii _ rfl (by omega) ?_
  have hfu : gI u 1200 0 7 = nI (wS W 2) := hu.2.2.2.2.2.2.1.2.2.1
  rw [n_nI (by omega), hfu, pk_sub hc]
  have h2 := hu.pI (k := 2) (x := wS W 2 - csV W T g x) rfl (by decide) (by decide) (sU_ok2 hs (by omega))
  have h3 := h2.pI (t := 10 + g) (k := 5 + g) (x := x) (by omega) (by omega) (by omega) (sU_ok5 (sU_ok2 hs (by omega)) hg hx)
  have f3 : Fr sPs v (pI (pI u 1200 0 7 (nI (wS W 2 - csV W T g x))) 1200 0 (10 + g) (nI x)) := (sPs_r f).trans ((sPs_a Fr_A).trans (sPs_a Fr_A))
  refine cV (s_writeB (b := true) (what := 0) (which := g) (num := x) h3 ((f3.i (sPs_not (by omega))).trans hw) (by decide) (by omega) hx) (fun u2 hu2 => ?_)
  exact k _ _ ⟨rfl, hu2.1, f3.trans (sPs_a hu2.2)⟩))
theorem comp_xor {n s l : Nat} (hs : s < 2 ^ n) (hl : l < n) : (2 ^ n - 1 - s) ^^^ 2 ^ l = 2 ^ n - 1 - (s ^^^ 2 ^ l) := by
  have ht := tu_bit hl hs
  apply Nat.eq_of_testBit_eq
  intro i
  rw [Nat.testBit_xor, Nat.testBit_two_pow, show 2 ^ n - 1 - s = 2 ^ n - (s + 1) by omega, show 2 ^ n - 1 - (s ^^^ 2 ^ l) = 2 ^ n - ((s ^^^ 2 ^ l) + 1) by omega, Nat.testBit_two_pow_sub_succ hs, Nat.testBit_two_pow_sub_succ ht.1, Nat.testBit_xor, Nat.testBit_two_pow]
  by_cases e : l = i
  · subst e
    rw [decide_eq_true hl]
    simp
  · rw [decide_eq_false e]
    cases s.testBit i <;> cases decide (i < n) <;> rfl
theorem s_turnNow {l : Nat} (h : RRf (gI v 1200 0) W) (hw : gI v 11 0 23 = bI true) (hl : l < wN W) : ZV (d + 3) m_X11_turnNow [vR 11 0, vI (nI l)] v (fun u => RRf (gI u 1200 0) (wS' W (tuS (wS W) l)) ∧ Fr sPs v u) := fun Q k => E_X11_turnNow (B_X11_turnNow_0 (by
  have hs := h.1.2.1
  have hn := h.1.n
  have ht := tu_bit hl hs.2.2.2.2.1
  have h9 : gI v 1200 0 9 = nI (2 ^ wN W - 1 - wS W 4) := h.2.2.2.2.2.2.1.2.2.2.2.1
  rw [h9, nI_shl (by omega), nI_xor, comp_xor hs.2.2.2.2.1 hl]
  have h4 : RRf (gI (pI v 1200 0 9 (nI (2 ^ wN W - 1 - (wS W 4 ^^^ 2 ^ l)))) 1200 0) (wS' W (sU (wS W) 4 (wS W 4 ^^^ 2 ^ l))) := by
    refine (h.set (f' := upd (gI v 1200 0) 9 (nI (2 ^ wN W - 1 - (wS W 4 ^^^ 2 ^ l)))) (fun j hj hj2 => upd_n (by omega)) (sU_ok4 hs ht.1) h.2.2.2.2.2.2.1.u4).cg (fun j _ => ?_)
    by_cases e : j = 9
    · subst e
      rw [gI_pI_s, upd_s]
    · rw [gI_pI_k e, upd_n e]
  refine cP (s_isOpen h4.me.1 (by omega)) ?_
  have hbit : nP (wNet (wS' W (sU (wS W) 4 (wS W 4 ^^^ 2 ^ l)))) l = (wS W 4).testBit l := by
    have hh := sh_bit (l := l) (sh := wS W 4 ^^^ 2 ^ l) h4.1.1 (by
      show (wS W 4 ^^^ 2 ^ l) + (2 ^ wN W - 1 - sU (wS W) 4 (wS W 4 ^^^ 2 ^ l) 4) + 1 = 2 ^ wN W
      rw [sU_s]
      have := ht.1
      omega) hl
    rw [ht.2] at hh
    exact (Bool.not_inj hh).symm
  rw [hbit]
  have f4 : Fr sPs v (pI v 1200 0 9 (nI (2 ^ wN W - 1 - (wS W 4 ^^^ 2 ^ l)))) := sPs_a Fr_A
  have fin : ∀ e : Nat, e = (if (wS W 4).testBit l = true then 1 else 0) → z_C (d + 2) m_X11_write [vR 11 0, vI 1, vI (nI l), vI (nI e)] (pI v 1200 0 9 (nI (2 ^ wN W - 1 - (wS W 4 ^^^ 2 ^ l)))) (fun w4 o5 => o5 = none ∧ Q w4 none) := by
    intro e he
    refine cV (s_writeB (b := true) (what := 1) (which := l) (num := e) h4 ((f4.i (sPs_not (by omega))).trans hw) (by decide) (by omega) (by rw [he]; split <;> decide)) (fun u2 hu2 => k _ ⟨?_, f4.trans (sPs_a hu2.2)⟩)
    have := hu2.1
    rw [he] at this
    exact this
  refine br_z (fun e => fin 0 ?_) (fun e => fin 1 ?_)
  · rw [if_neg (by rw [e]; decide)]
  · rw [if_pos e]))
theorem s_canGrant {a : Int32} (h : RRf (gI v 1200 0) W) : ZP (d + 2) m_X11_canGrant [vR 11 0, vI a] v (bI (irg a 1 99 && decide (wS W 2 + n_ a ≤ 99999))) := fun Q k => E_X11_canGrant (B_X11_canGrant_0 (by
  have hf := h.1.2.1.2.2.1
  have hfu : gI v 1200 0 7 = nI (wS W 2) := h.2.2.2.2.2.2.1.2.2.1
  refine cP s_isIn ?_
  have e : decide ((1 : Int32) ≤ a ∧ a ≤ 99) = irg a 1 99 := by
    unfold irg
    refine decide_eq_decide.mpr ?_
    rw [Int32.le_iff_toInt_le, Int32.le_iff_toInt_le]
    exact Iff.rfl
  rw [e, hfu]
  refine br_z (fun q => bq (b' := false) (b := (irg a 1 99 && decide (wS W 2 + n_ a ≤ 99999))) k (by rw [q]; rfl)) (fun q => ?_)
  obtain ⟨p, p1, p2, rfl, hp⟩ := irg_i (lo := 1) (hi := 99) q
  rw [q, hp] at k
  rw [nI_add]
  refine pk_lt 99999 (wS W 2 + p) (fun z => ?_) (fun z => ?_)
  · rw [decide_eq_false (by omega)] at k
    exact k
  · rw [decide_eq_true z] at k
    exact k))
end WR2
