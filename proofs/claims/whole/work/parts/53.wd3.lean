/-! the class's world: plated, turned, granted, a day -/
theorem zC_m {d a : Nat} {As : List z_AV} {v : z_V} {Q Q' : z_RT} (h : ∀ v r, Q v r → Q' v r) (k : z_C d a As v Q) : z_C d a As v Q' := z_C_m d a As v Q Q' h k
section WD3
variable {d : Nat} {v : z_V} {w : Nat} {W : z_W} {T : Nat → z_T}
theorem RC.kb {u : z_V} (h : RC v w W) : RC v w (wKb false W) := h
theorem wKp_T {W : z_W} : wT (wKp W) = wT W := rfl
/-- maybe a step is kept: then on -/
theorem s_keepB {b : Bool} {A : z_V → Prop} (hR : RC v w W) (h : ∀ u, RC u w (wKb b W) → Fn (sWo w) v u → A u) : (b = false → A v) ∧ (b = true → z_C (d + 2) m_X9_keepStep [vR 9 w] v (fun u o => o = none ∧ A u)) := by
  refine ⟨fun e => ?_, fun e => ?_⟩
  · subst e
    exact h v hR Fn.rfl
  · subst e
    exact cV (s_keepStep hR) (fun u hu => h u hu.1 hu.2)
theorem plS_ok {n c h x : Nat} {s : z_St} (ho : okS n s) (hh : h < 7) (hx : x ≤ 99) : okS n (plS s c h x) := sWr_ok (sU_ok5 (sU_ok2 ho (by have := ho.2.2.1; omega)) hh hx) (by decide) (by omega) hx
theorem inr_n {a : Int32} {n : Nat} (hn : n < 2 ^ 31) (h : inr a n = true) : ∃ k, k < n ∧ a = nI k ∧ n_ a = k := by
  obtain ⟨k, h1, h2⟩ := inr_t h
  exact ⟨k, h1, h2, by rw [h2, n_nI (by omega)]⟩
theorem s_putPlate {a1 a2 : Int32} {b : Bool} (hR : RC v w W) (hX : TX v w W T) : ZI (d + 6) m_X9_putPlate [vR 9 w, vI a1, vI a2, vI (bI b)] v (fun u r => r = (wPl W T b a1 a2).2 ∧ RC u w (wPl W T b a1 a2).1 ∧ Fn (sWo w) v u) := fun Q k => E_X9_putPlate (B_X9_putPlate_0 (by
  have no : ¬ ((inr a1 7 && inr a2 100) = true ∧ wS W (5 + n_ a1) ≠ n_ a2 ∧ csV W T (n_ a1) (n_ a2) ≤ wS W 2) → ∀ u, RC u w W → Fn (sWo w) v u → Q u (some (vI (-1))) := fun z u hu f => by
    unfold wPl at k
    rw [if_neg z] at k
    exact k _ _ ⟨rfl, hu, f⟩
  refine lt0_nI (n := 7) (by decide) (fun e => no (by rw [e]; simp) _ hR Fn.rfl) (fun e => no (by rw [e]; simp) _ hR Fn.rfl) (fun e1 => ?_)
  refine lt99_nI (n := 99) (by decide) (fun e => no (by rw [e]; simp) _ hR Fn.rfl) (fun e => no (by rw [e]; simp) _ hR Fn.rfl) (fun e2 => ?_)
  obtain ⟨h, hh, rfl, hn1⟩ := inr_n (by decide) e1
  obtain ⟨x, hx, rfl, hn2⟩ := inr_n (by decide) e2
  unfold wPl at k
  rw [hn1, hn2] at no k
  have hs := hR.1.2.1
  have hnu := hs.2.2.2.2.2.1 h hh
  have hcell := hR.2.2.2.2.2.2.2.2.1.2.2.2.2.2.1 h hh
  refine z_ii h rfl hh ?_
  rw [n_nI (by omega), hcell]
  refine pk_ne (wS W (5 + h)) x (fun e3 => ?_) (fun e3 => no (fun z => z.2.1 e3) _ hR Fn.rfl)
  refine s_theText hR (fun q hq => cI (s_tellQC hR hX hq hh (by omega)) (fun u r hu => ?_))
  obtain ⟨rfl, fu⟩ := hu
  have hRu := hR.tl fu
  have hXu : TX u w W T := hX.wo (w := w) (sWo_tl fu)
  have hcs := csV_le (W := W) (T := T) (h := h) (x := x)
  have hfu := hs.2.2.1
  refine pk_le (csV W T h x) (wS W 2) (fun e4 => ?_) (fun e4 => no (fun z => absurd z.2.2 (by omega)) _ hRu (sWo_tl fu)) rfl hRu.2.2.2.2.2.2.2.2.1.2.2.1
  rw [if_pos ⟨by rw [e1, e2]; rfl, e3, e4⟩] at k
  have fin : ∀ u', RC u' w (wKb b W) → Fn (sWo w) u u' → z_C (d + 5) m_X4_write [vR 4 (31 * w), vI 0, vI (nI h), vI (nI x)] (pI (pI u' 4 (31 * w) 4 (gI u' 4 (31 * w) 4 - nI (csV W T h x))) 500 (31 * w) h (nI x)) (fun w7 o8 => o8 = none ∧ Q w7 (some (vI (nI (csV W T h x))))) := by
    intro u' hR' f'
    have hS' := hR'.2.2.2.2.2.2.2.2.1
    rw [wKb_S] at hS'
    rw [hS'.2.2.1, pk_sub e4]
    have hw := (hS'.f (x := wS W 2 - csV W T h x)).h (x := x) hh
    refine cV (s_write4 (what := 0) (which := h) (num := x) hw (sU_ok5 (sU_ok2 hs (by omega)) hh (by omega)) (by decide) (by omega) (by omega)) (fun u2 hu2 => ?_)
    have ff : Fn (sSt (31 * w)) u' u2 := ((Fn.rfl.pI ⟨Or.inl rfl, rfl⟩).pI ⟨Or.inr (Or.inl rfl), rfl⟩).trans hu2.2
    refine k _ _ ⟨rfl, hR'.set ff (by rw [wKb_N]; exact plS_ok hs hh (by omega)) hu2.1, ((sWo_tl fu).trans f').trans (sWo_st (by omega) (by omega) ff)⟩
  have kb := s_keepB (d := d + 3) (b := b) hRu fin
  refine br_z (fun e => z_ii h rfl hh (kb.1 e)) (fun e => ?_)
  refine zC_m (fun w9 o10 z => ⟨z.1, z_ii h rfl hh z.2⟩) (kb.2 e)))
theorem tu_bit {n : Nat} {l s : Nat} (hl : l < n) (hs : s < 2 ^ n) : s ^^^ 2 ^ l < 2 ^ n ∧ (s ^^^ 2 ^ l).testBit l = !s.testBit l := by
  refine ⟨Nat.xor_lt_two_pow hs (Nat.pow_lt_pow_right (by decide) hl), ?_⟩
  rw [Nat.testBit_xor, Nat.testBit_two_pow, decide_eq_true rfl, Bool.xor_true]
theorem tuS_ok {n l : Nat} {s : z_St} (ho : okS n s) (hn : n ≤ 10) (hl : l < n) : okS n (tuS s l) := sWr_ok (sU_ok4 ho (tu_bit hl ho.2.2.2.2.1).1) (by decide) (by omega) (by split <;> decide)
theorem s_turnLine {a : Int32} {b : Bool} (hR : RC v w W) : ZI (d + 4) m_X9_turnLine [vR 9 w, vI a, vI (bI b)] v (fun u r => r = (wTu W b a).2 ∧ RC u w (wTu W b a).1 ∧ Fn (sWo w) v u) := fun Q k => E_X9_turnLine (B_X9_turnLine_0 (by
  refine cP (s_hasLine hR.cw) (br_n (fun e => ?_) (fun e => ?_))
  · obtain ⟨l, hl, rfl, hnl⟩ := inr_n (show nN (wNet W) < 2 ^ 31 by have := hR.1.n; show wN W < _; omega) e
    have hl : l < wN W := hl
    have hn := hR.1.n
    unfold wTu at k
    rw [if_pos (show inr (nI l) (wN W) = true from e), hnl] at k
    have hs := hR.1.2.1
    have hp := Nat.pow_le_pow_right (n := 2) (by decide) hn
    have htb := tu_bit hl hs.2.2.2.2.1
    have fin : ∀ u', RC u' w (wKb b W) → Fn (sWo w) v u' → z_C (d + 3) m_X9_openBits [vR 9 w] (pI u' 4 (31 * w) 3 (gI u' 4 (31 * w) 3 ^^^ i_shl 1 (nI l))) (fun w4 o5 => ∃ i6 : Int32, o5 = some (vI i6) ∧ z_C (d + 3) m_X4_write [vR 4 (31 * w), vI 1, vI (nI l), vI (i_shr i6 (nI l) &&& 1)] w4 (fun w7 o8 => o8 = none ∧ Q w7 (some (vI 1)))) := by
      intro u' hR' f'
      have hS' := hR'.2.2.2.2.2.2.2.2.1
      rw [wKb_S] at hS'
      rw [hS'.2.2.2.2.1, nI_shl (by omega), nI_xor]
      have h4 := sU_ok4 hs htb.1
      have f4 : Fn (sSt (31 * w)) u' (pI u' 4 (31 * w) 3 (nI (wS W 4 ^^^ 2 ^ l))) := Fn.rfl.pI ⟨Or.inl rfl, rfl⟩
      have hR4 := hR'.set f4 (by rw [wKb_N]; exact h4) (hS'.s)
      refine cP (s_openBits hR4.cw) ?_
      have hbit : (nO (wNet (wS' (wKb b W) (sU (wS W) 4 (wS W 4 ^^^ 2 ^ l))))).testBit l = (wS W 4).testBit l := by
        have hh := sh_bit (l := l) (sh := wS W 4 ^^^ 2 ^ l) hR4.1.1 (by
          show (wS W 4 ^^^ 2 ^ l) + (2 ^ wN (wKb b W) - 1 - sU (wS W) 4 (wS W 4 ^^^ 2 ^ l) 4) + 1 = 2 ^ wN (wKb b W)
          rw [sU_s, wKb_N]
          have := htb.1
          omega) (by show l < wN (wKb b W); rw [wKb_N]; exact hl)
        rw [htb.2] at hh
        unfold nP at hh
        exact (Bool.not_inj hh).symm
      have ho := nO_lt hR4.1.1
      rw [nI_bitb (by omega) (by omega), hbit]
      have e1 : bI ((wS W 4).testBit l) = nI (if (wS W 4).testBit l = true then 1 else 0) := by cases (wS W 4).testBit l <;> rfl
      rw [e1]
      refine cV (s_write4 (what := 1) (which := l) (num := if (wS W 4).testBit l = true then 1 else 0) hS'.s h4 (by decide) (by omega) (by split <;> decide)) (fun u2 hu2 => ?_)
      exact k _ _ ⟨rfl, hR'.set (f4.trans hu2.2) (by rw [wKb_N]; exact tuS_ok hs hn hl) hu2.1, f'.trans (sWo_st (by omega) (by omega) (f4.trans hu2.2))⟩
    have kb := s_keepB (d := d + 1) (b := b) hR fin
    exact br_z kb.1 kb.2
  · unfold wTu at k
    rw [if_neg (by rw [show inr a (wN W) = false from e]; decide)] at k
    exact k _ _ ⟨rfl, hR, Fn.rfl⟩))
theorem irg_i {a : Int32} {lo hi : Nat} (h : irg a lo hi = true) : ∃ k, lo ≤ k ∧ k ≤ hi ∧ a = nI k ∧ n_ a = k := by
  have h := of_decide_eq_true h
  have hb := Int32.toInt_lt a
  have e : a = nI a.toInt.toNat := by
    rw [← Int32.toInt_inj, nI_toInt (by omega)]
    omega
  exact ⟨a.toInt.toNat, by omega, by omega, e, by rw [e, n_nI (by omega), ← e]⟩
theorem irg_s {a : Int32} {lo hi : Nat} {A B C : Prop} (hlo : lo < 2 ^ 31) (hhi : hi < 2 ^ 31) (f : irg a lo hi = false → A) (g : irg a lo hi = false → B) (t : irg a lo hi = true → C) : (a < nI lo → A) ∧ (¬ a < nI lo → (nI hi < a → B) ∧ (¬ nI hi < a → C)) := by
  have e1 := nI_toInt hlo
  have e2 := nI_toInt hhi
  refine ⟨fun h => f (decide_eq_false (fun q => ?_)), fun h0 => ⟨fun h => g (decide_eq_false (fun q => ?_)), fun h => t (decide_eq_true ?_)⟩⟩
  · rw [Int32.lt_iff_toInt_lt, e1] at h
    omega
  · rw [Int32.lt_iff_toInt_lt, e2] at h
    omega
  · rw [Int32.lt_iff_toInt_lt, e2] at h
    rw [Int32.lt_iff_toInt_lt, e1] at h0
    omega
theorem s_giveGrant {a : Int32} {b : Bool} (hR : RC v w W) : ZI (d + 4) m_X9_giveGrant [vR 9 w, vI a, vI (bI b)] v (fun u r => r = (wGr W b a).2 ∧ RC u w (wGr W b a).1 ∧ Fn (sWo w) v u) := fun Q k => E_X9_giveGrant (B_X9_giveGrant_0 (by
  have hs := hR.1.2.1
  have hS := hR.2.2.2.2.2.2.2.2.1
  have hf := hs.2.2.1
  unfold wGr at k
  refine irg_s (lo := 1) (hi := 99) (by decide) (by decide) (fun e => ?_) (fun e => ?_) (fun e => ?_)
  · rw [if_neg (by rw [show irg a 1 99 = false from e]; simp)] at k
    exact k _ _ ⟨rfl, hR, Fn.rfl⟩
  · rw [if_neg (by rw [show irg a 1 99 = false from e]; simp)] at k
    exact k _ _ ⟨rfl, hR, Fn.rfl⟩
  · obtain ⟨p, p1, p2, rfl, hp⟩ := irg_i e
    rw [hp] at k
    rw [hS.2.2.1, nI_add]
    refine pk_le (wS W 2 + p) 99999 (fun q => ?_) (fun q => ?_)
    · rw [if_pos (by rw [show irg (nI p) 1 99 = true from e, decide_eq_true q]; rfl)] at k
      have fin : ∀ u', RC u' w (wKb b W) → Fn (sWo w) v u' → Q (pI u' 4 (31 * w) 4 (gI u' 4 (31 * w) 4 + nI p)) (some (vI 1)) := by
        intro u' hR' f'
        have hS' := hR'.2.2.2.2.2.2.2.2.1
        rw [wKb_S] at hS'
        rw [hS'.2.2.1, nI_add]
        have ff : Fn (sSt (31 * w)) u' (pI u' 4 (31 * w) 4 (nI (wS W 2 + p))) := Fn.rfl.pI ⟨Or.inl rfl, rfl⟩
        exact k _ _ ⟨rfl, hR'.set ff (by rw [wKb_N]; exact sU_ok2 hs q) hS'.f, f'.trans (sWo_st (by omega) (by omega) ff)⟩
      have kb := s_keepB (d := d + 1) (b := b) hR fin
      refine br_z (fun e => ?_) kb.2
      have := kb.1 e
      rw [hS.2.2.1, nI_add] at this
      exact this
    · rw [if_neg (by rw [decide_eq_false (by omega)]; simp)] at k
      exact k _ _ ⟨rfl, hR, Fn.rfl⟩))
theorem isQ_b {q : Option (Nat × Nat)} {b : Bool} {s : z_St} (h : isQ W w q) : isQ (wS' (wKb b W) s) w q := by cases b <;> exact h
theorem TX_b {u : z_V} {b : Bool} {s : z_St} (h : TX u w W T) : TX u w (wS' (wKb b W) s) T := by cases b <;> exact h
theorem rd_b {b : Bool} {s : z_St} {l : Nat} : rdV (wS' (wKb b W) s) T l = wRid W T s l := by cases b <;> rfl
theorem fr_b {b : Bool} {s : z_St} {l : Nat} : fare (wNet (wS' (wKb b W) s)) (wnu (wS' (wKb b W) s)) l = wFr W s l := by cases b <;> rfl
theorem i_min_c {a : Nat} (ha : a < 2 ^ 31) : i_min 99999 (nI a) = nI (min 99999 a) := i_min_nI (a := 99999) (by decide) ha
theorem wFr_D {s : z_St} {l : Nat} : wFr W (sDr s) l = wFr W s l := by
  unfold wFr
  congr 1
  funext h
  exact sU_n (by omega)
theorem s_pd {b : Bool} {q : Option (Nat × Nat)} {Q : z_RT} (hW : okW W) (hq : isQ W w q) : ∀ (k l : Nat) (s : z_St) (c : Nat) (u : z_V), l + k = wN W → s 0 < 9999 → RC u w (wS' (wKb b W) s) → TX u w W T → Fn (sWo w) v u → (∀ u', RC u' w (wS' (wKb b W) (sU (pdL (wRid W T) (wFr W) k l s c).1 0 ((pdL (wRid W T) (wFr W) k l s c).1 0 + 1))) → Fn (sWo w) v u' → Q u' (some (vI (nI (pdL (wRid W T) (wFr W) k l s c).2)))) → ∀ (u1 u5 u6 : Option z_AV), z_Wp (z_C (d + 5)) 1 k_X9_passDay Q 18 [some (vR 9 w), u1, some (vQ q), some (vI (nI c)), some (vI (nI l)), u5, u6] [] u := by
  intro k
  induction k with
  | zero =>
    intro l s c u hl hd hR hX f h u1 u5 u6
    have hn := hR.1.n
    have hN : wN (wS' (wKb b W) s) = wN W := by cases b <;> rfl
    have hs : okS (wN W) s := by have := hR.1.2.1; rw [hN] at this; exact this
    have hS : RS u (31 * w) s := hR.2.2.2.2.2.2.2.2.1
    refine B_X9_passDay_18 (pk_le (wN W) l (fun _ => ?_) (fun z => absurd z (by omega)) (by rw [← hN]; exact hR.2.1))
    rw [hS.1, nI_1]
    have ff : Fn (sSt (31 * w)) u (pI u 4 (31 * w) 5 (nI (s 0 + 1))) := Fn.rfl.pI ⟨Or.inl rfl, rfl⟩
    exact h _ (hR.set ff (by rw [hN]; exact sU_ok0 (x := s 0 + 1) hs (by omega)) hS.d) (f.trans (sWo_st (by omega) (by omega) ff))
  | succ k ih =>
    intro l s c u hl hd hR hX f h u1 u5 u6
    have hN : wN (wS' (wKb b W) s) = wN W := by cases b <;> rfl
    have hn : wN W ≤ 10 := hW.n
    have hs : okS (wN W) s := by have := hR.1.2.1; rw [hN] at this; exact this
    have hS : RS u (31 * w) s := hR.2.2.2.2.2.2.2.2.1
    have hp := Nat.pow_le_pow_right (n := 2) (by decide) hn
    have hsh := hs.2.2.2.2.1
    unfold pdL at h
    refine B_X9_passDay_18 (pk_le (wN W) l (fun z => absurd z (by omega)) (fun _ => ?_) (by rw [← hN]; exact hR.2.1))
    rw [hS.2.2.2.2.1, nI_bitb (by omega) (by omega)]
    refine br_n (fun e => ?_) (fun e => ?_)
    · rw [if_pos e] at h
      refine B_X9_passDay_47 (br_T rfl ?_)
      rw [nI_1]
      exact ih (l + 1) s c u (by omega) hd hR hX f h _ _ _
    · rw [if_neg (by rw [e]; decide)] at h
      refine B_X9_passDay_47 (br_F (by decide) (cI (s_draw4 hS hs) (fun u2 x2 hu2 => ?_)))
      obtain ⟨rfl, hS2, f2⟩ := hu2
      have hR2 := hR.set f2 (by rw [hN]; exact sDr_ok hs) hS2
      have f2' := sWo_st (w := w) (by omega) (by omega) f2
      refine cI (s_tellQR (T := T) hR2 (TX_b (b := b) (hX.wo f2')) (isQ_b (b := b) hq) (by show l < wN (wKb b W); rw [wKb_N]; omega)) (fun u3 x3 hu3 => ?_)
      obtain ⟨rfl, f3⟩ := hu3
      have hR3 := hR2.tl f3
      have f3' := f2'.trans (sWo_tl (w := w) f3)
      rw [show rdV (wS' (wS' (wKb b W) s) (sDr s)) T l = wRid W T (sDr s) l from rd_b]
      have hrd : wRid W T (sDr s) l ≤ 10 := rdV_le
      have hx := hs.2.1
      rw [show i_rem (nI (s 1)) 10 = nI (s 1 % 10) from i_rem_nI' (by omega) (by decide) (by decide)]
      refine pk_le (wRid W T (sDr s) l) (s 1 % 10) (fun e2 => ?_) (fun e2 => ?_)
      · rw [if_neg (by omega)] at h
        rw [nI_1]
        exact ih (l + 1) (sDr s) c u3 (by omega) hd hR3 (hX.wo f3') (f.trans f3') h _ _ _
      · rw [if_pos e2] at h
        have hf := fare_le hW hs (l := l) (by omega)
        have hS3 : RS u3 (31 * w) (sDr s) := hR3.2.2.2.2.2.2.2.2.1
        refine cP (s_fareX hR3.cw (by show l < wN (wKb b W); rw [wKb_N]; omega)) ?_
        rw [show fare (wNet (wS' (wS' (wKb b W) s) (sDr s))) (wnu (wS' (wS' (wKb b W) s) (sDr s))) l = wFr W s l from (fr_b (b := b) (s := sDr s)).trans wFr_D]
        have hfu := hs.2.2.1
        rw [hS3.2.2.1, show sDr s 2 = s 2 from sU_n (by decide), nI_add, i_min_c (by omega)]
        have h2 := sU_ok2 (sDr_ok hs) (Nat.min_le_left 99999 (s 2 + wFr W s l))
        have ff : Fn (sSt (31 * w)) u3 (pI u3 4 (31 * w) 4 (nI (min 99999 (s 2 + wFr W s l)))) := Fn.rfl.pI ⟨Or.inl rfl, rfl⟩
        refine cV (s_write4 (what := 2) (which := l) (num := wFr W s l) hS3.f h2 (by decide) (by omega) hf) (fun u4 hu4 => ?_)
        have ff := ff.trans hu4.2
        rw [nI_1, nI_add]
        refine ih (l + 1) _ (c + wFr W s l) u4 (by omega) ?_ (hR3.set ff (by rw [show wN (wS' (wS' (wKb b W) s) (sDr s)) = wN W from wKb_N]; exact sWr_ok h2 (by decide) (by omega) hf) hu4.1) ((hX.wo f3').wo (sWo_st (w := w) (by omega) (by omega) ff)) (f.trans (f3'.trans (sWo_st (by omega) (by omega) ff))) h _ _ _
        unfold sWr
        split
        · rw [sU_n (by omega), sU_n (by omega), sU_n (by decide)]
          exact hd
        · rw [sU_n (by omega), sU_n (by omega), sSh_o (by omega), sU_n (by decide)]
          exact hd
theorem s_passDay {b : Bool} (hR : RC v w W) (hX : TX v w W T) (hd : wS W 0 < 9999) : ZI (d + 6) m_X9_passDay [vR 9 w, vI (bI b)] v (fun u r => r = nI (wPs W T b).2 ∧ RC u w (wPs W T b).1 ∧ Fn (sWo w) v u) := fun Q k => E_X9_passDay (B_X9_passDay_0 (by
  have fin : ∀ u', RC u' w (wKb b W) → Fn (sWo w) v u' → z_C (d + 5) m_X9_theText [vR 9 w] u' (fun w1 o2 => ∃ p3 : Option (Nat × Nat), o2 = some (vQ p3) ∧ z_Wp (z_C (d + 5)) 1 k_X9_passDay Q 18 [some (vR 9 w), some (vI (bI b)), some (vQ p3), some (vI 0), some (vI 0), none, none] [] w1) := by
    intro u' hR' f'
    refine s_theText hR' (fun q hq => ?_)
    have e : wS' (wKb b W) (wS W) = wKb b W := by cases b <;> rfl
    refine s_pd (v := v) (b := b) (T := T) hR.1 (by cases b <;> exact hq) (wN W) 0 (wS W) 0 u' (by omega) hd (by rw [e]; exact hR') (hX.wo f') f' (fun u2 hR2 f2 => k _ _ ⟨rfl, hR2, f2⟩) _ _ _
  have kb := s_keepB (d := d + 3) (b := b) hR fin
  exact br_z kb.1 kb.2))
theorem s_drawOnce {x : Nat} (hR : RC v w W) (hX : TX v w W T) (hx : x < 31013) : ZV (d + 7) m_X9_drawOnce [vR 9 w, vI (nI x)] v (fun u => RC u w (wDw W T x) ∧ Fn (sWo w) v u) := fun Q k => E_X9_drawOnce (B_X9_drawOnce_0 (by
  have e6 : i_rem (nI x) 6 = nI (x % 6) := i_rem_nI' (by omega) (by decide) (by decide)
  have e20 : i_rem (nI x) 20 = nI (x % 20) := i_rem_nI' (by omega) (by decide) (by decide)
  have e4 : i_rem (nI x) 4 = nI (x % 4) := i_rem_nI' (by omega) (by decide) (by decide)
  have d6 : nI x / 6 = nI (x / 6) := pk_div (d := 6) (by omega) (by decide) (by decide)
  have e7 : i_rem (nI (x / 6)) 7 = nI (x / 6 % 7) := i_rem_nI' (by omega) (by decide) (by decide)
  have e10 : i_rem (nI (x / 6)) 10 = nI (x / 6 % 10) := i_rem_nI' (by omega) (by decide) (by decide)
  have e9 : i_rem (nI (x / 6)) 9 = nI (x / 6 % 9) := i_rem_nI' (by omega) (by decide) (by decide)
  rw [e6, e20, e4, d6, e7, e10, e9, show (1 : Int32) + nI (x / 6 % 9) = nI (1 + x / 6 % 9) from nI_add 1 _]
  unfold wDw at k
  refine pk_eq (x % 6) 0 (fun q => ?_) (fun q0 => pk_eq (x % 6) 1 (fun q => ?_) (fun q1 => pk_eq (x % 6) 2 (fun q => ?_) (fun q2 => ?_)))
  · rw [if_pos q] at k
    exact cI (s_putPlate (b := false) hR hX) (fun u r hu => k _ hu.2)
  · rw [if_neg q0, if_pos q] at k
    refine pk_ne (x % 4) 3 (fun z => ?_) (fun z => ?_)
    · rw [if_neg z] at k
      exact k _ ⟨hR, Fn.rfl⟩
    · rw [if_pos z] at k
      exact cI (s_turnLine (b := false) hR) (fun u r hu => k _ hu.2)
  · rw [if_neg q0, if_neg q1, if_pos q] at k
    exact cI (s_giveGrant (b := false) hR) (fun u r hu => k _ hu.2)
  · rw [if_neg q0, if_neg q1, if_neg q2] at k
    have hd := hR.1.2.1.1
    refine pk_le 9999 (wS W 0) (fun z => ?_) (fun z => ?_) rfl hR.2.2.2.2.2.2.2.2.1.1
    · rw [if_neg (by omega)] at k
      exact k _ ⟨hR, Fn.rfl⟩
    · rw [if_pos z] at k
      exact cI (s_passDay (b := false) hR hX z) (fun u r hu => k _ hu.2)))
end WD3
