/-! days, played, years: both sides -/
def wDy (W : z_W) (T : Nat → z_T) (a : Int32) : z_W × Int32 := if (irg a 1 60 && decide (wS W 0 + n_ a ≤ 9999)) = true then ((wIt T (n_ a) W 0).1, nI (wIt T (n_ a) W 0).2) else (W, -1)
theorem wIt_T {T : Nat → z_T} : ∀ {k : Nat} {W : z_W} {c : Nat}, wT (wIt T k W c).1 = wT W
  | 0, _, _ => rfl
  | k + 1, W, c => by
    unfold wIt
    rw [wIt_T, wPs_T]
theorem wDy_T {W : z_W} {T : Nat → z_T} {a : Int32} : wT (wDy W T a).1 = wT W := by
  unfold wDy
  split
  · exact wIt_T
  · rfl
def nn (r : Int32) : Prop := r = -1 ∨ ∃ n, n < 2 ^ 31 ∧ r = nI n
theorem nn_pick {r : Int32} {A B : Prop} (h : nn r) (f : r = -1 → A) (g : r ≠ -1 → B) : (r < 0 → A) ∧ (¬ r < 0 → B) := by
  rcases h with rfl | ⟨n, hn, rfl⟩
  · exact ⟨fun _ => f rfl, fun q => absurd (by decide) q⟩
  · exact ⟨fun q => absurd q (nI_pos hn), fun _ => g (nI_nm1 hn)⟩
theorem wLy_nn {W : z_W} {a b : Int32} (h : wN W ≤ 10) : nn (wLy W a b).2 := by
  unfold wLy
  split
  · exact Or.inr ⟨wN W, by omega, rfl⟩
  · exact Or.inl rfl
theorem wPl_nn {W : z_W} {T : Nat → z_T} {b : Bool} {a1 a2 : Int32} : nn (wPl W T b a1 a2).2 := by
  unfold wPl
  split
  · have := csV_le (W := W) (T := T) (h := n_ a1) (x := n_ a2)
    exact Or.inr ⟨_, by omega, rfl⟩
  · exact Or.inl rfl
/-- a clause by hand -/
def wPf (W : z_W) (T : Nat → z_T) (k a b : Nat) : z_W × Bool :=
  if k = 2 then ((wLy W (nI a) (nI b)).1, decide ((wLy W (nI a) (nI b)).2 ≠ -1))
  else if k = 3 then ((wPl W T true (nI b) (nI a)).1, decide ((wPl W T true (nI b) (nI a)).2 ≠ -1))
  else if k = 4 then ((wTu W true (nI a)).1, decide ((wTu W true (nI a)).2 ≠ 0))
  else if k = 5 then ((wGr W true (nI a)).1, decide ((wGr W true (nI a)).2 ≠ 0))
  else if k = 6 then ((wIt T (min a (9999 - wS W 0)) W 0).1, decide (wS W 0 + a ≤ 9999))
  else (W, true)
theorem wPf_T {W : z_W} {T : Nat → z_T} {k a b : Nat} : wT (wPf W T k a b).1 = wT W := by
  unfold wPf
  split
  · exact wLy_T
  · split
    · exact wPl_T
    · split
      · exact wTu_T
      · split
        · exact wGr_T
        · split
          · exact wIt_T
          · rfl
def wPy (T : Nat → z_T) (X : z_T) : Nat → Nat → z_W → z_W × Int32
  | 0, _, W => (W, -1)
  | j + 1, k, W => if (wPf W T (X.2.2.2.1 k) (X.2.2.2.2.1 k) (X.2.2.2.2.2 k)).2 = true then wPy T X j (k + 1) (wPf W T (X.2.2.2.1 k) (X.2.2.2.2.1 k) (X.2.2.2.2.2 k)).1 else ((wPf W T (X.2.2.2.1 k) (X.2.2.2.2.1 k) (X.2.2.2.2.2 k)).1, nI k)
theorem wPy_T {T : Nat → z_T} {X : z_T} : ∀ {j k : Nat} {W : z_W}, wT (wPy T X j k W).1 = wT W
  | 0, _, _ => rfl
  | j + 1, k, W => by
    unfold wPy
    split
    · rw [wPy_T, wPf_T]
    · exact wPf_T
def wPd' (W : z_W) (T : Nat → z_T) (a : Int32) : z_W × Int32 := if inr a (wT W) = true then wPy T (T (n_ a)) (T (n_ a)).2.2.1 0 W else (W, -2)
theorem wPd'_T {W : z_W} {T : Nat → z_T} {a : Int32} : wT (wPd' W T a).1 = wT W := by
  unfold wPd'
  split
  · exact wPy_T
  · rfl
def wYs (T : Nat → z_T) : Nat → z_W → z_W
  | 0, W => W
  | k + 1, W => wYs T k (wDw (wS' W (sDr (wS W))) T (wS W 1))
theorem wDw_T {W : z_W} {T : Nat → z_T} {x : Nat} : wT (wDw W T x) = wT W := by
  unfold wDw
  split
  · exact wPl_T
  · split
    · split
      · exact wTu_T
      · rfl
    · split
      · exact wGr_T
      · split
        · exact wPs_T
        · rfl
theorem wYs_T {T : Nat → z_T} : ∀ {k : Nat} {W : z_W}, wT (wYs T k W) = wT W
  | 0, _ => rfl
  | k + 1, W => by
    unfold wYs
    rw [wYs_T, wDw_T]
    rfl
def wYr (W : z_W) (T : Nat → z_T) (a b : Int32) : z_W × Int32 := if (irg a 0 9999 && irg b 1 40) = true then (wYs T (n_ b) (wS' (wKp W) (sU (wS W) 1 (n_ a * 2 + 439))), nI (wS (wYs T (n_ b) (wS' (wKp W) (sU (wS W) 1 (n_ a * 2 + 439)))) 0)) else (W, -1)
theorem wYr_T {W : z_W} {T : Nat → z_T} {a b : Int32} : wT (wYr W T a b).1 = wT W := by
  unfold wYr
  split
  · exact wYs_T
  · rfl
section IV1
variable {d : Nat} {v : z_V} {q : z_Q}
theorem TX.T {u : z_V} {w : Nat} {W W' : z_W} {T : Nat → z_T} (h : TX u w W T) (e : wT W' = wT W) : TX u w W' T := fun k hk => h k (by rw [← e]; exact hk)
theorem TXR.T {u : z_V} {W W' : z_W} {T : Nat → z_T} (h : TXR u W T) (e : wT W' = wT W) : TXR u W' T := fun k hk => h k (by rw [← e]; exact hk)
theorem C_day {a : Int32} (h : InvC v q) : GC (d + 7) m_X10_day [vR 10 0, vI a] v (wDy (qW q) (qT q) a).2 (qSet q (wDy (qW q) (qT q) a).1) := fun Q k => E_X10_day (B_X10_day_0 (by
  have hR := h.2.1
  have hD : gI v 4 0 5 = nI (wS (qW q) 0) := hR.2.2.2.2.2.2.2.2.1.1
  have hd := hR.1.2.1.1
  have no : ¬ ((irg a 1 60 && decide (wS (qW q) 0 + n_ a ≤ 9999)) = true) → Q v (some (vI (-1))) := fun z => by
    unfold wDy at k
    rw [if_neg z] at k
    exact k _ _ ⟨rfl, h, Fn.rfl, Fn.rfl⟩
  refine irg_s (lo := 1) (hi := 60) (by decide) (by decide) (fun e => no (by rw [show irg a 1 60 = false from e]; simp)) (fun e => no (by rw [show irg a 1 60 = false from e]; simp)) (fun e => ?_)
  obtain ⟨n, n1, n2, rfl, hn⟩ := irg_i (lo := 1) (hi := 60) e
  rw [hn] at no
  rw [hD, nI_add]
  refine pk_le (wS (qW q) 0 + n) 9999 (fun e2 => ?_) (fun e2 => no (by rw [decide_eq_false (by omega)]; simp))
  unfold wDy at k
  rw [hn, if_pos (by rw [show irg (nI n) 1 60 = true from e, decide_eq_true e2]; rfl)] at k
  have key : ∀ j i (W : z_W) (c : Nat) (u : z_V), i + j = n → RC u 0 W → TX u 0 W (qT q) → wS W 0 + j ≤ 9999 → Fn (sWo 0) v u → (∀ u', RC u' 0 (wIt (qT q) j W c).1 → Fn (sWo 0) v u' → Q u' (some (vI (nI (wIt (qT q) j W c).2)))) → z_Wp (z_C (d + 6)) 1 k_X10_day Q 35 [some (vR 10 0), some (vI (nI n)), some (vI (nI c)), some (vI (nI i))] [] u := by
    intro j
    induction j with
    | zero =>
      intro i W c u hij hR hX hd f k
      exact B_X10_day_35 (pk_le n i (fun _ => k u hR f) (fun q => absurd q (by omega)))
    | succ j ih =>
      intro i W c u hij hR hX hd f k
      refine B_X10_day_35 (pk_le n i (fun q => absurd q (by omega)) (fun _ => ?_))
      refine cI (s_passDay (b := true) hR hX (by omega)) (fun u2 r2 hu2 => ?_)
      rw [hu2.1, nI_add, nI_1]
      exact ih (i + 1) _ (c + (wPs W (qT q) true).2) u2 (by omega) hu2.2.1 ((hX.wo hu2.2.2).T wPs_T) (by rw [wPs_day hR.1]; omega) (f.trans hu2.2.2) k
  exact key n 0 (qW q) 0 v (by omega) hR h.2.2.2.1 e2 Fn.rfl (fun u' hR' f' => k _ _ ⟨rfl, h.w0 f' hR' wIt_T, FC.w0 f', KC.w0 f'⟩)))
theorem R_day {a : Int32} (h : InvR v q) : GR (d + 9) m_X11_day [vR 11 0, vI a] v (wDy (qW q) (qT q) a).2 (qSet q (wDy (qW q) (qT q) a).1) := fun Q k => E_X11_day (B_X11_day_0 (by
  have hR := h.2.1
  have hd := hR.1.2.1.1
  have no : ¬ ((irg a 1 60 && decide (wS (qW q) 0 + n_ a ≤ 9999)) = true) → Q v (some (vI (-1))) := fun z => by
    unfold wDy at k
    rw [if_neg z] at k
    exact k _ _ ⟨rfl, h, Fn.rfl⟩
  refine cP s_isIn ?_
  have e0 : decide ((1 : Int32) ≤ a ∧ a ≤ 60) = irg a 1 60 := by
    unfold irg
    refine decide_eq_decide.mpr ?_
    rw [Int32.le_iff_toInt_le, Int32.le_iff_toInt_le]
    exact Iff.rfl
  rw [e0]
  refine br_z (fun e => no (by rw [e]; simp)) (fun e => ?_)
  obtain ⟨n, n1, n2, rfl, hn⟩ := irg_i (lo := 1) (hi := 60) e
  rw [hn] at no
  rw [show gI v 1200 0 5 = nI (wS (qW q) 0) from hR.2.2.2.2.2.2.1.1, nI_add]
  refine pk_lt 9999 (wS (qW q) 0 + n) (fun e2 => no (by rw [decide_eq_false (by omega)]; simp)) (fun e2 => ?_)
  unfold wDy at k
  rw [hn, if_pos (by rw [e, decide_eq_true e2]; rfl)] at k
  refine cI (s_arePassed hR h.2.2.2.1 h.2.2.2.2.2.2.2.2 n2) (fun u r hu => ?_)
  obtain ⟨rfl, h1, h2, f⟩ := hu
  rw [decide_eq_true e2, show min n (9999 - wS (qW q) 0) = n by omega] at *
  refine br_F (by decide) ?_
  rw [h2]
  exact k _ _ ⟨rfl, h.ps f h1 wIt_T, FR.ps f⟩))
theorem s_perform {k a b : Nat} {w : Nat} {W : z_W} {T : Nat → z_T} (hR : RC v w W) (hX : TX v w W T) (hc : ck k a b) : ZI (d + 7) m_X9_perform [vR 9 w, vI (nI (kC k)), vI (nI a), vI (nI b)] v (fun u r => r = bI (wPf W T k a b).2 ∧ RC u w (wPf W T k a b).1 ∧ Fn (sWo w) v u) := fun Q c => E_X9_perform (B_X9_perform_0 (by
  obtain ⟨hk, h2, h3, h4, h5, h6⟩ := hc
  have hd := hR.1.2.1.1
  unfold wPf at c
  have two : ∀ {r : Int32} {u : z_V} {W' : z_W}, RC u w W' → Fn (sWo w) v u → (∀ u x, x = bI (decide (r ≠ -1)) ∧ RC u w W' ∧ Fn (sWo w) v u → Q u (some (vI x))) → (r = -1 → Q u (some (vI 0))) ∧ (¬ r = -1 → Q u (some (vI 1))) := fun {r u W'} h1 h2 c => ⟨fun e => c u 0 ⟨by rw [decide_eq_false (fun z => z e)]; rfl, h1, h2⟩, fun e => c u 1 ⟨by rw [decide_eq_true e]; rfl, h1, h2⟩⟩
  have hc : k = 0 ∨ k = 1 ∨ k = 2 ∨ k = 3 ∨ k = 4 ∨ k = 5 ∨ k = 6 := by omega
  rcases hc with e | e | e | e | e | e | e <;> subst e
  · exact br_F (by decide) (br_F (by decide) (br_F (by decide) (br_F (by decide) (br_F (by decide) (br_F (by decide) (br_F (by decide) (c _ _ ⟨rfl, hR, Fn.rfl⟩)))))))
  · exact br_F (by decide) (br_F (by decide) (br_F (by decide) (br_F (by decide) (br_F (by decide) (br_F (by decide) (br_F (by decide) (c _ _ ⟨rfl, hR, Fn.rfl⟩)))))))
  · rw [if_pos rfl] at c
    exact br_T (by rfl) (cI (s_addLine hR) (fun u r hu => by
      rw [hu.1]
      exact two hu.2.1 hu.2.2 c))
  · rw [if_neg (by decide), if_pos rfl] at c
    exact br_F (by decide) (br_F (by decide) (br_T (by rfl) (cI (s_putPlate (b := true) hR hX) (fun u r hu => by
      rw [hu.1]
      exact two hu.2.1 hu.2.2 c))))
  · rw [if_neg (by decide), if_neg (by decide), if_pos rfl] at c
    refine br_F (by decide) (br_F (by decide) (br_F (by decide) (br_F (by decide) (br_T (by rfl) (cI (s_turnLine (b := true) hR) (fun u r hu => ?_))))))
    rw [hu.1]
    refine z_if_k wTu_01 (c _ _ ⟨?_, hu.2.1, hu.2.2⟩)
    unfold wTu
    split <;> rfl
  · rw [if_neg (by decide), if_neg (by decide), if_neg (by decide), if_pos rfl] at c
    refine br_F (by decide) (br_F (by decide) (br_F (by decide) (br_F (by decide) (br_F (by decide) (br_T (by rfl) (cI (s_giveGrant (b := true) hR) (fun u r hu => ?_)))))))
    rw [hu.1]
    refine z_if_k wGr_01 (c _ _ ⟨?_, hu.2.1, hu.2.2⟩)
    unfold wGr
    split <;> rfl
  · rw [if_neg (by decide), if_neg (by decide), if_neg (by decide), if_neg (by decide), if_pos rfl] at c
    refine br_F (by decide) (br_F (by decide) (br_F (by decide) (br_F (by decide) (br_F (by decide) (br_F (by decide) (br_T (by rfl) ?_))))))
    have ha := (h6 rfl).2
    rw [show gI v 4 (31 * w) 5 = nI (wS W 0) from hR.2.2.2.2.2.2.2.2.1.1, show (9999 : Int32) - nI (wS W 0) = nI (9999 - wS W 0) from pk_sub (a := 9999) hd, i_min_nI (by omega) (by omega)]
    have key : ∀ j i (W' : z_W) (c : Nat) (u : z_V), i + j = min a (9999 - wS W 0) → RC u w W' → TX u w W' T → wS W' 0 + j ≤ 9999 → Fn (sWo w) v u → (∀ u', RC u' w (wIt T j W' c).1 → Fn (sWo w) v u' → Q u' (some (vI (bI (decide (wS W 0 + a ≤ 9999)))))) → ∀ (u1 u3 : Option z_AV), z_Wp (z_C (d + 6)) 4 k_X9_perform Q 111 [some (vR 9 w), u1, some (vI (nI a)), u3, some (vI (nI (min a (9999 - wS W 0)))), some (vI (nI i))] [] u := by
      intro j
      induction j with
      | zero =>
        intro i W' c u hij hR' hX' hd' f k u1 u3
        have k := k u hR' f
        refine B_X9_perform_111 (pk_le (min a (9999 - wS W 0)) i (fun _ => pk_ne (min a (9999 - wS W 0)) a (fun e => ?_) (fun e => ?_)) (fun q => absurd q (by omega)))
        · rw [decide_eq_false (by omega)] at k
          exact k
        · rw [decide_eq_true (by omega)] at k
          exact k
      | succ j ih =>
        intro i W' c u hij hR' hX' hd' f k u1 u3
        refine B_X9_perform_111 (pk_le (min a (9999 - wS W 0)) i (fun q => absurd q (by omega)) (fun _ => ?_))
        refine cI (s_passDay (b := true) hR' hX' (by omega)) (fun u2 r2 hu2 => ?_)
        rw [nI_1]
        exact ih (i + 1) _ (c + (wPs W' T true).2) u2 (by omega) hu2.2.1 ((hX'.wo hu2.2.2).T wPs_T) (by rw [wPs_day hR'.1]; omega) (f.trans hu2.2.2) k _ _
    exact key _ 0 W 0 v (by omega) hR hX (by omega) Fn.rfl (fun u' hR' f' => c _ _ ⟨rfl, hR', f'⟩) _ _))
theorem C_played {a : Int32} (h : InvC v q) : GC (d + 8) m_X10_played [vR 10 0, vI a] v (wPd' (qW q) (qT q) a).2 (qSet q (wPd' (qW q) (qT q) a).1) := fun Q k => E_X10_played (B_X10_played_0 (by
  have hR := h.2.1
  have ht := hR.1.2.2.2.2.1
  unfold wPd' at k
  refine cP (s_hasTextX hR) (br_n (fun e => ?_) (fun e => ?_))
  · rw [if_pos e] at k
    obtain ⟨t, h1, rfl, hn⟩ := inr_n (by omega) e
    rw [hn] at k ⊢
    refine z_ii t rfl (by omega) ?_
    have hX := h.2.2.2.1
    have key : ∀ j i (W : z_W) (u : z_V), i + j = (qT q t).2.2.1 → RC u 0 W → TX u 0 W (qT q) → wT W = wT (qW q) → Fn (sWo 0) v u → (∀ u', RC u' 0 (wPy (qT q) (qT q t) j i W).1 → Fn (sWo 0) v u' → Q u' (some (vI (wPy (qT q) (qT q t) j i W).2))) → ∀ (u1 : Option z_AV), z_Wp (z_C (d + 7)) 1 k_X10_played Q 26 [some (vR 10 0), u1, some (vR 6 (0 + t)), some (vI (nI i))] [] u := by
      intro j
      induction j with
      | zero =>
        intro i W u hij hR hX hw f k u1
        have hT : TC u (0 + t) (qT q t) := hX t (by omega)
        have h24 := hT.2.2.2.1
        refine B_X10_played_26 ?_
        rw [hT.2.2.1]
        exact pk_le (qT q t).2.2.1 i (fun _ => k u hR f) (fun q => absurd q (by omega))
      | succ j ih =>
        intro i W u hij hR hX hw f k u1
        have hT : TC u (0 + t) (qT q t) := hX t (by omega)
        have h24 := hT.2.2.2.1
        obtain ⟨c1, c2, c3, c4⟩ := hT.2.2.2.2 i (by omega)
        unfold wPy at k
        refine B_X10_played_26 ?_
        rw [hT.2.2.1]
        refine pk_le (qT q t).2.2.1 i (fun q => absurd q (by omega)) (fun _ => z_ii i rfl (by omega) (z_ii i rfl (by omega) (z_ii i rfl (by omega) ?_)))
        rw [n_nI (by omega), c1, c2, c3]
        refine cI (s_perform hR hX c4) (fun u2 r2 hu2 => ?_)
        rw [hu2.1]
        refine br_n (fun e => ?_) (fun e => ?_)
        · rw [if_pos e] at k
          rw [nI_1]
          exact ih (i + 1) _ u2 (by omega) hu2.2.1 ((hX.wo hu2.2.2).T wPf_T) (wPf_T.trans hw) (f.trans hu2.2.2) k _
        · rw [if_neg (by rw [e]; decide)] at k
          exact k u2 hu2.2.1 (f.trans hu2.2.2)
    exact key _ 0 (qW q) v (by omega) hR hX rfl Fn.rfl (fun u' hR' f' => k _ _ ⟨rfl, h.w0 f' hR' wPy_T, FC.w0 f', KC.w0 f'⟩) _
  · rw [if_neg (by rw [e]; decide)] at k
    exact k _ _ ⟨rfl, h, Fn.rfl, Fn.rfl⟩))
theorem C_years {a b : Int32} (h : InvC v q) : GC (d + 8) m_X10_years [vR 10 0, vI a, vI b] v (wYr (qW q) (qT q) a b).2 (qSet q (wYr (qW q) (qT q) a b).1) := fun Q k => E_X10_years (B_X10_years_0 (by
  have hR := h.2.1
  have no : ¬ ((irg a 0 9999 && irg b 1 40) = true) → Q v (some (vI (-1))) := fun z => by
    unfold wYr at k
    rw [if_neg z] at k
    exact k _ _ ⟨rfl, h, Fn.rfl, Fn.rfl⟩
  refine irg_s (lo := 0) (hi := 9999) (by decide) (by decide) (fun e => no (by rw [show irg a 0 9999 = false from e]; simp)) (fun e => no (by rw [show irg a 0 9999 = false from e]; simp)) (fun e => ?_)
  have e := show irg a 0 9999 = true from e
  have i2 := irg_s (a := b) (lo := 1) (hi := 40) (A := Q v (some (vI (-1)))) (B := Q v (some (vI (-1)))) (C := irg b 1 40 = true) (by decide) (by decide) (fun e => no (by rw [show irg b 1 40 = false from e]; simp)) (fun e => no (by rw [show irg b 1 40 = false from e]; simp)) (fun e => e)
  refine ⟨i2.1, fun z => ⟨fun z2 => ?_, fun z2 => (i2.2 z).1 (Int32.not_le.mp z2)⟩⟩
  have e2 := (i2.2 z).2 (Int32.not_lt.mpr z2)
  obtain ⟨s, s1, s2, rfl, hs⟩ := irg_i (lo := 0) (hi := 9999) e
  obtain ⟨n, n1, n2, rfl, hn⟩ := irg_i (lo := 1) (hi := 40) e2
  unfold wYr at k
  rw [hs, hn, if_pos (by rw [e, e2]; rfl)] at k
  refine cV (s_keepStep hR) (fun u1 hu1 => ?_)
  rw [show nI s * 2 + 439 = nI (s * 2 + 439) by rw [show (2 : Int32) = nI 2 from rfl, show (439 : Int32) = nI 439 from rfl, pk_mul, nI_add]]
  have hok := sU_ok1 (x := s * 2 + 439) hR.1.2.1 (by omega)
  have ff : Fn (sSt (31 * 0)) u1 (pI u1 4 0 6 (nI (s * 2 + 439))) := Fn.rfl.pI ⟨Or.inl rfl, rfl⟩
  have hR1 := hu1.1.set (s := sU (wS (qW q)) 1 (s * 2 + 439)) ff hok (RS.x hu1.1.2.2.2.2.2.2.2.2.1)
  have f1 := hu1.2.trans (sWo_st (w := 0) (by omega) (by omega) ff)
  have key : ∀ j i (W : z_W) (u : z_V), i + j = n → RC u 0 W → TX u 0 W (qT q) → Fn (sWo 0) v u → (∀ u', RC u' 0 (wYs (qT q) j W) → Fn (sWo 0) v u' → Q u' (some (vI (nI (wS (wYs (qT q) j W) 0))))) → ∀ (u1 : Option z_AV), z_Wp (z_C (d + 7)) 1 k_X10_years Q 50 [some (vR 10 0), u1, some (vI (nI n)), some (vI (nI i))] [] u := by
    intro j
    induction j with
    | zero =>
      intro i W u hij hR hX f k u1
      refine B_X10_years_50 (pk_le n i (fun _ => ?_) (fun q => absurd q (by omega)))
      rw [show gI u 4 0 5 = nI (wS W 0) from hR.2.2.2.2.2.2.2.2.1.1]
      exact k u hR f
    | succ j ih =>
      intro i W u hij hR hX f k u1
      unfold wYs at k
      refine B_X10_years_50 (pk_le n i (fun q => absurd q (by omega)) (fun _ => ?_))
      refine cI (s_draw4 (n := wN W) hR.2.2.2.2.2.2.2.2.1 hR.1.2.1) (fun u2 r2 hu2 => ?_)
      obtain ⟨rfl, hS2, f2⟩ := hu2
      have hR2 := hR.set f2 (sDr_ok hR.1.2.1) hS2
      have f2' := sWo_st (w := 0) (by omega) (by omega) f2
      refine cV (s_drawOnce (T := qT q) hR2 ((hX.wo f2').T rfl) hR.1.2.1.2.1) (fun u3 hu3 => ?_)
      rw [nI_1]
      exact ih (i + 1) _ u3 (by omega) hu3.1 (((hX.wo f2').wo hu3.2).T wDw_T) (f.trans (f2'.trans hu3.2)) k _
  exact key n 0 _ _ (by omega) hR1 ((h.2.2.2.1.wo f1).T rfl) f1 (fun u' hR' f' => k _ _ ⟨rfl, h.w0 f' hR' wYs_T, FC.w0 f', KC.w0 f'⟩) _))
theorem R_years {a b : Int32} (h : InvR v q) : GR (d + 9) m_X11_years [vR 11 0, vI a, vI b] v (wYr (qW q) (qT q) a b).2 (qSet q (wYr (qW q) (qT q) a b).1) := fun Q k => E_X11_years (B_X11_years_0 (by
  have hR := h.2.1
  have no : ¬ ((irg a 0 9999 && irg b 1 40) = true) → Q v (some (vI (-1))) := fun z => by
    unfold wYr at k
    rw [if_neg z] at k
    exact k _ _ ⟨rfl, h, Fn.rfl⟩
  have e0 : decide ((0 : Int32) ≤ a ∧ a ≤ 9999) = irg a 0 9999 := by
    unfold irg
    refine decide_eq_decide.mpr ?_
    rw [Int32.le_iff_toInt_le, Int32.le_iff_toInt_le]
    exact Iff.rfl
  have e1 : decide ((1 : Int32) ≤ b ∧ b ≤ 40) = irg b 1 40 := by
    unfold irg
    refine decide_eq_decide.mpr ?_
    rw [Int32.le_iff_toInt_le, Int32.le_iff_toInt_le]
    exact Iff.rfl
  refine cP s_isIn ?_
  rw [e0]
  refine br_z (fun e => no (by rw [e]; simp)) (fun e => ?_)
  refine cP s_isIn ?_
  rw [e1]
  refine br_n (fun e2 => ?_) (fun e => no (by rw [e]; simp))
  obtain ⟨s, s1, s2, rfl, hs⟩ := irg_i (lo := 0) (hi := 9999) e
  obtain ⟨n, n1, n2, rfl, hn⟩ := irg_i (lo := 1) (hi := 40) e2
  unfold wYr at k
  rw [hs, hn, if_pos (by rw [e, e2]; rfl)] at k
  refine cV (s_keepR hR) (fun u1 hu1 => ?_)
  rw [show nI s * 2 + 439 = nI (s * 2 + 439) by rw [show (2 : Int32) = nI 2 from rfl, show (439 : Int32) = nI 439 from rfl, pk_mul, nI_add]]
  have hok := sU_ok1 (x := s * 2 + 439) hR.1.2.1 (by omega)
  have hR1 := hu1.1.pI (t := 6) (k := 1) (x := s * 2 + 439) rfl (by decide) (by decide) hok
  have f1 : Fr sPs v (pI u1 1200 0 6 (nI (s * 2 + 439))) := (sPs_a hu1.2).trans (sPs_a Fr_A)
  have key : ∀ j i (W : z_W) (u : z_V), i + j = n → RRf (gI u 1200 0) W → TXR u W (qT q) → Fr sPs v u → (∀ u', RRf (gI u' 1200 0) (wYs (qT q) j W) → Fr sPs v u' → Q u' (some (vI (nI (wS (wYs (qT q) j W) 0))))) → ∀ (u1 u4 : Option z_AV), z_Wp (z_C (d + 8)) 1 k_X11_years Q 43 [some (vR 11 0), u1, some (vI (nI n)), some (vI (nI i)), u4] [] u := by
    intro j
    induction j with
    | zero =>
      intro i W u hij hR hX f k u1 u4
      refine B_X11_years_43 (pk_le n i (fun _ => ?_) (fun q => absurd q (by omega)))
      rw [show gI u 1200 0 5 = nI (wS W 0) from hR.2.2.2.2.2.2.1.1]
      exact k u hR f
    | succ j ih =>
      intro i W u hij hR hX f k u1 u4
      unfold wYs at k
      refine B_X11_years_43 (pk_le n i (fun q => absurd q (by omega)) (fun _ => ?_))
      refine cV (s_anew hR) (fun u2 hu2 => ?_)
      rw [show gI u 1200 0 6 = nI (wS W 1) from hR.2.2.2.2.2.2.1.2.1]
      have f2 := sPs_a hu2.2
      refine cV (s_happens (T := qT q) hu2.1 ((hX.ps f2).T rfl) (((f.trans f2).i (sPs_not (by omega))).trans h.2.2.2.2.2.2.2.2) hR.1.2.1.2.1) (fun u3 hu3 => ?_)
      rw [nI_1]
      exact ih (i + 1) _ u3 (by omega) hu3.1 (((hX.ps f2).ps hu3.2).T wDw_T) (f.trans (f2.trans hu3.2)) k _ _
  exact key n 0 _ _ (by omega) hR1 ((h.2.2.2.1.ps f1).T rfl) f1 (fun u' hR' f' => k _ _ ⟨rfl, h.ps f' hR' wYs_T, FR.ps f'⟩) _ _))
end IV1
