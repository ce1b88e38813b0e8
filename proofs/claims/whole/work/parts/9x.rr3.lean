/-! the reference reads sums and asks: what stands between operands, what closes a part -/
def ptI (c : Nat) (X : List Nat) : Int32 := if opT X = 40 then (if c = 39 then 0 else -1) else if opT X = 41 then (if c = 21 ∧ cmpR X = true then 42 else -1) else if opT X = 42 then (if c = 22 then 43 else -1) else if opT X = 43 then (if c = 23 then 0 else -1) else -1
theorem m1_6 {y : Nat} (h : y ≠ 0) : m1 y = nI y := if_neg h
theorem m1_0 : m1 0 = -1 := rfl
section RR3
variable {d : Nat} {B : Nat → Nat} {n kk : Nat} {r : Bool} {p iw w : Nat} {X : List Nat} {u : z_V}
theorem StR.t9 (h : StR B n kk r u p iw X w) : ∃ t, Tk9 u (tkC B n p) t := h.2.1.1.t9 tk_42
theorem StR.pl (h : StR B n kk r u p iw X w) : Pil u X := h.2.2.2.2.2.2.1
theorem StR.rt (h : StR B n kk r u p iw X w) : RTok u (tkC B n p) (tkV B n p) := h.2.1.1
theorem oN_41 {c : Nat} (hc : c = 40 ∨ c = 41 ∨ c = 42 ∨ c = 43) (hp : PLs u X) : oN X = nI c ↔ opT X = c := by
  unfold oN
  rcases opA_T hp with ⟨y, z⟩ | ⟨y1, y2, _⟩
  · rw [if_pos y]
    constructor
    · intro e
      rcases hc with rfl | rfl | rfl | rfl <;> exact absurd e (by decide)
    · intro e
      omega
  · rw [if_neg (by omega), nI_eq (by omega) (by omega)]
theorem s_compareOf (h : StR B n kk r u p iw X w) (hd : 1 ≤ d) : ZP d m_X11_compareOf [vR 11 0] u (m1 (if 28 ≤ tkC B n p ∧ tkC B n p ≤ 33 then tkC B n p - 18 else 0)) := by
  obtain ⟨e, rfl⟩ : ∃ e, d = e + 1 := ⟨d - 1, by omega⟩
  intro Q q
  obtain ⟨t, t1, t2, t3, t4, t5, t6⟩ := h.t9
  have s28 : t = 60 ↔ tkC B n p = 28 := t6 28 (by decide) (by decide)
  have s29 : t = 4 ↔ tkC B n p = 29 := t6 29 (by decide) (by decide)
  have s30 : t = 62 ↔ tkC B n p = 30 := t6 30 (by decide) (by decide)
  have s31 : t = 5 ↔ tkC B n p = 31 := t6 31 (by decide) (by decide)
  have s32 : t = 61 ↔ tkC B n p = 32 := t6 32 (by decide) (by decide)
  have s33 : t = 35 ↔ tkC B n p = 33 := t6 33 (by decide) (by decide)
  have yes : ∀ y, 28 ≤ y → y ≤ 33 → tkC B n p = y → Q u (some (vI (nI (y - 18)))) := fun y a b e => by
    rw [e, if_pos ⟨a, b⟩, m1_6 (by omega)] at q
    exact q
  refine E_X11_compareOf (B_X11_compareOf_0 ?_)
  rw [t1]
  refine pk_ne t 60 (fun n1 => pk_ne t 4 (fun n2 => pk_ne t 62 (fun n3 => pk_ne t 5 (fun n4 => pk_ne t 61 (fun n5 => pk_ne t 35 (fun n6 => ?_) (fun z => yes 33 (by decide) (by decide) (s33.mp z))) (fun z => yes 32 (by decide) (by decide) (s32.mp z))) (fun z => yes 31 (by decide) (by decide) (s31.mp z))) (fun z => yes 30 (by decide) (by decide) (s30.mp z))) (fun z => yes 29 (by decide) (by decide) (s29.mp z))) (fun z => yes 28 (by decide) (by decide) (s28.mp z))
  rw [if_neg (by omega), m1_0] at q
  exact q
theorem s_between (h : StR B n kk r u p iw X w) (hd : 4 ≤ d) : ZP d m_X11_betweenOf [vR 11 0] u (m1 (btw (tkC B n p) X)) := by
  obtain ⟨e, rfl⟩ : ∃ e, d = e + 1 := ⟨d - 1, by omega⟩
  intro Q q
  have h42 := tk_42 (B := B) (n := n) (p := p)
  obtain ⟨t, t1, t2, t3, t4, t5, t6⟩ := h.t9
  have s34 : t = 43 ↔ tkC B n p = 34 := t6 34 (by decide) (by decide)
  have s35 : t = 45 ↔ tkC B n p = 35 := t6 35 (by decide) (by decide)
  have s36 : t = 42 ↔ tkC B n p = 36 := t6 36 (by decide) (by decide)
  have s37 : t = 47 ↔ tkC B n p = 37 := t6 37 (by decide) (by decide)
  have q' : ∀ y, btw (tkC B n p) X = y → Q u (some (vI (m1 y))) := fun y e => by rw [← e]; exact q
  refine E_X11_betweenOf (B_X11_betweenOf_0 ?_)
  rw [t1]
  refine pk_ne t 43 (fun n1 => pk_ne t 45 (fun n2 => pk_ne t 42 (fun n3 => pk_ne t 47 (fun n4 => cP (s_openNow h.pl (d := e) (by omega)) ?_) (fun z => q' 9 ?_)) (fun z => q' 8 ?_)) (fun z => q' 7 ?_)) (fun z => q' 6 ?_)
  · have ng : btw (tkC B n p) X = if opT X = 41 then (if cmpR X = true then (if tkC B n p = 25 then 21 else if tkC B n p = 24 then 22 else 0) else (if 28 ≤ tkC B n p ∧ tkC B n p ≤ 33 then tkC B n p - 18 else 0)) else 0 := by
      unfold btw
      rw [if_neg (by omega), if_neg (by omega), if_neg (by omega), if_neg (by omega)]
    rw [ng] at q'
    refine pick (oN_41 (c := 41) (by decide) h.pl.2.1) (fun z => ?_) (fun z => q' 0 (if_neg z))
    rw [if_pos z] at q'
    refine cP (s_isCompared h.pl (d := e) (by omega)) (br_n (fun y => ?_) (fun y => ?_))
    · rw [if_pos y] at q'
      refine cPL (s_wq25 (d := e) (by omega)) (cP (s_isWord h.rt h42 (k := 25) (by decide) (d := e) (by omega)) (br_z (fun g => ?_) (fun g => q' 21 (if_pos (of_decide_eq_true g)))))
      have g := of_decide_eq_false g
      rw [if_neg g] at q'
      exact cPL (s_wq24 (d := e) (by omega)) (cP (s_isWord h.rt h42 (k := 24) (by decide) (d := e) (by omega)) (br_z (fun g => q' 0 (if_neg (of_decide_eq_false g))) (fun g => q' 22 (if_pos (of_decide_eq_true g)))))
    · rw [y, if_neg (by decide)] at q'
      exact cP (s_compareOf h (d := e) (by omega)) (q' _ rfl)
  · unfold btw
    rw [if_neg (by omega), if_neg (by omega), if_neg (by omega), if_pos (s37.mp z)]
  · unfold btw
    rw [if_neg (by omega), if_neg (by omega), if_pos (s36.mp z)]
  · unfold btw
    rw [if_neg (by omega), if_pos (s35.mp z)]
  · unfold btw
    rw [if_pos (s34.mp z)]
theorem s_partOf (h : StR B n kk r u p iw X w) (hd : 4 ≤ d) : ZP d m_X11_partOf [vR 11 0, vI (oN X)] u (ptI (tkC B n p) X) := by
  obtain ⟨e, rfl⟩ : ∃ e, d = e + 1 := ⟨d - 1, by omega⟩
  intro Q q
  have h42 := tk_42 (B := B) (n := n) (p := p)
  obtain ⟨t, t1, t2, t3, t4, t5, t6⟩ := h.t9
  have s39 : t = 41 ↔ tkC B n p = 39 := t6 39 (by decide) (by decide)
  have q' : ∀ y, ptI (tkC B n p) X = y → Q u (some (vI y)) := fun y e => by rw [← e]; exact q
  unfold ptI at q'
  refine E_X11_partOf (B_X11_partOf_0 ?_)
  rw [t1]
  have hp := h.pl.2.1
  refine pick (oN_41 (c := 40) (by decide) hp) (fun a => ?_) (fun a => pick (oN_41 (c := 41) (by decide) hp) (fun b => ?_) (fun b => pick (oN_41 (c := 42) (by decide) hp) (fun c => ?_) (fun c => pick (oN_41 (c := 43) (by decide) hp) (fun g => ?_) (fun g => q' _ (by rw [if_neg a, if_neg b, if_neg c, if_neg g])))))
  · rw [if_pos a] at q'
    exact pk_ne t 41 (fun z => q' _ (if_neg (fun y => z (s39.mpr y)))) (fun z => q' _ (if_pos (s39.mp z)))
  · rw [if_neg a, if_pos b] at q'
    refine cPL (s_wq21 (d := e) (by omega)) (cP (s_isWord h.rt h42 (k := 21) (by decide) (d := e) (by omega)) (br_z (fun g => q' _ (if_neg (fun y => of_decide_eq_false g y.1))) (fun g => cP (s_isCompared h.pl (d := e) (by omega)) (br_z (fun y => q' _ (if_neg (fun x => by rw [y] at x; cases x.2))) (fun y => q' _ (if_pos ⟨of_decide_eq_true g, y⟩))))))
  · rw [if_neg a, if_neg b, if_pos c] at q'
    exact cPL (s_wq22 (d := e) (by omega)) (cP (s_isWord h.rt h42 (k := 22) (by decide) (d := e) (by omega)) (br_z (fun g => q' _ (if_neg (of_decide_eq_false g))) (fun g => q' _ (if_pos (of_decide_eq_true g)))))
  · rw [if_neg a, if_neg b, if_neg c, if_pos g] at q'
    exact cPL (s_wq23 (d := e) (by omega)) (cP (s_isWord h.rt h42 (k := 23) (by decide) (d := e) (by omega)) (br_z (fun g => q' _ (if_neg (of_decide_eq_false g))) (fun g => q' _ (if_pos (of_decide_eq_true g)))))
/-- the reference's loop, wherever it stands -/
def SMQ (d : Nat) (Q : z_RT) (u : z_V) : Prop := ∀ u1, z_Wp (z_C d) 1 k_X11_summed Q 15 [some (vR 11 0), u1] [] u
def cls (kk w : Nat) (us : List Nat) (u : z_V) : Prop := ∀ i, i < us.length → (gC kk u (w + i)).1 = nI (us.getD i 0)
theorem StR.iw1 (h : StR B n kk r u p iw X w) : gI u 11 0 18 = nI iw := h.2.2.2.2.2.1
theorem s_behop {us : List Nat} {o s : Nat} (h : StR B n kk r u p 1 (us ++ X) w) (ho : btw (tkC B n p) (us ++ X) = o) (ho1 : 6 ≤ o) (ho2 : o < 40) (hO : isO o = 0) (hs : s = if rkR o = 4 then 5 else rkR o) (hus : ∀ x, x ∈ us → s ≤ rkR x) (ht : tpP X < s) (hw : w + us.length ≤ 300) (hX : X.length + 1 ≤ 100) (hp : p ≤ n) (hd : 5 ≤ d) : ZI d m_X11_behindOne [vR 11 0] u (fun u' x => x = 1 ∧ StR B n kk r u' (nxT B n p) 0 (o :: X) (w + us.length) ∧ cls kk w us u' ∧ Fr (fSu kk w) u u') := by
  obtain ⟨e, rfl⟩ : ∃ e, d = e + 1 := ⟨d - 1, by omega⟩
  intro Q k
  have r7 := rk_le (x := o)
  refine E_X11_behindOne (B_X11_behindOne_0 (cP (s_between h (d := e) (by omega)) ?_))
  rw [ho, m1_6 (by omega)]
  have fin : ∀ w29, (StR B n kk r w29 p 1 X (w + us.length) ∧ cls kk w us w29 ∧ Fr (fStl kk w) u w29) → z_if (z_in (gI w29 11 0 16) 160) (z_C e m_X11_nextToken [vR 11 0] (pI (pI (pI w29 1215 0 (n_ (gI w29 11 0 16)) (nI o)) 11 0 16 ((gI w29 11 0 16) + 1)) 11 0 18 0) (fun w31 o32 => o32 = none ∧ Q w31 (some (vI 1)))) := fun w29 hh => by
    obtain ⟨b1, b2, b3⟩ := hh
    have bp := b1.pl
    have b1' := b1
    obtain ⟨a1, a2, a3, a4, a5, a6, a7, a8, a9, a10⟩ := b1
    rw [bp.1, n_nI (by omega), nI_1]
    have f : Fr (fun t k => t = 1215 ∧ k = X.length ∨ t = 11 ∧ (k = 16 ∨ k = 18)) w29 (pI (pI (pI w29 1215 0 X.length (nI o)) 11 0 16 (nI (X.length + 1))) 11 0 18 0) := ((Fr.rfl.pI (Or.inl ⟨rfl, rfl⟩)).pI (Or.inr ⟨rfl, Or.inl rfl⟩)).pI (Or.inr ⟨rfl, Or.inr rfl⟩)
    have S2 : StR B n kk r (pI (pI (pI w29 1215 0 X.length (nI o)) 11 0 16 (nI (X.length + 1))) 11 0 18 0) p 0 (o :: X) (w + us.length) := by
      refine b1'.re f (fun k q => by omega) (fun k q => by omega) ((f.i (by omega)).trans a5) gI_pI_s ⟨?_, ⟨?_, by omega, bp.2.1.fr (fun i hi => f.i (by omega))⟩, hX⟩ ((f.i (by omega)).trans ?_) ?_
      · rw [gI_pI_k (by decide), gI_pI_s]
        rfl
      · rw [gI_pI_ne (fun z => absurd z.1 (by decide)), gI_pI_ne (fun z => absurd z.1 (by decide)), gI_pI_s]
      · show gI w29 11 0 17 = nI (isO o + opN X)
        rw [hO, Nat.zero_add]
        exact a8
      · show isO o + opN X ≤ 8
        omega
    refine z_ii X.length rfl (by omega) (cV (s_nextR hp (d := e) (by omega) S2) (fun w31 h31 => ?_))
    refine k _ 1 ⟨rfl, h31.1, fun i hi => ?_, ((fSt_su b3 (Nat.le_refl _)).trans (f.mono (fun t k q => by unfold fSu; omega))).trans (fTq_su h31.2)⟩
    rw [gC_no h31.2 (fun k => by unfold fTq; omega), gC_no f (fun k => by omega)]
    exact b2 i hi
  refine ⟨fun z => absurd z (nI_pos (by omega)), fun _ => cP (s_rank (by omega) (d := e) (by omega)) (pk_ne (rkR o) 4 (fun n4 => ?_) (fun e4 => ?_))⟩
  · rw [if_neg n4] at hs
    have h1 : 1 ≤ rkR o := by rw [← hs]; omega
    refine cP (s_rank (by omega) (d := e) (by omega)) ?_
    rw [← hs]
    exact cV (s_settle (s := s) (d := e) (by omega) (by omega) (by omega) h hus ht hw) fin
  · rw [if_pos e4] at hs
    subst hs
    exact cV (s_settle (s := 5) (d := e) (by decide) (by decide) (by omega) h hus ht hw) fin
theorem sm_op {Q : z_RT} {us : List Nat} {o s : Nat} (h : StR B n kk r u p 1 (us ++ X) w) (ho : btw (tkC B n p) (us ++ X) = o) (ho1 : 6 ≤ o) (ho2 : o < 40) (hO : isO o = 0) (hs : s = if rkR o = 4 then 5 else rkR o) (hus : ∀ x, x ∈ us → s ≤ rkR x) (ht : tpP X < s) (hw : w + us.length ≤ 300) (hX : X.length + 1 ≤ 100) (hp : p ≤ n) (hd : 5 ≤ d) (k : ∀ u', StR B n kk r u' (nxT B n p) 0 (o :: X) (w + us.length) → cls kk w us u' → Fr (fSu kk w) u u' → SMQ d Q u') : SMQ d Q u := fun u1 => by
  refine B_X11_summed_15 ?_
  rw [h.iw1]
  exact ⟨fun z => absurd z (by decide), fun _ => cI (s_behop h ho ho1 ho2 hO hs hus ht hw hX hp hd) (fun w4 x h4 => b_1' h4.1 (k w4 h4.2.1 h4.2.2.1 h4.2.2.2 _))⟩
theorem sm_bad {Q : z_RT} (h : StR B n kk r u p 1 X w) (ho : btw (tkC B n p) X = 0) (hpt : ptI (tkC B n p) X = -1) (hop : opT X ≠ 0) (hd : 5 ≤ d) (k : Q u (some (vI 1))) : SMQ d Q u := fun u1 => by
  obtain ⟨e, rfl⟩ : ∃ e, d = e + 1 := ⟨d - 1, by omega⟩
  refine B_X11_summed_15 ?_
  rw [h.iw1]
  have hoN : ¬ oN X < 0 := by
    unfold oN
    rw [if_neg hop]
    rcases opA_T h.pl.2.1 with ⟨y, _⟩ | ⟨_, y2, _⟩
    · exact absurd y hop
    · exact nI_pos (by omega)
  refine ⟨fun z => absurd z (by decide), fun _ => cP (r := 0) (fun Q q => E_X11_behindOne (B_X11_behindOne_0 (cP (s_between h (d := e) (by omega)) ?_))) (b_0' rfl (cP (s_openNow h.pl (d := e + 1) (by omega)) ⟨fun z => absurd z hoN, fun _ => k⟩))⟩
  rw [ho, m1_0]
  refine ⟨fun _ => cP (s_openNow h.pl (d := e) (by omega)) (cP (s_partOf h (d := e) (by omega)) ?_), fun z => absurd (show (-1 : Int32) < 0 by decide) z⟩
  rw [hpt]
  exact ⟨fun z => absurd z (by decide), fun _ => q⟩
end RR3
