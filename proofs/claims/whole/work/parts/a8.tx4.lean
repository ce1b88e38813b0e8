/-! a text: laws and whole clauses, by the reference -/
def LRf (v : z_V) (k s : Nat) (r : Bool) (cl : Nat) (kd : Nat → Nat) (law : Option z_X) (w : Nat) : Prop := match law with
  | none => ∀ j, j < cl → kd j ≠ s
  | some e => ∃ j f, j < cl ∧ kd j = s ∧ (∀ i, i < j → kd i ≠ s) ∧ gI v 1202 0 (681 * k + 1 + 3 * j + 1) = nI f ∧ gI v 1202 0 (681 * k + 1 + 3 * j + 2) = nI (f + lR e) ∧ f + lR e ≤ w ∧ rR (gC k v) f e ∧ ty r e = 1
def TRb (v : z_V) (k : Nat) (T : z_T) (w cnt : Nat) : Prop := gI v 1202 0 (681 * k) = nI cnt ∧ T.2.2.1 ≤ 24 ∧ (∀ j, j < T.2.2.1 → gI v 1202 0 (681 * k + 1 + 3 * j) = nI (T.2.2.2.1 j) ∧ T.2.2.2.1 j ≤ 6 ∧ (2 ≤ T.2.2.2.1 j → gI v 1202 0 (681 * k + 1 + 3 * j + 1) = nI (T.2.2.2.2.1 j) ∧ (T.2.2.2.1 j ≤ 3 → gI v 1202 0 (681 * k + 1 + 3 * j + 2) = nI (T.2.2.2.2.2 j))) ∧ ck (T.2.2.2.1 j) (T.2.2.2.2.1 j) (T.2.2.2.2.2 j)) ∧ LRf v k 0 true T.2.2.1 T.2.2.2.1 T.1 w ∧ LRf v k 1 false T.2.2.1 T.2.2.2.1 T.2.1 w
def onc (T : z_T) : Nat := (if T.1.isSome = true then 1 else 0) + (if T.2.1.isSome = true then 2 else 0)
def TRc (B : Nat → Nat) (n kk : Nat) (u : z_V) (p : Nat) (T : z_T) (w : Nat) : Prop := TPr u B n ∧ TkR u B n p ∧ gI u 11 0 12 = nI (681 * kk) ∧ gI u 11 0 13 = nI w ∧ gI u 11 0 19 = nI (onc T) ∧ TRb u kk T w T.2.2.1 ∧ kk ≤ 3
def fRt (kk : Nat) : Nat → Nat → Prop := fun t k => (t = 11 ∧ (k = 7 ∨ k = 8 ∨ k = 9 ∨ k = 10 ∨ k = 11 ∨ k = 13 ∨ k = 14 ∨ k = 16 ∨ k = 17 ∨ k = 18 ∨ k = 19)) ∨ t = 1215 ∨ (t = 1202 ∧ 681 * kk ≤ k)
def RO (B : Nat → Nat) (n kk : Nat) (u : z_V) (R : z_Rc) (u' : z_V) (x : Int32) : Prop := match R with
  | .inl g => x = nI g.1 ∧ gI u' 11 0 8 = nI g.2 ∧ Fr (fRt kk) u u'
  | .inr y => x = 0 ∧ (∃ w, w ≤ y.2 ∧ TRc B n kk u' y.2 y.1 w) ∧ Fr (fRt kk) u u'
theorem LRf.add {v u : z_V} {k s cl x w : Nat} {r : Bool} {kd : Nat → Nat} {law : Option z_X} {S : Nat → Nat → Prop} (h : LRf v k s r cl kd law w) (hx : x ≠ s) (f : Fr S v u) (h1 : ∀ c, 681 * k < c → c < 681 * k + 1 + 3 * cl → ¬ S 1202 c) (h2 : ∀ c, 681 * k + 73 ≤ c → c < 681 * k + 73 + 2 * w → ¬ S 1202 c) : LRf u k s r (cl + 1) (updN kd cl x) law w := by
  cases law with
  | none =>
    intro j hj
    by_cases e : j = cl
    · rw [e, updN_s]
      exact hx
    · rw [updN_n e]
      exact h j (by omega)
  | some e =>
    obtain ⟨j, g, a1, a2, a3, a4, a5, a6, a7, a8⟩ := h
    refine ⟨j, g, by omega, by rw [updN_n (by omega)]; exact a2, fun i hi => by rw [updN_n (by omega)]; exact a3 i hi, (f.i (h1 _ (by omega) (by omega))).trans a4, (f.i (h1 _ (by omega) (by omega))).trans a5, a6, rR_cong (fun i _ hi => gC_eq f (h2 _ (by omega) (by omega)) (h2 _ (by omega) (by omega))) a7, a8⟩
theorem LRf.up {v : z_V} {k s cl w w' : Nat} {r : Bool} {kd : Nat → Nat} {law : Option z_X} (h : LRf v k s r cl kd law w) (hw : w ≤ w') : LRf v k s r cl kd law w' := by
  cases law with
  | none => exact h
  | some e =>
    obtain ⟨j, g, a1, a2, a3, a4, a5, a6, a7⟩ := h
    exact ⟨j, g, a1, a2, a3, a4, a5, by omega, a7⟩
section TX4
variable {d : Nat} {u : z_V} {B : Nat → Nat} {n kk : Nat} {p q w : Nat} {T : z_T}
/-- the clauses that stood before, and one more -/
theorem TRb.cells {u' : z_V} {k a b : Nat} {S : Nat → Nat → Prop} (h : TRb u kk T w T.2.2.1) (hcl : T.2.2.1 < 24) (f : Fr S u u') (h1 : ∀ c, 681 * kk ≤ c → c < 681 * kk + 1 + 3 * T.2.2.1 → ¬ S 1202 c) (hk : k ≤ 6) (hck : ck k a b) (g0 : gI u' 1202 0 (681 * kk + 1 + 3 * T.2.2.1) = nI k) (g1 : 2 ≤ k → gI u' 1202 0 (681 * kk + 1 + 3 * T.2.2.1 + 1) = nI a ∧ (k ≤ 3 → gI u' 1202 0 (681 * kk + 1 + 3 * T.2.2.1 + 2) = nI b)) : gI u' 1202 0 (681 * kk) = nI T.2.2.1 ∧ T.2.2.1 + 1 ≤ 24 ∧ ∀ j, j < T.2.2.1 + 1 → gI u' 1202 0 (681 * kk + 1 + 3 * j) = nI (updN T.2.2.2.1 T.2.2.1 k j) ∧ updN T.2.2.2.1 T.2.2.1 k j ≤ 6 ∧ (2 ≤ updN T.2.2.2.1 T.2.2.1 k j → gI u' 1202 0 (681 * kk + 1 + 3 * j + 1) = nI (updN T.2.2.2.2.1 T.2.2.1 a j) ∧ (updN T.2.2.2.1 T.2.2.1 k j ≤ 3 → gI u' 1202 0 (681 * kk + 1 + 3 * j + 2) = nI (updN T.2.2.2.2.2 T.2.2.1 b j))) ∧ ck (updN T.2.2.2.1 T.2.2.1 k j) (updN T.2.2.2.2.1 T.2.2.1 a j) (updN T.2.2.2.2.2 T.2.2.1 b j) := by
  refine ⟨(f.i (h1 _ (Nat.le_refl _) (by omega))).trans h.1, hcl, fun j hj => ?_⟩
  by_cases e : j = T.2.2.1
  · rw [e, updN_s, updN_s, updN_s]
    exact ⟨g0, hk, g1, hck⟩
  · rw [updN_n e, updN_n e, updN_n e]
    obtain ⟨a1, a2, a3, a4⟩ := h.2.2.1 j (by omega)
    exact ⟨(f.i (h1 _ (by omega) (by omega))).trans a1, a2, fun z => ⟨(f.i (h1 _ (by omega) (by omega))).trans (a3 z).1, fun z2 => (f.i (h1 _ (by omega) (by omega))).trans ((a3 z).2 z2)⟩, a4⟩
theorem TRb.hand {u' : z_V} {k a b : Nat} {S : Nat → Nat → Prop} (h : TRb u kk T w T.2.2.1) (hcl : T.2.2.1 < 24) (f : Fr S u u') (h1 : ∀ c, 681 * kk ≤ c → c < 681 * kk + 1 + 3 * T.2.2.1 → ¬ S 1202 c) (h2 : ∀ c, 681 * kk + 73 ≤ c → ¬ S 1202 c) (hk : k ≤ 6) (hk2 : 2 ≤ k) (hck : ck k a b) (g0 : gI u' 1202 0 (681 * kk + 1 + 3 * T.2.2.1) = nI k) (g1 : gI u' 1202 0 (681 * kk + 1 + 3 * T.2.2.1 + 1) = nI a) (g2 : k ≤ 3 → gI u' 1202 0 (681 * kk + 1 + 3 * T.2.2.1 + 2) = nI b) : TRb u' kk (addT T k a b) w T.2.2.1 := by
  have c := h.cells hcl f h1 hk hck g0 (fun _ => ⟨g1, g2⟩)
  exact ⟨c.1, c.2.1, c.2.2, h.2.2.2.1.add (by omega) f (fun x y z => h1 x (by omega) z) (fun x y _ => h2 x y), h.2.2.2.2.add (by omega) f (fun x y z => h1 x (by omega) z) (fun x y _ => h2 x y)⟩
theorem TRb.law {u' : z_V} {r : Bool} {s : Nat} {e : z_X} {S : Nat → Nat → Prop} (h : TRb u kk T w T.2.2.1) (hcl : T.2.2.1 < 24) (hs : s = if r = true then 0 else 1) (hno : hasL T s = false) (f : Fr S u u') (h1 : ∀ c, 681 * kk ≤ c → c < 681 * kk + 1 + 3 * T.2.2.1 → ¬ S 1202 c) (h2 : ∀ c, 681 * kk + 73 ≤ c → c < 681 * kk + 73 + 2 * w → ¬ S 1202 c) (g0 : gI u' 1202 0 (681 * kk + 1 + 3 * T.2.2.1) = nI s) (g1 : gI u' 1202 0 (681 * kk + 1 + 3 * T.2.2.1 + 1) = nI w) (g2 : gI u' 1202 0 (681 * kk + 1 + 3 * T.2.2.1 + 2) = nI (w + lR e)) (hr : rR (gC kk u') w e) (hty : ty r e = 1) : TRb u' kk (addL T r e) (w + lR e) T.2.2.1 := by
  have hs1 : s ≤ 1 := by rw [hs]; split <;> decide
  have ckk : ck s 0 0 := ⟨by omega, fun z => by omega, fun z => by omega, fun z => by omega, fun z => by omega, fun z => by omega⟩
  have c := h.cells hcl f h1 (by omega) ckk g0 (fun z => by omega)
  have ad : ∀ {s' r' law}, LRf u kk s' r' T.2.2.1 T.2.2.2.1 law w → s ≠ s' → LRf u' kk s' r' (T.2.2.1 + 1) (updN T.2.2.2.1 T.2.2.1 s) law (w + lR e) := fun {s' r' law} l hne => (l.add hne f (fun x y z => h1 x (by omega) z) h2).up (by omega)
  have nw : ∀ {law r'}, LRf u kk s r' T.2.2.1 T.2.2.2.1 law w → law.isSome = false → r' = r → LRf u' kk s r' (T.2.2.1 + 1) (updN T.2.2.2.1 T.2.2.1 s) (some e) (w + lR e) := fun {law r'} l hl hr' => by
    subst hr'
    cases law with
    | some x => cases hl
    | none =>
      refine ⟨T.2.2.1, w, Nat.lt_succ_self _, updN_s, fun i hi => ?_, g1, g2, Nat.le_refl _, hr, hty⟩
      rw [updN_n (by omega)]
      exact l i hi
  cases r with
  | true =>
    have hs : s = 0 := hs
    subst hs
    exact ⟨c.1, c.2.1, c.2.2, nw h.2.2.2.1 hno rfl, ad h.2.2.2.2 (by decide)⟩
  | false =>
    have hs : s = 1 := hs
    subst hs
    exact ⟨c.1, c.2.1, c.2.2, ad h.2.2.2.1 (by decide), nw h.2.2.2.2 hno rfl⟩
theorem s_sortOf (h : RTok u (tkC B n p) (tkV B n p)) (hd : 6 ≤ d) : ZP d m_X11_sortOf [vR 11 0] u (if stc (tkC B n p) = true then nI (kS (tkC B n p)) else -1) := by
  obtain ⟨e, rfl⟩ : ∃ e, d = e + 1 := ⟨d - 1, by omega⟩
  intro Q k
  have t42 := tk_42 (B := B) (n := n) (p := p)
  have yes : ∀ c y, decide (tkC B n p = c) = true → stc c = true → kS c = y → Q u (some (vI (nI y))) := fun c y e z1 z2 => by
    rw [of_decide_eq_true e, if_pos z1, z2] at k
    exact k
  refine E_X11_sortOf (B_X11_sortOf_0 ?_)
  refine cPL (s_wq0 (d := e) (by omega)) (cP (s_isWord h t42 (k := 0) (by decide) (d := e) (by omega)) (br_z (fun n0 => ?_) (fun g => yes 0 0 g rfl rfl)))
  refine cPL (s_wq1 (d := e) (by omega)) (cP (s_isWord h t42 (k := 1) (by decide) (d := e) (by omega)) (br_z (fun n1 => ?_) (fun g => yes 1 1 g rfl rfl)))
  refine cPL (s_wq2 (d := e) (by omega)) (cP (s_isWord h t42 (k := 2) (by decide) (d := e) (by omega)) (br_z (fun n2 => ?_) (fun g => yes 2 2 g rfl rfl)))
  refine cPL (s_wq4 (d := e) (by omega)) (cP (s_isWord h t42 (k := 4) (by decide) (d := e) (by omega)) (br_z (fun n4 => ?_) (fun g => yes 4 3 g rfl rfl)))
  refine cPL (s_wq6 (d := e) (by omega)) (cP (s_isWord h t42 (k := 6) (by decide) (d := e) (by omega)) (br_z (fun n6 => ?_) (fun g => yes 6 4 g rfl rfl)))
  refine cPL (s_wq7 (d := e) (by omega)) (cP (s_isWord h t42 (k := 7) (by decide) (d := e) (by omega)) (br_z (fun n7 => ?_) (fun g => yes 7 5 g rfl rfl)))
  refine cPL (s_wq8 (d := e) (by omega)) (cP (s_isWord h t42 (k := 8) (by decide) (d := e) (by omega)) (br_z (fun n8 => ?_) (fun g => yes 8 6 g rfl rfl)))
  have m0 := of_decide_eq_false n0
  have m1' := of_decide_eq_false n1
  have m2 := of_decide_eq_false n2
  have m4 := of_decide_eq_false n4
  have m6 := of_decide_eq_false n6
  have m7 := of_decide_eq_false n7
  have m8 := of_decide_eq_false n8
  have no : stc (tkC B n p) = false := by
    unfold stc
    by_cases z : tkC B n p ≤ 8
    · rcases (show tkC B n p = 3 ∨ tkC B n p = 5 by omega) with y | y <;> rw [y] <;> rfl
    · rw [decide_eq_false z, Bool.false_and]
  rw [no, if_neg (by decide)] at k
  exact k
/-- the loop's end, outside all parts -/
theorem sm_end {Q : z_RT} {r : Bool} {us : List Nat} (h : StR B n kk r u p 1 (us ++ []) w) (ho : btw (tkC B n p) (us ++ []) = 0) (hus : ∀ x, x ∈ us → 1 ≤ rkR x) (hw : w + us.length ≤ 300) (hd : 5 ≤ d) (k : ∀ u', StR B n kk r u' p 1 [] (w + us.length) → cls kk w us u' → Fr (fStl kk w) u u' → Q u' (some (vI 0))) : SMQ d Q u := fun u1 => by
  obtain ⟨e, rfl⟩ : ∃ e, d = e + 1 := ⟨d - 1, by omega⟩
  have hT : opT (us ++ []) = 0 := opT_app hus
  have hoN : oN (us ++ []) = -1 := by
    unfold oN
    rw [if_pos hT]
  have hpt : ptI (tkC B n p) (us ++ []) = -1 := by
    unfold ptI
    rw [hT, if_neg (by decide), if_neg (by decide), if_neg (by decide), if_neg (by decide)]
  refine B_X11_summed_15 ?_
  rw [h.iw1]
  refine ⟨fun z => absurd z (by decide), fun _ => cP (r := 0) (fun Q q => E_X11_behindOne (B_X11_behindOne_0 (cP (s_between h (d := e) (by omega)) ?_))) (b_0' rfl (cP (s_openNow h.pl (d := e + 1) (by omega)) ?_))⟩
  · rw [ho, m1_0]
    refine ⟨fun _ => cP (s_openNow h.pl (d := e) (by omega)) (cP (s_partOf h (d := e) (by omega)) ?_), fun z => absurd (show (-1 : Int32) < 0 by decide) z⟩
    rw [hpt]
    exact ⟨fun z => absurd z (by decide), fun _ => q⟩
  · rw [hoN]
    refine ⟨fun _ => cV (s_settle (s := 1) (us := us) (X := []) (d := e + 1) (by decide) (by decide) (by omega) h hus (by decide) hw) (fun w10 h10 => k _ h10.1 h10.2.1 h10.2.2), fun z => absurd (show (-1 : Int32) < 0 by decide) z⟩
/-- a law's sum, whole -/
theorem s_summed {r : Bool} {R : z_Rs} (hd : 9 ≤ d) (hp : p ≤ n) (hw : w ≤ p) (hT : TPr u B n) (hk : TkR u B n p) (h12 : gI u 11 0 12 = nI (681 * kk)) (h13 : gI u 11 0 13 = nI w) (h14 : gI u 11 0 14 = nI (if r = true then 0 else 1)) (hkk : kk ≤ 3) (hpq : PQ B n r 3 0 p zZ R) (hrn : ∀ d', 8 ≤ d' → RN B n kk r d' 3 0 p R) : ZI d m_X11_summed [vR 11 0] u (fun u' x => match R with
    | .inl g => x = nI g.1 ∧ gI u' 11 0 8 = nI g.2 ∧ Fr (fSu kk w) u u'
    | .inr y => x = 0 ∧ TPr u' B n ∧ TkR u' B n y.2 ∧ gI u' 11 0 13 = nI (w + lR y.1) ∧ rR (gC kk u') w y.1 ∧ Fr (fSu kk w) u u') := by
  obtain ⟨e, rfl⟩ : ∃ e, d = e + 1 := ⟨d - 1, by omega⟩
  intro Q k
  have hn := hT.2.1
  refine E_X11_summed (B_X11_summed_0 ?_)
  have f : Fr (fun t k => t = 11 ∧ (k = 16 ∨ k = 17 ∨ k = 18)) u (pI (pI (pI u 11 0 16 0) 11 0 17 0) 11 0 18 0) := ((Fr.rfl.pI ⟨rfl, Or.inl rfl⟩).pI ⟨rfl, Or.inr (Or.inl rfl)⟩).pI ⟨rfl, Or.inr (Or.inr rfl)⟩
  have F : Fr (fSu kk w) u (pI (pI (pI u 11 0 16 0) 11 0 17 0) 11 0 18 0) := f.mono (fun t k z => by unfold fSu; omega)
  have S0 : StR B n kk r (pI (pI (pI u 11 0 16 0) 11 0 17 0) 11 0 18 0) p 0 [] w := by
    refine ⟨hT.fr f (by decide) (fun k => by omega), hk.fr f (by decide) (by decide) (by decide) (by decide) (by decide), (f.i (by decide)).trans h12, (f.i (by decide)).trans h14, (f.i (by decide)).trans h13, gI_pI_s, ⟨?_, trivial, by decide⟩, ?_, by decide, hkk⟩
    · rw [gI_pI_k (by decide), gI_pI_k (by decide), gI_pI_s]
      rfl
    · rw [gI_pI_k (by decide), gI_pI_s]
      rfl
  refine hrn e (by omega) _ [] w S0 (by decide) rfl (by decide) (fun _ _ => rfl) (fun z => by omega) hw Q ?_ _
  cases R with
  | inl g => exact fun u' x1 x2 => k _ _ ⟨rfl, x1, F.trans x2⟩
  | inr y =>
    obtain ⟨ex, q0⟩ := y
    obtain ⟨g1, g2, g3, g4, g5⟩ := hpq.gd rfl hp (by decide)
    have hq := hpq.st rfl hp
    refine fun u' us w' y1 y2 y3 y4 => ?_
    have y1 : StR B n kk r u' q0 1 (us ++ []) w' := y1
    have y3 : PD kk w w' us ex u' := y3
    have hl := y3.2.1
    refine sm_end (d := e) y1 (btw_n (by rw [opT_app (us_1 y2)]; decide) (by unfold stK at g5; omega)) (us_1 y2) (by omega) (by omega) (fun u2 z1 z2 z3 => k _ _ ⟨rfl, z1.1, z1.2.1, ?_, rR_at y3 (fun i _ hi => gC_st z3 hi) z2, (F.trans y4).trans (fSt_su z3 y3.1)⟩)
    rw [z1.2.2.2.2.1, hl]
end TX4
