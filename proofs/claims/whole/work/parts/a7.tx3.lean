/-! a text: its clauses, by the reference -/
def fFg (c : Nat) : Nat → Nat → Prop := fun t k => fTq t k ∨ (t = 1202 ∧ k = c)
def fHd (c : Nat) : Nat → Nat → Prop := fun t k => fTq t k ∨ (t = 1202 ∧ (k = c + 1 ∨ k = c + 2))
/-- what a clause by hand leaves, before it is counted -/
def HO (B : Nat → Nat) (n : Nat) (T : z_T) (k c0 : Nat) (u : z_V) (R : z_Rc) (u' : z_V) (x : Int32) : Prop := match R with
  | .inl g => x = nI g.1 ∧ gI u' 11 0 8 = nI g.2 ∧ Fr (fHd c0) u u'
  | .inr y => x = 0 ∧ TPr u' B n ∧ TkR u' B n y.2 ∧ (∃ a b, y.1 = addT T k a b ∧ ck k a b ∧ gI u' 1202 0 (c0 + 1) = nI a ∧ (k ≤ 3 → gI u' 1202 0 (c0 + 2) = nI b)) ∧ Fr (fHd c0) u u'
section TX3
variable {d : Nat} {u : z_V} {B : Nat → Nat} {n : Nat} {p q c0 : Nat} {T : z_T}
theorem TPr.fg {v u : z_V} {c : Nat} (h : TPr v B n) (f : Fr (fFg c) v u) : TPr u B n := h.fr f (by unfold fFg; unfold fTq; omega) (fun k => by unfold fFg; unfold fTq; omega)
theorem s_figure {cell lo hi : Nat} (hc : cell < 2724) (hhi : hi ≤ 99) (hlo : lo ≤ 1) (hT : TPr u B n) (hk : TkR u B n p) (hp : p ≤ n) (hd : 3 ≤ d) : ZI d m_X11_figure [vR 11 0, vI (nI cell), vI (nI lo), vI (nI hi)] u (fun u' x => (tkC B n p = 27 ∧ (lo ≤ tkV B n p ∧ tkV B n p ≤ hi) ∧ x = 0 ∧ TPr u' B n ∧ TkR u' B n (nxT B n p) ∧ gI u' 1202 0 cell = nI (tkV B n p) ∧ Fr (fFg cell) u u') ∨ (tkC B n p = 27 ∧ ¬ (lo ≤ tkV B n p ∧ tkV B n p ≤ hi) ∧ x = 2 ∧ u' = u) ∨ (tkC B n p ≠ 27 ∧ x = 1 ∧ u' = u)) := by
  obtain ⟨e, rfl⟩ : ∃ e, d = e + 2 + 1 := ⟨d - 3, by omega⟩
  intro Q k
  obtain ⟨t, t1, t2, t3, t4, t5, t6⟩ := hk.1.t9 tk_42
  refine E_X11_figure (B_X11_figure_0 ?_)
  rw [t1]
  refine pk_eq t 1 (fun z => ?_) (fun z => k _ 1 (Or.inr (Or.inr ⟨fun y => z (t3.mpr y), rfl, rfl⟩)))
  have e27 := t3.mp z
  obtain ⟨_, y, y1, y2, y3⟩ := hk.1.2.1 e27
  rw [y2]
  refine cP (s_isIn (d := e + 1)) ?_
  have ed : (nI lo ≤ nI y ∧ nI y ≤ nI hi) ↔ (lo ≤ tkV B n p ∧ tkV B n p ≤ hi) := by
    rw [nI_leI (by omega) (by omega), nI_leI (by omega) (by omega), y3]
    omega
  refine br_n (fun g => ?_) (fun g => k _ 2 (Or.inr (Or.inl ⟨e27, fun z2 => of_decide_eq_false g (ed.mpr z2), rfl, rfl⟩)))
  have g2 := ed.mp (of_decide_eq_true g)
  rw [n_nI (by omega), y2]
  have f1 : Fr (fFg cell) u (pI u 1202 0 cell (nI y)) := Fr.rfl.pI (Or.inr ⟨rfl, rfl⟩)
  have f1' : Fr (fun t k => t = 1202) u (pI u 1202 0 cell (nI y)) := Fr.rfl.pI rfl
  refine z_ii cell rfl hc (cV (s_nextToken (d := e) (hT.fg f1) (nx_le hp) ((f1'.i (by decide)).trans hk.2.2)) (fun w4 h4 => ?_))
  have F : Fr (fFg cell) u w4 := f1.trans (h4.2.mono (fun t k z => Or.inl z))
  refine k _ 0 (Or.inl ⟨e27, g2, rfl, hT.fg F, h4.1, ?_, F⟩)
  rw [h4.2.i (by unfold fTq; omega), gI_pI_s, show y = tkV B n p by omega]
theorem fFg_Hd {v w : z_V} {c i : Nat} (h : Fr (fFg (c + i)) v w) (hi : i = 1 ∨ i = 2) : Fr (fHd c) v w := h.mono (fun t k q => by
  rcases q with q | q
  · exact Or.inl q
  · exact Or.inr ⟨q.1, by omega⟩)
theorem s_bodyH {c : Nat} (hc : c = 2 ∨ c = 4 ∨ c = 6 ∨ c = 7 ∨ c = 8) (hc0 : c0 + 2 < 2724) (hT : TPr u B n) (hk : TkR u B n q) (hq : q ≤ n) (hd : 5 ≤ d) : ZI d m_X11_body [vR 11 0, vI (nI (kS c)), vI (nI c0)] u (HO B n T (kS c) c0 u (doR B n T c q)) := by
  obtain ⟨e, rfl⟩ : ∃ e, d = e + 1 := ⟨d - 1, by omega⟩
  have n1 := nx_le (B := B) hq
  have one : ∀ {Q : z_RT}, (c = 6 ∨ c = 7 ∨ c = 8) → (∀ w r, HO B n T (kS c) c0 u (doR B n T c q) w r → Q w (some (vI r))) → z_C e m_X11_figure [vR 11 0, vI (nI (c0 + 1)), vI (nI (loN c)), vI (nI (hiN c))] u (fun w o => ∃ i : Int32, o = some (vI i) ∧ Q w (some (vI i))) := fun {Q} h6 k => by
    unfold doR at k
    rw [if_neg (by omega)] at k
    unfold figR at k
    refine cI (s_figure (cell := c0 + 1) (lo := loN c) (hi := hiN c) (d := e) (by omega) (by rcases h6 with z | z | z <;> rw [z] <;> decide) (by rcases h6 with z | z | z <;> rw [z] <;> decide) hT hk hq (by omega)) (fun w x hx => ?_)
    rcases hx with ⟨t, rg, y, z1, z2, z3, z4⟩ | ⟨t, rg, rfl, rfl⟩ | ⟨t, rfl, rfl⟩
    · rw [if_pos t, if_pos rg] at k
      have hk' := ck_h (c := c) (a := tkV B n q) (b := 0) hc rg (by decide)
      exact k _ _ ⟨y, z1, z2, ⟨_, 0, rfl, hk'.1, z3, fun y => by rcases h6 with z | z | z <;> rw [z] at y <;> exact absurd y (by decide)⟩, fFg_Hd z4 (Or.inl rfl)⟩
    · rw [if_pos t, if_neg rg] at k
      exact k _ _ ⟨rfl, hk.2.1, Fr.rfl⟩
    · rw [if_neg t] at k
      exact k _ _ ⟨rfl, hk.2.1, Fr.rfl⟩
  have two : ∀ {Q : z_RT} (m wd : Nat), (c = 2 ∧ m = 6 ∧ wd = 3) ∨ (c = 4 ∧ m = 99 ∧ wd = 5) → (∀ w r, HO B n T (kS c) c0 u (doR B n T c q) w r → Q w (some (vI r))) → z_C e m_X11_pair [vR 11 0, vI (nI c0), vI (nI m), vL (WQ wd)] u (fun w o => ∃ i : Int32, o = some (vI i) ∧ Q w (some (vI i))) := fun {Q} m wd h2 k => by
    have hhi : hiN c = m := by rcases h2 with z | z <;> rw [z.1, z.2.1] <;> rfl
    have hw : (if c = 2 then 3 else 5) = wd := by rcases h2 with z | z <;> rw [z.1, z.2.2] <;> rfl
    have hlo : loN c = 0 := by rcases h2 with z | z <;> rw [z.1] <;> rfl
    unfold doR at k
    rw [if_pos (by omega), hhi, hw] at k
    unfold figR expR at k
    obtain ⟨e', rfl⟩ : ∃ e', e = e' + 1 := ⟨e - 1, by omega⟩
    refine cI (P := fun w r => HO B n T (kS c) c0 u (if tkC B n q = 27 then (if 0 ≤ tkV B n q ∧ tkV B n q ≤ m then (if tkC B n (nxT B n q) = wd then (if tkC B n (nxT B n (nxT B n q)) = 27 then (if 0 ≤ tkV B n (nxT B n (nxT B n q)) ∧ tkV B n (nxT B n (nxT B n q)) ≤ 6 then .inr (addT T (kS c) (tkV B n q) (tkV B n (nxT B n (nxT B n q))), nxT B n (nxT B n (nxT B n q))) else .inl (2, frT B n (nxT B n (nxT B n q)))) else .inl (1, frT B n (nxT B n (nxT B n q)))) else .inl (1, frT B n (nxT B n q))) else .inl (2, frT B n q)) else .inl (1, frT B n q)) w r) (fun Q k => E_X11_pair (B_X11_pair_0 ?_)) (fun w r h => k w r h)
    rw [nI_1]
    refine cI (s_figure (cell := c0 + 1) (lo := 0) (hi := m) (d := e') (by omega) (by omega) (by decide) hT hk hq (by omega)) (fun w x hx => ?_)
    rcases hx with ⟨t, rg, y, z1, z2, z3, z4⟩ | ⟨t, rg, rfl, rfl⟩ | ⟨t, rfl, rfl⟩
    · rw [if_pos t, if_pos rg] at k
      refine b_0' y (cP (s_isWord z2.1 tk_42 (k := wd) (by omega) (d := e') (by omega)) (br_n (fun g => ?_) (fun g => ?_)))
      · have g := of_decide_eq_true g
        rw [if_pos g] at k
        have n2 := nx_le (B := B) n1
        obtain ⟨e2, rfl⟩ : ∃ e2, e' = e2 + 2 := ⟨e' - 2, by omega⟩
        refine cV (s_nextToken (d := e2) z1 n2 z2.2.2) (fun w7 h7 => ?_)
        have F7 : Fr (fHd c0) u w7 := (fFg_Hd z4 (Or.inl rfl)).trans (h7.2.mono (fun t k z => Or.inl z))
        have T7 := z1.tr h7.2
        rw [show nI c0 + 2 = nI (c0 + 2) from nI_add c0 2]
        refine cI (s_figure (cell := c0 + 2) (lo := 0) (hi := 6) (d := e2 + 2) (by omega) (by omega) (by decide) T7 h7.1 n2 (by omega)) (fun w9 x9 hx9 => ?_)
        rcases hx9 with ⟨t9, rg9, y9, x1, x2, x3, x4⟩ | ⟨t9, rg9, rfl, rfl⟩ | ⟨t9, rfl, rfl⟩
        · rw [if_pos t9, if_pos rg9] at k
          have hk' := ck_h (c := c) (a := tkV B n q) (b := tkV B n (nxT B n (nxT B n q))) hc (by rw [hlo, hhi]; exact rg) rg9.2
          refine k _ _ ⟨y9, x1, x2, ⟨_, _, rfl, hk'.1, ?_, fun _ => x3⟩, F7.trans (fFg_Hd x4 (Or.inr rfl))⟩
          rw [x4.i (by unfold fFg; unfold fTq; omega), h7.2.i (by unfold fTq; omega), z3]
        · rw [if_pos t9, if_neg rg9] at k
          exact k _ _ ⟨rfl, h7.1.2.1, F7⟩
        · rw [if_neg t9] at k
          exact k _ _ ⟨rfl, h7.1.2.1, F7⟩
      · rw [if_neg (of_decide_eq_false g)] at k
        exact k _ 1 ⟨rfl, z2.2.1, fFg_Hd z4 (Or.inl rfl)⟩
    · rw [if_pos t, if_neg rg] at k
      exact ⟨fun z => absurd z (by decide), fun _ => k _ _ ⟨rfl, hk.2.1, Fr.rfl⟩⟩
    · rw [if_neg t] at k
      exact ⟨fun z => absurd z (by decide), fun _ => k _ _ ⟨rfl, hk.2.1, Fr.rfl⟩⟩
  intro Q k
  refine E_X11_body (B_X11_body_0 ?_)
  rw [nI_1]
  have dd : ∀ {a b : Int32} {A C : Prop}, a = b → A → (a = b → A) ∧ (¬ a = b → C) := fun h x => ⟨fun _ => x, fun z => absurd h z⟩
  have dn : ∀ {a b : Int32} {A C : Prop}, a ≠ b → C → (a = b → A) ∧ (¬ a = b → C) := fun h x => ⟨fun z => absurd z h, fun _ => x⟩
  rcases hc with rfl | rfl | rfl | rfl | rfl
  · exact dd rfl (cPL (s_wq3 (d := e) (by omega)) (two 6 3 (Or.inl ⟨rfl, rfl, rfl⟩) k))
  · exact dn (by decide) (dd rfl (cPL (s_wq5 (d := e) (by omega)) (two 99 5 (Or.inr ⟨rfl, rfl, rfl⟩) k)))
  · exact dn (by decide) (dn (by decide) (dd rfl (one (by decide) k)))
  · exact dn (by decide) (dn (by decide) (dn (by decide) (dd rfl (one (by decide) k))))
  · exact dn (by decide) (dn (by decide) (dn (by decide) (dn (by decide) (dd rfl (one (by decide) k)))))
end TX3
