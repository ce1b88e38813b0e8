/-! a text: its clauses, by the class -/
abbrev z_Rc : Type := (Nat × Nat) ⊕ (z_T × Nat)
def updN (f : Nat → Nat) (i x : Nat) : Nat → Nat := fun j => if j = i then x else f j
def addT (T : z_T) (k a b : Nat) : z_T := (T.1, (T.2.1, (T.2.2.1 + 1, (updN T.2.2.2.1 T.2.2.1 k, (updN T.2.2.2.2.1 T.2.2.1 a, updN T.2.2.2.2.2 T.2.2.1 b)))))
def setL (T : z_T) (r : Bool) (e : z_X) : z_T := ((if r = true then some e else T.1), ((if r = true then T.2.1 else some e), T.2.2))
def addL (T : z_T) (r : Bool) (e : z_X) : z_T := addT (setL T r e) (if r = true then 0 else 1) 0 0
def kS (c : Nat) : Nat := if c ≤ 2 then c else if c = 4 then 3 else c - 2
def stc (c : Nat) : Bool := decide (c ≤ 8) && (!(c == 3) && !(c == 5))
def loN (c : Nat) : Nat := if c = 7 ∨ c = 8 then 1 else 0
def hiN (c : Nat) : Nat := if c = 2 then 6 else if c = 4 then 99 else if c = 6 then 9 else if c = 7 then 99 else 60
def figR (B : Nat → Nat) (n p lo hi : Nat) (K : z_Rc) : z_Rc := if tkC B n p = 27 then (if lo ≤ tkV B n p ∧ tkV B n p ≤ hi then K else .inl (2, frT B n p)) else .inl (1, frT B n p)
def expR (B : Nat → Nat) (n c q : Nat) (K : z_Rc) : z_Rc := if tkC B n q = c then K else .inl (1, frT B n q)
def doR (B : Nat → Nat) (n : Nat) (T : z_T) (c q : Nat) : z_Rc := if c = 2 ∨ c = 4 then figR B n q 0 (hiN c) (expR B n (if c = 2 then 3 else 5) (nxT B n q) (figR B n (nxT B n (nxT B n q)) 0 6 (.inr (addT T (kS c) (tkV B n q) (tkV B n (nxT B n (nxT B n q))), nxT B n (nxT B n (nxT B n q)))))) else figR B n q (loN c) (hiN c) (.inr (addT T (kS c) (tkV B n q) 0, nxT B n q))
def lawX (T : z_T) (r : Bool) (R : z_Rs) : z_Rc := match R with
  | .inl g => .inl g
  | .inr y => .inr (addL T r y.1, y.2)
def stopR (B : Nat → Nat) (n : Nat) (R : z_Rc) : z_Rc := match R with
  | .inl g => .inl g
  | .inr y => expR B n 40 y.2 (.inr (y.1, nxT B n y.2))
def hasL (T : z_T) (c : Nat) : Bool := if c = 0 then T.1.isSome else if c = 1 then T.2.1.isSome else false
def clR (B : Nat → Nat) (n : Nat) (T : z_T) (p : Nat) (R : z_Rs) : z_Rc := if stc (tkC B n p) = true then (if hasL T (tkC B n p) = true then .inl (4, frT B n p) else if 24 ≤ T.2.2.1 then .inl (6, frT B n p) else stopR B n (if tkC B n p ≤ 1 then lawX T (tkC B n p == 0) R else doR B n T (tkC B n p) (nxT B n p))) else .inl (1, frT B n p)
def LCf (v : z_V) (m a b : Nat) (r : Bool) (law : Option z_X) (f : Nat) : Prop := match law with
  | none => gI v 6 m a = nI 0 ∧ gI v 6 m b = nI 0
  | some e => ∃ g, gI v 6 m a = nI g ∧ gI v 6 m b = nI (g + lC e) ∧ g + lC e ≤ f ∧ rC (gI v 700 m) g e ∧ ty r e = 1 ∧ sk e ≤ 64
def TCf (v : z_V) (m : Nat) (T : z_T) (f : Nat) : Prop := LCf v m 6 7 true T.1 f ∧ LCf v m 8 9 false T.2.1 f ∧ gI v 6 m 5 = nI T.2.2.1 ∧ T.2.2.1 ≤ 24 ∧ ∀ j, j < T.2.2.1 → gI v 701 m j = nI (kC (T.2.2.2.1 j)) ∧ gI v 702 m j = nI (T.2.2.2.2.1 j) ∧ gI v 703 m j = nI (T.2.2.2.2.2 j) ∧ ck (T.2.2.2.1 j) (T.2.2.2.2.1 j) (T.2.2.2.2.2 j)
def TCc (B : Nat → Nat) (n j : Nat) (v : z_V) (p : Nat) (T : z_T) (f : Nat) : Prop := TPc v B n ∧ TkC v B n p ∧ gJ v = j + 1 ∧ gI v 6 j 4 = nI f ∧ TCf v j T f
def fCt (j : Nat) : Nat → Nat → Nat → Prop := fun t m k => (t = 3 ∧ (k = 6 ∨ k = 7 ∨ k = 8 ∨ k = 9 ∨ k = 10)) ∨ ((t = 6 ∨ t = 700 ∨ t = 701 ∨ t = 702 ∨ t = 703) ∧ m = j)
def fCy (j : Nat) : Nat → Nat → Nat → Prop := fun t m k => fCt j t m k ∨ (t = 3 ∧ (k = 3 ∨ k = 4))
def fAd (j : Nat) : Nat → Nat → Nat → Prop := fun t m k => (t = 6 ∧ m = j ∧ k = 5) ∨ ((t = 701 ∨ t = 702 ∨ t = 703) ∧ m = j)
/-- what a piece of a clause leaves -/
def CO (B : Nat → Nat) (n j : Nat) (v : z_V) (R : z_Rc) (u : z_V) (x : Int32) : Prop := match R with
  | .inl g => x = 0 ∧ gI u 3 0 3 = nI g.1 ∧ gI u 3 0 4 = nI g.2 ∧ Fa (fCy j) v u
  | .inr y => x = 1 ∧ (∃ f, f ≤ y.2 ∧ TCc B n j u y.2 y.1 f) ∧ Fa (fCt j) v u
theorem LCf.fr {v u : z_V} {m a b f : Nat} {r : Bool} {law : Option z_X} {S : Nat → Nat → Nat → Prop} (h : LCf v m a b r law f) (q : Fa S v u) (ha : ¬ S 6 m a) (hb : ¬ S 6 m b) (hc : ∀ k, k < f → ¬ S 700 m k) : LCf u m a b r law f := by
  cases law with
  | none => exact ⟨(q.i ha).trans h.1, (q.i hb).trans h.2⟩
  | some e =>
    obtain ⟨g, h1, h2, h3, h4, h5, h6⟩ := h
    exact ⟨g, (q.i ha).trans h1, (q.i hb).trans h2, h3, rC_cong (fun i _ hi => q.i (hc i (by omega))) h4, h5, h6⟩
theorem LCf.up {v : z_V} {m a b f g : Nat} {r : Bool} {law : Option z_X} (h : LCf v m a b r law f) (hg : f ≤ g) : LCf v m a b r law g := by
  cases law with
  | none => exact h
  | some e =>
    obtain ⟨x, h1, h2, h3, h4⟩ := h
    exact ⟨x, h1, h2, by omega, h4⟩
theorem TCf.fr {v u : z_V} {m f : Nat} {T : z_T} {S : Nat → Nat → Nat → Prop} (h : TCf v m T f) (q : Fa S v u) (h6 : ∀ k, 5 ≤ k → ¬ S 6 m k) (h7 : ∀ k, k < f → ¬ S 700 m k) (h8 : ∀ k, ¬ S 701 m k ∧ ¬ S 702 m k ∧ ¬ S 703 m k) : TCf u m T f := ⟨h.1.fr q (h6 _ (by decide)) (h6 _ (by decide)) h7, h.2.1.fr q (h6 _ (by decide)) (h6 _ (by decide)) h7, (q.i (h6 _ (by decide))).trans h.2.2.1, h.2.2.2.1, fun i hi => ⟨(q.i (h8 i).1).trans (h.2.2.2.2 i hi).1, (q.i (h8 i).2.1).trans (h.2.2.2.2 i hi).2.1, (q.i (h8 i).2.2).trans (h.2.2.2.2 i hi).2.2.1, (h.2.2.2.2 i hi).2.2.2⟩⟩
theorem TCf.done {v : z_V} {m f : Nat} {T : z_T} (h : TCf v m T f) (hf : f ≤ 300) : TC v m T := by
  have hl : ∀ {a b r law}, LCf v m a b r law f → LC1 v m a b r law := fun {a b r law} h => by
    cases law with
    | none => exact h
    | some e =>
      obtain ⟨g, h1, h2, h3, h4, h5, h6⟩ := h
      exact ⟨g, h1, h2, by omega, h4, h5, h6⟩
  exact ⟨hl h.1, hl h.2.1, h.2.2.1, h.2.2.2.1, h.2.2.2.2⟩
theorem kC_kS : ∀ c, c < 9 → stc c = true → kC (kS c) = c ∧ kS c ≤ 6 := by decide
theorem updN_s {f : Nat → Nat} {i x : Nat} : updN f i x i = x := if_pos rfl
theorem updN_n {f : Nat → Nat} {i x j : Nat} (h : j ≠ i) : updN f i x j = f j := if_neg h
section TX0
variable {d : Nat} {v : z_V} {B : Nat → Nat} {n j : Nat} {p f : Nat} {T : z_T}
theorem fTk_Ct {u : z_V} (h : Fr fTk v u) : Fa (fCt j) v u := Fa.ofR h (fun t m k q => by unfold fTk at q; unfold fCt; omega)
theorem fWr_Ct {u : z_V} (h : Fr fWr v u) : Fa (fCy j) v u := Fa.ofR h (fun t m k q => Or.inr q)
theorem fCt_y {u : z_V} (h : Fa (fCt j) v u) : Fa (fCy j) v u := h.mono (fun t m k q => Or.inl q)
theorem fCz_Cy {u : z_V} {g : Nat} (h : Fa (fCz j g) v u) : Fa (fCy j) v u := h.mono (fun t m k q => by unfold fCz fCx at q; unfold fCy fCt; omega)
theorem fAd_Ct {u : z_V} (h : Fa (fAd j) v u) : Fa (fCt j) v u := h.mono (fun t m k q => by unfold fAd at q; unfold fCt; omega)
theorem fCx_Ct {u : z_V} {g : Nat} (h : Fa (fCx j g) v u) : Fa (fCt j) v u := h.mono (fun t m k q => by unfold fCx at q; unfold fCt; omega)
theorem TCc.tk {u : z_V} (h : TCc B n j v p T f) (q : Fr fTk v u) (t : TkC u B n (nxT B n p)) : TCc B n j u (nxT B n p) T f := ⟨h.1.tp q, t, q.2.trans h.2.2.1, (q.i (by unfold fTk; omega)).trans h.2.2.2.1, h.2.2.2.2.fr (S := fun t _ k => fTk t k) (Fa.ofR q (fun t m k z => z)) (fun k _ => by unfold fTk; omega) (fun k _ => by unfold fTk; omega) (fun k => by unfold fTk; omega)⟩
theorem s_advL (hd : 3 ≤ d) (hp : p ≤ n) (h : TCc B n j v p T f) : ZV d m_X3_advance [vR 3 0] v (fun u => TCc B n j u (nxT B n p) T f ∧ Fr fTk v u) := by
  obtain ⟨c, rfl⟩ : ∃ c, d = c + 3 := ⟨d - 3, by omega⟩
  intro Q k
  exact s_advance (d := c) h.1 (nx_le hp) h.2.1.2.2.2 Q (fun w hw => k w ⟨h.tk hw.2 hw.1, hw.2⟩)
theorem s_wrongL {c : Nat} (hd : 1 ≤ d) (h : TkC v B n p) : ZI d m_X3_wrong [vR 3 0, vI (nI c)] v (fun u x => x = 0 ∧ gI u 3 0 3 = nI c ∧ gI u 3 0 4 = nI (frT B n p) ∧ Fr fWr v u) := by
  obtain ⟨e, rfl⟩ : ∃ e, d = e + 1 := ⟨d - 1, by omega⟩
  intro Q k
  refine E_X3_wrong (B_X3_wrong_0 (k _ _ ⟨rfl, ?_, ?_, (Fr.rfl.pI ⟨rfl, by decide⟩).pI ⟨rfl, by decide⟩⟩))
  · rw [gI_pI_k (by decide), gI_pI_s]
  · rw [gI_pI_s, h.2.2.1]
theorem s_expectL {c : Nat} (hc : c ≤ 40) (hd : 4 ≤ d) (hp : p ≤ n) (h : TCc B n j v p T f) : ZI d m_X3_expect [vR 3 0, vI (nI c)] v (fun u x => (tkC B n p = c ∧ x = 1 ∧ TCc B n j u (nxT B n p) T f ∧ Fr fTk v u) ∨ (tkC B n p ≠ c ∧ x = 0 ∧ gI u 3 0 3 = nI 1 ∧ gI u 3 0 4 = nI (frT B n p) ∧ Fr fWr v u)) := by
  obtain ⟨e, rfl⟩ : ∃ e, d = e + 1 := ⟨d - 1, by omega⟩
  intro Q k
  have := tk_42 (B := B) (n := n) (p := p)
  refine E_X3_expect (B_X3_expect_0 ?_)
  rw [h.2.1.1]
  refine pk_eq (tkC B n p) c (fun z => cV (s_advL (d := e) (by omega) hp h) (fun w hw => k _ _ (Or.inl ⟨z, rfl, hw⟩))) (fun z => cI (s_wrongL (c := 1) (d := e) (by omega) h.2.1) (fun w x hw => z01_0 hw.1 (k _ _ (Or.inr ⟨z, hw⟩))))
theorem s_mostOf : ∀ {c : Nat}, (c = 2 ∨ c = 4 ∨ c = 6 ∨ c = 7 ∨ c = 8) → 1 ≤ d → ZP d m_X3_mostOf [vI (nI c)] v (nI (hiN c)) := fun {c} hc hd => by
  obtain ⟨e, rfl⟩ : ∃ e, d = e + 1 := ⟨d - 1, by omega⟩
  intro Q k
  refine E_X3_mostOf (B_X3_mostOf_0 (pk_eq c 2 (fun z => ?_) (fun _ => pk_eq c 3 (fun z => by omega) (fun _ => pk_eq c 4 (fun z => ?_) (fun _ => pk_eq c 5 (fun z => by omega) (fun _ => pk_eq c 6 (fun z => ?_) (fun _ => pk_eq c 7 (fun z => ?_) (fun _ => ?_))))))))
  · rw [z] at k; exact k
  · rw [z] at k; exact k
  · rw [z] at k; exact k
  · rw [z] at k; exact k
  · rw [show c = 8 by omega] at k; exact k
/-- a number, as the class reads it -/
theorem s_number {c : Nat} (hc : c = 2 ∨ c = 4 ∨ c = 6 ∨ c = 7 ∨ c = 8) (hd : 4 ≤ d) (hp : p ≤ n) (h : TCc B n j v p T f) : ZI d m_X3_number [vR 3 0, vI (nI c)] v (fun u x => (tkC B n p = 27 ∧ (loN c ≤ tkV B n p ∧ tkV B n p ≤ hiN c) ∧ x = 1 ∧ TCc B n j u (nxT B n p) T f ∧ Fr fTk v u) ∨ (tkC B n p = 27 ∧ ¬ (loN c ≤ tkV B n p ∧ tkV B n p ≤ hiN c) ∧ x = 0 ∧ gI u 3 0 3 = nI 2 ∧ gI u 3 0 4 = nI (frT B n p) ∧ Fr fWr v u) ∨ (tkC B n p ≠ 27 ∧ x = 0 ∧ gI u 3 0 3 = nI 1 ∧ gI u 3 0 4 = nI (frT B n p) ∧ Fr fWr v u)) := by
  obtain ⟨e, rfl⟩ : ∃ e, d = e + 1 := ⟨d - 1, by omega⟩
  intro Q k
  have t42 := tk_42 (B := B) (n := n) (p := p)
  have tv := tkV_le (B := B) (n := n) (p := p)
  have hh : hiN c < 100 := by unfold hiN; repeat' split
                              all_goals decide
  refine E_X3_number (B_X3_number_0 ?_)
  rw [h.2.1.1]
  refine pk_eq (tkC B n p) 27 (fun z => ?_) (fun z => cI (s_wrongL (c := 1) (d := e) (by omega) h.2.1) (fun w x hw => z01_0 hw.1 (k _ _ (Or.inr (Or.inr ⟨z, hw⟩)))))
  rw [h.2.1.2.1 z]
  have bad : ¬ (loN c ≤ tkV B n p ∧ tkV B n p ≤ hiN c) → z_C e m_X3_wrong [vR 3 0, vI 2] v (fun w1 o2 => ∃ i3 : Int32, o2 = some (vI i3) ∧ z_if (z_01 i3) (Q w1 (some (vI i3)))) := fun y => cI (s_wrongL (c := 2) (d := e) (by omega) h.2.1) (fun w x hw => z01_0 hw.1 (k _ _ (Or.inr (Or.inl ⟨z, y, hw⟩))))
  have rest : loN c ≤ tkV B n p → z_C e m_X3_mostOf [vI (nI c)] v (fun w4 o5 => ∃ i6 : Int32, o5 = some (vI i6) ∧ ((nI (tkV B n p) ≤ i6 → z_C e m_X3_advance [vR 3 0] w4 (fun w7 o8 => o8 = none ∧ Q w7 (some (vI 1)))) ∧ (¬ nI (tkV B n p) ≤ i6 → z_C e m_X3_wrong [vR 3 0, vI 2] w4 (fun w1 o2 => ∃ i3 : Int32, o2 = some (vI i3) ∧ z_if (z_01 i3) (Q w1 (some (vI i3))))))) := fun y => cP (s_mostOf hc (d := e) (by omega)) (pk_le (tkV B n p) (hiN c) (fun y2 => cV (s_advL (d := e) (by omega) hp h) (fun w hw => k _ _ (Or.inl ⟨z, ⟨y, y2⟩, rfl, hw⟩))) (fun y2 => bad (by omega)))
  have one : loN c = 1 → (nI (tkV B n p) < 1 → z_C e m_X3_wrong [vR 3 0, vI 2] v (fun w1 o2 => ∃ i3 : Int32, o2 = some (vI i3) ∧ z_if (z_01 i3) (Q w1 (some (vI i3))))) ∧ (¬ nI (tkV B n p) < 1 → z_C e m_X3_mostOf [vI (nI c)] v (fun w4 o5 => ∃ i6 : Int32, o5 = some (vI i6) ∧ ((nI (tkV B n p) ≤ i6 → z_C e m_X3_advance [vR 3 0] w4 (fun w7 o8 => o8 = none ∧ Q w7 (some (vI 1)))) ∧ (¬ nI (tkV B n p) ≤ i6 → z_C e m_X3_wrong [vR 3 0, vI 2] w4 (fun w1 o2 => ∃ i3 : Int32, o2 = some (vI i3) ∧ z_if (z_01 i3) (Q w1 (some (vI i3)))))))) := fun y => pk_lt (tkV B n p) 1 (fun y2 => bad (by omega)) (fun y2 => rest (by omega))
  refine pk_eq c 7 (fun c7 => one (by rw [c7]; rfl)) (fun c7 => pk_ne c 8 (fun c8 => ?_) (fun c8 => one (by rw [c8]; rfl)))
  have l0 : loN c = 0 := by unfold loN; rw [if_neg (by omega)]
  exact ⟨fun y => absurd y (nI_pos (by omega)), fun _ => rest (by omega)⟩
theorem s_addX {k a b : Nat} (hk : k ≤ 6) (ha : ck k a b) (hcl : T.2.2.1 < 24) (hd : 1 ≤ d) (h : TCc B n j v p T f) : ZV d m_X6_add [vR 6 j, vI (nI (kC k)), vI (nI a), vI (nI b)] v (fun u => TCc B n j u p (addT T k a b) f ∧ Fa (fAd j) v u) := by
  obtain ⟨c, rfl⟩ : ∃ c, d = c + 1 := ⟨d - 1, by omega⟩
  intro Q q
  obtain ⟨h1, h2, h3, h4, h5, h6, h7, h8, h9⟩ := h
  refine E_X6_add (B_X6_add_0 ?_)
  rw [h7, n_nI (by omega), nI_1]
  refine pk_le 24 T.2.2.1 (fun z => absurd hcl (by omega)) (fun _ => z_ii _ rfl hcl (z_ii _ rfl hcl (z_ii _ rfl hcl ?_)))
  have fa : Fa (fAd j) v (pI (pI (pI (pI v 701 j T.2.2.1 (nI (kC k))) 702 j T.2.2.1 (nI a)) 703 j T.2.2.1 (nI b)) 6 j 5 (nI (T.2.2.1 + 1))) := (((Fa.rfl.pI (Or.inr ⟨Or.inl rfl, rfl⟩)).pI (Or.inr ⟨Or.inr (Or.inl rfl), rfl⟩)).pI (Or.inr ⟨Or.inr (Or.inr rfl), rfl⟩)).pI (Or.inl ⟨rfl, rfl, rfl⟩)
  have ne : ∀ {t t' : Nat} {X Y : Prop}, t ≠ t' → ¬ (t = t' ∧ X) := fun h z => h z.1
  have c1 : ∀ i, gI (pI (pI (pI (pI v 701 j T.2.2.1 (nI (kC k))) 702 j T.2.2.1 (nI a)) 703 j T.2.2.1 (nI b)) 6 j 5 (nI (T.2.2.1 + 1))) 701 j i = if i = T.2.2.1 then nI (kC k) else gI v 701 j i := fun i => by
    rw [gI_pI_ne (ne (Y := True) (by decide)), gI_pI_ne (ne (Y := True) (by decide)), gI_pI_ne (ne (Y := True) (by decide)), gI_pI]
  have c2 : ∀ i, gI (pI (pI (pI (pI v 701 j T.2.2.1 (nI (kC k))) 702 j T.2.2.1 (nI a)) 703 j T.2.2.1 (nI b)) 6 j 5 (nI (T.2.2.1 + 1))) 702 j i = if i = T.2.2.1 then nI a else gI v 702 j i := fun i => by
    rw [gI_pI_ne (ne (Y := True) (by decide)), gI_pI_ne (ne (Y := True) (by decide)), gI_pI, gI_pI_ne (ne (Y := True) (by decide))]
  have c3 : ∀ i, gI (pI (pI (pI (pI v 701 j T.2.2.1 (nI (kC k))) 702 j T.2.2.1 (nI a)) 703 j T.2.2.1 (nI b)) 6 j 5 (nI (T.2.2.1 + 1))) 703 j i = if i = T.2.2.1 then nI b else gI v 703 j i := fun i => by
    rw [gI_pI_ne (ne (Y := True) (by decide)), gI_pI, gI_pI_ne (ne (Y := True) (by decide)), gI_pI_ne (ne (Y := True) (by decide))]
  have n3 : ∀ k, ¬ fAd j 3 0 k := fun k => by unfold fAd; omega
  refine q _ ⟨⟨⟨(fa.i (n3 _)).trans h1.1, h1.2.1, fun i hi => ⟨(fa.i (by unfold fAd; omega)).trans (h1.2.2 i hi).1, (h1.2.2 i hi).2⟩⟩, ⟨(fa.i (n3 _)).trans h2.1, fun z => (fa.i (n3 _)).trans (h2.2.1 z), (fa.i (n3 _)).trans h2.2.2.1, (fa.i (n3 _)).trans h2.2.2.2⟩, h3, (fa.i (by unfold fAd; omega)).trans h4, h5.fr fa (by unfold fAd; omega) (by unfold fAd; omega) (fun k _ => by unfold fAd; omega), h6.fr fa (by unfold fAd; omega) (by unfold fAd; omega) (fun k _ => by unfold fAd; omega), gI_pI_s, by show T.2.2.1 + 1 ≤ 24; omega, fun i hi => ?_⟩, fa⟩
  have hi : i < T.2.2.1 + 1 := hi
  rw [c1, c2, c3]
  show (if i = T.2.2.1 then nI (kC k) else gI v 701 j i) = nI (kC (updN T.2.2.2.1 T.2.2.1 k i)) ∧ (if i = T.2.2.1 then nI a else gI v 702 j i) = nI (updN T.2.2.2.2.1 T.2.2.1 a i) ∧ (if i = T.2.2.1 then nI b else gI v 703 j i) = nI (updN T.2.2.2.2.2 T.2.2.1 b i) ∧ ck (updN T.2.2.2.1 T.2.2.1 k i) (updN T.2.2.2.2.1 T.2.2.1 a i) (updN T.2.2.2.2.2 T.2.2.1 b i)
  by_cases e : i = T.2.2.1
  · rw [if_pos e, if_pos e, if_pos e, e, updN_s, updN_s, updN_s]
    exact ⟨rfl, rfl, rfl, ha⟩
  · rw [if_neg e, if_neg e, if_neg e, updN_n e, updN_n e, updN_n e]
    exact h9 i (by omega)
end TX0
