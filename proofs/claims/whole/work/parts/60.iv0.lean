/-! what holds between calls, on both sides; the calls of the world by hand -/
abbrev z_Q : Type := z_W × (z_W × ((Nat → z_T) × (Nat × ((Nat → Nat) × (Int32 × Int32)))))
def qW (q : z_Q) : z_W := q.1
def qI (q : z_Q) : z_W := q.2.1
def qT (q : z_Q) : Nat → z_T := q.2.2.1
def qL (q : z_Q) : Nat := q.2.2.2.1
def qB (q : z_Q) : Nat → Nat := q.2.2.2.2.1
def qF (q : z_Q) : Int32 := q.2.2.2.2.2.1
def qP (q : z_Q) : Int32 := q.2.2.2.2.2.2
def qSet (q : z_Q) (W : z_W) : z_Q := (W, q.2)
def okQ (q : z_Q) : Prop := wT (qI q) ≤ wT (qW q) ∧ qL q ≤ 300 ∧ ∀ j, j < qL q → qB q j < 256
def InvC (v : z_V) (q : z_Q) : Prop := okQ q ∧ RC v 0 (qW q) ∧ RC v 1 (qI q) ∧ TX v 0 (qW q) (qT q) ∧ TX v 1 (qI q) (qT q) ∧ gI v 3 0 1 = nI (qL q) ∧ (∀ j, j < qL q → gI v 400 0 j = (nI (qB q j)).toInt8.toInt32) ∧ ((gI v 3 0 2 = 0 ∧ qF q = -1 ∧ qP q = -1) ∨ (gI v 3 0 2 = 1 ∧ gI v 3 0 3 = qF q ∧ gI v 3 0 4 = qP q))
def InvR (v : z_V) (q : z_Q) : Prop := okQ q ∧ RRf (gI v 1200 0) (qW q) ∧ RRf (gI v 1201 0) (qI q) ∧ TXR v (qW q) (qT q) ∧ gI v 11 0 4 = nI (qL q) ∧ (∀ j, j < qL q → gI v 1203 0 j = nI (qB q j)) ∧ gI v 11 0 5 = qF q ∧ gI v 11 0 6 = qP q ∧ gI v 11 0 23 = bI true
/-- the class's rows, the reference's rows, what is worked on only -/
def tCl : Nat → Nat → Prop := fun t _ => t ≠ 11 ∧ t < 1200
def tRf : Nat → Nat → Prop := fun t _ => t = 11 ∨ 1200 ≤ t
def FC (v u : z_V) : Prop := Fn tCl v u
def FR (v u : z_V) : Prop := Fn tRf v u
def tSc : Nat → Nat → Prop := fun t n => t = 0 ∨ t = 1 ∨ t = 2 ∨ t = 5 ∨ t = 7 ∨ t = 8 ∨ (100 ≤ t ∧ t < 400) ∨ t = 600 ∨ (800 ≤ t ∧ t < 1000) ∨ ((t = 4 ∨ t = 500 ∨ t = 501) ∧ n = 62)
def tCa : Nat → Prop := fun t => t = 1 ∨ t = 2 ∨ t = 8 ∨ (200 ≤ t ∧ t < 400) ∨ (900 ≤ t ∧ t < 1000)
theorem InvC.sc {v u : z_V} {q : z_Q} {S : Nat → Nat → Prop} (h : InvC v q) (f : Fn S v u) (hs : ∀ t n, S t n → tSc t n ∨ t = 11 ∨ 1200 ≤ t) : InvC u q := by
  obtain ⟨a0, a1, a2, a3, a4, a5, a6, a7⟩ := h
  have n : ∀ t n, ¬ (tSc t n ∨ t = 11 ∨ 1200 ≤ t) → ¬ S t n := fun t n z q => z (hs t n q)
  have n3 : ¬ S 3 0 := n _ _ (by unfold tSc; omega)
  have n4 : ¬ S 400 0 := n _ _ (by unfold tSc; omega)
  have tx : ∀ w, w < 2 → ∀ W, TX v w W (qT q) → TX u w W (qT q) := fun w hw W h k hk => (h k hk).fn f (n _ _ (by unfold tSc; omega)) (n _ _ (by unfold tSc; omega)) (n _ _ (by unfold tSc; omega)) (n _ _ (by unfold tSc; omega)) (n _ _ (by unfold tSc; omega))
  refine ⟨a0, a1.fn f (fun t m q => n _ _ (by unfold inW at q; unfold tSc; omega)), a2.fn f (fun t m q => n _ _ (by unfold inW at q; unfold tSc; omega)), tx 0 (by decide) _ a3, tx 1 (by decide) _ a4, (f.i n3).trans a5, fun j hj => (f.i n4).trans (a6 j hj), ?_⟩
  rcases a7 with ⟨b1, b2, b3⟩ | ⟨b1, b2, b3⟩
  · exact Or.inl ⟨(f.i n3).trans b1, b2, b3⟩
  · exact Or.inr ⟨(f.i n3).trans b1, (f.i n3).trans b2, (f.i n3).trans b3⟩
theorem InvC.fr {v u : z_V} {q : z_Q} (h : InvC v q) (f : FR v u) : InvC u q := h.sc f (fun _ _ q => Or.inr q)
theorem InvR.sc {v u : z_V} {q : z_Q} {S : Nat → Nat → Prop} (h : InvR v q) (f : Fr S v u) (h0 : ∀ k, ¬ S 1200 k) (h1 : ∀ k, ¬ S 1201 k) (h2 : ∀ k, ¬ S 1202 k) (h3 : ∀ k, ¬ S 1203 k) (h4 : ∀ k, k = 4 ∨ k = 5 ∨ k = 6 ∨ k = 23 → ¬ S 11 k) : InvR u q := by
  obtain ⟨a0, a1, a2, a3, a4, a5, a6, a7, a8⟩ := h
  exact ⟨a0, a1.cg (fun j _ => f.i (h0 j)), a2.cg (fun j _ => f.i (h1 j)), a3.fr f h2, (f.i (h4 4 (by decide))).trans a4, fun j hj => (f.i (h3 j)).trans (a5 j hj), (f.i (h4 5 (by decide))).trans a6, (f.i (h4 6 (by decide))).trans a7, (f.i (h4 23 (by decide))).trans a8⟩
theorem InvR.fc {v u : z_V} {q : z_Q} (h : InvR v q) (f : FC v u) : InvR u q := by
  obtain ⟨a0, a1, a2, a3, a4, a5, a6, a7, a8⟩ := h
  have n : ∀ t n, t = 11 ∨ 1200 ≤ t → ¬ tCl t n := fun t n z q => by unfold tCl at q; omega
  have g : ∀ t n k, t = 11 ∨ 1200 ≤ t → gI u t n k = gI v t n k := fun t m k z => f.i (n t m z)
  have ht : TXR u (qW q) (qT q) := a3.fr (S := fun t _ => ¬ (t = 11 ∨ 1200 ≤ t)) ⟨fun t n k z => ⟨f.i (fun y => by unfold tCl at y; omega), f.l (fun y => by unfold tCl at y; omega)⟩, f.2⟩ (fun _ => by omega)
  exact ⟨a0, a1.cg (fun j _ => g _ _ _ (by decide)), a2.cg (fun j _ => g _ _ _ (by decide)), ht, (g _ _ _ (by decide)).trans a4, fun j hj => (g _ _ _ (by decide)).trans (a5 j hj), (g _ _ _ (by decide)).trans a6, (g _ _ _ (by decide)).trans a7, (g _ _ _ (by decide)).trans a8⟩
/-- the frame of what is done to world 0 -/
def fW0 : Nat → Nat → Prop := sWo 0
theorem FC.w0 {v u : z_V} (f : Fn (sWo 0) v u) : FC v u := f.mono (fun t n q => by
  unfold sWo inW at q
  unfold tCl
  omega)
theorem InvC.w0 {v u : z_V} {q : z_Q} {W : z_W} (h : InvC v q) (f : Fn (sWo 0) v u) (hR : RC u 0 W) (hT : wT W = wT (qW q)) : InvC u (qSet q W) := by
  obtain ⟨a0, a1, a2, a3, a4, a5, a6, a7⟩ := h
  have n : ∀ t n, ¬ ((t = 9 ∨ t = 1001 ∨ t = 1002 ∨ t = 1004 ∨ t = 1005) ∧ n = 0) ∧ ¬ ((t = 4 ∨ t = 500 ∨ t = 501) ∧ n < 31) ∧ t ≠ 5 ∧ t ≠ 600 → ¬ sWo 0 t n := fun t n z q => by unfold sWo inW at q; omega
  refine ⟨⟨by show wT (qI q) ≤ wT W; rw [hT]; exact a0.1, a0.2⟩, hR, a2.fn f (fun t m q => n _ _ (by unfold inW at q; omega)), fun k hk => (a3.wo f) k (by rw [← hT]; exact hk), a4.wo f, (f.i (n _ _ (by omega))).trans a5, fun j hj => (f.i (n _ _ (by omega))).trans (a6 j hj), ?_⟩
  rcases a7 with ⟨b1, b2, b3⟩ | ⟨b1, b2, b3⟩
  · exact Or.inl ⟨(f.i (n _ _ (by omega))).trans b1, b2, b3⟩
  · exact Or.inr ⟨(f.i (n _ _ (by omega))).trans b1, (f.i (n _ _ (by omega))).trans b2, (f.i (n _ _ (by omega))).trans b3⟩
theorem InvR.a {v u : z_V} {q : z_Q} {W : z_W} {S : Nat → Nat → Prop} (h : InvR v q) (f : Fr S v u) (hR : RRf (gI u 1200 0) W) (hT : wT W = wT (qW q)) (h1 : ∀ k, ¬ S 1201 k) (h2 : ∀ k, ¬ S 1202 k) (h3 : ∀ k, ¬ S 1203 k) (h4 : ∀ k, k = 4 ∨ k = 5 ∨ k = 6 ∨ k = 23 → ¬ S 11 k) : InvR u (qSet q W) := by
  obtain ⟨a0, a1, a2, a3, a4, a5, a6, a7, a8⟩ := h
  exact ⟨⟨by show wT (qI q) ≤ wT W; rw [hT]; exact a0.1, a0.2⟩, hR, a2.cg (fun j _ => f.i (h1 j)), fun k hk => (a3.fr f h2) k (by rw [← hT]; exact hk), (f.i (h4 4 (by decide))).trans a4, fun j hj => (f.i (h3 j)).trans (a5 j hj), (f.i (h4 5 (by decide))).trans a6, (f.i (h4 6 (by decide))).trans a7, (f.i (h4 23 (by decide))).trans a8⟩
theorem InvR.ps {v u : z_V} {q : z_Q} {W : z_W} (h : InvR v q) (f : Fr sPs v u) (hR : RRf (gI u 1200 0) W) (hT : wT W = wT (qW q)) : InvR u (qSet q W) := h.a f hR hT (fun _ => sPs_not (by omega)) (fun _ => sPs_not (by omega)) (fun _ => sPs_not (by omega)) (fun k hk => sPs_not (by omega))
theorem FR.ps {v u : z_V} (f : Fr sPs v u) : FR v u := Fn.ofT f (fun t n k q => by unfold sPs at q; unfold tRf; omega)
theorem FR.tr {v u : z_V} (f : Fr sTr v u) : FR v u := FR.ps (sPs_r f)
theorem FC.tl {v u : z_V} (f : Fr sTl v u) : FC v u := FC.w0 (sWo_tl f)
theorem InvC.tl {v u : z_V} {q : z_Q} (h : InvC v q) (f : Fr sTl v u) : InvC u q := h.sc (S := fun t _ => t = 5 ∨ t = 600) (Fn.ofT f (fun t n k (q : t ∈ [5, 600]) => by simpa using q)) (fun t n q => Or.inl (by unfold tSc; omega))
theorem InvR.tr {v u : z_V} {q : z_Q} (h : InvR v q) (f : Fr sTr v u) : InvR u q := h.sc f (fun _ => sTr_not (by decide)) (fun _ => sTr_not (by decide)) (fun _ => sTr_not (by decide)) (fun _ => sTr_not (by decide)) (fun _ _ => sTr_not (by decide))
/-- what is held ready by searches stays -/
def KC (v u : z_V) : Prop := Fn (fun t _ => ¬ tCa t) v u
theorem KC.w0 {v u : z_V} (f : Fn (sWo 0) v u) : KC v u := f.mono (fun t n q => by
  unfold sWo inW at q
  unfold tCa
  omega)
theorem KC.tl {v u : z_V} (f : Fr sTl v u) : KC v u := KC.w0 (sWo_tl f)
def GC (d : Nat) (m : Nat) (As : List z_AV) (v : z_V) (r : Int32) (q : z_Q) : Prop := ZI d m As v (fun u x => x = r ∧ InvC u q ∧ FC v u ∧ KC v u)
def GR (d : Nat) (m : Nat) (As : List z_AV) (v : z_V) (r : Int32) (q : z_Q) : Prop := ZI d m As v (fun u x => x = r ∧ InvR u q ∧ FR v u)
theorem wUn_T {W : z_W} : wT (wUn W).1 = wT W := by
  unfold wUn
  split <;> rfl
theorem wKb_T {W : z_W} {b : Bool} : wT (wKb b W) = wT W := by cases b <;> rfl
theorem wPl_T {W : z_W} {T : Nat → z_T} {b : Bool} {a1 a2 : Int32} : wT (wPl W T b a1 a2).1 = wT W := by
  unfold wPl
  split
  · exact wKb_T
  · rfl
theorem wTu_T {W : z_W} {b : Bool} {a : Int32} : wT (wTu W b a).1 = wT W := by
  unfold wTu
  split
  · exact wKb_T
  · rfl
theorem wGr_T {W : z_W} {b : Bool} {a : Int32} : wT (wGr W b a).1 = wT W := by
  unfold wGr
  split
  · exact wKb_T
  · rfl
theorem wLy_T {W : z_W} {a b : Int32} : wT (wLy W a b).1 = wT W := by
  unfold wLy
  split <;> rfl
section IV0
variable {d : Nat} {v : z_V} {q : z_Q}
theorem C_lay {a b : Int32} (h : InvC v q) : GC (d + 2) m_X10_lay [vR 10 0, vI a, vI b] v (wLy (qW q) a b).2 (qSet q (wLy (qW q) a b).1) := fun Q k => E_X10_lay (B_X10_lay_0 (cI (s_addLine h.2.1) (fun u r hu => k _ _ ⟨hu.1, h.w0 hu.2.2 hu.2.1 wLy_T, FC.w0 hu.2.2, KC.w0 hu.2.2⟩)))
theorem R_lay {a b : Int32} (h : InvR v q) : GR (d + 3) m_X11_lay [vR 11 0, vI a, vI b] v (wLy (qW q) a b).2 (qSet q (wLy (qW q) a b).1) := (s_layR h.2.1).m (fun u r hu => ⟨hu.1, h.ps (sPs_a hu.2.2) hu.2.1 wLy_T, FR.ps (sPs_a hu.2.2)⟩)
theorem C_plate {a b : Int32} (h : InvC v q) : GC (d + 7) m_X10_plate [vR 10 0, vI a, vI b] v (wPl (qW q) (qT q) true a b).2 (qSet q (wPl (qW q) (qT q) true a b).1) := fun Q k => E_X10_plate (B_X10_plate_0 (cI (s_putPlate (b := true) h.2.1 h.2.2.2.1) (fun u r hu => k _ _ ⟨hu.1, h.w0 hu.2.2 hu.2.1 wPl_T, FC.w0 hu.2.2, KC.w0 hu.2.2⟩)))
theorem R_plate {a b : Int32} (h : InvR v q) : GR (d + 8) m_X11_plate [vR 11 0, vI a, vI b] v (wPl (qW q) (qT q) true a b).2 (qSet q (wPl (qW q) (qT q) true a b).1) := (s_plateR h.2.1 h.2.2.2.1 h.2.2.2.2.2.2.2.2).m (fun u r hu => ⟨hu.1, h.ps hu.2.2 hu.2.1 wPl_T, FR.ps hu.2.2⟩)
theorem wTu_01 {W : z_W} {b : Bool} {a : Int32} : z_01 (wTu W b a).2 = true := by
  unfold wTu
  split <;> rfl
theorem wGr_01 {W : z_W} {b : Bool} {a : Int32} : z_01 (wGr W b a).2 = true := by
  unfold wGr
  split <;> rfl
theorem C_turn {a : Int32} (h : InvC v q) : GC (d + 5) m_X10_turn [vR 10 0, vI a] v (wTu (qW q) true a).2 (qSet q (wTu (qW q) true a).1) := fun Q k => E_X10_turn (B_X10_turn_0 (cI (s_turnLine (b := true) h.2.1) (fun u r hu => by
  rw [hu.1]
  exact z_if_k wTu_01 (k _ _ ⟨rfl, h.w0 hu.2.2 hu.2.1 wTu_T, FC.w0 hu.2.2, KC.w0 hu.2.2⟩))))
theorem R_turn {a : Int32} (h : InvR v q) : GR (d + 4) m_X11_turn [vR 11 0, vI a] v (wTu (qW q) true a).2 (qSet q (wTu (qW q) true a).1) := (s_turnR h.2.1 h.2.2.2.2.2.2.2.2).m (fun u r hu => ⟨hu.1, h.ps hu.2.2 hu.2.1 wTu_T, FR.ps hu.2.2⟩)
theorem C_grant {a : Int32} (h : InvC v q) : GC (d + 5) m_X10_grant [vR 10 0, vI a] v (wGr (qW q) true a).2 (qSet q (wGr (qW q) true a).1) := fun Q k => E_X10_grant (B_X10_grant_0 (cI (s_giveGrant (b := true) h.2.1) (fun u r hu => by
  rw [hu.1]
  exact z_if_k wGr_01 (k _ _ ⟨rfl, h.w0 hu.2.2 hu.2.1 wGr_T, FC.w0 hu.2.2, KC.w0 hu.2.2⟩))))
theorem R_grant {a : Int32} (h : InvR v q) : GR (d + 4) m_X11_grant [vR 11 0, vI a] v (wGr (qW q) true a).2 (qSet q (wGr (qW q) true a).1) := (s_grantR h.2.1).m (fun u r hu => ⟨hu.1, h.ps hu.2.2 hu.2.1 wGr_T, FR.ps hu.2.2⟩)
theorem C_undo (h : InvC v q) : GC (d + 3) m_X10_undo [vR 10 0] v (wUn (qW q)).2 (qSet q (wUn (qW q)).1) := fun Q k => E_X10_undo (B_X10_undo_0 (cI (s_takeBack h.2.1) (fun u r hu => k _ _ ⟨hu.1, h.w0 hu.2.2 hu.2.1 wUn_T, FC.w0 hu.2.2, KC.w0 hu.2.2⟩)))
theorem R_undo (h : InvR v q) : GR (d + 1) m_X11_undo [vR 11 0] v (wUn (qW q)).2 (qSet q (wUn (qW q)).1) := (s_undoR h.2.1).m (fun u r hu => ⟨hu.1, h.ps (sPs_a hu.2.2) hu.2.1 wUn_T, FR.ps (sPs_a hu.2.2)⟩)
end IV0
