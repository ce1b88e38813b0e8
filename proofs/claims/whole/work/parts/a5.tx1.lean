/-! a text: a whole clause, by the class -/
section TX1
variable {d : Nat} {v : z_V} {B : Nat → Nat} {n j : Nat} {p q f : Nat} {T : z_T}
theorem CO.x01 {u : z_V} {x : Int32} {R : z_Rc} (h : CO B n j v R u x) : x = 0 ∨ x = 1 := by
  cases R with
  | inl g => exact Or.inl h.1
  | inr y => exact Or.inr h.1
theorem CO.up {v1 u : z_V} {x : Int32} {R : z_Rc} (h : CO B n j v1 R u x) (g : Fa (fCt j) v v1) : CO B n j v R u x := by
  cases R with
  | inl y => exact ⟨h.1, h.2.1, h.2.2.1, (fCt_y g).trans h.2.2.2⟩
  | inr y => exact ⟨h.1, h.2.1, g.trans h.2.2⟩
theorem CO_w {u v1 : z_V} {x : Int32} {c pl : Nat} (h : x = 0 ∧ gI u 3 0 3 = nI c ∧ gI u 3 0 4 = nI pl ∧ Fr fWr v1 u) (g : Fa (fCt j) v v1) : x = 0 ∧ CO B n j v (.inl (c, pl)) u 0 := ⟨h.1, rfl, h.2.1, h.2.2.1, (fCt_y g).trans (fWr_Ct h.2.2.2)⟩
theorem ck_h {c a b : Nat} (hc : c = 2 ∨ c = 4 ∨ c = 6 ∨ c = 7 ∨ c = 8) (ha : loN c ≤ a ∧ a ≤ hiN c) (hb : b ≤ 6) : ck (kS c) a b ∧ kS c ≤ 6 ∧ kC (kS c) = c := by
  obtain ⟨a1, a2⟩ := ha
  rcases hc with rfl | rfl | rfl | rfl | rfl
  · have a2 : a ≤ 6 := a2
    exact ⟨⟨by decide, fun _ => by omega, fun z => absurd z (by decide), fun z => absurd z (by decide), fun z => absurd z (by decide), fun z => absurd z (by decide)⟩, by decide, rfl⟩
  · have a2 : a ≤ 99 := a2
    exact ⟨⟨by decide, fun z => absurd z (by decide), fun _ => by omega, fun z => absurd z (by decide), fun z => absurd z (by decide), fun z => absurd z (by decide)⟩, by decide, rfl⟩
  · have a2 : a ≤ 9 := a2
    exact ⟨⟨by decide, fun z => absurd z (by decide), fun z => absurd z (by decide), fun _ => by omega, fun z => absurd z (by decide), fun z => absurd z (by decide)⟩, by decide, rfl⟩
  · have a2 : a ≤ 99 := a2
    have a1 : 1 ≤ a := a1
    exact ⟨⟨by decide, fun z => absurd z (by decide), fun z => absurd z (by decide), fun z => absurd z (by decide), fun _ => by omega, fun z => absurd z (by decide)⟩, by decide, rfl⟩
  · have a2 : a ≤ 60 := a2
    have a1 : 1 ≤ a := a1
    exact ⟨⟨by decide, fun z => absurd z (by decide), fun z => absurd z (by decide), fun z => absurd z (by decide), fun z => absurd z (by decide), fun _ => by omega⟩, by decide, rfl⟩
/-- the second number of lay and plate -/
theorem s_do27 {c a : Nat} {Q : z_RT} {v0 : z_V} (hc : c = 2 ∨ c = 4) (ha : loN c ≤ a ∧ a ≤ hiN c) (hcl : T.2.2.1 < 24) (hd : 5 ≤ d) (hq : q ≤ n) (hf : f ≤ q) (h : TCc B n j v q T f) (g : Fa (fCt j) v0 v) (k : ∀ u x, CO B n j v0 (expR B n (if c = 2 then 3 else 5) q (figR B n (nxT B n q) 0 6 (.inr (addT T (kS c) a (tkV B n (nxT B n q)), nxT B n (nxT B n q))))) u x → Q u (some (vI x))) : ∀ u3, z_Wp (z_C d) 4 k_X3_doClause Q 27 [some (vR 3 0), some (vI (nI c)), some (vI (nI a)), u3] [] v := fun u3 => by
  have e0 : loN 2 = 0 := rfl
  have e6 : hiN 2 = 6 := rfl
  have body : ∀ w0, w0 = (if c = 2 then 3 else 5) → z_C d m_X3_expect [vR 3 0, vI (nI w0)] v (fun w1 o2 => ∃ i3 : Int32, o2 = some (vI i3) ∧ ((¬ i3 = 0 → z_C d m_X3_number [vR 3 0, vI 2] w1 (fun w4 o5 => ∃ i6 : Int32, o5 = some (vI i6) ∧ ((¬ i6 = 0 → (∃ j7 : Nat, gJ w4 = j7 + 1 ∧ z_C d m_X6_add [vR 6 j7, vI (nI c), vI (nI a), vI (gI w1 3 0 8)] w4 (fun w8 o9 => o9 = none ∧ Q w8 (some (vI 1))))) ∧ (i6 = 0 → Q w4 (some (vI 0)))))) ∧ (i3 = 0 → Q w1 (some (vI 0))))) := fun w0 hw0 => by
    rw [← hw0] at k
    unfold expR figR at k
    refine cI (s_expectL (c := w0) (d := d) (by rw [hw0]; split <;> decide) (by omega) hq h) (fun w1 x1 h1 => ?_)
    rcases h1 with ⟨t1, y1, S1, F1⟩ | ⟨t1, y1⟩
    rotate_left
    · rw [if_neg t1] at k
      have := CO_w (B := B) (n := n) y1 g
      exact b_0 this.1 (k _ _ this.2)
    rw [if_pos t1] at k
    have n1 := nx_le (B := B) hq
    have k1 := nx_gt (B := B) hq (by rw [t1, hw0]; split <;> decide)
    have G1 := g.trans (fTk_Ct (j := j) F1)
    refine b_1 y1 (cI (s_number (c := 2) (d := d) (by decide) (by omega) n1 S1) (fun w4 x4 h4 => ?_))
    rw [e0, e6] at h4
    rcases h4 with ⟨t2, r2, y2, S2, F2⟩ | ⟨t2, r2, y2⟩ | ⟨t2, y2⟩
    · rw [if_pos t2, if_pos r2] at k
      have k2 := nx_gt (B := B) n1 (by omega)
      have hk := ck_h (c := c) (a := a) (b := tkV B n (nxT B n q)) (by omega) ha r2.2
      refine b_1 y2 ⟨j, S2.2.2.1, ?_⟩
      rw [S1.2.1.2.1 t2]
      have ad := s_addX (k := kS c) (a := a) (b := tkV B n (nxT B n q)) (d := d) hk.2.1 hk.1 hcl (by omega) S2
      rw [hk.2.2] at ad
      exact cV ad (fun w8 h8 => k _ 1 ⟨rfl, ⟨f, by show f ≤ _; omega, h8.1⟩, (G1.trans (fTk_Ct F2)).trans (fAd_Ct h8.2)⟩)
    · rw [if_pos t2, if_neg r2] at k
      have := CO_w (B := B) (n := n) y2 G1
      exact b_0 this.1 (k _ _ this.2)
    · rw [if_neg t2] at k
      have := CO_w (B := B) (n := n) y2 G1
      exact b_0 this.1 (k _ _ this.2)
  refine B_X3_doClause_27 (pk_ne c 2 (fun z => ?_) (fun z => ?_))
  · exact body 5 (by rw [if_neg z])
  · exact body 3 (by rw [if_pos z])
theorem s_doC {c : Nat} (hc : c = 2 ∨ c = 4 ∨ c = 6 ∨ c = 7 ∨ c = 8) (hcl : T.2.2.1 < 24) (hd : 6 ≤ d) (hq : q ≤ n) (hf : f ≤ q) (h : TCc B n j v q T f) : ZI d m_X3_doClause [vR 3 0, vI (nI c)] v (CO B n j v (doR B n T c q)) := by
  obtain ⟨e, rfl⟩ : ∃ e, d = e + 1 := ⟨d - 1, by omega⟩
  intro Q k
  have l0 : (c = 2 ∨ c = 4) → loN c = 0 := fun z => by unfold loN; rw [if_neg (by omega)]
  have n1 := nx_le (B := B) hq
  unfold doR at k
  refine E_X3_doClause (B_X3_doClause_0 (cI (s_number hc (d := e) (by omega) hq h) (fun w1 x1 h1 => ?_)))
  rcases h1 with ⟨t1, r1, y1, S1, F1⟩ | ⟨t1, r1, y1⟩ | ⟨t1, y1⟩
  · rw [h.2.1.2.1 t1]
    have k1 := nx_gt (B := B) hq (by omega)
    have two : (c = 2 ∨ c = 4) → ∀ u3, z_Wp (z_C e) 4 k_X3_doClause Q 27 [some (vR 3 0), some (vI (nI c)), some (vI (nI (tkV B n q))), u3] [] w1 := fun z => by
      rw [if_pos z] at k
      have r1' := r1
      rw [l0 z] at r1'
      unfold figR at k
      rw [if_pos t1, if_pos r1'] at k
      exact s_do27 z r1 hcl (by omega) n1 (by omega) S1 (fTk_Ct F1) k
    refine b_1 y1 (pk_eq c 2 (fun z => two (Or.inl z) _) (fun z => pk_ne c 4 (fun z2 => ⟨j, S1.2.2.1, ?_⟩) (fun z2 => two (Or.inr z2) _)))
    rw [if_neg (by omega)] at k
    unfold figR at k
    rw [if_pos t1, if_pos r1] at k
    have hk := ck_h (c := c) (a := tkV B n q) (b := 0) hc r1 (by decide)
    have ad := s_addX (k := kS c) (a := tkV B n q) (b := 0) (d := e) hk.2.1 hk.1 hcl (by omega) S1
    rw [hk.2.2] at ad
    exact cV ad (fun w8 h8 => k _ 1 ⟨rfl, ⟨f, by show f ≤ _; omega, h8.1⟩, (fTk_Ct F1).trans (fAd_Ct h8.2)⟩)
  · have := CO_w (B := B) (n := n) y1 (Fa.rfl (S := fCt j) (v := v))
    refine b_0 this.1 (k _ _ ?_)
    by_cases z : c = 2 ∨ c = 4
    · rw [if_pos z]
      rw [l0 z] at r1
      unfold figR
      rw [if_pos t1, if_neg r1]
      exact this.2
    · rw [if_neg z]
      unfold figR
      rw [if_pos t1, if_neg r1]
      exact this.2
  · have := CO_w (B := B) (n := n) y1 (Fa.rfl (S := fCt j) (v := v))
    refine b_0 this.1 (k _ _ ?_)
    by_cases z : c = 2 ∨ c = 4
    · rw [if_pos z]
      unfold figR
      rw [if_neg t1]
      exact this.2
    · rw [if_neg z]
      unfold figR
      rw [if_neg t1]
      exact this.2
theorem s_hasX {c : Nat} (hc : c ≤ 1) (hd : 1 ≤ d) (h : TCf v j T f) (hf : f ≤ 300) : ZP d m_X6_has [vR 6 j, vI (nI c)] v (bI (hasL T c)) := by
  obtain ⟨e, rfl⟩ : ∃ e, d = e + 1 := ⟨d - 1, by omega⟩
  intro Q k
  have go : ∀ {a b r law}, LCf v j a b r law f → Q v (some (vI (bI law.isSome))) → (gI v 6 j b ≤ gI v 6 j a → Q v (some (vI 0))) ∧ (¬ gI v 6 j b ≤ gI v 6 j a → Q v (some (vI 1))) := fun {a b r law} h k => by
    cases law with
    | none =>
      rw [h.1, h.2]
      exact ⟨fun _ => k, fun z => absurd (show nI 0 ≤ nI 0 by decide) z⟩
    | some x =>
      obtain ⟨g, h1, h2, h3, _⟩ := h
      have := lC_pos x
      rw [h1, h2]
      exact pk_le (g + lC x) g (fun z => absurd z (by omega)) (fun _ => k)
  unfold hasL at k
  refine E_X6_has (B_X6_has_0 (pk_ne c 0 (fun z => ?_) (fun z => ?_)))
  · rw [if_neg z, if_pos (by omega)] at k
    exact go h.2.1 k
  · rw [if_pos z] at k
    exact go h.1 k
theorem s_addLaw {r : Bool} {e : z_X} {c : Nat} (hc : c = if r = true then 0 else 1) (hcl : T.2.2.1 < 24) (hd : 2 ≤ d) (hno : f + lC e ≤ 300) (hty : ty r e = 1) (hsk : sk e ≤ 64) (hr : rC (gI v 700 j) f e) (h : TCc B n j v p T (f + lC e)) : ZV d m_X6_addLaw [vR 6 j, vI (nI c), vI (nI f)] v (fun u => TCc B n j u p (addL T r e) (f + lC e) ∧ Fa (fCt j) v u) := by
  obtain ⟨x, rfl⟩ : ∃ x, d = x + 1 := ⟨d - 1, by omega⟩
  intro Q k
  obtain ⟨h1, h2, h3, h4, h5, h6, h7⟩ := h
  have st : ∀ (a b : Nat), (a = 6 ∧ b = 7 ∧ r = true) ∨ (a = 8 ∧ b = 9 ∧ r = false) → TCc B n j (pI (pI v 6 j a (nI f)) 6 j b (nI (f + lC e))) p (setL T r e) (f + lC e) ∧ Fa (fCt j) v (pI (pI v 6 j a (nI f)) 6 j b (nI (f + lC e))) := fun a b hab => by
    have fa : Fa (fun t m k => t = 6 ∧ m = j ∧ (k = a ∨ k = b)) v (pI (pI v 6 j a (nI f)) 6 j b (nI (f + lC e))) := (Fa.rfl.pI ⟨rfl, rfl, Or.inl rfl⟩).pI ⟨rfl, rfl, Or.inr rfl⟩
    have nw : ∀ {r'}, r' = r → LCf (pI (pI v 6 j a (nI f)) 6 j b (nI (f + lC e))) j a b r' (some e) (f + lC e) := fun {r'} z => by
      subst z
      refine ⟨f, ?_, gI_pI_s, Nat.le_refl _, rC_fr hr fa (fun i _ _ => by omega), hty, hsk⟩
      rw [gI_pI_k (by omega), gI_pI_s]
    refine ⟨⟨⟨(fa.i (by omega)).trans h1.1, h1.2.1, fun i hi => ⟨(fa.i (by omega)).trans (h1.2.2 i hi).1, (h1.2.2 i hi).2⟩⟩, ⟨(fa.i (by omega)).trans h2.1, fun z => (fa.i (by omega)).trans (h2.2.1 z), (fa.i (by omega)).trans h2.2.2.1, (fa.i (by omega)).trans h2.2.2.2⟩, h3, (fa.i (by omega)).trans h4, ?_, ?_, (fa.i (by omega)).trans h7.1, h7.2.1, fun i hi => ⟨(fa.i (by omega)).trans (h7.2.2 i hi).1, (fa.i (by omega)).trans (h7.2.2 i hi).2.1, (fa.i (by omega)).trans (h7.2.2 i hi).2.2.1, (h7.2.2 i hi).2.2.2⟩⟩, fa.mono (fun t m k z => by unfold fCt; omega)⟩
    · rcases hab with ⟨rfl, rfl, z⟩ | ⟨rfl, rfl, z⟩
      · show LCf _ j 6 7 true (if r = true then some e else T.1) _
        rw [if_pos z]
        exact nw z.symm
      · show LCf _ j 6 7 true (if r = true then some e else T.1) _
        rw [z, if_neg (by decide)]
        exact h5.fr fa (by omega) (by omega) (fun k _ => by omega)
    · rcases hab with ⟨rfl, rfl, z⟩ | ⟨rfl, rfl, z⟩
      · show LCf _ j 8 9 false (if r = true then T.2.1 else some e) _
        rw [if_pos z]
        exact h6.fr fa (by omega) (by omega) (fun k _ => by omega)
      · show LCf _ j 8 9 false (if r = true then T.2.1 else some e) _
        rw [z, if_neg (by decide)]
        exact nw z.symm
  have c1 : c ≤ 1 := by rw [hc]; split <;> decide
  have ckk : ck c 0 0 := by
    have : c ≤ 1 := by rw [hc]; split <;> decide
    exact ⟨by omega, fun z => by omega, fun z => by omega, fun z => by omega, fun z => by omega, fun z => by omega⟩
  have kc : kC c = c := by
    have : c ≤ 1 := by rw [hc]; split <;> decide
    unfold kC
    rw [if_pos (by omega)]
  have fin : ∀ {v1 : z_V}, (TCc B n j v1 p (setL T r e) (f + lC e) ∧ Fa (fCt j) v v1) → z_C x m_X6_add [vR 6 j, vI (nI c), vI 0, vI 0] v1 (fun w1 o2 => o2 = none ∧ Q w1 none) := fun {v1} hh => by
    have ad := s_addX (T := setL T r e) (k := c) (a := 0) (b := 0) (d := x) ckk.1 ckk hcl (by omega) hh.1
    rw [kc] at ad
    refine cV ad (fun w8 h8 => k _ ⟨?_, hh.2.trans (fAd_Ct h8.2)⟩)
    unfold addL
    rw [← hc]
    exact h8.1
  refine E_X6_addLaw (B_X6_addLaw_0 ?_)
  rw [h4]
  refine pk_ne c 0 (fun z => ?_) (fun z => ?_)
  · have hr0 : r = false := by cases r with
      | true => exact absurd hc z
      | false => rfl
    exact fin (st 8 9 (Or.inr ⟨rfl, rfl, hr0⟩))
  · have hr0 : r = true := by cases r with
      | true => rfl
      | false => rw [z] at hc; cases hc
    exact fin (st 6 7 (Or.inl ⟨rfl, rfl, hr0⟩))
end TX1
