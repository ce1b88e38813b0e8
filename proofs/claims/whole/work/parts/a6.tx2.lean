/-! a text: a clause and its stop, by the class -/
section TX2
variable {d : Nat} {v : z_V} {B : Nat → Nat} {n j : Nat} {p q f : Nat} {T : z_T}
theorem s_startsClause {c : Nat} (hc : c ≤ 42) (hd : 1 ≤ d) : ZP d m_X3_startsClause [vI (nI c)] v (bI (stc c)) := by
  obtain ⟨e, rfl⟩ : ∃ e, d = e + 1 := ⟨d - 1, by omega⟩
  intro Q k
  have k' : ∀ b, stc c = b → Q v (some (vI (bI b))) := fun b e => by rw [← e]; exact k
  unfold stc at k'
  refine E_X3_startsClause (B_X3_startsClause_0 ⟨fun z => absurd z (nI_pos (by omega)), fun _ => pk_lt 8 c (fun z => k' false ?_) (fun z => pk_eq c 3 (fun y => k' false ?_) (fun y => pk_eq c 5 (fun x => k' false ?_) (fun x => k' true ?_)))⟩)
  · rw [decide_eq_false (by omega)]; rfl
  · rw [y]; rfl
  · rw [x]; rfl
  · rw [decide_eq_true (by omega), beq_false_of_ne y, beq_false_of_ne x]; rfl
theorem s_stopC {w : z_V} {T' : z_T} {q' : Nat} (hd : 4 ≤ d) (hq : q' ≤ n) (hf : f ≤ q') (h : TCc B n j w q' T' f) (g : Fa (fCt j) v w) : ZI d m_X3_expect [vR 3 0, vI 40] w (CO B n j v (stopR B n (.inr (T', q')))) := by
  intro Q k
  have k : ∀ w r, CO B n j v (expR B n 40 q' (.inr (T', nxT B n q'))) w r → Q w (some (vI r)) := k
  unfold expR at k
  refine s_expectL (c := 40) (d := d) (by decide) hd hq h Q (fun u x hx => ?_)
  rcases hx with ⟨t, y, S, F⟩ | ⟨t, y⟩
  · rw [if_pos t] at k
    have k1 := nx_gt (B := B) hq (by omega)
    exact k _ _ ⟨y, ⟨f, by show f ≤ _; omega, S⟩, g.trans (fTk_Ct F)⟩
  · rw [if_neg t] at k
    exact k _ _ ⟨y.1, y.2.1, y.2.2.1, (fCt_y g).trans (fWr_Ct y.2.2.2)⟩
theorem figR_inr {lo hi : Nat} {K : z_Rc} {y : z_T × Nat} (h : figR B n q lo hi K = .inr y) : tkC B n q = 27 ∧ (lo ≤ tkV B n q ∧ tkV B n q ≤ hi) ∧ K = .inr y := by
  unfold figR at h
  split at h
  · rename_i t
    split at h
    · rename_i t2
      exact ⟨t, t2, h⟩
    · cases h
  · cases h
theorem expR_inr {c : Nat} {K : z_Rc} {y : z_T × Nat} (h : expR B n c q K = .inr y) : tkC B n q = c ∧ K = .inr y := by
  unfold expR at h
  split at h
  · rename_i t
    exact ⟨t, h⟩
  · cases h
theorem doR_le {c : Nat} {T' : z_T} {q' : Nat} (hq : q ≤ n) (h : doR B n T c q = .inr (T', q')) : q' ≤ n := by
  unfold doR at h
  have n1 := nx_le (B := B) hq
  have n2 := nx_le (B := B) n1
  split at h
  · have h1 := figR_inr h
    have h2 := expR_inr h1.2.2
    have h3 := figR_inr h2.2
    have h4 := h3.2.2
    cases h4
    exact nx_le n2
  · have h1 := (figR_inr h).2.2
    cases h1
    exact n1
theorem lawX_inr {r : Bool} {R : z_Rs} {T' : z_T} {q' : Nat} (h : lawX T r R = .inr (T', q')) : ∃ e, R = .inr (e, q') ∧ T' = addL T r e := by
  cases R with
  | inl g => cases h
  | inr y =>
    obtain ⟨e, q0⟩ := y
    have h : (Sum.inr (addL T r e, q0) : z_Rc) = .inr (T', q') := h
    cases h
    exact ⟨e, rfl, rfl⟩
theorem s_clauseC {R : z_Rs} (hd : 73 ≤ d) (hp : p ≤ n) (hf : f ≤ p) (h : TCc B n j v p T f) (hpq : PQ B n (tkC B n p == 0) 3 0 (nxT B n p) zZ R) (hcs : CsN B n j (tkC B n p == 0) 3 0 (nxT B n p) zZ R) : ZI d m_X3_clause [vR 3 0] v (CO B n j v (clR B n T p R)) := by
  obtain ⟨e, rfl⟩ : ∃ e, d = e + 1 := ⟨d - 1, by omega⟩
  intro Q k
  have t42 := tk_42 (B := B) (n := n) (p := p)
  have gn := nx_le (B := B) hp
  have hn := h.1.2.1
  unfold clR at k
  have wr : ∀ {c : Nat}, (∀ x u, CO B n j v (.inl (c, frT B n p)) u x → Q u (some (vI x))) → z_C e m_X3_wrong [vR 3 0, vI (nI c)] v (fun w o => ∃ i : Int32, o = some (vI i) ∧ z_if (z_01 i) (Q w (some (vI i)))) := fun {c} kk => cI (s_wrongL (c := c) (d := e) (by omega) h.2.1) (fun w x hw => z01_0 hw.1 (kk _ _ ⟨hw.1, hw.2.1, hw.2.2.1, Fa.rfl.trans (fWr_Ct hw.2.2.2)⟩))
  refine E_X3_clause (B_X3_clause_0 ?_)
  rw [h.2.1.1]
  refine cP (s_startsClause t42 (d := e) (by omega)) (br_n (fun z => ?_) (fun z => wr (c := 1) (fun x u hx => k u x (by rw [z, if_neg (by decide)]; exact hx))))
  rw [z, if_pos rfl] at k
  have at54 : hasL T (tkC B n p) = false → ∀ x2 : Int32, (x2 = 0 ∧ 2 ≤ tkC B n p) ∨ (x2 = 1 ∧ tkC B n p ≤ 1) → ∀ u3, z_Wp (z_C e) 4 k_X3_clause Q 54 [some (vR 3 0), some (vI (nI (tkC B n p))), some (vI x2), u3] [] v := fun hh x2 hx2 u3 => by
    rw [hh, if_neg (by decide)] at k
    refine B_X3_clause_54 ⟨j, h.2.2.1, ?_⟩
    rw [h.2.2.2.2.2.2.1]
    have h24 := h.2.2.2.2.2.2.2.1
    refine pk_lt T.2.2.1 24 (fun hcl => ?_) (fun hcl => wr (c := 6) (fun x u hx => k u x (by rw [if_pos (by omega)]; exact hx)))
    rw [if_neg (by omega)] at k
    have k1 := nx_gt (B := B) hp (by
      intro z41
      rw [z41] at z
      cases z)
    refine cV (s_advL (d := e) (by omega) hp h) (fun w2 h2 => ?_)
    obtain ⟨S2, F2⟩ := h2
    rcases hx2 with ⟨rfl, hc2⟩ | ⟨rfl, hc1⟩
    · rw [if_neg (by omega)] at k
      have hcc : tkC B n p = 2 ∨ tkC B n p = 4 ∨ tkC B n p = 6 ∨ tkC B n p = 7 ∨ tkC B n p = 8 := by
        unfold stc at z
        simp only [Bool.and_eq_true, decide_eq_true_eq, Bool.not_eq_true', beq_eq_false_iff_ne] at z
        omega
      refine ⟨fun y => absurd rfl y, fun _ => cI (s_doC hcc hcl (d := e) (by omega) gn (by omega) S2) (fun w x hx => ?_)⟩
      have hx := hx.up (fTk_Ct (j := j) F2)
      cases hX : doR B n T (tkC B n p) (nxT B n p) with
      | inl g =>
        rw [hX] at hx k
        exact b_0' hx.1 (k _ _ ⟨rfl, hx.2⟩)
      | inr y =>
        obtain ⟨T', q'⟩ := y
        rw [hX] at hx k
        obtain ⟨f', hf', S'⟩ := hx.2.1
        have hq' : q' ≤ n := by
          have := doR_le gn hX
          exact this
        refine b_1' hx.1 (cI (s_stopC (d := e) (by omega) hq' hf' S' hx.2.2) (fun w5 x5 h5 => ?_))
        exact b_x (P := fun y => Q w5 (some (vI y))) h5.x01 (k _ _ h5)
    · rw [if_pos hc1] at k
      refine ⟨fun _ => ⟨j, S2.2.2.1, ?_⟩, fun y => absurd y (by decide)⟩
      have f6 : Fr (fun t k => t = 3 ∧ k = 6) w2 (pI w2 3 0 6 (nI (tkC B n p))) := Fr.rfl.pI ⟨rfl, rfl⟩
      have S3 : TCc B n j (pI w2 3 0 6 (nI (tkC B n p))) (nxT B n p) T f := ⟨S2.1.fr f6 (by decide) (fun k => by omega), ⟨(f6.i (by decide)).trans S2.2.1.1, fun y => (f6.i (by decide)).trans (S2.2.1.2.1 y), (f6.i (by decide)).trans S2.2.1.2.2.1, (f6.i (by decide)).trans S2.2.1.2.2.2⟩, f6.2.trans S2.2.2.1, (f6.i (by decide)).trans S2.2.2.2.1, S2.2.2.2.2.fr (S := fun t _ k => t = 3 ∧ k = 6) (Fa.ofR f6 (fun t m k y => y)) (fun k _ => by omega) (fun k _ => by omega) (fun k => by omega)⟩
      have hr6 : nI (tkC B n p) = nI (if (tkC B n p == 0) = true then 0 else 1) := by
        rcases (show tkC B n p = 0 ∨ tkC B n p = 1 by omega) with y | y <;> rw [y] <;> rfl
      have SC : StC B n j (tkC B n p == 0) (pI w2 3 0 6 (nI (tkC B n p))) (nxT B n p) f := ⟨S3.1, S3.2.1, S3.2.2.1, S3.2.2.2.1, by rw [gI_pI_s, hr6]⟩
      have G3 : Fa (fCt j) v (pI w2 3 0 6 (nI (tkC B n p))) := (fTk_Ct F2).trans (Fa.ofR f6 (fun t m k y => by unfold fCt; omega))
      have e3 : lvK 3 = 2 := rfl
      refine cI (hcs e (by omega) _ f SC (by omega)) (fun w5 x5 h5 => ?_)
      cases R with
      | inl g =>
        exact b_0 h5.1 (k w5 0 ⟨rfl, h5.2.1, h5.2.2.1, (fCt_y G3).trans (fCz_Cy h5.2.2.2)⟩)
      | inr y =>
        obtain ⟨ex, q'⟩ := y
        have ho := h5.ok
        obtain ⟨g1, g2, g3, g4, _⟩ := hpq.gd rfl gn (by decide)
        have hq := hpq.st rfl gn
        have S5 : TCc B n j w5 q' T (f + lC ex) := by
          obtain ⟨o1, o2, o3, o4, o5⟩ := ho.2.1
          have fx := ho.2.2.2
          have up := S3.2.2.2.2.fr fx (fun k hk => by unfold fCx; omega) (fun k hk => by unfold fCx; omega) (fun k => by unfold fCx; omega)
          exact ⟨o1, o2, o3, o4, up.1.up (by omega), up.2.1.up (by omega), up.2.2⟩
        have hc0 : tkC B n p = if (tkC B n p == 0) = true then 0 else 1 := by
          rcases (show tkC B n p = 0 ∨ tkC B n p = 1 by omega) with y | y <;> rw [y] <;> rfl
        rw [S2.2.2.2.1]
        refine b_1 ho.1 ⟨j, ho.2.1.2.2.1, cV (s_addLaw (r := (tkC B n p == 0)) hc0 hcl (d := e) (by omega) (by omega) g1 (by omega) ho.2.2.1 S5) (fun w9 h9 => ?_)⟩
        refine cI (s_stopC (d := e) (by omega) hq.2 (by omega) h9.1 ((G3.trans (fCx_Ct ho.2.2.2)).trans h9.2)) (fun w11 x11 h11 => ?_)
        exact z01_x h11.x01 (k _ _ h11)
  have lw : ∀ hc1 : tkC B n p ≤ 1, (((1 : Int32) = 0 → z_Wp (z_C e) 4 k_X3_clause Q 54 [some (vR 3 0), some (vI (nI (tkC B n p))), some (vI 1), none] [] v) ∧ (¬ (1 : Int32) = 0 → (∃ j4 : Nat, gJ v = j4 + 1 ∧ z_C e m_X6_has [vR 6 j4, vI (nI (tkC B n p))] v (fun w5 o6 => ∃ i7 : Int32, o6 = some (vI i7) ∧ ((i7 = 0 → z_Wp (z_C e) 4 k_X3_clause Q 54 [some (vR 3 0), some (vI (nI (tkC B n p))), some (vI 1), none] [] w5) ∧ (¬ i7 = 0 → z_C e m_X3_wrong [vR 3 0, vI 4] w5 (fun w8 o9 => ∃ i10 : Int32, o9 = some (vI i10) ∧ z_if (z_01 i10) (Q w8 (some (vI i10))))))))))  := fun hc1 => by
    refine ⟨fun y => absurd y (by decide), fun _ => ⟨j, h.2.2.1, cP (s_hasX hc1 (d := e) (by omega) h.2.2.2.2 (by omega)) (br_z (fun hh => at54 hh 1 (Or.inr ⟨rfl, hc1⟩) _) (fun hh => wr (c := 4) (fun x u hx => k u x (by rw [hh, if_pos rfl]; exact hx))))⟩⟩
  refine pk_eq (tkC B n p) 0 (fun c0 => lw (by omega)) (fun c0 => pk_ne (tkC B n p) 1 (fun c1 => ⟨fun _ => at54 (by unfold hasL; rw [if_neg c0, if_neg c1]) 0 (Or.inl ⟨rfl, by omega⟩) _, fun y => absurd rfl y⟩) (fun c1 => lw (by omega)))
end TX2
