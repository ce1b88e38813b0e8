/-! a text read: the reference holds it -/
theorem RRf.ts {f f' : Nat → Int32} {W : z_W} (h : RRf f W) (hk : wT W < 4) (h1 : f' 1 = nI (wT W + 1)) (e : ∀ j, j < 1218 → j ≠ 1 → f' j = f j) : RRf f' (wTs W (wT W + 1)) := by
  obtain ⟨a0, a1, a2, a3, a4, a5, a6, a7, a8, a9⟩ := h
  have hn := a0.n
  have hc := a0.2.2.1
  have hq := a0.2.2.2.2.2.2.1
  refine ⟨okW_ts a0 hk, (e _ (by decide) (by decide)).trans a1, h1, (e _ (by decide) (by decide)).trans a3, (e _ (by decide) (by decide)).trans a4, (e _ (by decide) (by decide)).trans a5, a6.cg (fun k hk => e _ (by omega) (by omega)) (fun k hk => e _ (by omega) (by omega)) (fun _ _ => rfl), fun i hi => ?_, fun l hl => ?_, fun i hi => ?_⟩
  · have hi : i < wC W := hi
    obtain ⟨m, m1, m2, m3, m4⟩ := a7 i hi
    exact ⟨m, m1, (e _ (by omega) (by omega)).trans m2, m3, m4.cg (fun k hk => e _ (by omega) (by omega)) (fun k hk => e _ (by omega) (by omega)) (fun _ _ => rfl)⟩
  · have hl : l < wN W := hl
    exact ⟨(e _ (by omega) (by omega)).trans (a8 l hl).1, (e _ (by omega) (by omega)).trans (a8 l hl).2⟩
  · have hi : i < wQ W := hi
    exact ⟨(e _ (by omega) (by omega)).trans (a9 i hi).1, (e _ (by omega) (by omega)).trans (a9 i hi).2⟩
theorem TR.lo {v u : z_V} {k kk : Nat} {T : z_T} (h : TR v k T) (hk : k < kk) (e : ∀ c, c < 681 * kk → gI u 1202 0 c = gI v 1202 0 c) : TR u k T := by
  obtain ⟨b1, b2, b3, b4, b5⟩ := h
  have lw : ∀ {s r law}, LR1 v k s r T.2.2.1 T.2.2.2.1 law → LR1 u k s r T.2.2.1 T.2.2.2.1 law := fun {s r law} l => by
    cases law with
    | none => exact l
    | some x =>
      obtain ⟨j, y, a1, a2, a3, a4, a5, a6, a7, a8⟩ := l
      exact ⟨j, y, a1, a2, a3, (e _ (by omega)).trans a4, (e _ (by omega)).trans a5, a6, rR_cong (fun i _ hi => by show (gI u 1202 0 _, gI u 1202 0 _) = (gI v 1202 0 _, gI v 1202 0 _); rw [e _ (by omega), e _ (by omega)]) a7, a8⟩
  exact ⟨(e _ (by omega)).trans b1, b2, fun j hj => ⟨(e _ (by omega)).trans (b3 j hj).1, (b3 j hj).2.1, fun z => ⟨(e _ (by omega)).trans ((b3 j hj).2.2.1 z).1, fun z2 => (e _ (by omega)).trans (((b3 j hj).2.2.1 z).2 z2)⟩, (b3 j hj).2.2.2⟩, lw b4, lw b5⟩
section TX9
variable {d : Nat} {v : z_V} {q : z_Q}
theorem R_text {Rt : z_Rf} (h : InvR v q) (hk : wT (qW q) < 4) (hl : ∀ d u w (Q : z_RT) u1, 17 ≤ d → TRc (qB q) (qL q) (wT (qW q)) u 0 T00 w → w ≤ 0 → (∀ u' x, RT' (wT (qW q)) u Rt u' x → Q u' (some (vI x))) → z_Wp (z_C d) 1 k_X11_readText Q 43 [some (vR 11 0), u1] [] u) : GR (d + 19) m_X11_text [vR 11 0] v (rTx q Rt) (qTx q Rt) := fun Q k => E_X11_text (B_X11_text_0 (by
  obtain ⟨a0, a1, a2, a3, a4, a5, a6, a7, a8⟩ := h
  have hT : TPr v (qB q) (qL q) := ⟨a4, a0.2.1, fun i hi => ⟨a5 i hi, a0.2.2 i hi⟩⟩
  have h1 : gI v 1200 0 1 = nI (wT (qW q)) := a1.2.2.1
  rw [h1]
  refine pk_ne (wT (qW q)) 4 (fun _ => cI (s_readR (d := d) hl hT (by omega) h1) (fun w1 x hx => ?_)) (fun z => absurd hk (by omega))
  have kee : ∀ {u : z_V}, Fr (fRw (wT (qW q))) v w1 → Fr (fun t c => (t = 11 ∧ (c = 4 ∨ c = 5 ∨ c = 6)) ∨ (t = 1200 ∧ c = 1)) w1 u → FR v u ∧ (∀ j, j < 1218 → j ≠ 1 → gI u 1200 0 j = gI v 1200 0 j) ∧ RRf (gI u 1201 0) (qI q) ∧ (∀ k, k < wT (qW q) → TR u k (qT q k)) ∧ gI u 11 0 23 = bI true := fun {u} f1 f2 => by
    refine ⟨⟨fun t n c z => ?_, f2.2.trans f1.2⟩, fun j hj hj1 => (f2.i (by omega)).trans (f1.i (by unfold fRw fRt; omega)), a2.cg (fun j _ => (f2.i (by omega)).trans (f1.i (by unfold fRw fRt; omega))), fun k hk => (a3 k hk).lo hk (fun c hc => (f2.i (by omega)).trans (f1.i (by unfold fRw fRt; omega))), (f2.i (by omega)).trans ((f1.i (by unfold fRw fRt; omega)).trans a8)⟩
    unfold tRf at z
    have y1 := f1.1 t n c (by unfold fRw fRt; omega)
    have y2 := f2.1 t n c (by omega)
    exact ⟨y2.1.trans y1.1, y2.2.trans y1.2⟩
  cases Rt with
  | inl g =>
    obtain ⟨x0, x1, x2, x3, x4⟩ := hx
    have hne : ¬ x = 0 := fun z => by
      rw [x0] at z
      have := (nI_eq (a := g.1) (b := 0) (by omega) (by decide)).mp z
      omega
    have f2 : Fr (fun t c => (t = 11 ∧ (c = 4 ∨ c = 5 ∨ c = 6)) ∨ (t = 1200 ∧ c = 1)) w1 (pI (pI (pI w1 11 0 5 x) 11 0 6 (gI w1 11 0 8)) 11 0 4 0) := ((Fr.rfl.pI (Or.inl ⟨rfl, by decide⟩)).pI (Or.inl ⟨rfl, by decide⟩)).pI (Or.inl ⟨rfl, by decide⟩)
    obtain ⟨c1, c2, c3, c4, c5⟩ := kee x4 f2
    refine ⟨fun _ => ⟨fun z => absurd z hne, fun _ => k _ _ ⟨rfl, ⟨okQ_tx a0, a1.cg (fun j hj => ?_), c3, c4, gI_pI_s, fun j hj => absurd hj (Nat.not_lt_zero _), ?_, ?_, c5⟩, c1⟩⟩, fun z => absurd z hne⟩
    · rw [gI_pI_ne (fun z => absurd z.1 (by decide)), gI_pI_ne (fun z => absurd z.1 (by decide)), gI_pI_ne (fun z => absurd z.1 (by decide)), x4.i (by unfold fRw fRt; omega)]
    · rw [gI_pI_k (by decide), gI_pI_k (by decide), gI_pI_s]
      exact x0
    · rw [gI_pI_k (by decide), gI_pI_s]
      exact x3
  | inr T =>
    obtain ⟨x0, x1, x4⟩ := hx
    have g1 : gI w1 1200 0 1 = nI (wT (qW q)) := (x4.i (by unfold fRw fRt; omega)).trans h1
    rw [g1, nI_1, nI_s1]
    have f2 : Fr (fun t c => (t = 11 ∧ (c = 4 ∨ c = 5 ∨ c = 6)) ∨ (t = 1200 ∧ c = 1)) w1 (pI (pI (pI (pI w1 11 0 5 x) 11 0 6 (-1)) 11 0 4 0) 1200 0 1 (nI (wT (qW q) + 1))) := (((Fr.rfl.pI (Or.inl ⟨rfl, by decide⟩)).pI (Or.inl ⟨rfl, by decide⟩)).pI (Or.inl ⟨rfl, by decide⟩)).pI (Or.inr ⟨rfl, rfl⟩)
    obtain ⟨c1, c2, c3, c4, c5⟩ := kee x4 f2
    refine ⟨fun z => absurd x0 z, fun _ => ⟨fun _ => k _ _ ⟨rfl, ⟨okQ_tx a0, a1.ts hk gI_pI_s c2, c3, fun j hj => ?_, ?_, fun j hj => absurd hj (Nat.not_lt_zero _), ?_, ?_, c5⟩, c1⟩, fun z => absurd x0 z⟩⟩
    · have hj : j < wT (qW q) + 1 := hj
      show TR _ j (if j = wT (qW q) then T else qT q j)
      by_cases e : j = wT (qW q)
      · rw [if_pos e, e]
        exact x1.fr f2 (fun c => by omega)
      · rw [if_neg e]
        exact c4 j (by omega)
    · rw [gI_pI_ne (fun z => absurd z.1 (by decide)), gI_pI_s]
      rfl
    · rw [gI_pI_ne (fun z => absurd z.1 (by decide)), gI_pI_k (by decide), gI_pI_k (by decide), gI_pI_s]
      exact x0
    · rw [gI_pI_ne (fun z => absurd z.1 (by decide)), gI_pI_k (by decide), gI_pI_s]
      rfl))
end TX9
