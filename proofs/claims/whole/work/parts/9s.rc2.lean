/-! the class reads sums and asks: if, asks, what stands between operands -/
theorem and63 : ∀ o, o < 64 → o &&& 63 = o := by decide +kernel
def fLd (j g : Nat) : Nat → Nat → Nat → Prop := fun t m k => t = 700 ∧ m = j ∧ k = g
theorem cmp_oC : ∀ i, i < 6 → oC (28 + i - 18) = 28 + i := by decide +kernel
section RC2
variable {d : Nat} {v : z_V} {B : Nat → Nat} {n j : Nat} {r : Bool} {M : z_M} {p f dep : Nat} {a : z_X} {R R' : z_Rs}
theorem fLd_Cx {u : z_V} {g f : Nat} (h : Fa (fLd j f) v u) (hg : g ≤ f) : Fa (fCx j g) v u := h.mono (fun t m k q => by unfold fLd at q; unfold fCx; omega)
theorem s_landX {g o : Nat} (hd : 1 ≤ d) (h : StC B n j r v p f) (hg : g < 300) (ho : o < 64) (hc : gI v 700 j g = nI o) : ZV d m_X6_land [vR 6 j, vI (nI g)] v (fun u => StC B n j r u p f ∧ gI u 700 j g = nI (f * 64 + o) ∧ Fa (fLd j g) v u) := by
  obtain ⟨c, rfl⟩ : ∃ c, d = c + 1 := ⟨d - 1, by omega⟩
  intro Q k
  obtain ⟨h1, h2, h3, h4, h5⟩ := h
  have fa : Fa (fLd j g) v (pI v 700 j g (nI (f * 64 + o))) := Fa.rfl.pI ⟨rfl, rfl, rfl⟩
  have n3 : ∀ k, ¬ fLd j g 3 0 k := fun k => by unfold fLd; omega
  refine E_X6_land (B_X6_land_0 ⟨fun z => absurd z (nI_pos (by omega)), fun _ => pk_le 300 g (fun z => absurd z (by omega)) (fun _ => z_ii g rfl hg (z_ii g rfl hg ?_))⟩)
  rw [h4, n_nI (by omega), hc, show (63 : Int32) = nI 63 from rfl, nI_and, and63 o ho, em_64 ho]
  exact k _ ⟨⟨⟨(fa.i (n3 _)).trans h1.1, h1.2.1, fun i hi => ⟨(fa.i (by unfold fLd; omega)).trans (h1.2.2 i hi).1, (h1.2.2 i hi).2⟩⟩, ⟨(fa.i (n3 _)).trans h2.1, fun z => (fa.i (n3 _)).trans (h2.2.1 z), (fa.i (n3 _)).trans h2.2.2.1, (fa.i (n3 _)).trans h2.2.2.2⟩, h3, (fa.i (by unfold fLd; omega)).trans h4, (fa.i (n3 _)).trans h5⟩, gI_pI_s, fa⟩
theorem s_choice {q : Nat} (hM : ∀ k dep p e R, M k dep p e R → PQ B n r k dep p e R ∧ Cs B n j r k dep p e R) (hq : q ≤ n) (hd : dep < 8) (hS : StC B n j r v q f) (hf : f ≤ q) (h3 : M 8 (dep + 1) q zZ R) (hb : bnd R (ifT B n M dep) R') (hD : 8 * (8 - dep) + 2 ≤ d) : ZI (d + 1) m_X3_choice [vR 3 0, vI (nI (dep + 1))] v (CR B n j r f v R') := fun Q k => by
  have hn := hS.1.2.1
  have hpq := (hM _ _ _ _ _ h3).1
  have hcs := Cs.nn (hM _ _ _ _ _ h3).2 rfl hq (by omega)
  have e3 : lvK 3 = 2 := rfl
  have e8 : lvK 8 = 5 := rfl
  have flt : ∀ {c : Nat} {v1 w : z_V} {x : Int32} {P : Int32 → Prop}, Fa (fCx j f) v v1 → (x = 0 ∧ gI w 3 0 3 = nI 1 ∧ gI w 3 0 4 = nI c ∧ Fr fWr v1 w) → R' = .inl (1, c) → x = 0 ∧ Q w (some (vI 0)) := fun hF hx e => ⟨hx.1, k _ _ (by rw [e]; exact ⟨rfl, hx.2.1, hx.2.2.1, (fCx_z hF).trans (fWr_Cx hx.2.2.2)⟩)⟩
  refine E_X3_choice (B_X3_choice_0 (cI (hcs d (by omega) v f hS hf) (fun w1 x1 hx1 => ?_)))
  rcases bnd_in hb with ⟨g0, rfl, rfl⟩ | ⟨c, p1, rfl, hb1⟩
  · have := hx1.flt (Fa.rfl (S := fCx j f)) (Nat.le_refl _)
    exact b_0' this.1 (k _ _ this.2)
  have o1 := hx1.ok
  have q1 := hpq.st rfl hq
  obtain ⟨g1, g2, g3, g4, _⟩ := hpq.gd rfl hq (by omega)
  refine b_1' o1.1 (cI (s_expectX (c := 21) (d := d) (by decide) (by omega) q1.2 o1.2.1) (fun w2 x2 h2 => ?_))
  unfold ifT at hb1
  rcases h2 with ⟨t1, y1, S1, F1⟩ | ⟨t1, y1⟩
  rotate_left
  · rw [if_neg t1] at hb1
    have := flt (P := fun _ => True) o1.2.2.2 y1 hb1
    exact b_0 this.1 this.2
  rw [if_pos t1] at hb1
  obtain ⟨R2, h4, hb2⟩ := hb1
  have hpq4 := (hM _ _ _ _ _ h4).1
  have n1 := nx_le (B := B) q1.2
  have k1 := nx_gt (B := B) q1.2 (by omega)
  have hcs4 := Cs.nn (hM _ _ _ _ _ h4).2 rfl n1 (by omega)
  refine b_1 y1 ⟨j, S1.2.2.1, cI (s_emitX (o := 21) (w := 0) (d := d) (by omega) S1 (by omega) (by decide)) (fun w3 x3 h3' => ?_)⟩
  obtain ⟨rfl, S2, c1, F2⟩ := h3'
  have r1 : rC (gI w3 700 j) f c := rC_em (rC_tk o1.2.2.1 F1) F2 (Nat.le_refl _)
  have F3 : Fa (fCx j f) v w3 := (o1.2.2.2.trans (fTk_Cx F1)).trans (fEm_Cx F2 (by omega))
  refine cI (hcs4 d (by omega) w3 _ S2 (by omega)) (fun w4 x4 hx4 => ?_)
  rcases bnd_in hb2 with ⟨g0, rfl, rfl⟩ | ⟨x, p2, rfl, hb3⟩
  · have := hx4.flt F3 (by omega)
    exact b_0' this.1 (k _ _ this.2)
  have o4 := hx4.ok
  have q2 := hpq4.st rfl n1
  obtain ⟨u1, u2, u3, u4, _⟩ := hpq4.gd rfl n1 (by omega)
  have F4 : Fa (fCx j f) v w4 := F3.trans (fCx_up o4.2.2.2 (by omega))
  refine b_1' o4.1 (cI (s_expectX (c := 22) (d := d) (by decide) (by omega) q2.2 o4.2.1) (fun w5 x5 h5 => ?_))
  rcases h5 with ⟨t2, y2, S5, F5⟩ | ⟨t2, y2⟩
  rotate_left
  · rw [if_neg t2] at hb3
    have := flt (P := fun _ => True) F4 y2 hb3
    exact b_0 this.1 this.2
  rw [if_pos t2] at hb3
  obtain ⟨R3, h6, hb4⟩ := hb3
  have hpq6 := (hM _ _ _ _ _ h6).1
  have n2 := nx_le (B := B) q2.2
  have k2 := nx_gt (B := B) q2.2 (by omega)
  have hcs6 := Cs.nn (hM _ _ _ _ _ h6).2 rfl n2 (by omega)
  refine b_1 y2 ⟨j, S5.2.2.1, cI (s_emitX (o := 22) (w := 0) (d := d) (by omega) S5 (by omega) (by decide)) (fun w6 x6 h6' => ?_)⟩
  obtain ⟨rfl, S6, c6, F6⟩ := h6'
  have c1b : gI w6 700 j (f + lC c) = nI 21 := by
    rw [F6.i (by unfold fEm; omega), F5.i (by unfold fTk; omega), o4.2.2.2.i (by unfold fCx; omega), c1]
  refine ⟨j, S6.2.2.1, cV (s_landX (o := 21) (d := d) (by omega) S6 (by omega) (by decide) c1b) (fun w7 h7 => ?_)⟩
  obtain ⟨S7, c7, F7⟩ := h7
  have r7 : rC (gI w7 700 j) f c := rC_fr (rC_em (rC_tk (rC_cx r1 o4.2.2.2 (by omega)) F5) F6 (by omega)) F7 (fun i h1 h2 => by unfold fLd; omega)
  have x7 : rC (gI w7 700 j) (f + lC c + 1) x := rC_fr (rC_em (rC_tk o4.2.2.1 F5) F6 (by omega)) F7 (fun i h1 h2 => by unfold fLd; omega)
  have d7 : gI w7 700 j (f + lC c + 1 + lC x) = nI 22 := by
    rw [F7.i (by unfold fLd; omega), c6]
  have G7 : Fa (fCx j f) v w7 := ((F4.trans (fTk_Cx F5)).trans (fEm_Cx F6 (by omega))).trans (fLd_Cx F7 (by omega))
  refine cI (hcs6 d (by omega) w7 _ S7 (by omega)) (fun w8 x8 hx8 => ?_)
  rcases bnd_in hb4 with ⟨g0, rfl, rfl⟩ | ⟨y, p3, rfl, rfl⟩
  · have := hx8.flt G7 (by omega)
    exact b_0' this.1 (k _ _ this.2)
  have o8 := hx8.ok
  have q3 := hpq6.st rfl n2
  obtain ⟨z1, z2, z3, z4, _⟩ := hpq6.gd rfl n2 (by omega)
  have F8 : Fa (fCx j f) v w8 := G7.trans (fCx_up o8.2.2.2 (by omega))
  refine b_1' o8.1 (cI (s_expectX (c := 23) (d := d) (by decide) (by omega) q3.2 o8.2.1) (fun w9 x9 h9 => ?_))
  unfold exT at k flt
  rcases h9 with ⟨t3, y3, S9, F9⟩ | ⟨t3, y3⟩
  rotate_left
  · have := flt (P := fun _ => True) F8 y3 (by rw [if_neg t3])
    exact b_0 this.1 this.2
  have k3 := nx_gt (B := B) q3.2 (by omega)
  have n3 := nx_le (B := B) q3.2
  have d9 : gI w9 700 j (f + lC c + 1 + lC x) = nI 22 := by
    rw [F9.i (by unfold fTk; omega), o8.2.2.2.i (by unfold fCx; omega), d7]
  refine b_1 y3 ⟨j, S9.2.2.1, cV (s_landX (o := 22) (d := d) (by omega) S9 (by omega) (by decide) d9) (fun w10 h10 => ?_)⟩
  obtain ⟨S10, c10, F10⟩ := h10
  refine k _ 1 ?_
  rw [if_pos t3]
  refine ⟨rfl, ?_, ?_, (F8.trans (fTk_Cx F9)).trans (fLd_Cx F10 (by omega))⟩
  · have : f + lC (.branch 3 c (.branch 30 x y)) = f + lC c + 1 + lC x + 1 + lC y := by
      show f + (lC c + (lC x + lC y + 1) + 1) = _
      omega
    show StC B n j r w10 (nxT B n p3) (f + lC (.branch 3 c (.branch 30 x y)))
    rw [this]
    exact S10
  · have e10 : gI w10 700 j (f + lC c) = nI ((f + lC c + 1 + lC x + 1) * 64 + 21) := by
      rw [F10.i (by unfold fLd; omega), F9.i (by unfold fTk; omega), o8.2.2.2.i (by unfold fCx; omega), c7]
    show rC (gI w10 700 j) f c ∧ gI w10 700 j (f + lC c) = nI ((f + lC c + 1 + lC x + 1) * 64 + 21) ∧ (rC (gI w10 700 j) (f + lC c + 1) x ∧ gI w10 700 j (f + lC c + 1 + lC x) = nI ((f + lC c + 1 + lC x + 1 + lC y) * 64 + 22) ∧ rC (gI w10 700 j) (f + lC c + 1 + lC x + 1) y)
    exact ⟨rC_fr (rC_tk (rC_cx r7 o8.2.2.2 (by omega)) F9) F10 (fun i h1 h2 => by unfold fLd; omega), e10, rC_fr (rC_tk (rC_cx x7 o8.2.2.2 (by omega)) F9) F10 (fun i h1 h2 => by unfold fLd; omega), c10, rC_fr (rC_tk o8.2.2.1 F9) F10 (fun i h1 h2 => by unfold fLd; omega)⟩
theorem cs_if (hM : ∀ k dep p e R, M k dep p e R → PQ B n r k dep p e R ∧ Cs B n j r k dep p e R) (h : tkC B n p = 20) (hd : dep < 8) (h3 : M 8 (dep + 1) (nxT B n p) zZ R) (hb : bnd R (ifT B n M dep) R') : Cs B n j r 0 dep p a R' := cs_n rfl (fun hp _ D hD v f hS hf => by
  obtain ⟨d, rfl⟩ : ∃ d, D = d + 1 + 1 + 1 := ⟨D - 3, by omega⟩
  have g := nx_gt (B := B) hp (by omega)
  have gn := nx_le (B := B) hp
  refine one_nst (by rw [h]; rfl) hS (fun Q k => E_X3_nested (B_X3_nested_0 (pk_le (dep + 1) 8 (fun _ => cV (s_adv (d := d + 1) (by omega) hp hS) (fun w1 hw1 => ?_)) (fun z => absurd z (by omega)))))
  rw [h]
  refine ⟨fun _ => ⟨fun z => absurd rfl z, fun _ => cI (s_choice (d := d) hM gn hd hw1.1 (by omega) h3 hb (by omega)) (fun w x hw => z01_x hw.x01 (k _ _ (hw.up (g := 0) (fTk_Cx hw1.2))))⟩, fun z => absurd z (by decide)⟩)
theorem cs_notd (h : tkC B n p = 26) (h8 : 8 ≤ dep) : Cs B n j r 5 dep p a (.inl (3, frT B n p)) := cs_n rfl (fun hp hd D hD v f hS hf Q k => by
  obtain ⟨d, rfl⟩ : ∃ d, D = d + 1 + 1 := ⟨D - 2, by omega⟩
  refine E_X3_ask (B_X3_ask_0 ?_)
  rw [hS.tok, h, nI_1]
  refine ⟨fun z => absurd rfl z, fun _ => cI (P := CR B n j r f v (.inl (3, frT B n p))) (fun Q k => E_X3_denied (B_X3_denied_0 (pk_le (dep + 1) 8 (fun z => absurd z (by omega)) (fun _ => ?_)))) (fun w x hw => z01_x hw.x01 (k _ _ hw))⟩
  exact cI (s_wrongX (c := 3) (d := d) (by omega) hS) (fun w x hw => z01_0 hw.1 (k _ _ ⟨hw.1, hw.2.1, hw.2.2.1, fWr_Cx hw.2.2.2⟩)))
theorem cs_not (hM : ∀ k dep p e R, M k dep p e R → PQ B n r k dep p e R ∧ Cs B n j r k dep p e R) (h : tkC B n p = 26) (hd : dep < 8) (h3 : M 5 (dep + 1) (nxT B n p) zZ R) (hb : bnd R (fun e q S => S = .inr (.branch 20 e zZ, q)) R') : Cs B n j r 5 dep p a R' := cs_n rfl (fun hp _ D hD v f hS hf Q k => by
  obtain ⟨d, rfl⟩ : ∃ d, D = d + 1 + 1 := ⟨D - 2, by omega⟩
  have g := nx_gt (B := B) hp (by omega)
  have gn := nx_le (B := B) hp
  have hn := hS.1.2.1
  have hpq := (hM _ _ _ _ _ h3).1
  have hcs := Cs.nn (hM _ _ _ _ _ h3).2 rfl gn (by omega)
  have e5 : lvK 5 = 3 := rfl
  refine E_X3_ask (B_X3_ask_0 ?_)
  rw [hS.tok, h, nI_1]
  refine ⟨fun z => absurd rfl z, fun _ => cI (P := CR B n j r f v R') (fun Q k => E_X3_denied (B_X3_denied_0 (pk_le (dep + 1) 8 (fun _ => cV (s_adv (d := d) (by omega) hp hS) (fun w1 hw1 => cI (hcs d (by omega) w1 f hw1.1 (by omega)) (fun w3 x hx => ?_))) (fun z => absurd z (by omega))))) (fun w x hw => z01_x hw.x01 (k _ _ hw))⟩
  rcases bnd_in hb with ⟨g0, rfl, rfl⟩ | ⟨e, q, rfl, rfl⟩
  · have := hx.flt (fTk_Cx (j := j) (g := f) hw1.2) (Nat.le_refl _)
    exact b_0 this.1 (k _ _ this.2)
  · have ho := hx.ok
    have hq := hpq.st rfl gn
    obtain ⟨g1, g2, g3, g4, _⟩ := hpq.gd rfl gn (by omega)
    have hF := (fTk_Cx (j := j) (g := f) hw1.2).trans ho.2.2.2
    refine b_1 ho.1 ⟨j, ho.2.1.2.2.1, cI (s_emitX (o := 26) (w := 0) (d := d) (by omega) ho.2.1 (by omega) (by decide)) (fun w4 x4 h4 => ?_)⟩
    obtain ⟨_, hS2, hc, hE⟩ := h4
    exact k _ 1 ⟨rfl, hS2, rC_u (o := 20) rfl (by decide) (by decide) (rC_em ho.2.2.1 hE (Nat.le_refl _)) hc, hF.trans (fEm_Cx hE (by omega))⟩)
theorem cs_ask (hM : ∀ k dep p e R, M k dep p e R → PQ B n r k dep p e R ∧ Cs B n j r k dep p e R) (h : ¬ tkC B n p = 26) (h3 : M 3 dep p zZ R) (hb : bnd R (akT B n M dep) R') : Cs B n j r 5 dep p a R' := cs_n rfl (fun hp hd D hD v f hS hf Q k => by
  obtain ⟨d, rfl⟩ : ∃ d, D = d + 1 := ⟨D - 1, by omega⟩
  have hn := hS.1.2.1
  have hpq := (hM _ _ _ _ _ h3).1
  have hcs := Cs.nn (hM _ _ _ _ _ h3).2 rfl hp hd
  have e5 : lvK 5 = 3 := rfl
  have e3 : lvK 3 = 2 := rfl
  have t42 := tk_42 (B := B) (n := n) (p := p)
  refine E_X3_ask (B_X3_ask_0 ?_)
  rw [hS.tok]
  refine pk_ne (tkC B n p) 26 (fun _ => cI (hcs d (by omega) v f hS hf) (fun w1 x1 hx1 => ?_)) (fun z => absurd z h)
  rcases bnd_in hb with ⟨g0, rfl, rfl⟩ | ⟨x, p1, rfl, hb1⟩
  · have := hx1.flt (Fa.rfl (S := fCx j f)) (Nat.le_refl _)
    exact b_0 this.1 (k _ _ this.2)
  have o1 := hx1.ok
  have q1 := hpq.st rfl hp
  obtain ⟨g1, g2, g3, g4, _⟩ := hpq.gd rfl hp hd
  have t1 := tk_42 (B := B) (n := n) (p := p1)
  rw [o1.2.1.tok]
  unfold akT at hb1
  have bad : ¬ (28 ≤ tkC B n p1 ∧ tkC B n p1 ≤ 33) → z_C d m_X3_wrong [vR 3 0, vI 1] w1 (fun w4 o5 => ∃ i6 : Int32, o5 = some (vI i6) ∧ z_if (z_01 i6) (Q w4 (some (vI i6)))) := fun z => by
    rw [if_neg z] at hb1
    subst hb1
    exact cI (s_wrongX (c := 1) (d := d) (by omega) o1.2.1) (fun w x hw => z01_0 hw.1 (k _ _ ⟨hw.1, hw.2.1, hw.2.2.1, (fCx_z o1.2.2.2).trans (fWr_Cx hw.2.2.2)⟩))
  refine b_1 o1.1 (pk_lt (tkC B n p1) 28 (fun z => bad (by omega)) (fun z => pk_le (tkC B n p1) 33 (fun z2 => ?_) (fun z2 => bad (by omega))))
  rw [if_pos (⟨by omega, by omega⟩)] at hb1
  obtain ⟨R2, h4, hb2⟩ := hb1
  have hpq4 := (hM _ _ _ _ _ h4).1
  have n1 := nx_le (B := B) q1.2
  have k1 := nx_gt (B := B) q1.2 (by omega)
  have hcs4 := Cs.nn (hM _ _ _ _ _ h4).2 rfl n1 hd
  refine cV (s_adv (d := d) (by omega) q1.2 o1.2.1) (fun w7 hw7 => cI (hcs4 d (by omega) w7 _ hw7.1 (by omega)) (fun w9 x9 hx9 => ?_))
  have F7 : Fa (fCx j f) v w7 := o1.2.2.2.trans (fTk_Cx hw7.2)
  rcases bnd_in hb2 with ⟨g0, rfl, rfl⟩ | ⟨y, p2, rfl, rfl⟩
  · have := hx9.flt F7 (by omega)
    exact b_0 this.1 (k _ _ this.2)
  have o9 := hx9.ok
  have q2 := hpq4.st rfl n1
  obtain ⟨u1, u2, u3, u4, _⟩ := hpq4.gd rfl n1 hd
  have hun : un (tkC B n p1 - 18) = false := by
    obtain ⟨i, hi⟩ : ∃ i, tkC B n p1 = 28 + i := ⟨tkC B n p1 - 28, by omega⟩
    rw [hi]
    exact cmp_un i (by omega)
  have hoC : oC (tkC B n p1 - 18) = tkC B n p1 := by
    obtain ⟨i, hi⟩ : ∃ i, tkC B n p1 = 28 + i := ⟨tkC B n p1 - 28, by omega⟩
    rw [hi]
    exact cmp_oC i (by omega)
  have s := sz_b (a := x) (b := y) hun (by omega) (by omega)
  refine b_1 o9.1 ⟨j, o9.2.1.2.2.1, cI (s_emitX (o := tkC B n p1) (w := 0) (d := d) (by omega) o9.2.1 (by omega) (by omega)) (fun w4 x4 h4 => ?_)⟩
  obtain ⟨_, hS2, hc, hE⟩ := h4
  refine k _ 1 ⟨rfl, ?_, rC_b hun (by omega) (by omega) (rC_em (rC_cx (rC_tk o1.2.2.1 hw7.2) o9.2.2.2 (Nat.le_refl _)) hE (by omega)) (rC_em o9.2.2.1 hE (Nat.le_refl _)) ?_, (F7.trans (fCx_up o9.2.2.2 (by omega))).trans (fEm_Cx hE (by omega))⟩
  · show StC B n j r w4 p2 (f + lC (.branch (tkC B n p1 - 18) x y))
    rw [s.1, ← Nat.add_assoc, ← Nat.add_assoc]
    exact hS2
  · rw [hc, hoC, Nat.zero_mul, Nat.zero_add])
end RC2
