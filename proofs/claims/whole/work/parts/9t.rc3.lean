/-! the class reads sums and asks: what stands between operands -/
section RC3
variable {v : z_V} {B : Nat → Nat} {n j : Nat} {r : Bool} {M : z_M} {p dep : Nat} {a : z_X} {R R' : z_Rs}
theorem cs_4_2 (hM : ∀ k dep p e R, M k dep p e R → PQ B n r k dep p e R ∧ Cs B n j r k dep p e R) (h : tkC B n p = 36 ∨ tkC B n p = 37) (h3 : M 0 dep (nxT B n p) zZ R) (hb : bnd R (fun e2 q S => M 2 dep q (.branch (foR (tkC B n p)) a e2) S) R') : Cs B n j r 2 dep p a R' := cs_l rfl (fun hp hd D hD v f i hS hr hf hi Q k u3 => by
  have g := nx_gt (B := B) hp (by omega)
  have gn := nx_le (B := B) hp
  have hn := hS.1.2.1
  have hpq := (hM _ _ _ _ _ h3).1
  have hcs := Cs.nn (hM _ _ _ _ _ h3).2 rfl gn hd
  have e1 : lvK 2 = 1 := rfl
  have e2 : lvK 0 = 0 := rfl
  have hlk : LK r 2 0 36 37 := lk2
  obtain ⟨_, _, _, _, _, _, _, _, _, _, _, _, k13⟩ := hlk
  obtain ⟨u1, u2, u3', u4⟩ := k13 _ h
  have hoC := oC_fo (tkC B n p) (by omega) (by omega)
  refine B_X3_product_12 (pk_lt 300 i (fun z => absurd z (by omega)) (fun _ => ?_))
  rw [hS.tok]
  refine pk_eq (tkC B n p) 36 (fun _ => ?_) (fun n1 => pk_ne (tkC B n p) 37 (fun n2 => absurd h (by omega)) (fun _ => ?_))
  all_goals
    refine cV (s_adv (d := D) (by omega) hp hS) (fun w1 hw1 => cI (hcs D (by omega) w1 _ hw1.1 (by omega)) (fun w3 x hx => ?_))
    rcases bnd_in hb with ⟨g0, rfl, rfl⟩ | ⟨e2, q, rfl, hb1⟩
    · have := hx.flt (fTk_Cx (j := j) (g := f) hw1.2) (by omega)
      exact b_0 this.1 (k _ _ this.2)
    have ho := hx.ok
    have hq := hpq.st rfl gn
    obtain ⟨g1, g2, g3, g4, _⟩ := hpq.gd rfl gn hd
    have s := sz_b (a := a) (b := e2) u1 u2 u3'
    have hF := (fTk_Cx (j := j) (g := f) hw1.2).trans (fCx_up ho.2.2.2 (by omega))
    refine b_1 ho.1 ⟨j, ho.2.1.2.2.1, cI (s_emitX (o := tkC B n p) (w := 0) (d := D) (by omega) ho.2.1 (by omega) (by omega)) (fun w4 x4 h4 => ?_)⟩
    obtain ⟨_, hS2, hc, hE⟩ := h4
    rw [nI_1]
    refine Cs.ll (hM _ _ _ _ _ hb1).2 rfl hq.2 hd D (by omega) w4 f (i + 1) ?_ ?_ (by omega) (by omega) Q (fun u y hy => k u y (hy.up (g := 0) (hF.trans (fEm_Cx hE (by omega))))) _
    · rw [s.1, ← Nat.add_assoc, ← Nat.add_assoc]
      exact hS2
    · refine rC_b u1 u2 u3' (rC_em (rC_cx (rC_tk hr hw1.2) ho.2.2.2 (Nat.le_refl _)) hE (by omega)) (rC_em ho.2.2.1 hE (Nat.le_refl _)) ?_
      rw [hc, hoC, Nat.zero_mul, Nat.zero_add])
theorem cs_4e_2 (h : ¬ (tkC B n p = 36 ∨ tkC B n p = 37)) : Cs B n j r 2 dep p a (.inr (a, p)) := cs_l rfl (fun hp hd D hD v f i hS hr hf hi Q k u3 => by
  have t42 := tk_42 (B := B) (n := n) (p := p)
  have hn := hS.1.2.1
  have fin : Q v (some (vI 1)) := k _ _ ⟨rfl, hS, hr, Fa.rfl⟩
  refine B_X3_product_12 (pk_lt 300 i (fun z => absurd z (by omega)) (fun _ => ?_))
  rw [hS.tok]
  exact pk_eq (tkC B n p) 36 (fun z => absurd (Or.inl z) h) (fun n1 => pk_ne (tkC B n p) 37 (fun n2 => fin) (fun z => absurd (Or.inr z) h)))
theorem cs_4h_2 (hM : ∀ k dep p e R, M k dep p e R → PQ B n r k dep p e R ∧ Cs B n j r k dep p e R) (h3 : M 0 dep p zZ R) (hb : bnd R (fun e q S => M 2 dep q e S) R') : Cs B n j r 1 dep p a R' := cs_n rfl (fun hp hd D hD v f hS hf Q k => by
  obtain ⟨d, rfl⟩ : ∃ d, D = d + 1 := ⟨D - 1, by omega⟩
  have hpq := (hM _ _ _ _ _ h3).1
  have hcs := Cs.nn (hM _ _ _ _ _ h3).2 rfl hp hd
  have e1 : lvK 2 = 1 := rfl
  have e2 : lvK 0 = 0 := rfl
  have e4 : lvK 1 = 1 := rfl
  refine E_X3_product (B_X3_product_0 (cI (hcs d (by omega) v f hS hf) (fun w1 x1 hx1 => ?_)))
  rcases bnd_in hb with ⟨g0, rfl, rfl⟩ | ⟨e, q, rfl, hb1⟩
  · have := hx1.flt (Fa.rfl (S := fCx j f)) (Nat.le_refl _)
    exact b_0 this.1 (k _ _ this.2)
  have ho := hx1.ok
  have hq := hpq.st rfl hp
  obtain ⟨g1, g2, g3, g4, _⟩ := hpq.gd rfl hp hd
  exact b_1 ho.1 (Cs.ll (hM _ _ _ _ _ hb1).2 rfl hq.2 hd d (by omega) w1 f 0 ho.2.1 ho.2.2.1 (by omega) (by omega) Q (fun u y hy => k u y (hy.up (g := 0) ho.2.2.2)) _))

theorem cs_4_4 (hM : ∀ k dep p e R, M k dep p e R → PQ B n r k dep p e R ∧ Cs B n j r k dep p e R) (h : tkC B n p = 34 ∨ tkC B n p = 35) (h3 : M 1 dep (nxT B n p) zZ R) (hb : bnd R (fun e2 q S => M 4 dep q (.branch (foR (tkC B n p)) a e2) S) R') : Cs B n j r 4 dep p a R' := cs_l rfl (fun hp hd D hD v f i hS hr hf hi Q k u3 => by
  have g := nx_gt (B := B) hp (by omega)
  have gn := nx_le (B := B) hp
  have hn := hS.1.2.1
  have hpq := (hM _ _ _ _ _ h3).1
  have hcs := Cs.nn (hM _ _ _ _ _ h3).2 rfl gn hd
  have e1 : lvK 4 = 2 := rfl
  have e2 : lvK 1 = 1 := rfl
  have hlk : LK r 4 1 34 35 := lk4
  obtain ⟨_, _, _, _, _, _, _, _, _, _, _, _, k13⟩ := hlk
  obtain ⟨u1, u2, u3', u4⟩ := k13 _ h
  have hoC := oC_fo (tkC B n p) (by omega) (by omega)
  refine B_X3_sum_12 (pk_lt 300 i (fun z => absurd z (by omega)) (fun _ => ?_))
  rw [hS.tok]
  refine pk_eq (tkC B n p) 34 (fun _ => ?_) (fun n1 => pk_ne (tkC B n p) 35 (fun n2 => absurd h (by omega)) (fun _ => ?_))
  all_goals
    refine cV (s_adv (d := D) (by omega) hp hS) (fun w1 hw1 => cI (hcs D (by omega) w1 _ hw1.1 (by omega)) (fun w3 x hx => ?_))
    rcases bnd_in hb with ⟨g0, rfl, rfl⟩ | ⟨e2, q, rfl, hb1⟩
    · have := hx.flt (fTk_Cx (j := j) (g := f) hw1.2) (by omega)
      exact b_0 this.1 (k _ _ this.2)
    have ho := hx.ok
    have hq := hpq.st rfl gn
    obtain ⟨g1, g2, g3, g4, _⟩ := hpq.gd rfl gn hd
    have s := sz_b (a := a) (b := e2) u1 u2 u3'
    have hF := (fTk_Cx (j := j) (g := f) hw1.2).trans (fCx_up ho.2.2.2 (by omega))
    refine b_1 ho.1 ⟨j, ho.2.1.2.2.1, cI (s_emitX (o := tkC B n p) (w := 0) (d := D) (by omega) ho.2.1 (by omega) (by omega)) (fun w4 x4 h4 => ?_)⟩
    obtain ⟨_, hS2, hc, hE⟩ := h4
    rw [nI_1]
    refine Cs.ll (hM _ _ _ _ _ hb1).2 rfl hq.2 hd D (by omega) w4 f (i + 1) ?_ ?_ (by omega) (by omega) Q (fun u y hy => k u y (hy.up (g := 0) (hF.trans (fEm_Cx hE (by omega))))) _
    · rw [s.1, ← Nat.add_assoc, ← Nat.add_assoc]
      exact hS2
    · refine rC_b u1 u2 u3' (rC_em (rC_cx (rC_tk hr hw1.2) ho.2.2.2 (Nat.le_refl _)) hE (by omega)) (rC_em ho.2.2.1 hE (Nat.le_refl _)) ?_
      rw [hc, hoC, Nat.zero_mul, Nat.zero_add])
theorem cs_4e_4 (h : ¬ (tkC B n p = 34 ∨ tkC B n p = 35)) : Cs B n j r 4 dep p a (.inr (a, p)) := cs_l rfl (fun hp hd D hD v f i hS hr hf hi Q k u3 => by
  have t42 := tk_42 (B := B) (n := n) (p := p)
  have hn := hS.1.2.1
  have fin : Q v (some (vI 1)) := k _ _ ⟨rfl, hS, hr, Fa.rfl⟩
  refine B_X3_sum_12 (pk_lt 300 i (fun z => absurd z (by omega)) (fun _ => ?_))
  rw [hS.tok]
  exact pk_eq (tkC B n p) 34 (fun z => absurd (Or.inl z) h) (fun n1 => pk_ne (tkC B n p) 35 (fun n2 => fin) (fun z => absurd (Or.inr z) h)))
theorem cs_4h_4 (hM : ∀ k dep p e R, M k dep p e R → PQ B n r k dep p e R ∧ Cs B n j r k dep p e R) (h3 : M 1 dep p zZ R) (hb : bnd R (fun e q S => M 4 dep q e S) R') : Cs B n j r 3 dep p a R' := cs_n rfl (fun hp hd D hD v f hS hf Q k => by
  obtain ⟨d, rfl⟩ : ∃ d, D = d + 1 := ⟨D - 1, by omega⟩
  have hpq := (hM _ _ _ _ _ h3).1
  have hcs := Cs.nn (hM _ _ _ _ _ h3).2 rfl hp hd
  have e1 : lvK 4 = 2 := rfl
  have e2 : lvK 1 = 1 := rfl
  have e4 : lvK 3 = 2 := rfl
  refine E_X3_sum (B_X3_sum_0 (cI (hcs d (by omega) v f hS hf) (fun w1 x1 hx1 => ?_)))
  rcases bnd_in hb with ⟨g0, rfl, rfl⟩ | ⟨e, q, rfl, hb1⟩
  · have := hx1.flt (Fa.rfl (S := fCx j f)) (Nat.le_refl _)
    exact b_0 this.1 (k _ _ this.2)
  have ho := hx1.ok
  have hq := hpq.st rfl hp
  obtain ⟨g1, g2, g3, g4, _⟩ := hpq.gd rfl hp hd
  exact b_1 ho.1 (Cs.ll (hM _ _ _ _ _ hb1).2 rfl hq.2 hd d (by omega) w1 f 0 ho.2.1 ho.2.2.1 (by omega) (by omega) Q (fun u y hy => k u y (hy.up (g := 0) ho.2.2.2)) _))

theorem cs_4_7 (hM : ∀ k dep p e R, M k dep p e R → PQ B n r k dep p e R ∧ Cs B n j r k dep p e R) (h : tkC B n p = 25 ∨ tkC B n p = 25) (h3 : M 5 dep (nxT B n p) zZ R) (hb : bnd R (fun e2 q S => M 7 dep q (.branch (foR (tkC B n p)) a e2) S) R') : Cs B n j r 7 dep p a R' := cs_l rfl (fun hp hd D hD v f i hS hr hf hi Q k => by
  have g := nx_gt (B := B) hp (by omega)
  have gn := nx_le (B := B) hp
  have hn := hS.1.2.1
  have hpq := (hM _ _ _ _ _ h3).1
  have hcs := Cs.nn (hM _ _ _ _ _ h3).2 rfl gn hd
  have e1 : lvK 7 = 4 := rfl
  have e2 : lvK 5 = 3 := rfl
  have hlk : LK r 7 5 25 25 := lk7
  obtain ⟨_, _, _, _, _, _, _, _, _, _, _, _, k13⟩ := hlk
  obtain ⟨u1, u2, u3', u4⟩ := k13 _ h
  have hoC := oC_fo (tkC B n p) (by omega) (by omega)
  refine B_X3_both_12 (pk_lt 300 i (fun z => absurd z (by omega)) (fun _ => ?_))
  rw [hS.tok]
  refine pk_ne (tkC B n p) 25 (fun n1 => absurd h (by omega)) (fun _ => ?_)
  all_goals
    refine cV (s_adv (d := D) (by omega) hp hS) (fun w1 hw1 => cI (hcs D (by omega) w1 _ hw1.1 (by omega)) (fun w3 x hx => ?_))
    rcases bnd_in hb with ⟨g0, rfl, rfl⟩ | ⟨e2, q, rfl, hb1⟩
    · have := hx.flt (fTk_Cx (j := j) (g := f) hw1.2) (by omega)
      exact b_0 this.1 (k _ _ this.2)
    have ho := hx.ok
    have hq := hpq.st rfl gn
    obtain ⟨g1, g2, g3, g4, _⟩ := hpq.gd rfl gn hd
    have s := sz_b (a := a) (b := e2) u1 u2 u3'
    have hF := (fTk_Cx (j := j) (g := f) hw1.2).trans (fCx_up ho.2.2.2 (by omega))
    refine b_1 ho.1 ⟨j, ho.2.1.2.2.1, cI (s_emitX (o := 25) (w := 0) (d := D) (by omega) ho.2.1 (by omega) (by omega)) (fun w4 x4 h4 => ?_)⟩
    obtain ⟨_, hS2, hc, hE⟩ := h4
    rw [nI_1]
    refine Cs.ll (hM _ _ _ _ _ hb1).2 rfl hq.2 hd D (by omega) w4 f (i + 1) ?_ ?_ (by omega) (by omega) Q (fun u y hy => k u y (hy.up (g := 0) (hF.trans (fEm_Cx hE (by omega)))))
    · rw [s.1, ← Nat.add_assoc, ← Nat.add_assoc]
      exact hS2
    · refine rC_b u1 u2 u3' (rC_em (rC_cx (rC_tk hr hw1.2) ho.2.2.2 (Nat.le_refl _)) hE (by omega)) (rC_em ho.2.2.1 hE (Nat.le_refl _)) ?_
      rw [hc, hoC, Nat.zero_mul, Nat.zero_add, show 25 = tkC B n p by omega])
theorem cs_4e_7 (h : ¬ (tkC B n p = 25 ∨ tkC B n p = 25)) : Cs B n j r 7 dep p a (.inr (a, p)) := cs_l rfl (fun hp hd D hD v f i hS hr hf hi Q k => by
  have t42 := tk_42 (B := B) (n := n) (p := p)
  have hn := hS.1.2.1
  have fin : Q v (some (vI 1)) := k _ _ ⟨rfl, hS, hr, Fa.rfl⟩
  refine B_X3_both_12 (pk_lt 300 i (fun z => absurd z (by omega)) (fun _ => ?_))
  rw [hS.tok]
  exact pk_ne (tkC B n p) 25 (fun n1 => fin) (fun z => absurd (Or.inl z) h))
theorem cs_4h_7 (hM : ∀ k dep p e R, M k dep p e R → PQ B n r k dep p e R ∧ Cs B n j r k dep p e R) (h3 : M 5 dep p zZ R) (hb : bnd R (fun e q S => M 7 dep q e S) R') : Cs B n j r 6 dep p a R' := cs_n rfl (fun hp hd D hD v f hS hf Q k => by
  obtain ⟨d, rfl⟩ : ∃ d, D = d + 1 := ⟨D - 1, by omega⟩
  have hpq := (hM _ _ _ _ _ h3).1
  have hcs := Cs.nn (hM _ _ _ _ _ h3).2 rfl hp hd
  have e1 : lvK 7 = 4 := rfl
  have e2 : lvK 5 = 3 := rfl
  have e4 : lvK 6 = 4 := rfl
  refine E_X3_both (B_X3_both_0 (cI (hcs d (by omega) v f hS hf) (fun w1 x1 hx1 => ?_)))
  rcases bnd_in hb with ⟨g0, rfl, rfl⟩ | ⟨e, q, rfl, hb1⟩
  · have := hx1.flt (Fa.rfl (S := fCx j f)) (Nat.le_refl _)
    exact b_0 this.1 (k _ _ this.2)
  have ho := hx1.ok
  have hq := hpq.st rfl hp
  obtain ⟨g1, g2, g3, g4, _⟩ := hpq.gd rfl hp hd
  exact b_1 ho.1 (Cs.ll (hM _ _ _ _ _ hb1).2 rfl hq.2 hd d (by omega) w1 f 0 ho.2.1 ho.2.2.1 (by omega) (by omega) Q (fun u y hy => k u y (hy.up (g := 0) ho.2.2.2))))

theorem cs_4_9 (hM : ∀ k dep p e R, M k dep p e R → PQ B n r k dep p e R ∧ Cs B n j r k dep p e R) (h : tkC B n p = 24 ∨ tkC B n p = 24) (h3 : M 6 dep (nxT B n p) zZ R) (hb : bnd R (fun e2 q S => M 9 dep q (.branch (foR (tkC B n p)) a e2) S) R') : Cs B n j r 9 dep p a R' := cs_l rfl (fun hp hd D hD v f i hS hr hf hi Q k => by
  have g := nx_gt (B := B) hp (by omega)
  have gn := nx_le (B := B) hp
  have hn := hS.1.2.1
  have hpq := (hM _ _ _ _ _ h3).1
  have hcs := Cs.nn (hM _ _ _ _ _ h3).2 rfl gn hd
  have e1 : lvK 9 = 5 := rfl
  have e2 : lvK 6 = 4 := rfl
  have hlk : LK r 9 6 24 24 := lk9
  obtain ⟨_, _, _, _, _, _, _, _, _, _, _, _, k13⟩ := hlk
  obtain ⟨u1, u2, u3', u4⟩ := k13 _ h
  have hoC := oC_fo (tkC B n p) (by omega) (by omega)
  refine B_X3_either_12 (pk_lt 300 i (fun z => absurd z (by omega)) (fun _ => ?_))
  rw [hS.tok]
  refine pk_ne (tkC B n p) 24 (fun n1 => absurd h (by omega)) (fun _ => ?_)
  all_goals
    refine cV (s_adv (d := D) (by omega) hp hS) (fun w1 hw1 => cI (hcs D (by omega) w1 _ hw1.1 (by omega)) (fun w3 x hx => ?_))
    rcases bnd_in hb with ⟨g0, rfl, rfl⟩ | ⟨e2, q, rfl, hb1⟩
    · have := hx.flt (fTk_Cx (j := j) (g := f) hw1.2) (by omega)
      exact b_0 this.1 (k _ _ this.2)
    have ho := hx.ok
    have hq := hpq.st rfl gn
    obtain ⟨g1, g2, g3, g4, _⟩ := hpq.gd rfl gn hd
    have s := sz_b (a := a) (b := e2) u1 u2 u3'
    have hF := (fTk_Cx (j := j) (g := f) hw1.2).trans (fCx_up ho.2.2.2 (by omega))
    refine b_1 ho.1 ⟨j, ho.2.1.2.2.1, cI (s_emitX (o := 24) (w := 0) (d := D) (by omega) ho.2.1 (by omega) (by omega)) (fun w4 x4 h4 => ?_)⟩
    obtain ⟨_, hS2, hc, hE⟩ := h4
    rw [nI_1]
    refine Cs.ll (hM _ _ _ _ _ hb1).2 rfl hq.2 hd D (by omega) w4 f (i + 1) ?_ ?_ (by omega) (by omega) Q (fun u y hy => k u y (hy.up (g := 0) (hF.trans (fEm_Cx hE (by omega)))))
    · rw [s.1, ← Nat.add_assoc, ← Nat.add_assoc]
      exact hS2
    · refine rC_b u1 u2 u3' (rC_em (rC_cx (rC_tk hr hw1.2) ho.2.2.2 (Nat.le_refl _)) hE (by omega)) (rC_em ho.2.2.1 hE (Nat.le_refl _)) ?_
      rw [hc, hoC, Nat.zero_mul, Nat.zero_add, show 24 = tkC B n p by omega])
theorem cs_4e_9 (h : ¬ (tkC B n p = 24 ∨ tkC B n p = 24)) : Cs B n j r 9 dep p a (.inr (a, p)) := cs_l rfl (fun hp hd D hD v f i hS hr hf hi Q k => by
  have t42 := tk_42 (B := B) (n := n) (p := p)
  have hn := hS.1.2.1
  have fin : Q v (some (vI 1)) := k _ _ ⟨rfl, hS, hr, Fa.rfl⟩
  refine B_X3_either_12 (pk_lt 300 i (fun z => absurd z (by omega)) (fun _ => ?_))
  rw [hS.tok]
  exact pk_ne (tkC B n p) 24 (fun n1 => fin) (fun z => absurd (Or.inl z) h))
theorem cs_4h_9 (hM : ∀ k dep p e R, M k dep p e R → PQ B n r k dep p e R ∧ Cs B n j r k dep p e R) (h3 : M 6 dep p zZ R) (hb : bnd R (fun e q S => M 9 dep q e S) R') : Cs B n j r 8 dep p a R' := cs_n rfl (fun hp hd D hD v f hS hf Q k => by
  obtain ⟨d, rfl⟩ : ∃ d, D = d + 1 := ⟨D - 1, by omega⟩
  have hpq := (hM _ _ _ _ _ h3).1
  have hcs := Cs.nn (hM _ _ _ _ _ h3).2 rfl hp hd
  have e1 : lvK 9 = 5 := rfl
  have e2 : lvK 6 = 4 := rfl
  have e4 : lvK 8 = 5 := rfl
  refine E_X3_either (B_X3_either_0 (cI (hcs d (by omega) v f hS hf) (fun w1 x1 hx1 => ?_)))
  rcases bnd_in hb with ⟨g0, rfl, rfl⟩ | ⟨e, q, rfl, hb1⟩
  · have := hx1.flt (Fa.rfl (S := fCx j f)) (Nat.le_refl _)
    exact b_0 this.1 (k _ _ this.2)
  have ho := hx1.ok
  have hq := hpq.st rfl hp
  obtain ⟨g1, g2, g3, g4, _⟩ := hpq.gd rfl hp hd
  exact b_1 ho.1 (Cs.ll (hM _ _ _ _ _ hb1).2 rfl hq.2 hd d (by omega) w1 f 0 ho.2.1 ho.2.2.1 (by omega) (by omega) Q (fun u y hy => k u y (hy.up (g := 0) ho.2.2.2))))
end RC3
