/-! the reference reads sums and asks: one operand -/
theorem opT_o {o : Nat} {X : List Nat} (h : 40 ≤ o) : opT (o :: X) = o := if_pos h
theorem opN_o {o : Nat} {X : List Nat} (h : isO o = 1) : opN (o :: X) = opN X + 1 := by
  show isO o + opN X = _
  rw [h, Nat.add_comm]
section RR8
variable {d : Nat} {B : Nat → Nat} {n kk : Nat} {r : Bool} {M : z_M} {p iw f w dep : Nat} {X us : List Nat} {u : z_V} {a e : z_X} {R R' : z_Rs}
theorem rs_num (hd : 8 ≤ d) (h : tkC B n p = 27) : Rs B n kk r d 0 dep p a (if tkV B n p ≤ 9999 then .inr (.leaf (0, tkV B n p), nxT B n p) else .inl (2, frT B n p)) := rs_0 (fun hp hd8 u vs X f hS hvs ht hN hl h26 hf Q hQ => by
  have g := nx_gt (B := B) hp (by omega)
  have gn := nx_le (B := B) hp
  have hn := hS.n3
  by_cases z : tkV B n p ≤ 9999
  · rw [if_pos z] at hQ
    exact sm_leaf hS (Or.inl ⟨h, z, rfl, rfl⟩) hvs ht (by omega) hp hd (fun u' s1 s2 s3 s4 => hQ u' s1 s2 s3 s4)
  · rw [if_neg z] at hQ
    exact sm_num2 hS h (by omega) hd (hQ u hS.pc Fr.rfl))
theorem rs_name (hd : 8 ≤ d) (h : 8 ≤ tkC B n p) (h2 : tkC B n p ≤ 17) : Rs B n kk r d 0 dep p a (if nmO r (tkC B n p) = true then .inr (.leaf (1, tkC B n p - 8), nxT B n p) else .inl (5, frT B n p)) := rs_0 (fun hp hd8 u vs X f hS hvs ht hN hl h26 hf Q hQ => by
  have g := nx_gt (B := B) hp (by omega)
  have gn := nx_le (B := B) hp
  have hn := hS.n3
  cases z : nmO r (tkC B n p) with
  | true =>
    rw [z, if_pos rfl] at hQ
    exact sm_leaf hS (Or.inr ⟨h, h2, z, rfl, rfl⟩) hvs ht (by omega) hp hd (fun u' s1 s2 s3 s4 => hQ u' s1 s2 s3 s4)
  | false =>
    rw [z, if_neg (by decide)] at hQ
    exact sm_name5 hS h h2 z hd (hQ u hS.pc Fr.rfl))
theorem rs_cant (hd : 8 ≤ d) (h1 : ¬ tkC B n p = 27) (h2 : ¬ (8 ≤ tkC B n p ∧ tkC B n p ≤ 17)) (h3 : opR (tkC B n p) = false) : Rs B n kk r d 0 dep p a (.inl (1, frT B n p)) := rs_0 (fun hp hd8 u vs X f hS hvs ht hN hl h26 hf Q hQ => sm_cant hS h1 h2 h3 h26 hd (hQ u hS.pc Fr.rfl))
theorem rs_deep (hd : 8 ≤ d) (h : opR (tkC B n p) = true) (h8 : 8 ≤ dep) : Rs B n kk r d 0 dep p a (.inl (3, frT B n p)) := rs_0 (fun hp hd8 u vs X f hS hvs ht hN hl h26 hf Q hQ => sm_open hS (Or.inl h) (by omega) hp hd (fun z => by omega) (fun _ => hQ u hS.pc Fr.rfl))
theorem uo_op {c : Nat} (h : c = 18 ∨ c = 19 ∨ c = 35) : opO c = uoR c ∧ isO (uoR c) = 1 ∧ rkR (uoR c) = 7 ∧ uoR c < 40 := by
  rcases h with h | h | h <;> subst h <;> decide
theorem rs_una (hd : 8 ≤ d) (hM : ∀ k dep p e R, M k dep p e R → PQ B n r k dep p e R ∧ Rs B n kk r d k dep p e R) (h : tkC B n p = 18 ∨ tkC B n p = 19 ∨ tkC B n p = 35) (hd7 : dep < 8) (h3 : M 0 (dep + 1) (nxT B n p) zZ R) (hb : bnd R (fun e q S => S = .inr (.branch (uoR (tkC B n p)) e zZ, q)) R') : Rs B n kk r d 0 dep p a R' := rs_0 (fun hp hd8 u vs X f hS hvs ht hN hl h26 hf Q hQ => by
  have g := nx_gt (B := B) hp (by omega)
  have gn := nx_le (B := B) hp
  have hpq := (hM _ _ _ _ _ h3).1
  have hr := (hM _ _ _ _ _ h3).2.g0 gn (by omega)
  obtain ⟨o1, o2, o3, o4⟩ := uo_op h
  refine sm_open hS (Or.inl (by rcases h with h | h | h <;> rw [h] <;> rfl)) (by omega) hp hd (fun _ v1 s1 s3 => ?_) (fun z => by omega)
  rw [o1] at s1
  have s1 : StR B n kk r v1 (nxT B n p) 0 ((uoR (tkC B n p) :: vs) ++ X) f := s1
  refine hr v1 (uoR (tkC B n p) :: vs) X f s1 (fun x hx => ?_) ht (by show opN (uoR (tkC B n p) :: (vs ++ X)) = _; rw [opN_o o2, hN]) (by show (vs ++ X).length + 1 ≤ _; omega) (fun _ => ask_f o4 (by omega)) (by show f + (vs.length + 1) ≤ _; omega) Q ?_
  · rcases List.mem_cons.mp hx with z | z
    · rw [z, o3]
      exact Nat.le_refl _
    · exact hvs x z
  · rcases bnd_in hb with ⟨g0, rfl, rfl⟩ | ⟨e2, q, rfl, rfl⟩
    · exact fun u' x1 x2 => hQ u' x1 (s3.trans x2)
    · obtain ⟨g1, g2, g3, g4, _⟩ := hpq.gd rfl gn (by omega)
      have un := uo_un (c := tkC B n p) r e2 g1
      have sz := sz_u (a := e2) (b := zZ) un.1 un.2.1 un.2.2.1
      refine fun v2 y1 y2 y3 y4 => ?_
      have y1 : StR B n kk r v2 q 1 X (f + lR e2 + (vs.length + 1)) := y1
      have y2 : rR (gC kk v2) f e2 := y2
      have y3 : cls kk (f + lR e2) (uoR (tkC B n p) :: vs) v2 := y3
      refine hQ v2 ?_ ?_ ?_ (s3.trans y4)
      · show StR B n kk r v2 q 1 X (f + lR (.branch (uoR (tkC B n p)) e2 zZ) + vs.length)
        rw [sz.2.1, show f + (lR e2 + 1) + vs.length = f + lR e2 + (vs.length + 1) by omega]
        exact y1
      · show rR (gC kk v2) f (.branch (uoR (tkC B n p)) e2 zZ)
        simp only [rR]
        rw [if_neg un.2.1, un.1, if_pos rfl]
        exact ⟨y2, y3 0 (Nat.succ_pos _)⟩
      · show cls kk (f + lR (.branch (uoR (tkC B n p)) e2 zZ)) vs v2
        intro i hi
        rw [sz.2.1, show f + (lR e2 + 1) + i = f + lR e2 + (i + 1) by omega]
        exact y3 (i + 1) (Nat.succ_lt_succ hi))
theorem rs_par (hd : 8 ≤ d) (hM : ∀ k dep p e R, M k dep p e R → PQ B n r k dep p e R ∧ Rs B n kk r d k dep p e R) (h : tkC B n p = 38) (hd7 : dep < 8) (h3 : M 3 (dep + 1) (nxT B n p) zZ R) (hb : bnd R (fun e q S => S = exT B n 39 e q) R') : Rs B n kk r d 0 dep p a R' := rs_0 (fun hp hd8 u vs X f hS hvs ht hN hl h26 hf Q hQ => by
  have g := nx_gt (B := B) hp (by omega)
  have gn := nx_le (B := B) hp
  have hn := hS.n3
  have hpq := (hM _ _ _ _ _ h3).1
  have hr := (hM _ _ _ _ _ h3).2.gn rfl (by decide) gn (by omega)
  have e3 : lvK 3 = 2 := rfl
  refine sm_open hS (Or.inl (by rw [h]; rfl)) (by omega) hp hd (fun _ v1 s1 s3 => ?_) (fun z => by omega)
  rw [h] at s1
  have s1 : StR B n kk r v1 (nxT B n p) 0 (40 :: (vs ++ X)) f := s1
  refine hr v1 (40 :: (vs ++ X)) f s1 (by show rkR 40 < prK 3; decide) (by rw [opN_o rfl, hN]) (by show (vs ++ X).length + 1 ≤ _; omega) (fun _ _ => ask_o (by decide) (by decide)) (fun z => by omega) (by omega) Q ?_
  rcases bnd_in hb with ⟨g0, rfl, rfl⟩ | ⟨e2, q, rfl, rfl⟩
  · exact fun u' x1 x2 => hQ u' x1 (s3.trans x2)
  obtain ⟨g1, g2, g3, g4, g5⟩ := hpq.gd rfl gn (by omega)
  have hq := hpq.st rfl gn
  refine fun v2 us2 w2 y1 y2 y3 y4 => ?_
  have y1 : StR B n kk r v2 q 1 (us2 ++ 40 :: (vs ++ X)) w2 := y1
  have y3 : PD kk f w2 us2 e2 v2 := y3
  have hT : opT (us2 ++ 40 :: (vs ++ X)) = 40 := (opT_app (us_1 y2)).trans (opT_o (by decide))
  have hb0 : btw (tkC B n q) (us2 ++ 40 :: (vs ++ X)) = 0 := btw_n (by rw [hT]; decide) (by unfold stK at g5; omega)
  have hl2 := y3.2.1
  unfold exT at hQ
  by_cases z : tkC B n q = 39
  · rw [if_pos z] at hQ
    have g2' := nx_gt (B := B) hq.2 (by omega)
    have gn2 := nx_le (B := B) hq.2
    refine sm_close (us := us2) (vs := vs) (o := 40) y1 hb0 (by unfold ptI; rw [hT, if_pos rfl, if_pos z]) hT (by decide) (us_1 y2) hvs ht (by rw [if_neg (by decide)]; omega) hq.2 (by omega) (fun v3 z1 z2 z3 z4 z5 => ?_)
    rw [if_neg (by decide), Nat.add_zero, hl2] at z1 z4
    exact hQ v3 z1 (rR_at y3 (fun i _ hi => gC_su z5 hi) z2) z4 ((s3.trans y4).trans (fSu_up z5 y3.1))
  · rw [if_neg z] at hQ
    exact sm_bad y1 hb0 (by unfold ptI; rw [hT, if_pos rfl, if_neg z]) (by rw [hT]; decide) (by omega) (hQ v2 y1.pc (s3.trans y4)))
theorem rs_if (hd : 8 ≤ d) (hM : ∀ k dep p e R, M k dep p e R → PQ B n r k dep p e R ∧ Rs B n kk r d k dep p e R) (h : tkC B n p = 20) (hd7 : dep < 8) (h3 : M 8 (dep + 1) (nxT B n p) zZ R) (hb : bnd R (ifT B n M dep) R') : Rs B n kk r d 0 dep p a R' := rs_0 (fun hp hd8 u vs X f hS hvs ht hN hl h26 hf Q hQ => by
  have g := nx_gt (B := B) hp (by omega)
  have gn := nx_le (B := B) hp
  have hn := hS.n3
  have hpq := (hM _ _ _ _ _ h3).1
  have hr := (hM _ _ _ _ _ h3).2.gn rfl (by decide) gn (by omega)
  have e3 : lvK 3 = 2 := rfl
  have e8 : lvK 8 = 5 := rfl
  refine sm_open hS (Or.inl (by rw [h]; rfl)) (by omega) hp hd (fun _ v1 s1 s3 => ?_) (fun z => by omega)
  rw [h] at s1
  have s1 : StR B n kk r v1 (nxT B n p) 0 (41 :: (vs ++ X)) f := s1
  have a41 : askA (41 :: (vs ++ X)) = true := by
    show (decide ((if 40 ≤ 41 then 41 else opT (vs ++ X)) = 41) && (decide (40 ≤ 41) || decide (1 ≤ rkR 41 ∧ rkR 41 ≤ 3))) = true
    rfl
  refine hr v1 (41 :: (vs ++ X)) f s1 (by show rkR 41 < prK 8; decide) (by rw [opN_o rfl, hN]) (by show (vs ++ X).length + 1 ≤ _; omega) (fun z => by omega) (fun _ => ⟨opT_o (by decide), a41⟩) (by omega) Q ?_
  rcases bnd_in hb with ⟨g0, rfl, rfl⟩ | ⟨c, p1, rfl, hb1⟩
  · exact fun u' x1 x2 => hQ u' x1 (s3.trans x2)
  obtain ⟨g1, g2, g3, g4, g5⟩ := hpq.gd rfl gn (by omega)
  have hq := hpq.st rfl gn
  refine fun v2 us2 w2 y1 y2 y3 y4 => ?_
  have y1 : StR B n kk r v2 p1 1 (us2 ++ 41 :: (vs ++ X)) w2 := y1
  have y3 : PD kk f w2 us2 c v2 := y3
  have hT : opT (us2 ++ 41 :: (vs ++ X)) = 41 := (opT_app (us_1 y2)).trans (opT_o (by decide))
  have hC : cmpR (us2 ++ 41 :: (vs ++ X)) = true := cmp_t (y2.2 (by decide))
  have hb0 : btw (tkC B n p1) (us2 ++ 41 :: (vs ++ X)) = 0 := (btw_41 (tkC B n p1) hT hC).2.2 (by unfold stK at g5; omega) (by unfold stK at g5; omega) (by unfold stK at g5; omega)
  have hl2 := y3.2.1
  have F2 := s3.trans y4
  unfold ifT at hb1
  by_cases t1 : tkC B n p1 = 21
  rotate_left
  · rw [if_neg t1] at hb1
    subst hb1
    exact sm_bad y1 hb0 (by unfold ptI; rw [hT, if_neg (by decide), if_pos rfl, if_neg (fun z => t1 z.1)]) (by rw [hT]; decide) (by omega) (hQ v2 y1.pc F2)
  rw [if_pos t1] at hb1
  obtain ⟨R2, h4, hb2⟩ := hb1
  have k1 := nx_gt (B := B) hq.2 (by omega)
  have n1 := nx_le (B := B) hq.2
  have hpq4 := (hM _ _ _ _ _ h4).1
  have hr4 := (hM _ _ _ _ _ h4).2.gn rfl (by decide) n1 (by omega)
  refine sm_part (us := us2) (o := 41) (o' := 42) y1 hb0 (by unfold ptI; rw [hT, if_neg (by decide), if_pos rfl, if_pos ⟨t1, hC⟩]; rfl) (Or.inl rfl) (by decide) (us_1 y2) (by omega) hq.2 (by omega) (fun v3 z1 z2 z3 => ?_)
  have rc := rR_at y3 (fun i _ hi => gC_su z3 hi) z2
  rw [hl2] at z1
  have F3 := F2.trans (fSu_up z3 y3.1)
  have hN41 : opN (41 :: (vs ++ X)) = dep + 1 := by rw [opN_o rfl, hN]
  refine hr4 v3 (42 :: (vs ++ X)) _ z1 (by show rkR 42 < prK 3; decide) (by rw [opN_o rfl, hN]) (by show (vs ++ X).length + 1 ≤ _; omega) (fun _ _ => ask_o (by decide) (by decide)) (fun z => by omega) (by omega) Q ?_
  rcases bnd_in hb2 with ⟨g0, rfl, rfl⟩ | ⟨x, p2, rfl, hb3⟩
  · exact fun u' x1 x2 => hQ u' x1 (F3.trans (fSu_up x2 (by omega)))
  obtain ⟨x1, x2, x3, x4, x5⟩ := hpq4.gd rfl n1 (by omega)
  have q2 := hpq4.st rfl n1
  refine fun v4 us4 w4 y5 y6 y7 y8 => ?_
  have y5 : StR B n kk r v4 p2 1 (us4 ++ 42 :: (vs ++ X)) w4 := y5
  have y7 : PD kk (f + lR c) w4 us4 x v4 := y7
  have hT4 : opT (us4 ++ 42 :: (vs ++ X)) = 42 := (opT_app (us_1 y6)).trans (opT_o (by decide))
  have hb4 : btw (tkC B n p2) (us4 ++ 42 :: (vs ++ X)) = 0 := btw_n (by rw [hT4]; decide) (by unfold stK at x5; omega)
  have hl4 := y7.2.1
  have yw4 := y7.1
  have yw2 := y3.1
  have F4 := F3.trans (fSu_up y8 (by omega))
  by_cases t2 : tkC B n p2 = 22
  rotate_left
  · rw [if_neg t2] at hb3
    subst hb3
    exact sm_bad y5 hb4 (by unfold ptI; rw [hT4, if_neg (by decide), if_neg (by decide), if_pos rfl, if_neg t2]) (by rw [hT4]; decide) (by omega) (hQ v4 y5.pc F4)
  rw [if_pos t2] at hb3
  obtain ⟨R3, h6, hb4'⟩ := hb3
  have k2 := nx_gt (B := B) q2.2 (by omega)
  have n2 := nx_le (B := B) q2.2
  have hpq6 := (hM _ _ _ _ _ h6).1
  have hr6 := (hM _ _ _ _ _ h6).2.gn rfl (by decide) n2 (by omega)
  refine sm_part (us := us4) (o := 42) (o' := 43) y5 hb4 (by unfold ptI; rw [hT4, if_neg (by decide), if_neg (by decide), if_pos rfl, if_pos t2]; rfl) (Or.inr rfl) (by decide) (us_1 y6) (by omega) q2.2 (by omega) (fun v5 z5 z6 z7 => ?_)
  have rx := rR_at y7 (fun i _ hi => gC_su z7 hi) z6
  rw [hl4] at z5
  have F5 := F4.trans (fSu_up z7 (by omega))
  refine hr6 v5 (43 :: (vs ++ X)) _ z5 (by show rkR 43 < prK 3; decide) (by rw [opN_o rfl, hN]) (by show (vs ++ X).length + 1 ≤ _; omega) (fun _ _ => ask_o (by decide) (by decide)) (fun z => by omega) (by omega) Q ?_
  rcases bnd_in hb4' with ⟨g0, rfl, rfl⟩ | ⟨y, p3, rfl, rfl⟩
  · exact fun u' x1 x2 => hQ u' x1 (F5.trans (fSu_up x2 (by omega)))
  obtain ⟨b1, b2, b3, b4, b5⟩ := hpq6.gd rfl n2 (by omega)
  have q3 := hpq6.st rfl n2
  refine fun v6 us6 w6 c1 c2 c3 c4 => ?_
  have c1 : StR B n kk r v6 p3 1 (us6 ++ 43 :: (vs ++ X)) w6 := c1
  have c3 : PD kk (f + lR c + lR x) w6 us6 y v6 := c3
  have hT6 : opT (us6 ++ 43 :: (vs ++ X)) = 43 := (opT_app (us_1 c2)).trans (opT_o (by decide))
  have hb6 : btw (tkC B n p3) (us6 ++ 43 :: (vs ++ X)) = 0 := btw_n (by rw [hT6]; decide) (by unfold stK at b5; omega)
  have hl6 := c3.2.1
  have yw6 := c3.1
  have F6 := F5.trans (fSu_up c4 (by omega))
  unfold exT at hQ
  by_cases t3 : tkC B n p3 = 23
  · rw [if_pos t3] at hQ
    have k3 := nx_gt (B := B) q3.2 (by omega)
    have n3 := nx_le (B := B) q3.2
    refine sm_close (us := us6) (vs := vs) (o := 43) c1 hb6 (by unfold ptI; rw [hT6, if_neg (by decide), if_neg (by decide), if_neg (by decide), if_pos rfl, if_pos t3]) hT6 (by decide) (us_1 c2) hvs ht (by rw [if_pos rfl]; omega) q3.2 (by omega) (fun v7 m1 m2 m3 m4 m5 => ?_)
    rw [if_pos rfl, hl6] at m1 m4
    have m3 := m3 rfl
    rw [hl6] at m3
    have sR : lR (.branch 3 c (.branch 30 x y)) = lR c + (lR x + lR y) + 1 := rfl
    refine hQ v7 ?_ ?_ ?_ (F6.trans (fSu_up m5 (by omega)))
    · show StR B n kk r v7 (nxT B n p3) 1 X (f + lR (.branch 3 c (.branch 30 x y)) + vs.length)
      rw [sR, show f + (lR c + (lR x + lR y) + 1) + vs.length = f + lR c + lR x + lR y + 1 + vs.length by omega]
      exact m1
    · show rR (gC kk v7) f c ∧ (rR (gC kk v7) (f + lR c) x ∧ rR (gC kk v7) (f + lR c + lR x) y) ∧ (gC kk v7 (f + lR c + (lR x + lR y))).1 = nI 3
      refine ⟨rR_cong (fun i _ hi => ?_) rc, ⟨rR_cong (fun i _ hi => ?_) rx, rR_at c3 (fun i _ hi => gC_su m5 hi) m2⟩, ?_⟩
      · rw [gC_su m5 (by omega), gC_su c4 (by omega), gC_su z7 (by omega), gC_su y8 (by omega)]
      · rw [gC_su m5 (by omega), gC_su c4 (by omega)]
      · rw [← Nat.add_assoc]
        exact m3
    · show cls kk (f + lR (.branch 3 c (.branch 30 x y))) vs v7
      rw [sR, show f + (lR c + (lR x + lR y) + 1) = f + lR c + lR x + lR y + 1 by omega]
      exact m4
  · rw [if_neg t3] at hQ
    exact sm_bad c1 hb6 (by unfold ptI; rw [hT6, if_neg (by decide), if_neg (by decide), if_neg (by decide), if_pos rfl, if_neg t3]) (by rw [hT6]; decide) (by omega) (hQ v6 c1.pc F6))
end RR8
