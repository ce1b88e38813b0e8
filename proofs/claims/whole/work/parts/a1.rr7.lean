/-! the reference reads sums and asks: sums, ands, ors, asks -/
theorem cmp_all : ∀ i, i < 6 → un (28 + i - 18) = false ∧ isO (28 + i - 18) = 0 ∧ rkR (28 + i - 18) = 4 := by decide
section RR7
variable {d : Nat} {B : Nat → Nat} {n kk : Nat} {r : Bool} {M : z_M} {p iw f w dep : Nat} {X us : List Nat} {u : z_V} {a e : z_X} {R R' : z_Rs}
theorem ask_f {o : Nat} (h1 : o < 40) (h2 : 4 ≤ rkR o) : askA (o :: X) = false := by
  show (decide (opT (o :: X) = 41) && (decide (40 ≤ o) || decide (1 ≤ rkR o ∧ rkR o ≤ 3))) = false
  rw [decide_eq_false (show ¬ 40 ≤ o by omega), decide_eq_false (show ¬ (1 ≤ rkR o ∧ rkR o ≤ 3) by omega), Bool.or_false, Bool.and_false]
theorem ask_o {o : Nat} (h1 : 40 ≤ o) (h2 : o ≠ 41) : askA (o :: X) = false := by
  show (decide ((if 40 ≤ o then o else opT X) = 41) && (decide (40 ≤ o) || decide (1 ≤ rkR o ∧ rkR o ≤ 3))) = false
  rw [if_pos h1, decide_eq_false h2, Bool.false_and]
theorem ask_t {o : Nat} (h1 : o < 40) (h2 : 1 ≤ rkR o ∧ rkR o ≤ 3) (h : opT X = 41) : opT (o :: X) = 41 ∧ askA (o :: X) = true := by
  have e : opT (o :: X) = 41 := by
    show (if 40 ≤ o then o else opT X) = 41
    rw [if_neg (by omega)]
    exact h
  refine ⟨e, ?_⟩
  show (decide (opT (o :: X) = 41) && (decide (40 ≤ o) || decide (1 ≤ rkR o ∧ rkR o ≤ 3))) = true
  rw [decide_eq_true e, decide_eq_true h2, Bool.or_true, Bool.and_true]
theorem btw_41 (c : Nat) (h : opT X = 41) (hc : cmpR X = true) : btw 25 X = 21 ∧ btw 24 X = 22 ∧ (c < 34 ∨ 37 < c → c ≠ 24 → c ≠ 25 → btw c X = 0) := by
  refine ⟨?_, ?_, fun h1 h2 h3 => ?_⟩
  · unfold btw
    rw [if_neg (by decide), if_neg (by decide), if_neg (by decide), if_neg (by decide), if_pos h, if_pos hc, if_pos rfl]
  · unfold btw
    rw [if_neg (by decide), if_neg (by decide), if_neg (by decide), if_neg (by decide), if_pos h, if_pos hc, if_neg (by decide), if_pos rfl]
  · unfold btw
    rw [if_neg (by omega), if_neg (by omega), if_neg (by omega), if_neg (by omega), if_pos h, if_pos hc, if_neg h3, if_neg h2]
theorem btw_41f {c : Nat} (h : opT X = 41) (hc : cmpR X = false) (h1 : c < 34 ∨ 37 < c) : btw c X = if 28 ≤ c ∧ c ≤ 33 then c - 18 else 0 := by
  unfold btw
  rw [if_neg (by omega), if_neg (by omega), if_neg (by omega), if_neg (by omega), if_pos h, hc, if_neg (by decide)]
theorem btw_n {c : Nat} (h : opT X ≠ 41) (h1 : c < 34 ∨ 37 < c) : btw c X = 0 := by
  unfold btw
  rw [if_neg (by omega), if_neg (by omega), if_neg (by omega), if_neg (by omega), if_neg h]
theorem us_1 {k : Nat} (h : usOk k us) : ∀ x, x ∈ us → 1 ≤ rkR x := fun x hx => by
  have := h.1 x hx
  have : 1 ≤ usR k := by
    unfold usR
    repeat' split
    all_goals decide
  omega
theorem rs_44 (hd : 8 ≤ d) (hM : ∀ k dep p e R, M k dep p e R → PQ B n r k dep p e R ∧ Rs B n kk r d k dep p e R) (h : tkC B n p = 34 ∨ tkC B n p = 35) (h3 : M 1 dep (nxT B n p) zZ R) (hb : bnd R (fun e2 q S => M 4 dep q (.branch (foR (tkC B n p)) a e2) S) R') : Rs B n kk r d 4 dep p a R' := rs_l rfl (by decide) (fun hp hd8 u us X f w hS ho hP ht hX hl h41 hf Q hQ => by
  have g := nx_gt (B := B) hp (by omega)
  have gn := nx_le (B := B) hp
  have hpq := (hM _ _ _ _ _ h3).1
  have hr := (hM _ _ _ _ _ h3).2.gn rfl (by decide) gn hd8
  have hlk : LK r 4 1 34 35 := lk4
  obtain ⟨_, _, _, _, _, _, _, _, _, _, _, _, k13⟩ := hlk
  obtain ⟨u1, u2, u3, u4⟩ := k13 _ h
  have e2 : lvK 4 = 2 := rfl
  have e3 : lvK 1 = 1 := rfl
  have e4 : prK 1 = 6 := rfl
  have ob : btw (tkC B n p) (us ++ X) = foR (tkC B n p) ∧ 6 ≤ foR (tkC B n p) ∧ foR (tkC B n p) < 40 ∧ isO (foR (tkC B n p)) = 0 ∧ rkR (foR (tkC B n p)) = 5 := by
    rcases h with h | h <;> rw [h] <;> exact ⟨rfl, by decide, by decide, rfl, rfl⟩
  obtain ⟨o1, o2, o3, o4, o5⟩ := ob
  refine lp_op (k := 4) hS ho hP ht hf hp o1 o2 o3 o4 (by rw [o5]; decide) o5 rfl (by omega) (by omega) (fun v1 s1 s2 s3 => ?_)
  refine hr v1 (foR (tkC B n p) :: X) _ s1 (by show rkR _ < _; rw [o5]; decide) (by show isO _ + opN X = dep; rw [o4]; omega) (by show X.length + 1 ≤ _; omega) (fun _ _ => ask_f (by omega) (by omega)) (fun z => by omega) (by omega) Q ?_
  rcases bnd_in hb with ⟨g0, rfl, rfl⟩ | ⟨e2, q, rfl, hb1⟩
  · exact fun u' x1 x2 => hQ u' x1 (s3.trans (fSu_up x2 (by omega)))
  · have hq := hpq.st rfl gn
    obtain ⟨g1, g2, g3, g4, _⟩ := hpq.gd rfl gn hd8
    have sz := sz_b (a := a) (b := e2) u1 u2 u3
    refine fun v2 us2 w2 y1 y2 y3 y4 => ?_
    have hrl := (hM _ _ _ _ _ hb1).2.gl rfl (by decide) hq.2 hd8
    rw [app_1] at y1
    exact hrl v2 (us2 ++ [foR (tkC B n p)]) X f _ y1 (usOk_app y2 (by decide) (by rw [o5]; decide) (fun z => by omega)) (PD_b u1 u2 u3 s2 (fun i hi => gC_su y4 hi) y3) ht hX hl h41 (by omega) Q (hQ.up (s3.trans (fSu_up y4 (by omega)))))
theorem rs_4h4 (hM : ∀ k dep p e R, M k dep p e R → PQ B n r k dep p e R ∧ Rs B n kk r d k dep p e R) (h3 : M 1 dep p zZ R) (hb : bnd R (fun e q S => M 4 dep q e S) R') : Rs B n kk r d 3 dep p a R' := rs_n rfl (by decide) (fun hp hd8 u X f hS ht hX hl h26 h41 hf Q hQ => by
  have hpq := (hM _ _ _ _ _ h3).1
  have hr := (hM _ _ _ _ _ h3).2.gn rfl (by decide) hp hd8
  have e1 : lvK 3 = 2 := rfl
  have e2 : lvK 4 = 2 := rfl
  have e3 : lvK 1 = 1 := rfl
  have p1 : prK 3 = 5 := rfl
  have p2 : prK 4 = 5 := rfl
  have p3 : prK 1 = 6 := rfl
  refine hr u X f hS (by omega) hX (by omega) (fun _ z => h26 (by decide) z) (fun z => by omega) hf Q ?_
  rcases bnd_in hb with ⟨g0, rfl, rfl⟩ | ⟨e2, q, rfl, hb1⟩
  · exact hQ
  · have hq := hpq.st rfl hp
    obtain ⟨g1, g2, g3, g4, _⟩ := hpq.gd rfl hp hd8
    refine fun v2 us2 w2 y1 y2 y3 y4 => ?_
    exact (hM _ _ _ _ _ hb1).2.gl rfl (by decide) hq.2 hd8 v2 us2 X f _ y1 ⟨fun x hx => Nat.le_trans (by decide) (y2.1 x hx), fun z => y2.2 (by omega)⟩ y3 (by omega) hX (by omega) (fun z => by omega) (by omega) Q ((hQ.up y4).kd (fun us z => ⟨z.1, fun y => z.2 (by omega)⟩)))
theorem rs_47 (hd : 8 ≤ d) (hM : ∀ k dep p e R, M k dep p e R → PQ B n r k dep p e R ∧ Rs B n kk r d k dep p e R) (h : tkC B n p = 25 ∨ tkC B n p = 25) (h3 : M 5 dep (nxT B n p) zZ R) (hb : bnd R (fun e2 q S => M 7 dep q (.branch (foR (tkC B n p)) a e2) S) R') : Rs B n kk r d 7 dep p a R' := rs_l rfl (by decide) (fun hp hd8 u us X f w hS ho hP ht hX hl h41 hf Q hQ => by
  have g := nx_gt (B := B) hp (by omega)
  have gn := nx_le (B := B) hp
  have hpq := (hM _ _ _ _ _ h3).1
  have hr := (hM _ _ _ _ _ h3).2.gn rfl (by decide) gn hd8
  have hlk : LK r 7 5 25 25 := lk7
  obtain ⟨_, _, _, _, _, _, _, _, _, _, _, _, k13⟩ := hlk
  obtain ⟨u1, u2, u3, u4⟩ := k13 _ h
  have e2 : lvK 7 = 4 := rfl
  have e3 : lvK 5 = 3 := rfl
  have e4 : prK 5 = 4 := rfl
  have hc : tkC B n p = 25 := by omega
  have hT := (opT_app (us := us) (X := X) (us_1 ho)).trans (h41 (by decide))
  have ob : btw (tkC B n p) (us ++ X) = foR (tkC B n p) ∧ 6 ≤ foR (tkC B n p) ∧ foR (tkC B n p) < 40 ∧ isO (foR (tkC B n p)) = 0 ∧ rkR (foR (tkC B n p)) = 2 := by
    rw [hc]
    exact ⟨(btw_41 0 hT (cmp_t (ho.2 (by decide)))).1, by decide, by decide, rfl, rfl⟩
  obtain ⟨o1, o2, o3, o4, o5⟩ := ob
  refine lp_op (k := 7) hS ho hP ht hf hp o1 o2 o3 o4 (by rw [o5]; decide) o5 rfl (by omega) (by omega) (fun v1 s1 s2 s3 => ?_)
  refine hr v1 (foR (tkC B n p) :: X) _ s1 (by show rkR _ < _; rw [o5]; decide) (by show isO _ + opN X = dep; rw [o4]; omega) (by show X.length + 1 ≤ _; omega) (fun z => by omega) (fun _ => ask_t (by omega) (by omega) (h41 (by decide))) (by omega) Q ?_
  rcases bnd_in hb with ⟨g0, rfl, rfl⟩ | ⟨e2, q, rfl, hb1⟩
  · exact fun u' x1 x2 => hQ u' x1 (s3.trans (fSu_up x2 (by omega)))
  · have hq := hpq.st rfl gn
    obtain ⟨g1, g2, g3, g4, _⟩ := hpq.gd rfl gn hd8
    have sz := sz_b (a := a) (b := e2) u1 u2 u3
    refine fun v2 us2 w2 y1 y2 y3 y4 => ?_
    have hrl := (hM _ _ _ _ _ hb1).2.gl rfl (by decide) hq.2 hd8
    rw [app_1] at y1
    exact hrl v2 (us2 ++ [foR (tkC B n p)]) X f _ y1 (usOk_app y2 (by decide) (by rw [o5]; decide) (fun z => by omega)) (PD_b u1 u2 u3 s2 (fun i hi => gC_su y4 hi) y3) ht hX hl h41 (by omega) Q (hQ.up (s3.trans (fSu_up y4 (by omega)))))
theorem rs_4h7 (hM : ∀ k dep p e R, M k dep p e R → PQ B n r k dep p e R ∧ Rs B n kk r d k dep p e R) (h3 : M 5 dep p zZ R) (hb : bnd R (fun e q S => M 7 dep q e S) R') : Rs B n kk r d 6 dep p a R' := rs_n rfl (by decide) (fun hp hd8 u X f hS ht hX hl h26 h41 hf Q hQ => by
  have hpq := (hM _ _ _ _ _ h3).1
  have hr := (hM _ _ _ _ _ h3).2.gn rfl (by decide) hp hd8
  have e1 : lvK 6 = 4 := rfl
  have e2 : lvK 7 = 4 := rfl
  have e3 : lvK 5 = 3 := rfl
  have p1 : prK 6 = 2 := rfl
  have p2 : prK 7 = 2 := rfl
  have p3 : prK 5 = 4 := rfl
  refine hr u X f hS (by omega) hX (by omega) (fun z => by omega) (fun _ => h41 (by decide)) hf Q ?_
  rcases bnd_in hb with ⟨g0, rfl, rfl⟩ | ⟨e2, q, rfl, hb1⟩
  · exact hQ
  · have hq := hpq.st rfl hp
    obtain ⟨g1, g2, g3, g4, _⟩ := hpq.gd rfl hp hd8
    refine fun v2 us2 w2 y1 y2 y3 y4 => ?_
    exact (hM _ _ _ _ _ hb1).2.gl rfl (by decide) hq.2 hd8 v2 us2 X f _ y1 ⟨fun x hx => Nat.le_trans (by decide) (y2.1 x hx), fun z => y2.2 (by omega)⟩ y3 (by omega) hX (by omega) (fun z => (h41 (by decide)).1) (by omega) Q ((hQ.up y4).kd (fun us z => ⟨z.1, fun y => z.2 (by omega)⟩)))
theorem rs_49 (hd : 8 ≤ d) (hM : ∀ k dep p e R, M k dep p e R → PQ B n r k dep p e R ∧ Rs B n kk r d k dep p e R) (h : tkC B n p = 24 ∨ tkC B n p = 24) (h3 : M 6 dep (nxT B n p) zZ R) (hb : bnd R (fun e2 q S => M 9 dep q (.branch (foR (tkC B n p)) a e2) S) R') : Rs B n kk r d 9 dep p a R' := rs_l rfl (by decide) (fun hp hd8 u us X f w hS ho hP ht hX hl h41 hf Q hQ => by
  have g := nx_gt (B := B) hp (by omega)
  have gn := nx_le (B := B) hp
  have hpq := (hM _ _ _ _ _ h3).1
  have hr := (hM _ _ _ _ _ h3).2.gn rfl (by decide) gn hd8
  have hlk : LK r 9 6 24 24 := lk9
  obtain ⟨_, _, _, _, _, _, _, _, _, _, _, _, k13⟩ := hlk
  obtain ⟨u1, u2, u3, u4⟩ := k13 _ h
  have e2 : lvK 9 = 5 := rfl
  have e3 : lvK 6 = 4 := rfl
  have e4 : prK 6 = 2 := rfl
  have hc : tkC B n p = 24 := by omega
  have hT := (opT_app (us := us) (X := X) (us_1 ho)).trans (h41 (by decide))
  have ob : btw (tkC B n p) (us ++ X) = foR (tkC B n p) ∧ 6 ≤ foR (tkC B n p) ∧ foR (tkC B n p) < 40 ∧ isO (foR (tkC B n p)) = 0 ∧ rkR (foR (tkC B n p)) = 1 := by
    rw [hc]
    exact ⟨(btw_41 0 hT (cmp_t (ho.2 (by decide)))).2.1, by decide, by decide, rfl, rfl⟩
  obtain ⟨o1, o2, o3, o4, o5⟩ := ob
  refine lp_op (k := 9) hS ho hP ht hf hp o1 o2 o3 o4 (by rw [o5]; decide) o5 rfl (by omega) (by omega) (fun v1 s1 s2 s3 => ?_)
  refine hr v1 (foR (tkC B n p) :: X) _ s1 (by show rkR _ < _; rw [o5]; decide) (by show isO _ + opN X = dep; rw [o4]; omega) (by show X.length + 1 ≤ _; omega) (fun z => by omega) (fun _ => ask_t (by omega) (by omega) (h41 (by decide))) (by omega) Q ?_
  rcases bnd_in hb with ⟨g0, rfl, rfl⟩ | ⟨e2, q, rfl, hb1⟩
  · exact fun u' x1 x2 => hQ u' x1 (s3.trans (fSu_up x2 (by omega)))
  · have hq := hpq.st rfl gn
    obtain ⟨g1, g2, g3, g4, _⟩ := hpq.gd rfl gn hd8
    have sz := sz_b (a := a) (b := e2) u1 u2 u3
    refine fun v2 us2 w2 y1 y2 y3 y4 => ?_
    have hrl := (hM _ _ _ _ _ hb1).2.gl rfl (by decide) hq.2 hd8
    rw [app_1] at y1
    exact hrl v2 (us2 ++ [foR (tkC B n p)]) X f _ y1 (usOk_app y2 (by decide) (by rw [o5]; decide) (fun z => by omega)) (PD_b u1 u2 u3 s2 (fun i hi => gC_su y4 hi) y3) ht hX hl h41 (by omega) Q (hQ.up (s3.trans (fSu_up y4 (by omega)))))
theorem rs_4h9 (hM : ∀ k dep p e R, M k dep p e R → PQ B n r k dep p e R ∧ Rs B n kk r d k dep p e R) (h3 : M 6 dep p zZ R) (hb : bnd R (fun e q S => M 9 dep q e S) R') : Rs B n kk r d 8 dep p a R' := rs_n rfl (by decide) (fun hp hd8 u X f hS ht hX hl h26 h41 hf Q hQ => by
  have hpq := (hM _ _ _ _ _ h3).1
  have hr := (hM _ _ _ _ _ h3).2.gn rfl (by decide) hp hd8
  have e1 : lvK 8 = 5 := rfl
  have e2 : lvK 9 = 5 := rfl
  have e3 : lvK 6 = 4 := rfl
  have p1 : prK 8 = 1 := rfl
  have p2 : prK 9 = 1 := rfl
  have p3 : prK 6 = 2 := rfl
  refine hr u X f hS (by omega) hX (by omega) (fun z => by omega) (fun _ => h41 (by decide)) hf Q ?_
  rcases bnd_in hb with ⟨g0, rfl, rfl⟩ | ⟨e2, q, rfl, hb1⟩
  · exact hQ
  · have hq := hpq.st rfl hp
    obtain ⟨g1, g2, g3, g4, _⟩ := hpq.gd rfl hp hd8
    refine fun v2 us2 w2 y1 y2 y3 y4 => ?_
    exact (hM _ _ _ _ _ hb1).2.gl rfl (by decide) hq.2 hd8 v2 us2 X f _ y1 ⟨fun x hx => Nat.le_trans (by decide) (y2.1 x hx), fun z => y2.2 (by omega)⟩ y3 (by omega) hX (by omega) (fun z => (h41 (by decide)).1) (by omega) Q ((hQ.up y4).kd (fun us z => ⟨z.1, fun y => z.2 (by omega)⟩)))
theorem rs_notd (hd : 8 ≤ d) (h : tkC B n p = 26) (h8 : 8 ≤ dep) : Rs B n kk r d 5 dep p a (.inl (3, frT B n p)) := rs_n rfl (by decide) (fun hp hd8 u X f hS ht hX hl h26 h41 hf Q hQ => by
  have e5 : lvK 5 = 3 := rfl
  exact sm_open hS (Or.inr ⟨h, (h41 (by decide)).2⟩) (by omega) hp hd (fun z => by omega) (fun _ => hQ u hS.pc Fr.rfl))
theorem rs_not (hd : 8 ≤ d) (hM : ∀ k dep p e R, M k dep p e R → PQ B n r k dep p e R ∧ Rs B n kk r d k dep p e R) (h : tkC B n p = 26) (hd7 : dep < 8) (h3 : M 5 (dep + 1) (nxT B n p) zZ R) (hb : bnd R (fun e q S => S = .inr (.branch 20 e zZ, q)) R') : Rs B n kk r d 5 dep p a R' := rs_n rfl (by decide) (fun hp hd8 u X f hS ht hX hl h26 h41 hf Q hQ => by
  have g := nx_gt (B := B) hp (by omega)
  have gn := nx_le (B := B) hp
  have hr := (hM _ _ _ _ _ h3).2.gn rfl (by decide) gn (by omega)
  have e5 : lvK 5 = 3 := rfl
  have o41 := h41 (by decide)
  refine sm_open hS (Or.inr ⟨h, o41.2⟩) (by omega) hp hd (fun _ v1 s1 s3 => ?_) (fun z => by omega)
  rw [h] at s1
  have s1 : StR B n kk r v1 (nxT B n p) 0 (20 :: X) f := s1
  refine hr v1 (20 :: X) f s1 (by show rkR 20 < prK 5; decide) (by show 1 + opN X = _; omega) (by show X.length + 1 ≤ _; omega) (fun z => by omega) (fun _ => ask_t (by decide) (by decide) o41.1) (by omega) Q ?_
  rcases bnd_in hb with ⟨g0, rfl, rfl⟩ | ⟨e2, q, rfl, rfl⟩
  · exact fun u' x1 x2 => hQ u' x1 (s3.trans x2)
  · refine fun v2 us2 w2 y1 y2 y3 y4 => ?_
    rw [app_1] at y1
    exact hQ v2 (us2 ++ [20]) w2 y1 (usOk_app y2 (by decide) (by decide) (fun z => by omega)) (PD_u rfl (by decide) (by decide) y3) (s3.trans y4))
theorem rs_ask (hd : 8 ≤ d) (hM : ∀ k dep p e R, M k dep p e R → PQ B n r k dep p e R ∧ Rs B n kk r d k dep p e R) (h : ¬ tkC B n p = 26) (h3 : M 3 dep p zZ R) (hb : bnd R (akT B n M dep) R') : Rs B n kk r d 5 dep p a R' := rs_n rfl (by decide) (fun hp hd8 u X f hS ht hX hl h26 h41 hf Q hQ => by
  have hpq := (hM _ _ _ _ _ h3).1
  have hr := (hM _ _ _ _ _ h3).2.gn rfl (by decide) hp hd8
  have e5 : lvK 5 = 3 := rfl
  have e3 : lvK 3 = 2 := rfl
  have p5 : prK 5 = 4 := rfl
  have p3 : prK 3 = 5 := rfl
  have o41 := h41 (by decide)
  refine hr u X f hS (by omega) hX (by omega) (fun _ z => absurd z h) (fun z => by omega) hf Q ?_
  rcases bnd_in hb with ⟨g0, rfl, rfl⟩ | ⟨x, p1, rfl, hb1⟩
  · exact hQ
  have hq := hpq.st rfl hp
  obtain ⟨g1, g2, g3, g4, g5⟩ := hpq.gd rfl hp hd8
  refine fun v1 us1 w1 y1 y2 y3 y4 => ?_
  have y1 : StR B n kk r v1 p1 1 (us1 ++ X) w1 := y1
  have y3 : PD kk f w1 us1 x v1 := y3
  have us5 : ∀ x, x ∈ us1 → 5 ≤ rkR x := y2.1
  have hT := (opT_app (us := us1) (X := X) (us_1 y2)).trans o41.1
  have hC : cmpR (us1 ++ X) = false := (cmp_f us5).trans (cmp_0 (by omega))
  have t42 := tk_42 (B := B) (n := n) (p := p1)
  have hc3 : tkC B n p1 < 34 ∨ 37 < tkC B n p1 := by unfold stK at g5; omega
  have hb0 := btw_41f hT hC hc3
  unfold akT at hb1
  by_cases hc : 28 ≤ tkC B n p1 ∧ tkC B n p1 ≤ 33
  · rw [if_pos hc] at hb1 hb0
    obtain ⟨R2, h4, hb2⟩ := hb1
    have g1' := nx_gt (B := B) hq.2 (by omega)
    have gn1 := nx_le (B := B) hq.2
    have hpq2 := (hM _ _ _ _ _ h4).1
    have hr2 := (hM _ _ _ _ _ h4).2.gn rfl (by decide) gn1 hd8
    have ob : un (tkC B n p1 - 18) = false ∧ isO (tkC B n p1 - 18) = 0 ∧ rkR (tkC B n p1 - 18) = 4 := by
      obtain ⟨i, hi⟩ : ∃ i, tkC B n p1 = 28 + i := ⟨tkC B n p1 - 28, by omega⟩
      rw [hi]
      exact cmp_all i (by omega)
    obtain ⟨o1, o2, o3⟩ := ob
    have hn := y1.n3
    have hl1 := y3.2.1
    refine sm_op (us := us1) (X := X) (o := tkC B n p1 - 18) (s := 5) y1 hb0 (by omega) (by omega) o2 (by rw [o3, if_pos rfl]) us5 (by omega) (by omega) (by omega) hq.2 (by omega) (fun v2 s1 s2 s3 => ?_)
    have r1 := rR_at y3 (fun i _ hi => gC_su s3 hi) s2
    rw [hl1] at s1
    have F2 := y4.trans (fSu_up s3 y3.1)
    refine hr2 v2 ((tkC B n p1 - 18) :: X) _ s1 (by show rkR _ < _; rw [o3]; decide) (by show isO _ + opN X = dep; rw [o2]; omega) (by show X.length + 1 ≤ _; omega) (fun _ _ => ask_f (by omega) (by omega)) (fun z => by omega) (by omega) Q ?_
    rcases bnd_in hb2 with ⟨g0, rfl, rfl⟩ | ⟨y, p2, rfl, rfl⟩
    · exact fun u' x1 x2 => hQ u' x1 (F2.trans (fSu_up x2 (by omega)))
    · refine fun v3 us2 w3 z1 z2 z3 z4 => ?_
      rw [app_1] at z1
      refine hQ v3 (us2 ++ [tkC B n p1 - 18]) w3 z1 ⟨fun x hx => ?_, fun _ => ?_⟩ (PD_b o1 (by omega) (by omega) r1 (fun i hi => gC_su z4 hi) z3) (F2.trans (fSu_up z4 (by omega)))
      · rcases List.mem_append.mp hx with t | t
        · exact Nat.le_trans (by decide) (z2.1 x t)
        · rw [show x = tkC B n p1 - 18 from List.mem_singleton.mp t, o3]
          decide
      · rw [cmp_f (fun x hx => z2.1 x hx)]
        show (if 4 < rkR (tkC B n p1 - 18) then cmpR [] else decide (rkR (tkC B n p1 - 18) = 4)) = true
        rw [o3]
        rfl
  · rw [if_neg hc] at hb1 hb0
    subst hb1
    refine sm_bad y1 hb0 ?_ (by rw [hT]; decide) (by omega) (hQ v1 y1.pc y4)
    unfold ptI
    rw [hT, if_neg (by decide), if_pos rfl, if_neg (fun z => by rw [hC] at z; cases z.2)])
end RR7
