/-! the reference reads sums and asks: what it answers by the rules -/
def prK (k : Nat) : Nat := if k ≤ 2 then 6 else if k ≤ 4 then 5 else if k = 5 then 4 else if k ≤ 7 then 2 else 1
def usR (k : Nat) : Nat := if k ≤ 2 then 6 else if k ≤ 4 then 5 else if k = 5 then 3 else if k ≤ 7 then 2 else 1
def usOk (k : Nat) (us : List Nat) : Prop := (∀ x, x ∈ us → usR k ≤ rkR x) ∧ (5 ≤ k → cmpR us = true)
def PD (kk f w : Nat) (us : List Nat) (e : z_X) (u : z_V) : Prop := f ≤ w ∧ w + us.length = f + lR e ∧ ∀ g' : Nat → Int32 × Int32, (∀ i, f ≤ i → i < w → g' i = gC kk u i) → (∀ i, i < us.length → (g' (w + i)).1 = nI (us.getD i 0)) → rR g' f e
def RQ (B : Nat → Nat) (n kk : Nat) (r : Bool) (d k : Nat) (X : List Nat) (f : Nat) (Q : z_RT) (u : z_V) (R : z_Rs) : Prop := match R with
  | .inl g => ∀ u', gI u' 11 0 8 = nI g.2 → Fr (fSu kk f) u u' → Q u' (some (vI (nI g.1)))
  | .inr y => ∀ u' us w, StR B n kk r u' y.2 1 (us ++ X) w → usOk k us → PD kk f w us y.1 u' → Fr (fSu kk f) u u' → SMQ d Q u'
def RQ0 (B : Nat → Nat) (n kk : Nat) (r : Bool) (d : Nat) (vs X : List Nat) (f : Nat) (Q : z_RT) (u : z_V) (R : z_Rs) : Prop := match R with
  | .inl g => ∀ u', gI u' 11 0 8 = nI g.2 → Fr (fSu kk f) u u' → Q u' (some (vI (nI g.1)))
  | .inr y => ∀ u', StR B n kk r u' y.2 1 X (f + lR y.1 + vs.length) → rR (gC kk u') f y.1 → cls kk (f + lR y.1) vs u' → Fr (fSu kk f) u u' → SMQ d Q u'
def R0 (B : Nat → Nat) (n kk : Nat) (r : Bool) (d dep p : Nat) (R : z_Rs) : Prop := ∀ (u : z_V) (vs X : List Nat) (f : Nat), StR B n kk r u p 0 (vs ++ X) f → (∀ x, x ∈ vs → 7 ≤ rkR x) → tpP X < 7 → opN (vs ++ X) = dep → (vs ++ X).length ≤ 6 * dep + 5 → (tkC B n p = 26 → askA (vs ++ X) = false) → f + vs.length ≤ p → ∀ Q : z_RT, RQ0 B n kk r d vs X f Q u R → SMQ d Q u
def RN (B : Nat → Nat) (n kk : Nat) (r : Bool) (d k dep p : Nat) (R : z_Rs) : Prop := ∀ (u : z_V) (X : List Nat) (f : Nat), StR B n kk r u p 0 X f → tpP X < prK k → opN X = dep → X.length ≤ 6 * dep + (5 - lvK k) → (k < 5 → tkC B n p = 26 → askA X = false) → (5 ≤ k → opT X = 41 ∧ askA X = true) → f ≤ p → ∀ Q : z_RT, RQ B n kk r d k X f Q u R → SMQ d Q u
def RLp (B : Nat → Nat) (n kk : Nat) (r : Bool) (d k dep p : Nat) (a : z_X) (R : z_Rs) : Prop := ∀ (u : z_V) (us X : List Nat) (f w : Nat), StR B n kk r u p 1 (us ++ X) w → usOk k us → PD kk f w us a u → tpP X < prK k → opN X = dep → X.length ≤ 6 * dep + (5 - lvK k) → (5 ≤ k → opT X = 41) → f + lR a ≤ p → ∀ Q : z_RT, RQ B n kk r d k X f Q u R → SMQ d Q u
def Rs (B : Nat → Nat) (n kk : Nat) (r : Bool) (d : Nat) : z_M := fun k dep p a R => p ≤ n → dep ≤ 8 → if k = 0 then R0 B n kk r d dep p R else if lpK k = true then RLp B n kk r d k dep p a R else RN B n kk r d k dep p R
theorem opT_app : ∀ {us X : List Nat}, (∀ x, x ∈ us → 1 ≤ rkR x) → opT (us ++ X) = opT X
  | [], _, _ => rfl
  | x :: us, X, h => by
    show (if 40 ≤ x then x else opT (us ++ X)) = _
    rw [if_neg (by have := rk_40 (h x List.mem_cons_self); omega)]
    exact opT_app (fun y hy => h y (List.mem_cons_of_mem _ hy))
theorem cmp_t : ∀ {us X : List Nat}, cmpR us = true → cmpR (us ++ X) = true
  | [], _, h => by cases h
  | x :: us, X, h => by
    simp only [cmpR] at h
    show (if 4 < rkR x then cmpR (us ++ X) else decide (rkR x = 4)) = true
    split
    · rename_i z
      rw [if_pos z] at h
      exact cmp_t h
    · rename_i z
      rw [if_neg z] at h
      exact h
theorem cmp_f : ∀ {us X : List Nat}, (∀ x, x ∈ us → 5 ≤ rkR x) → cmpR (us ++ X) = cmpR X
  | [], _, _ => rfl
  | x :: us, X, h => by
    show (if 4 < rkR x then cmpR (us ++ X) else decide (rkR x = 4)) = _
    rw [if_pos (by have := h x List.mem_cons_self; omega)]
    exact cmp_f (fun y hy => h y (List.mem_cons_of_mem _ hy))
theorem cmp_0 {X : List Nat} (h : tpP X < 4) : cmpR X = false := by
  cases X with
  | nil => rfl
  | cons x X =>
    have h : rkR x < 4 := h
    simp only [cmpR]
    rw [if_neg (by omega), decide_eq_false (by omega)]
theorem getD_l {us : List Nat} {o i : Nat} (h : i < us.length) : (us ++ [o]).getD i 0 = us.getD i 0 := by
  simp [List.getD, List.getElem?_append_left h]
theorem getD_e {us : List Nat} {o : Nat} : (us ++ [o]).getD us.length 0 = o := by simp [List.getD]
section RR6
variable {d : Nat} {B : Nat → Nat} {n kk : Nat} {r : Bool} {M : z_M} {p iw f w dep : Nat} {X us : List Nat} {u : z_V} {a e : z_X} {R R' : z_Rs}
theorem rR_at {u' : z_V} (h : PD kk f w us e u) (hg : ∀ i, f ≤ i → i < w → gC kk u' i = gC kk u i) (hc : cls kk w us u') : rR (gC kk u') f e := h.2.2 _ hg hc
theorem PD_0 (h : rR (gC kk u) f e) : PD kk f (f + lR e) [] e u := ⟨by omega, rfl, fun g' h1 _ => rR_cong (fun i a b => h1 i a b) h⟩
theorem PD_b {u1 u2 : z_V} {o w2 : Nat} {us2 : List Nat} {e2 : z_X} (h1 : un o = false) (h2 : o ≠ 30) (h3 : o ≠ 3) (ha : rR (gC kk u1) f a) (hf : ∀ i, i < f + lR a → gC kk u2 i = gC kk u1 i) (hb : PD kk (f + lR a) w2 us2 e2 u2) : PD kk f w2 (us2 ++ [o]) (.branch o a e2) u2 := by
  obtain ⟨b1, b2, b3⟩ := hb
  have s := sz_b (a := a) (b := e2) h1 h2 h3
  refine ⟨by omega, by rw [List.length_append, s.2.1]; show w2 + (us2.length + 1) = _; omega, fun g' g1 g2 => ?_⟩
  rw [List.length_append] at g2
  have g2 : ∀ i, i < us2.length + 1 → (g' (w2 + i)).1 = nI ((us2 ++ [o]).getD i 0) := g2
  simp only [rR]
  rw [if_neg h2, h1, if_neg (by decide)]
  refine ⟨rR_cong (fun i x y => (g1 i x (by omega)).trans (hf i y)) ha, b3 g' (fun i x y => g1 i (by omega) y) (fun i hi => ?_), ?_⟩
  · rw [g2 i (by omega), getD_l hi]
  · rw [show f + lR a + lR e2 = w2 + us2.length by omega, g2 _ (Nat.lt_succ_self _), getD_e]
theorem PD_u {o : Nat} (h1 : un o = true) (h2 : o ≠ 30) (h3 : o ≠ 3) (ha : PD kk f w us a u) : PD kk f w (us ++ [o]) (.branch o a zZ) u := by
  obtain ⟨b1, b2, b3⟩ := ha
  have s := sz_u (a := a) (b := zZ) h1 h2 h3
  refine ⟨b1, by rw [List.length_append, s.2.1]; show w + (us.length + 1) = _; omega, fun g' g1 g2 => ?_⟩
  rw [List.length_append] at g2
  have g2 : ∀ i, i < us.length + 1 → (g' (w + i)).1 = nI ((us ++ [o]).getD i 0) := g2
  simp only [rR]
  rw [if_neg h2, h1, if_pos rfl]
  refine ⟨b3 g' g1 (fun i hi => ?_), ?_⟩
  · rw [g2 i (by omega), getD_l hi]
  · rw [show f + lR a = w + us.length by omega, g2 _ (Nat.lt_succ_self _), getD_e]
theorem rs_0 (h : p ≤ n → dep ≤ 8 → R0 B n kk r d dep p R) : Rs B n kk r d 0 dep p a R := fun hp hd => h hp hd
theorem rs_n {k : Nat} (hk : lpK k = false) (hk0 : k ≠ 0) (h : p ≤ n → dep ≤ 8 → RN B n kk r d k dep p R) : Rs B n kk r d k dep p a R := fun hp hd => by
  rw [if_neg hk0, hk, if_neg (by decide)]
  exact h hp hd
theorem rs_l {k : Nat} (hk : lpK k = true) (hk0 : k ≠ 0) (h : p ≤ n → dep ≤ 8 → RLp B n kk r d k dep p a R) : Rs B n kk r d k dep p a R := fun hp hd => by
  rw [if_neg hk0, hk, if_pos rfl]
  exact h hp hd
theorem Rs.g0 (h : Rs B n kk r d 0 dep p a R) (hp : p ≤ n) (hd : dep ≤ 8) : R0 B n kk r d dep p R := h hp hd
theorem Rs.gn {k : Nat} (h : Rs B n kk r d k dep p a R) (hk : lpK k = false) (hk0 : k ≠ 0) (hp : p ≤ n) (hd : dep ≤ 8) : RN B n kk r d k dep p R := by
  have := h hp hd
  rw [if_neg hk0, hk, if_neg (by decide)] at this
  exact this
theorem Rs.gl {k : Nat} (h : Rs B n kk r d k dep p a R) (hk : lpK k = true) (hk0 : k ≠ 0) (hp : p ≤ n) (hd : dep ≤ 8) : RLp B n kk r d k dep p a R := by
  have := h hp hd
  rw [if_neg hk0, hk, if_pos rfl] at this
  exact this
theorem StR.n3 (h : StR B n kk r u p iw X w) : n ≤ 300 := h.1.2.1
theorem StR.pc (h : StR B n kk r u p iw X w) : gI u 11 0 8 = nI (frT B n p) := h.2.1.2.1
theorem rs_4e {k c1 c2 : Nat} (hk : lpK k = true) (hk0 : k ≠ 0) : Rs B n kk r d k dep p a (.inr (a, p)) := rs_l hk hk0 (fun hp hd u us X f w h ho hP _ _ _ _ _ Q hQ => hQ u us w h ho hP Fr.rfl)
theorem usOk_0 : usOk 2 [] := ⟨fun x h => (by cases h), fun h => by omega⟩
/-- one step of a loop: the sign that stands between -/
theorem lp_op {Q : z_RT} {o k : Nat} (h : StR B n kk r u p 1 (us ++ X) w) (ho : usOk k us) (hP : PD kk f w us a u) (ht : tpP X < prK k) (hf : f + lR a ≤ p) (hp : p ≤ n) (hb : btw (tkC B n p) (us ++ X) = o) (ho1 : 6 ≤ o) (ho2 : o < 40) (hO : isO o = 0) (hr4 : rkR o ≠ 4) (hro : rkR o = usR k) (hpk : prK k = usR k) (hX : X.length + 1 ≤ 100) (hd : 5 ≤ d) (k1 : ∀ u', StR B n kk r u' (nxT B n p) 0 (o :: X) (f + lR a) → rR (gC kk u') f a → Fr (fSu kk f) u u' → SMQ d Q u') : SMQ d Q u := by
  have hn := h.n3
  have hl := hP.2.1
  refine sm_op (us := us) (X := X) (o := o) (s := usR k) h hb ho1 ho2 hO (by rw [if_neg hr4, hro]) ho.1 (by omega) (by omega) hX hp hd (fun u' s1 s2 s3 => k1 u' ?_ (rR_at hP (fun i _ hi => gC_su s3 hi) s2) (fSu_up s3 hP.1))
  rw [hl] at s1
  exact s1
theorem usOk_app {kin k o : Nat} (h : usOk kin us) (hk : usR k ≤ usR kin) (ho : usR k ≤ rkR o) (h5 : 5 ≤ k → 5 ≤ kin) : usOk k (us ++ [o]) := by
  refine ⟨fun x hx => ?_, fun hk5 => cmp_t (h.2 (h5 hk5))⟩
  rcases List.mem_append.mp hx with z | z
  · exact Nat.le_trans hk (h.1 x z)
  · rw [show x = o from List.mem_singleton.mp z]
    exact ho
theorem app_1 {o : Nat} : us ++ o :: X = (us ++ [o]) ++ X := by simp
theorem RQ.up {k : Nat} {u1 : z_V} {Q : z_RT} (h : RQ B n kk r d k X f Q u R) (q : Fr (fSu kk f) u u1) : RQ B n kk r d k X f Q u1 R := by
  cases R with
  | inl g => exact fun u' e1 e2 => h u' e1 (q.trans e2)
  | inr y => exact fun u' us w e1 e2 e3 e4 => h u' us w e1 e2 e3 (q.trans e4)
theorem RQ.kd {k k' : Nat} {Q : z_RT} (h : RQ B n kk r d k X f Q u R) (q : ∀ us, usOk k' us → usOk k us) : RQ B n kk r d k' X f Q u R := by
  cases R with
  | inl g => exact h
  | inr y => exact fun u' us w e1 e2 e3 e4 => h u' us w e1 (q us e2) e3 e4
theorem rs_42 (hd : 8 ≤ d) (hM : ∀ k dep p e R, M k dep p e R → PQ B n r k dep p e R ∧ Rs B n kk r d k dep p e R) (h : tkC B n p = 36 ∨ tkC B n p = 37) (h3 : M 0 dep (nxT B n p) zZ R) (hb : bnd R (fun e2 q S => M 2 dep q (.branch (foR (tkC B n p)) a e2) S) R') : Rs B n kk r d 2 dep p a R' := rs_l rfl (by decide) (fun hp hd8 u us X f w hS ho hP ht hX hl _ hf Q hQ => by
  have g := nx_gt (B := B) hp (by omega)
  have gn := nx_le (B := B) hp
  have hpq := (hM _ _ _ _ _ h3).1
  have hr := (hM _ _ _ _ _ h3).2.g0 gn hd8
  have hlk : LK r 2 0 36 37 := lk2
  obtain ⟨_, _, _, _, _, _, _, _, _, _, _, _, k13⟩ := hlk
  obtain ⟨u1, u2, u3, u4⟩ := k13 _ h
  have e2 : lvK 2 = 1 := rfl
  have ob : btw (tkC B n p) (us ++ X) = foR (tkC B n p) ∧ 6 ≤ foR (tkC B n p) ∧ foR (tkC B n p) < 40 ∧ isO (foR (tkC B n p)) = 0 ∧ rkR (foR (tkC B n p)) = 6 := by
    rcases h with h | h <;> rw [h] <;> exact ⟨rfl, by decide, by decide, rfl, rfl⟩
  obtain ⟨o1, o2, o3, o4, o5⟩ := ob
  refine lp_op (k := 2) hS ho hP ht hf hp o1 o2 o3 o4 (by rw [o5]; decide) o5 rfl (by omega) (by omega) (fun v1 s1 s2 s3 => ?_)
  refine hr v1 [] (foR (tkC B n p) :: X) _ s1 (fun x hx => by cases hx) (by show rkR _ < 7; rw [o5]; decide) (by show isO _ + opN X = dep; rw [o4]; omega) (by show X.length + 1 ≤ _; omega) (fun z => ?_) (by show f + lR a + 0 ≤ _; omega) Q ?_
  · show (decide (opT (foR (tkC B n p) :: X) = 41) && (decide (40 ≤ foR (tkC B n p)) || decide (1 ≤ rkR (foR (tkC B n p)) ∧ rkR (foR (tkC B n p)) ≤ 3))) = false
    rw [decide_eq_false (show ¬ 40 ≤ foR (tkC B n p) by omega), decide_eq_false (show ¬ (1 ≤ rkR (foR (tkC B n p)) ∧ rkR (foR (tkC B n p)) ≤ 3) by omega), Bool.or_self, Bool.and_false]
  · rcases bnd_in hb with ⟨g0, rfl, rfl⟩ | ⟨e2, q, rfl, hb1⟩
    · exact fun u' x1 x2 => hQ u' x1 (s3.trans (fSu_up x2 (by omega)))
    · have hq := hpq.st rfl gn
      obtain ⟨g1, g2, g3, g4, _⟩ := hpq.gd rfl gn hd8
      have sz := sz_b (a := a) (b := e2) u1 u2 u3
      refine fun v2 y1 y2 y3 y4 => ?_
      have hrl := (hM _ _ _ _ _ hb1).2.gl rfl (by decide) hq.2 hd8
      refine hrl v2 [foR (tkC B n p)] X f _ y1 ⟨fun x hx => by rw [List.mem_singleton.mp hx, o5]; decide, fun z => by omega⟩ (PD_b (us2 := []) u1 u2 u3 s2 (fun i hi => gC_su y4 hi) (PD_0 y2)) ht hX hl (fun z => by omega) (by omega) Q (hQ.up (s3.trans (fSu_up y4 (by omega)))))
theorem rs_4h2 (hM : ∀ k dep p e R, M k dep p e R → PQ B n r k dep p e R ∧ Rs B n kk r d k dep p e R) (h3 : M 0 dep p zZ R) (hb : bnd R (fun e q S => M 2 dep q e S) R') : Rs B n kk r d 1 dep p a R' := rs_n rfl (by decide) (fun hp hd8 u X f hS ht hX hl h26 _ hf Q hQ => by
  have hpq := (hM _ _ _ _ _ h3).1
  have hr := (hM _ _ _ _ _ h3).2.g0 hp hd8
  have e1 : lvK 1 = 1 := rfl
  have e2 : lvK 2 = 1 := rfl
  have p1 : prK 1 = 6 := rfl
  refine hr u [] X f hS (fun x hx => by cases hx) (by omega) hX (by show X.length ≤ _; omega) (fun z => h26 (by decide) z) hf Q ?_
  rcases bnd_in hb with ⟨g0, rfl, rfl⟩ | ⟨e2, q, rfl, hb1⟩
  · exact hQ
  · have hq := hpq.st rfl hp
    obtain ⟨g1, g2, g3, g4, _⟩ := hpq.gd rfl hp hd8
    refine fun v2 y1 y2 y3 y4 => ?_
    exact (hM _ _ _ _ _ hb1).2.gl rfl (by decide) hq.2 hd8 v2 [] X f _ y1 usOk_0 (PD_0 y2) ht hX hl (fun z => by omega) (by omega) Q ((hQ.up y4).kd (fun us z => ⟨z.1, fun y => by omega⟩)))
end RR6
