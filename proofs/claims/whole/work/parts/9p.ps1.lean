/-! what every answer of the rules keeps: kinds, lengths, how many values wait, which word stands behind -/
def lvK (k : Nat) : Nat := if k = 0 then 0 else if k ≤ 2 then 1 else if k ≤ 4 then 2 else if k = 5 then 3 else if k ≤ 7 then 4 else 5
def tyK (k : Nat) : Nat := if k ≤ 4 then 1 else 2
def stK (k c : Nat) : Prop := (1 ≤ k → c ≠ 36 ∧ c ≠ 37) ∧ (3 ≤ k → c ≠ 34 ∧ c ≠ 35) ∧ (6 ≤ k → c ≠ 25) ∧ (8 ≤ k → c ≠ 24)
def good (B : Nat → Nat) (n : Nat) (r : Bool) (k dep p aC aR : Nat) (e : z_X) (q : Nat) : Prop := ty r e = tyK k ∧ sk e + 5 * dep ≤ 41 + lvK k ∧ lC e + p ≤ aC + q ∧ lR e + p ≤ aR + q ∧ stK k (tkC B n q)
def Pp (B : Nat → Nat) (n : Nat) (r : Bool) : z_M := fun k dep p a R => p ≤ n → dep ≤ 8 → (lpK k = true → ty r a = tyK k ∧ sk a + 5 * dep ≤ 41 + lvK k ∧ stK (k - 2) (tkC B n p)) → ∀ e q, R = .inr (e, q) → good B n r k dep p (if lpK k = true then lC a else 0) (if lpK k = true then lR a else 0) e q
def PQ (B : Nat → Nat) (n : Nat) (r : Bool) : z_M := fun k dep p a R => Pg n k dep p a R ∧ Pp B n r k dep p a R
theorem bnd_in {R R' : z_Rs} {K : z_X → Nat → z_Rs → Prop} (h : bnd R K R') : (∃ f, R = .inl f ∧ R' = .inl f) ∨ ∃ e q, R = .inr (e, q) ∧ K e q R' := by
  cases R with
  | inl f => exact Or.inl ⟨f, rfl, h⟩
  | inr x => exact Or.inr ⟨x.1, x.2, rfl, h⟩
/-- how a loop's kind stands to what it is a loop of -/
def LK (r : Bool) (k kin c1 c2 : Nat) : Prop := lpK k = true ∧ lpK kin = false ∧ lpK (k - 1) = false ∧ tyK kin = tyK k ∧ tyK (k - 1) = tyK k ∧ lvK kin + 1 = lvK k ∧ lvK (k - 1) = lvK k ∧ (∀ c, stK kin c → stK (k - 2) c) ∧ (∀ c, stK (k - 2) c → ¬ (c = c1 ∨ c = c2) → stK k c) ∧ (∀ c, stK k c → stK (k - 1) c) ∧ c1 ≠ 41 ∧ c2 ≠ 41 ∧ ∀ c, (c = c1 ∨ c = c2) → un (foR c) = false ∧ foR c ≠ 30 ∧ foR c ≠ 3 ∧ ∀ e e2, ty r e = tyK k → ty r e2 = tyK k → ty r (.branch (foR c) e e2) = tyK k
theorem lk2 {r : Bool} : LK r 2 0 36 37 := by
  refine ⟨rfl, rfl, rfl, rfl, rfl, rfl, rfl, fun c h => ?_, fun c h h2 => ?_, fun c h => ?_, by decide, by decide, fun c hc => ?_⟩
  · unfold stK at *; omega
  · unfold stK at *; omega
  · unfold stK at *; omega
  · rcases hc with rfl | rfl
    · exact ⟨rfl, by decide, by decide, fun e e2 h1 h2 => by show (if ty r e = 1 ∧ ty r e2 = 1 then 1 else 0) = 1; rw [if_pos ⟨h1, h2⟩]⟩
    · exact ⟨rfl, by decide, by decide, fun e e2 h1 h2 => by show (if ty r e = 1 ∧ ty r e2 = 1 then 1 else 0) = 1; rw [if_pos ⟨h1, h2⟩]⟩
theorem lk4 {r : Bool} : LK r 4 1 34 35 := by
  refine ⟨rfl, rfl, rfl, rfl, rfl, rfl, rfl, fun c h => ?_, fun c h h2 => ?_, fun c h => ?_, by decide, by decide, fun c hc => ?_⟩
  · unfold stK at *; omega
  · unfold stK at *; omega
  · unfold stK at *; omega
  · rcases hc with rfl | rfl
    · exact ⟨rfl, by decide, by decide, fun e e2 h1 h2 => by show (if ty r e = 1 ∧ ty r e2 = 1 then 1 else 0) = 1; rw [if_pos ⟨h1, h2⟩]⟩
    · exact ⟨rfl, by decide, by decide, fun e e2 h1 h2 => by show (if ty r e = 1 ∧ ty r e2 = 1 then 1 else 0) = 1; rw [if_pos ⟨h1, h2⟩]⟩
theorem lk7 {r : Bool} : LK r 7 5 25 25 := by
  refine ⟨rfl, rfl, rfl, rfl, rfl, rfl, rfl, fun c h => ?_, fun c h h2 => ?_, fun c h => ?_, by decide, by decide, fun c hc => ?_⟩
  · unfold stK at *; omega
  · unfold stK at *; omega
  · unfold stK at *; omega
  · obtain rfl : c = 25 := by omega
    exact ⟨rfl, by decide, by decide, fun e e2 h1 h2 => by show (if ty r e = 2 ∧ ty r e2 = 2 then 2 else 0) = 2; rw [if_pos ⟨h1, h2⟩]⟩
theorem lk9 {r : Bool} : LK r 9 6 24 24 := by
  refine ⟨rfl, rfl, rfl, rfl, rfl, rfl, rfl, fun c h => ?_, fun c h h2 => ?_, fun c h => ?_, by decide, by decide, fun c hc => ?_⟩
  · unfold stK at *; omega
  · unfold stK at *; omega
  · unfold stK at *; omega
  · obtain rfl : c = 24 := by omega
    exact ⟨rfl, by decide, by decide, fun e e2 h1 h2 => by show (if ty r e = 2 ∧ ty r e2 = 2 then 2 else 0) = 2; rw [if_pos ⟨h1, h2⟩]⟩
theorem sz_b {o : Nat} {a b : z_X} (h1 : un o = false) (h2 : o ≠ 30) (h3 : o ≠ 3) : lC (.branch o a b) = lC a + lC b + 1 ∧ lR (.branch o a b) = lR a + lR b + 1 ∧ sk (.branch o a b) = max (sk a) (sk b + 1) := by
  simp only [lC, lR, sk]
  rw [h1, if_neg (by decide), if_neg h2, if_neg (by decide), if_neg (by omega), if_neg (by decide)]
  exact ⟨rfl, rfl, rfl⟩
theorem sz_u {o : Nat} {a b : z_X} (h1 : un o = true) (h2 : o ≠ 30) (h3 : o ≠ 3) : lC (.branch o a b) = lC a + 1 ∧ lR (.branch o a b) = lR a + 1 ∧ sk (.branch o a b) = sk a := by
  simp only [lC, lR, sk]
  rw [h1, if_pos rfl, if_neg h2, if_pos rfl, if_neg (by omega), if_pos rfl]
  exact ⟨rfl, rfl, rfl⟩
theorem tk_42 {B : Nat → Nat} {n p : Nat} : tkC B n p ≤ 42 := by
  unfold tkC cdT
  split
  · decide
  · split
    · rcases idW_c (l := lsT B (frT B n p) (runT (pLt B n) n (frT B n p) - frT B n p)) with h | h <;> omega
    · split
      · decide
      · unfold sgK
        split
        · decide
        · split
          · decide
          · unfold sgC
            repeat' split
            all_goals decide
section PS1
variable {B : Nat → Nat} {n : Nat} {r : Bool} {M : z_M}
theorem pq_l {k dep p : Nat} {a : z_X} {f : Nat × Nat} (h : p ≤ n → 1 ≤ f.1 ∧ f.1 ≤ 5 ∧ f.2 ≤ n) : PQ B n r k dep p a (.inl f) := ⟨h, fun _ _ _ e q z => by cases z⟩
theorem pq_c {k dep p c pl : Nat} {a : z_X} (h1 : 1 ≤ c) (h2 : c ≤ 5) (h : p ≤ n → pl ≤ n) : PQ B n r k dep p a (.inl (c, pl)) := pq_l (fun hp => ⟨h1, h2, h hp⟩)
theorem pq_r {k dep p q : Nat} {a e : z_X} (hk : lpK k = false) (h1 : p ≤ n → p < q ∧ q ≤ n) (h2 : p ≤ n → dep ≤ 8 → good B n r k dep p 0 0 e q) : PQ B n r k dep p a (.inr (e, q)) := by
  refine ⟨fun hp => ?_, fun hp hd _ e' q' z => ?_⟩
  · have := h1 hp
    show q ≤ n ∧ (if lpK k = true then p ≤ q else p < q)
    rw [hk, if_neg (by decide)]
    exact ⟨this.2, this.1⟩
  · cases z
    rw [hk, if_neg (by decide), if_neg (by decide)]
    exact h2 hp hd
theorem PQ.fl {k dep p : Nat} {a : z_X} {f : Nat × Nat} (h : PQ B n r k dep p a (.inl f)) (hp : p ≤ n) : 1 ≤ f.1 ∧ f.1 ≤ 5 ∧ f.2 ≤ n := h.1 hp
theorem PQ.st {k dep p q : Nat} {a e : z_X} (h : PQ B n r k dep p a (.inr (e, q))) (hk : lpK k = false) (hp : p ≤ n) : p < q ∧ q ≤ n := by
  have h : q ≤ n ∧ (if lpK k = true then p ≤ q else p < q) := h.1 hp
  rw [hk, if_neg (by decide)] at h
  exact ⟨h.2, h.1⟩
theorem PQ.gd {k dep p q : Nat} {a e : z_X} (h : PQ B n r k dep p a (.inr (e, q))) (hk : lpK k = false) (hp : p ≤ n) (hd : dep ≤ 8) : good B n r k dep p 0 0 e q := by
  have h := h.2 hp hd (fun z => by rw [hk] at z; cases z) e q rfl
  rw [hk, if_neg (by decide), if_neg (by decide)] at h
  exact h
theorem cmp_un : ∀ j, j < 6 → un (28 + j - 18) = false := by decide
theorem stK_35 {c : Nat} (h : stK 3 c) : stK 5 c := by unfold stK at *; omega
theorem stK_0 {c : Nat} : stK 0 c := by unfold stK; omega
theorem fr_n {p : Nat} : p ≤ n → frT B n p ≤ n := fr_le
theorem pq_num {dep p : Nat} {a : z_X} (h : tkC B n p = 27) : PQ B n r 0 dep p a (if tkV B n p ≤ 9999 then .inr (.leaf (0, tkV B n p), nxT B n p) else .inl (2, frT B n p)) := by
  split
  · rename_i hv
    have g := fun hp : p ≤ n => nx_gt (B := B) hp (by omega)
    refine pq_r rfl (fun hp => ⟨(g hp).1, nx_le hp⟩) (fun hp hd => ⟨?_, ?_, ?_, ?_, stK_0⟩)
    · show (if (0 = 0 ∧ tkV B n p ≤ 9999) ∨ _ then 1 else 0) = 1
      rw [if_pos (Or.inl ⟨rfl, hv⟩)]
    · show 1 + 5 * dep ≤ 41 + 0
      omega
    · show 1 + p ≤ 0 + nxT B n p
      have := g hp
      omega
    · show 1 + p ≤ 0 + nxT B n p
      have := g hp
      omega
  · exact pq_c (by decide) (by decide) (fun hp => fr_le hp)
theorem pq_name {dep p : Nat} {a : z_X} (h : 8 ≤ tkC B n p) (h2 : tkC B n p ≤ 17) : PQ B n r 0 dep p a (if nmO r (tkC B n p) = true then .inr (.leaf (1, tkC B n p - 8), nxT B n p) else .inl (5, frT B n p)) := by
  split
  · rename_i hv
    have g := fun hp : p ≤ n => nx_gt (B := B) hp (by omega)
    refine pq_r rfl (fun hp => ⟨(g hp).1, nx_le hp⟩) (fun hp hd => ⟨?_, ?_, ?_, ?_, stK_0⟩)
    · have hx : 4 ≤ tkC B n p - 8 → (tkC B n p - 8 < 7 ↔ r = true) := fun h4 => by
        unfold nmO at hv
        rw [decide_eq_false (by omega), Bool.false_or, beq_iff_eq] at hv
        rw [← hv, decide_eq_true_eq]
        all_goals omega
      show (if (1 = 0 ∧ tkC B n p - 8 ≤ 9999) ∨ (1 = 1 ∧ tkC B n p - 8 < 10 ∧ (4 ≤ tkC B n p - 8 → (tkC B n p - 8 < 7 ↔ r = true))) then 1 else 0) = 1
      rw [if_pos (Or.inr ⟨rfl, by omega, hx⟩)]
    · show 1 + 5 * dep ≤ 41 + 0
      omega
    · show 1 + p ≤ 0 + nxT B n p
      have := g hp
      omega
    · show 1 + p ≤ 0 + nxT B n p
      have := g hp
      omega
  · exact pq_c (by decide) (by decide) (fun hp => fr_le hp)
theorem pq_ex {k dep p c q1 : Nat} {a e : z_X} (hk : lpK k = false) (hc : c ≠ 41) (h1 : p ≤ n → p ≤ q1 ∧ q1 ≤ n) (h2 : p ≤ n → dep ≤ 8 → tkC B n q1 = c → q1 < nxT B n q1 → good B n r k dep p 0 0 e (nxT B n q1)) : PQ B n r k dep p a (exT B n c e q1) := by
  unfold exT
  split
  · rename_i z
    refine pq_r hk (fun hp => ?_) (fun hp hd => h2 hp hd z (nx_gt (h1 hp).2 (by omega)).1)
    have := h1 hp
    have g := nx_gt (B := B) this.2 (by omega)
    exact ⟨by omega, nx_le this.2⟩
  · exact pq_c (by decide) (by decide) (fun hp => fr_le (h1 hp).2)
theorem pq_par (hM : ∀ k dep p e R, M k dep p e R → PQ B n r k dep p e R) {dep p : Nat} {a : z_X} {R R' : z_Rs} (h : tkC B n p = 38) (hd : dep < 8) (h3 : M 3 (dep + 1) (nxT B n p) zZ R) (hb : bnd R (fun e q S => S = exT B n 39 e q) R') : PQ B n r 0 dep p a R' := by
  have h3 := hM _ _ _ _ _ h3
  have g := fun hp : p ≤ n => nx_gt (B := B) hp (by omega)
  rcases bnd_in hb with ⟨f, rfl, rfl⟩ | ⟨e, q, rfl, rfl⟩
  · exact pq_l (fun hp => h3.fl (nx_le hp))
  · refine pq_ex rfl (by decide) (fun hp => ?_) (fun hp _ hc hg => ?_)
    · have := h3.st rfl (nx_le hp)
      have := g hp
      omega
    · obtain ⟨g1, g2, g3, g4, _⟩ := h3.gd rfl (nx_le hp) (by omega)
      have := g hp
      have e1 : lvK 3 = 2 := rfl
      have e2 : lvK 0 = 0 := rfl
      exact ⟨g1, by omega, by omega, by omega, stK_0⟩
theorem uo_un {c : Nat} (r : Bool) (e : z_X) (he : ty r e = 1) : un (uoR c) = true ∧ uoR c ≠ 30 ∧ uoR c ≠ 3 ∧ ty r (.branch (uoR c) e zZ) = 1 := by
  unfold uoR
  split
  · exact ⟨rfl, by decide, by decide, by show (if ty r e = 1 then 1 else 0) = 1; rw [if_pos he]⟩
  · split
    · exact ⟨rfl, by decide, by decide, by show (if ty r e = 1 then 1 else 0) = 1; rw [if_pos he]⟩
    · exact ⟨rfl, by decide, by decide, by show (if ty r e = 1 then 1 else 0) = 1; rw [if_pos he]⟩
theorem pq_una (hM : ∀ k dep p e R, M k dep p e R → PQ B n r k dep p e R) {dep p : Nat} {a : z_X} {R R' : z_Rs} (h : tkC B n p = 18 ∨ tkC B n p = 19 ∨ tkC B n p = 35) (hd : dep < 8) (h3 : M 0 (dep + 1) (nxT B n p) zZ R) (hb : bnd R (fun e q S => S = .inr (.branch (uoR (tkC B n p)) e zZ, q)) R') : PQ B n r 0 dep p a R' := by
  have h3 := hM _ _ _ _ _ h3
  have g := fun hp : p ≤ n => nx_gt (B := B) hp (by omega)
  rcases bnd_in hb with ⟨f, rfl, rfl⟩ | ⟨e, q, rfl, rfl⟩
  · exact pq_l (fun hp => h3.fl (nx_le hp))
  · refine pq_r rfl (fun hp => ?_) (fun hp _ => ?_)
    · have := h3.st rfl (nx_le hp)
      have := g hp
      omega
    · obtain ⟨g1, g2, g3, g4, _⟩ := h3.gd rfl (nx_le hp) (by omega)
      have := g hp
      have u := uo_un (c := tkC B n p) r e g1
      have s := sz_u (a := e) (b := zZ) u.1 u.2.1 u.2.2.1
      refine ⟨u.2.2.2, by omega, by omega, by omega, stK_0⟩
theorem pq_if (hM : ∀ k dep p e R, M k dep p e R → PQ B n r k dep p e R) {dep p : Nat} {a : z_X} {R R' : z_Rs} (h : tkC B n p = 20) (hd : dep < 8) (h3 : M 8 (dep + 1) (nxT B n p) zZ R) (hb : bnd R (ifT B n M dep) R') : PQ B n r 0 dep p a R' := by
  have h3 := hM _ _ _ _ _ h3
  have g := fun hp : p ≤ n => nx_gt (B := B) hp (by omega)
  rcases bnd_in hb with ⟨f, rfl, rfl⟩ | ⟨c, p1, rfl, hb1⟩
  · exact pq_l (fun hp => h3.fl (nx_le hp))
  have s1 := fun hp : p ≤ n => h3.st rfl (nx_le hp)
  unfold ifT at hb1
  split at hb1
  · rename_i t1
    obtain ⟨R2, h4, hb2⟩ := hb1
    have h4 := hM _ _ _ _ _ h4
    have g1 := fun hp : p ≤ n => nx_gt (B := B) (s1 hp).2 (by omega)
    have n1 := fun hp : p ≤ n => nx_le (B := B) (s1 hp).2
    rcases bnd_in hb2 with ⟨f, rfl, rfl⟩ | ⟨x, p2, rfl, hb3⟩
    · exact pq_l (fun hp => h4.fl (n1 hp))
    have s2 := fun hp : p ≤ n => h4.st rfl (n1 hp)
    split at hb3
    · rename_i t2
      obtain ⟨R3, h5, hb4⟩ := hb3
      have h5 := hM _ _ _ _ _ h5
      have g2 := fun hp : p ≤ n => nx_gt (B := B) (s2 hp).2 (by omega)
      have n2 := fun hp : p ≤ n => nx_le (B := B) (s2 hp).2
      rcases bnd_in hb4 with ⟨f, rfl, rfl⟩ | ⟨y, p3, rfl, rfl⟩
      · exact pq_l (fun hp => h5.fl (n2 hp))
      refine pq_ex rfl (by decide) (fun hp => ?_) (fun hp _ _ g3 => ?_)
      · have := h5.st rfl (n2 hp)
        have := g hp
        have := s1 hp
        have := g1 hp
        have := s2 hp
        have := g2 hp
        omega
      · obtain ⟨c1, c2, c3, c4, _⟩ := h3.gd rfl (nx_le hp) (by omega)
        obtain ⟨x1, x2, x3, x4, _⟩ := h4.gd rfl (n1 hp) (by omega)
        obtain ⟨y1, y2, y3, y4, _⟩ := h5.gd rfl (n2 hp) (by omega)
        have := g hp
        have := g1 hp
        have := g2 hp
        have e1 : lvK 8 = 5 := rfl
        have e2 : lvK 3 = 2 := rfl
        have e3 : lvK 0 = 0 := rfl
        refine ⟨?_, ?_, ?_, ?_, stK_0⟩
        · have t30 : ty r (.branch 30 x y) = 3 := by
            show (if ty r x = 1 ∧ ty r y = 1 then 3 else 0) = 3
            rw [if_pos ⟨x1, y1⟩]
          show (if ty r c = 2 ∧ ty r (.branch 30 x y) = 3 then 1 else 0) = 1
          rw [if_pos ⟨c1, t30⟩]
        · show max (sk c) (max (sk x) (sk y)) + 5 * dep ≤ 41 + 0
          omega
        · show lC c + (lC x + lC y + 1) + 1 + p ≤ 0 + nxT B n p3
          omega
        · show lR c + (lR x + lR y) + 1 + p ≤ 0 + nxT B n p3
          omega
    · subst hb3
      exact pq_c (by decide) (by decide) (fun hp => fr_le (s2 hp).2)
  · subst hb1
    exact pq_c (by decide) (by decide) (fun hp => fr_le (s1 hp).2)
theorem pq_not (hM : ∀ k dep p e R, M k dep p e R → PQ B n r k dep p e R) {dep p : Nat} {a : z_X} {R R' : z_Rs} (h : tkC B n p = 26) (hd : dep < 8) (h3 : M 5 (dep + 1) (nxT B n p) zZ R) (hb : bnd R (fun e q S => S = .inr (.branch 20 e zZ, q)) R') : PQ B n r 5 dep p a R' := by
  have h3 := hM _ _ _ _ _ h3
  have g := fun hp : p ≤ n => nx_gt (B := B) hp (by omega)
  rcases bnd_in hb with ⟨f, rfl, rfl⟩ | ⟨e, q, rfl, rfl⟩
  · exact pq_l (fun hp => h3.fl (nx_le hp))
  · refine pq_r rfl (fun hp => ?_) (fun hp _ => ?_)
    · have := h3.st rfl (nx_le hp)
      have := g hp
      omega
    · obtain ⟨g1, g2, g3, g4, g5⟩ := h3.gd rfl (nx_le hp) (by omega)
      have := g hp
      have s := sz_u (o := 20) (a := e) (b := zZ) rfl (by decide) (by decide)
      refine ⟨by show (if ty r e = 2 then 2 else 0) = 2; rw [if_pos (show ty r e = 2 from g1)], by omega, by omega, by omega, g5⟩
theorem pq_ask (hM : ∀ k dep p e R, M k dep p e R → PQ B n r k dep p e R) {dep p : Nat} {a : z_X} {R R' : z_Rs} (h3 : M 3 dep p zZ R) (hb : bnd R (akT B n M dep) R') : PQ B n r 5 dep p a R' := by
  have h3 := hM _ _ _ _ _ h3
  rcases bnd_in hb with ⟨f, rfl, rfl⟩ | ⟨x, p1, rfl, hb1⟩
  · exact pq_l (fun hp => h3.fl hp)
  have s1 := fun hp : p ≤ n => h3.st rfl hp
  unfold akT at hb1
  split at hb1
  · rename_i t1
    obtain ⟨R2, h4, hb2⟩ := hb1
    have h4 := hM _ _ _ _ _ h4
    have g1 := fun hp : p ≤ n => nx_gt (B := B) (s1 hp).2 (by omega)
    have n1 := fun hp : p ≤ n => nx_le (B := B) (s1 hp).2
    rcases bnd_in hb2 with ⟨f, rfl, rfl⟩ | ⟨y, p2, rfl, rfl⟩
    · exact pq_l (fun hp => h4.fl (n1 hp))
    refine pq_r rfl (fun hp => ?_) (fun hp hd => ?_)
    · have := h4.st rfl (n1 hp)
      have := s1 hp
      have := g1 hp
      omega
    · obtain ⟨x1, x2, x3, x4, _⟩ := h3.gd rfl hp hd
      obtain ⟨y1, y2, y3, y4, y5⟩ := h4.gd rfl (n1 hp) hd
      have := g1 hp
      have e2 : lvK 3 = 2 := rfl
      have e3 : lvK 5 = 3 := rfl
      have hun : un (tkC B n p1 - 18) = false := by
        obtain ⟨a1, a2⟩ := t1
        generalize tkC B n p1 = c at a1 a2
        obtain ⟨j, rfl⟩ : ∃ j, c = 28 + j := ⟨c - 28, by omega⟩
        exact cmp_un j (by omega)
      have s := sz_b (a := x) (b := y) hun (by omega) (by omega)
      refine ⟨?_, by omega, by omega, by omega, stK_35 y5⟩
      simp only [ty]
      rw [if_neg (by omega), if_neg (by omega), if_neg (by omega), if_neg (by omega), if_neg (by omega), if_pos (by omega), if_pos ⟨x1, y1⟩]
      rfl
  · subst hb1
    exact pq_c (by decide) (by decide) (fun hp => fr_le (s1 hp).2)
theorem pq_4 (hM : ∀ k dep p e R, M k dep p e R → PQ B n r k dep p e R) {k kin c1 c2 : Nat} (hk : LK r k kin c1 c2) {dep p : Nat} {e : z_X} {R R' : z_Rs} (h : tkC B n p = c1 ∨ tkC B n p = c2) (h3 : M kin dep (nxT B n p) zZ R) (hb : bnd R (fun e2 q S => M k dep q (.branch (foR (tkC B n p)) e e2) S) R') : PQ B n r k dep p e R' := by
  obtain ⟨k1, k2, k3, k4, k5, k6, k7, k8, k9, k10, k11, k12, k13⟩ := hk
  have h3 := hM _ _ _ _ _ h3
  have g := fun hp : p ≤ n => nx_gt (B := B) hp (by omega)
  rcases bnd_in hb with ⟨f, rfl, rfl⟩ | ⟨e2, q, rfl, hb1⟩
  · exact pq_l (fun hp => h3.fl (nx_le hp))
  have hb := hM _ _ _ _ _ hb1
  have s1 := fun hp : p ≤ n => h3.st k2 (nx_le hp)
  obtain ⟨u1, u2, u3, u4⟩ := k13 _ h
  have s := sz_b (a := e) (b := e2) u1 u2 u3
  cases R' with
  | inl f => exact pq_l (fun hp => hb.fl (s1 hp).2)
  | inr x =>
    obtain ⟨e', q'⟩ := x
    refine ⟨fun hp => ?_, fun hp hd hpre e'' q'' z => ?_⟩
    · have h : q' ≤ n ∧ (if lpK k = true then q ≤ q' else q < q') := hb.1 (s1 hp).2
      show q' ≤ n ∧ (if lpK k = true then p ≤ q' else p < q')
      rw [k1, if_pos rfl] at h ⊢
      have := s1 hp
      have := g hp
      exact ⟨h.1, by omega⟩
    · cases z
      obtain ⟨b1, b2, b3⟩ := hpre k1
      obtain ⟨y1, y2, y3, y4, y5⟩ := h3.gd k2 (nx_le hp) hd
      have h := hb.2 (s1 hp).2 hd (fun _ => ⟨u4 _ _ b1 (y1.trans k4), by omega, k8 _ y5⟩) e' q' rfl
      rw [k1, if_pos rfl, if_pos rfl] at h ⊢
      obtain ⟨z1, z2, z3, z4, z5⟩ := h
      have := g hp
      exact ⟨z1, z2, by omega, by omega, z5⟩
theorem pq_4e {k kin c1 c2 : Nat} (hk : LK r k kin c1 c2) {dep p : Nat} {e : z_X} (h : ¬ (tkC B n p = c1 ∨ tkC B n p = c2)) : PQ B n r k dep p e (.inr (e, p)) := by
  obtain ⟨k1, k2, k3, k4, k5, k6, k7, k8, k9, k10, k11, k12, k13⟩ := hk
  refine ⟨fun hp => ?_, fun hp hd hpre e'' q'' z => ?_⟩
  · show p ≤ n ∧ (if lpK k = true then p ≤ p else p < p)
    rw [k1, if_pos rfl]
    exact ⟨hp, Nat.le_refl _⟩
  · cases z
    obtain ⟨b1, b2, b3⟩ := hpre k1
    rw [k1, if_pos rfl, if_pos rfl]
    exact ⟨b1, b2, Nat.le_refl _, Nat.le_refl _, k9 _ b3 h⟩
theorem pq_4h (hM : ∀ k dep p e R, M k dep p e R → PQ B n r k dep p e R) {k kin c1 c2 : Nat} (hk : LK r k kin c1 c2) {dep p : Nat} {a : z_X} {R R' : z_Rs} (h3 : M kin dep p zZ R) (hb : bnd R (fun e q S => M k dep q e S) R') : PQ B n r (k - 1) dep p a R' := by
  obtain ⟨k1, k2, k3, k4, k5, k6, k7, k8, k9, k10, k11, k12, k13⟩ := hk
  have h3 := hM _ _ _ _ _ h3
  rcases bnd_in hb with ⟨f, rfl, rfl⟩ | ⟨e, q, rfl, hb1⟩
  · exact pq_l (fun hp => h3.fl hp)
  have hb := hM _ _ _ _ _ hb1
  have s1 := fun hp : p ≤ n => h3.st k2 hp
  cases R' with
  | inl f => exact pq_l (fun hp => hb.fl (s1 hp).2)
  | inr x =>
    obtain ⟨e', q'⟩ := x
    refine pq_r k3 (fun hp => ?_) (fun hp hd => ?_)
    · have h : q' ≤ n ∧ (if lpK k = true then q ≤ q' else q < q') := hb.1 (s1 hp).2
      rw [k1, if_pos rfl] at h
      have := s1 hp
      exact ⟨by omega, h.1⟩
    · obtain ⟨y1, y2, y3, y4, y5⟩ := h3.gd k2 hp hd
      have h := hb.2 (s1 hp).2 hd (fun _ => ⟨y1.trans k4, by omega, k8 _ y5⟩) e' q' rfl
      rw [k1, if_pos rfl, if_pos rfl] at h
      obtain ⟨z1, z2, z3, z4, z5⟩ := h
      exact ⟨z1.trans k5.symm, by omega, by omega, by omega, k10 _ z5⟩
end PS1
