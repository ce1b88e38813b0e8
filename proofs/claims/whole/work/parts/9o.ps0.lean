/-! sums and asks of a text: the rules that both sides' readers keep, and that some answer always is -/
abbrev z_Rs : Type := (Nat × Nat) ⊕ (z_X × Nat)
abbrev z_M : Type := Nat → Nat → Nat → z_X → z_Rs → Prop
def zZ : z_X := .leaf (0, 0)
def bnd (R : z_Rs) (K : z_X → Nat → z_Rs → Prop) (R' : z_Rs) : Prop := match R with
  | .inl f => R' = .inl f
  | .inr x => K x.1 x.2 R'
def opR (c : Nat) : Bool := c == 38 || (c == 18 || (c == 19 || (c == 20 || c == 35)))
def uoR (c : Nat) : Nat := if c = 18 then 2 else if c = 19 then 4 else 5
def foR (c : Nat) : Nat := if c = 25 then 21 else if c = 24 then 22 else c - 28
def nmO (r : Bool) (c : Nat) : Bool := decide (c < 12) || (decide (c < 15) == r)
def exT (B : Nat → Nat) (n c : Nat) (e : z_X) (q : Nat) : z_Rs := if tkC B n q = c then .inr (e, nxT B n q) else .inl (1, frT B n q)
def PL4 (B : Nat → Nat) (n : Nat) (M : z_M) (k kin c1 c2 : Nat) : Prop :=
  (∀ dep p e R R', (tkC B n p = c1 ∨ tkC B n p = c2) → M kin dep (nxT B n p) zZ R → bnd R (fun e2 q S => M k dep q (.branch (foR (tkC B n p)) e e2) S) R' → M k dep p e R') ∧
  (∀ dep p e, ¬ (tkC B n p = c1 ∨ tkC B n p = c2) → M k dep p e (.inr (e, p))) ∧
  (∀ dep p a R R', M kin dep p zZ R → bnd R (fun e q S => M k dep q e S) R' → M (k - 1) dep p a R')
def PC1 (B : Nat → Nat) (n : Nat) (r : Bool) (M : z_M) : Prop :=
  (∀ dep p a, tkC B n p = 27 → M 0 dep p a (if tkV B n p ≤ 9999 then .inr (.leaf (0, tkV B n p), nxT B n p) else .inl (2, frT B n p))) ∧
  (∀ dep p a, 8 ≤ tkC B n p → tkC B n p ≤ 17 → M 0 dep p a (if nmO r (tkC B n p) = true then .inr (.leaf (1, tkC B n p - 8), nxT B n p) else .inl (5, frT B n p))) ∧
  (∀ dep p a, opR (tkC B n p) = true → 8 ≤ dep → M 0 dep p a (.inl (3, frT B n p))) ∧
  (∀ dep p a R R', tkC B n p = 38 → dep < 8 → M 3 (dep + 1) (nxT B n p) zZ R → bnd R (fun e q S => S = exT B n 39 e q) R' → M 0 dep p a R') ∧
  (∀ dep p a R R', (tkC B n p = 18 ∨ tkC B n p = 19 ∨ tkC B n p = 35) → dep < 8 → M 0 (dep + 1) (nxT B n p) zZ R → bnd R (fun e q S => S = .inr (.branch (uoR (tkC B n p)) e zZ, q)) R' → M 0 dep p a R') ∧
  (∀ dep p a, ¬ tkC B n p = 27 → ¬ (8 ≤ tkC B n p ∧ tkC B n p ≤ 17) → opR (tkC B n p) = false → M 0 dep p a (.inl (1, frT B n p)))
/-- an if, from behind its word on -/
def ifT (B : Nat → Nat) (n : Nat) (M : z_M) (dep : Nat) (c : z_X) (p1 : Nat) (S : z_Rs) : Prop := if tkC B n p1 = 21 then ∃ R2, M 3 (dep + 1) (nxT B n p1) zZ R2 ∧ bnd R2 (fun x p2 S => if tkC B n p2 = 22 then ∃ R3, M 3 (dep + 1) (nxT B n p2) zZ R3 ∧ bnd R3 (fun y p3 S => S = exT B n 23 (.branch 3 c (.branch 30 x y)) p3) S else S = .inl (1, frT B n p2)) S else S = .inl (1, frT B n p1)
/-- an ask of two sums, from its sign on -/
def akT (B : Nat → Nat) (n : Nat) (M : z_M) (dep : Nat) (x : z_X) (p1 : Nat) (S : z_Rs) : Prop := if 28 ≤ tkC B n p1 ∧ tkC B n p1 ≤ 33 then ∃ R2, M 3 dep (nxT B n p1) zZ R2 ∧ bnd R2 (fun y p2 S => S = .inr (.branch (tkC B n p1 - 18) x y, p2)) S else S = .inl (1, frT B n p1)
def PC2 (B : Nat → Nat) (n : Nat) (M : z_M) : Prop :=
  (∀ dep p a R R', tkC B n p = 20 → dep < 8 → M 8 (dep + 1) (nxT B n p) zZ R → bnd R (ifT B n M dep) R' → M 0 dep p a R') ∧
  (∀ dep p a, tkC B n p = 26 → 8 ≤ dep → M 5 dep p a (.inl (3, frT B n p))) ∧
  (∀ dep p a R R', tkC B n p = 26 → dep < 8 → M 5 (dep + 1) (nxT B n p) zZ R → bnd R (fun e q S => S = .inr (.branch 20 e zZ, q)) R' → M 5 dep p a R') ∧
  (∀ dep p a R R', ¬ tkC B n p = 26 → M 3 dep p zZ R → bnd R (akT B n M dep) R' → M 5 dep p a R')
def PC (B : Nat → Nat) (n : Nat) (r : Bool) (M : z_M) : Prop := PC1 B n r M ∧ PC2 B n M ∧ PL4 B n M 2 0 36 37 ∧ PL4 B n M 4 1 34 35 ∧ PL4 B n M 7 5 25 25 ∧ PL4 B n M 9 6 24 24
def lpK (k : Nat) : Bool := k == 2 || (k == 4 || (k == 7 || k == 9))
def Pg (n : Nat) : z_M := fun k _ p _ R => p ≤ n → match R with
  | .inl f => 1 ≤ f.1 ∧ f.1 ≤ 5 ∧ f.2 ≤ n
  | .inr x => x.2 ≤ n ∧ (if lpK k = true then p ≤ x.2 else p < x.2)
section PS0
variable {B : Nat → Nat} {n : Nat} {r : Bool} {M : z_M}
theorem bnd_ex {R : z_Rs} {K : z_X → Nat → z_Rs → Prop} (h : ∀ e q, R = .inr (e, q) → ∃ S, K e q S) : ∃ R', bnd R K R' := by
  cases R with
  | inl f => exact ⟨.inl f, rfl⟩
  | inr x => exact h x.1 x.2 rfl
theorem tot4 {p k kin c1 c2 : Nat} (hM : ∀ k dep p e R, M k dep p e R → Pg n k dep p e R) (hp : p ≤ n) (h4 : PL4 B n M k kin c1 c2) (hc : c1 ≠ 41 ∧ c2 ≠ 41) (hkin : lpK kin = false) (hk : kin < 10 ∧ k < 10) (ih : ∀ q, p < q → q ≤ n → ∀ k, k < 10 → ∀ dep e, ∃ R, M k dep q e R) (h0 : ∀ dep, ∃ R, M kin dep p zZ R) : (∀ dep e, ∃ R, M k dep p e R) ∧ ∀ dep a, ∃ R, M (k - 1) dep p a R := by
  have st : ∀ q dep R, M kin dep q zZ R → q ≤ n → ∀ (e0 : z_X) (p0 : Nat), R = .inr (e0, p0) → q < p0 ∧ p0 ≤ n := fun q dep R h hq e0 p0 e => by
    have := hM _ _ _ _ _ h hq
    rw [e] at this
    simp only at this
    rw [hkin, if_neg (by decide)] at this
    exact ⟨this.2, this.1⟩
  have lp : ∀ dep e, ∃ R, M k dep p e R := fun dep e => by
    by_cases z : tkC B n p = c1 ∨ tkC B n p = c2
    · have h41 : tkC B n p ≠ 41 := by
        rcases z with z | z <;> rw [z]
        · exact hc.1
        · exact hc.2
      have hx := nx_gt hp h41
      have hx2 := nx_le (B := B) hp
      obtain ⟨R, hR⟩ := ih _ hx.1 hx2 kin hk.1 dep zZ
      obtain ⟨R', hR'⟩ := bnd_ex (K := fun e2 q S => M k dep q (.branch (foR (tkC B n p)) e e2) S) (fun e' p' e' => by
        have := st _ _ _ hR hx2 _ _ e'
        exact ih _ (by omega) this.2 k hk.2 dep _)
      exact ⟨R', h4.1 dep p e R R' z hR hR'⟩
    · exact ⟨_, h4.2.1 dep p e z⟩
  refine ⟨lp, fun dep a => ?_⟩
  obtain ⟨R, hR⟩ := h0 dep
  obtain ⟨R', hR'⟩ := bnd_ex (K := fun e q S => M k dep q e S) (fun e' p' e' => by
    have := st _ _ _ hR hp _ _ e'
    exact ih _ this.1 this.2 k hk.2 dep _)
  exact ⟨R', h4.2.2 dep p a R R' hR hR'⟩
theorem totP (hM : ∀ k dep p e R, M k dep p e R → Pg n k dep p e R) (h : PC B n r M) : ∀ m p, n - p < m → p ≤ n → ∀ k, k < 10 → ∀ dep e, ∃ R, M k dep p e R := by
  obtain ⟨⟨r1, r2, r3, r4, r5, r7⟩, ⟨r6, a1, a2, a3⟩, l2, l4, l7, l9⟩ := h
  intro m
  induction m with
  | zero => exact fun p h => absurd h (Nat.not_lt_zero _)
  | succ m IH =>
    intro p hm hp
    have ih : ∀ q, p < q → q ≤ n → ∀ k, k < 10 → ∀ dep e, ∃ R, M k dep q e R := fun q h1 h2 => IH q (by omega) h2
    have hx2 := nx_le (B := B) hp
    have hx : tkC B n p ≠ 41 → p < nxT B n p := fun z => (nx_gt hp z).1
    have st : ∀ {k q dep R}, lpK k = false → M k dep q zZ R → q ≤ n → ∀ e' p', R = .inr (e', p') → q < p' ∧ p' ≤ n := fun {k q dep R} hk h hq e' p' e => by
      have := hM _ _ _ _ _ h hq
      rw [e] at this
      simp only at this
      rw [hk, if_neg (by decide)] at this
      exact ⟨this.2, this.1⟩
    have h0 : ∀ dep a, ∃ R, M 0 dep p a R := fun dep a => by
      by_cases z : tkC B n p = 27
      · exact ⟨_, r1 dep p a z⟩
      by_cases z2 : 8 ≤ tkC B n p ∧ tkC B n p ≤ 17
      · exact ⟨_, r2 dep p a z2.1 z2.2⟩
      cases z3 : opR (tkC B n p) with
      | false => exact ⟨_, r7 dep p a z z2 z3⟩
      | true =>
        by_cases z4 : 8 ≤ dep
        · exact ⟨_, r3 dep p a z3 z4⟩
        have z5 := z3
        unfold opR at z5
        simp only [Bool.or_eq_true, beq_iff_eq] at z5
        have h41 := hx (by omega)
        by_cases q38 : tkC B n p = 38
        · obtain ⟨R, hR⟩ := ih _ h41 hx2 3 (by decide) (dep + 1) zZ
          obtain ⟨R', hR'⟩ := bnd_ex (R := R) (K := fun e q S => S = exT B n 39 e q) (fun e' p' _ => ⟨_, rfl⟩)
          exact ⟨R', r4 dep p a R R' q38 (by omega) hR hR'⟩
        by_cases q20 : tkC B n p = 20
        · obtain ⟨R, hR⟩ := ih _ h41 hx2 8 (by decide) (dep + 1) zZ
          obtain ⟨R', hR'⟩ := bnd_ex (R := R) (K := ifT B n M dep) (fun c p1 e1 => by
            have s1 := st rfl hR hx2 _ _ e1
            unfold ifT
            by_cases y : tkC B n p1 = 21
            · simp only [if_pos y]
              have g1 := nx_gt (B := B) (p := p1) s1.2 (by omega)
              have g2 := nx_le (B := B) (p := p1) s1.2
              obtain ⟨R2, hR2⟩ := ih _ (show p < nxT B n p1 by omega) g2 3 (by decide) (dep + 1) zZ
              obtain ⟨S, hS⟩ := bnd_ex (R := R2) (K := fun x p2 S => if tkC B n p2 = 22 then ∃ R3, M 3 (dep + 1) (nxT B n p2) zZ R3 ∧ bnd R3 (fun y p3 S => S = exT B n 23 (.branch 3 c (.branch 30 x y)) p3) S else S = .inl (1, frT B n p2)) (fun x p2 e2 => by
                have s2 := st rfl hR2 g2 _ _ e2
                by_cases y2 : tkC B n p2 = 22
                · have g3 := nx_gt (B := B) (p := p2) s2.2 (by omega)
                  have g4 := nx_le (B := B) (p := p2) s2.2
                  obtain ⟨R3, hR3⟩ := ih _ (show p < nxT B n p2 by omega) g4 3 (by decide) (dep + 1) zZ
                  obtain ⟨S, hS⟩ := bnd_ex (R := R3) (K := fun y p3 S => S = exT B n 23 (.branch 3 c (.branch 30 x y)) p3) (fun _ _ _ => ⟨_, rfl⟩)
                  refine ⟨S, ?_⟩
                  rw [if_pos y2]
                  exact ⟨R3, hR3, hS⟩
                · refine ⟨.inl (1, frT B n p2), ?_⟩
                  rw [if_neg y2])
              exact ⟨S, R2, hR2, hS⟩
            · simp only [if_neg y]
              exact ⟨_, rfl⟩)
          exact ⟨R', r6 dep p a R R' q20 (by omega) hR hR'⟩
        · obtain ⟨R, hR⟩ := ih _ h41 hx2 0 (by decide) (dep + 1) zZ
          obtain ⟨R', hR'⟩ := bnd_ex (R := R) (K := fun e q S => S = .inr (.branch (uoR (tkC B n p)) e zZ, q)) (fun e' p' _ => ⟨_, rfl⟩)
          exact ⟨R', r5 dep p a R R' (by omega) (by omega) hR hR'⟩
    have t2 := tot4 hM hp l2 (by decide) rfl (by decide) ih (fun dep => h0 dep zZ)
    have t4 := tot4 hM hp l4 (by decide) rfl (by decide) ih (fun dep => t2.2 dep zZ)
    have h5 : ∀ dep a, ∃ R, M 5 dep p a R := fun dep a => by
      by_cases z : tkC B n p = 26
      · by_cases z4 : 8 ≤ dep
        · exact ⟨_, a1 dep p a z z4⟩
        · obtain ⟨R, hR⟩ := ih _ (hx (by omega)) hx2 5 (by decide) (dep + 1) zZ
          obtain ⟨R', hR'⟩ := bnd_ex (R := R) (K := fun e q S => S = .inr (.branch 20 e zZ, q)) (fun e' p' _ => ⟨_, rfl⟩)
          exact ⟨R', a2 dep p a R R' z (by omega) hR hR'⟩
      · obtain ⟨R, hR⟩ := t4.2 dep zZ
        obtain ⟨R', hR'⟩ := bnd_ex (R := R) (K := akT B n M dep) (fun x p1 e1 => by
          have s1 := st rfl hR hp _ _ e1
          unfold akT
          by_cases y : 28 ≤ tkC B n p1 ∧ tkC B n p1 ≤ 33
          · simp only [if_pos y]
            have g1 := nx_gt (B := B) (p := p1) s1.2 (by omega)
            have g2 := nx_le (B := B) (p := p1) s1.2
            obtain ⟨R2, hR2⟩ := ih _ (show p < nxT B n p1 by omega) g2 3 (by decide) dep zZ
            obtain ⟨S, hS⟩ := bnd_ex (R := R2) (K := fun y p2 S => S = .inr (.branch (tkC B n p1 - 18) x y, p2)) (fun _ _ _ => ⟨_, rfl⟩)
            exact ⟨S, R2, hR2, hS⟩
          · simp only [if_neg y]
            exact ⟨_, rfl⟩)
        exact ⟨R', a3 dep p a R R' z hR hR'⟩
    have t7 := tot4 hM hp l7 (by decide) rfl (by decide) ih (fun dep => h5 dep zZ)
    have t9 := tot4 hM hp l9 (by decide) rfl (by decide) ih (fun dep => t7.2 dep zZ)
    intro k hk
    match k, hk with
    | 0, _ => exact h0
    | 1, _ => exact t2.2
    | 2, _ => exact t2.1
    | 3, _ => exact t4.2
    | 4, _ => exact t4.1
    | 5, _ => exact h5
    | 6, _ => exact t7.2
    | 7, _ => exact t7.1
    | 8, _ => exact t9.2
    | 9, _ => exact t9.1
    | k + 10, h => omega
end PS0
