/-! A RIDE: walks by open lines, their fares and how many lines they go by -/
def del (s z : Nat) : Nat := s ^^^ (s &&& 2 ^ z)
theorem del_bit (s z i : Nat) : (del s z).testBit i = (s.testBit i && !decide (z = i)) := by
  unfold del
  rw [andn_bit, Nat.testBit_two_pow]
def wk (N : z_N) (nu : Nat → Nat) (b s : Nat) : Nat → Nat → Nat → Prop
  | 0, x, F => s.testBit x = true ∧ x = b ∧ F = 0
  | n + 1, x, F => s.testBit x = true ∧ ∃ y G, nAdj N x y = true ∧ wk N nu b s n y G ∧ F = G + dst (nu x) (nu y)
theorem wk_bit {N : z_N} {nu : Nat → Nat} {b s : Nat} : ∀ {n x F : Nat}, wk N nu b s n x F → s.testBit x = true
  | 0, _, _, h => h.1
  | _ + 1, _, _, h => h.1
theorem wk_mono {N : z_N} {nu : Nat → Nat} {b s t : Nat} (hs : ∀ i, s.testBit i = true → t.testBit i = true) : ∀ {n x F : Nat}, wk N nu b s n x F → wk N nu b t n x F
  | 0, _, _, h => ⟨hs _ h.1, h.2⟩
  | _ + 1, _, _, ⟨h, y, G, h1, h2, h3⟩ => ⟨hs _ h, y, G, h1, wk_mono hs h2, h3⟩
theorem wk_cut {N : z_N} {nu : Nat → Nat} {b s z : Nat} : ∀ {n x F : Nat}, wk N nu b s n x F → wk N nu b (del s z) n x F ∨ z = b ∨ ∃ n' y G, nAdj N z y = true ∧ wk N nu b (del s z) n' y G ∧ n' + 1 ≤ n ∧ G + dst (nu z) (nu y) ≤ F
  | 0, x, F, ⟨h1, h2, h3⟩ => by
    by_cases e : z = x
    · exact Or.inr (Or.inl (by rw [e, h2]))
    · exact Or.inl ⟨by rw [del_bit, h1, decide_eq_false e]; rfl, h2, h3⟩
  | n + 1, x, F, ⟨h, y, G, h1, h2, h3⟩ => by
    rcases wk_cut (z := z) h2 with q | q | ⟨n', y', G', q1, q2, q3, q4⟩
    · by_cases e : z = x
      · subst e
        exact Or.inr (Or.inr ⟨n, y, G, h1, q, Nat.le_refl _, by omega⟩)
      · exact Or.inl ⟨by rw [del_bit, h, decide_eq_false e]; rfl, y, G, h1, q, h3⟩
    · exact Or.inr (Or.inl q)
    · exact Or.inr (Or.inr ⟨n', y', G', q1, q2, by omega, by omega⟩)
theorem wk_short {N : z_N} {nu : Nat → Nat} {b : Nat} : ∀ (m s : Nat), (∀ i, s.testBit i = true → i < 7) → pc 7 s ≤ m → ∀ {n x F : Nat}, wk N nu b s n x F → ∃ n' F', wk N nu b s n' x F' ∧ n' ≤ n ∧ F' ≤ F ∧ n' + 1 ≤ m
  | m, s, hs, hm, n, x, F, h => by
    have hx := wk_bit h
    have hlt : pc 7 (del s x) < pc 7 s := pc_lt 7 (fun i _ q => by
      rw [del_bit] at q
      cases e : s.testBit i
      · rw [e] at q; cases q
      · rfl) ⟨x, hs x hx, by rw [del_bit, decide_eq_true rfl, hx]; rfl, hx⟩
    match m, hm with
    | 0, hm => omega
    | m + 1, hm =>
      rcases wk_cut (z := x) h with q | q | ⟨n', y, G, q1, q2, q3, q4⟩
      · have := wk_bit q
        rw [del_bit, decide_eq_true rfl, hx] at this
        cases this
      · exact ⟨0, 0, ⟨hx, q, rfl⟩, Nat.zero_le _, Nat.zero_le _, by omega⟩
      · have hsub : ∀ i, (del s x).testBit i = true → s.testBit i = true := fun i q => by
          rw [del_bit] at q
          cases e : s.testBit i
          · rw [e] at q; cases q
          · rfl
        obtain ⟨n2, F2, g1, g2, g3, g4⟩ := wk_short m (del s x) (fun i q => hs i (hsub i q)) (by omega) q2
        exact ⟨n2 + 1, F2 + dst (nu x) (nu y), ⟨hx, y, F2, q1, wk_mono hsub g1, rfl⟩, by omega, by omega, by omega⟩
theorem b127 {i : Nat} : (127 : Nat).testBit i = true ↔ i < 7 := by
  constructor
  · intro h
    refine Nat.not_le.mp (fun q => ?_)
    rw [Nat.testBit_lt_two_pow (Nat.lt_of_lt_of_le (by decide : 127 < 2 ^ 7) (Nat.pow_le_pow_right (by decide) q))] at h
    cases h
  · intro h
    exact (by decide : ∀ i, i < 7 → (127 : Nat).testBit i = true) i h
def wl (N : z_N) (nu : Nat → Nat) (b n x F : Nat) : Prop := wk N nu b 127 n x F
theorem wl_cut {N : z_N} {nu : Nat → Nat} {b n x F : Nat} (h : wl N nu b n x F) : ∃ n' F', wl N nu b n' x F' ∧ n' ≤ n ∧ F' ≤ F ∧ n' ≤ 6 := by
  obtain ⟨n', F', h1, h2, h3, h4⟩ := wk_short 7 127 (fun i q => b127.mp q) (pc_le 7 127) h
  exact ⟨n', F', h1, h2, h3, by omega⟩
theorem dst_99 {a b : Nat} (ha : a ≤ 99) (hb : b ≤ 99) : dst a b ≤ 99 := by
  unfold dst
  split <;> omega
theorem wl_bound {N : z_N} {nu : Nat → Nat} {b : Nat} (hu : ∀ h, h < 7 → nu h ≤ 99) : ∀ {n x F : Nat}, wl N nu b n x F → F ≤ 99 * n
  | 0, _, _, h => by rw [h.2.2]; exact Nat.le_refl _
  | n + 1, x, F, ⟨h, y, G, h1, h2, h3⟩ => by
    have ih := wl_bound hu (n := n) h2
    have := dst_99 (hu x (b127.mp h)) (hu y (b127.mp (wk_bit h2)))
    omega
/-- the least fares, and then the fewest lines, from x to b -/
def bst (N : z_N) (nu : Nat → Nat) (b x F n : Nat) : Prop := wl N nu b n x F ∧ n ≤ 6 ∧ ∀ n' F', wl N nu b n' x F' → F < F' ∨ (F = F' ∧ n ≤ n')
theorem bst.u {N : z_N} {nu : Nat → Nat} {b x F n F' n' : Nat} (h : bst N nu b x F n) (h' : bst N nu b x F' n') : F = F' ∧ n = n' := by
  have h1 := h.2.2 _ _ h'.1
  have h2 := h'.2.2 _ _ h.1
  omega
theorem bst_b {N : z_N} {nu : Nat → Nat} {b : Nat} (hb : b < 7) : bst N nu b b 0 0 := ⟨⟨b127.mpr hb, rfl, rfl⟩, by omega, fun n' F' _ => by omega⟩
def NOW : Nat := 1000000
/-- worths that are walks' -/
def Snd (N : z_N) (nu : Nat → Nat) (b w : Nat) (D : Nat → Nat) : Prop := ∀ x, x < 7 → D x ≤ 1000000 ∧ (D x < 1000000 → ∃ n F, wl N nu b n x F ∧ D x = w * F + n)
def Cmp (N : z_N) (nu : Nat → Nat) (b w r : Nat) (D : Nat → Nat) : Prop := ∀ n, n ≤ r → ∀ x F, wl N nu b n x F → D x ≤ w * F + n
def Dst (N : z_N) (nu : Nat → Nat) (b w : Nat) (D : Nat → Nat) : Prop := Snd N nu b w D ∧ Cmp N nu b w 6 D
theorem Dst.out {N : z_N} {nu : Nat → Nat} {b w : Nat} {D : Nat → Nat} (hw : w = 8 ∨ w = 10) (hu : ∀ h, h < 7 → nu h ≤ 99) (h : Dst N nu b w D) {x : Nat} (hx : x < 7) : (D x = 1000000 ∧ ∀ n F, ¬ wl N nu b n x F) ∨ ∃ F n, bst N nu b x F n ∧ D x = w * F + n ∧ D x < 1000000 := by
  obtain ⟨h1, h2⟩ := h.1 x hx
  by_cases e : D x < 1000000
  · obtain ⟨n, F, h3, h4⟩ := h2 e
    obtain ⟨n', F', g1, g2, g3, g4⟩ := wl_cut h3
    have h5 := h.2 n' g4 x F' g1
    refine Or.inr ⟨F', n', ⟨g1, g4, fun n2 F2 q => ?_⟩, ?_, e⟩
    · obtain ⟨n3, F3, k1, k2, k3, k4⟩ := wl_cut q
      have h6 := h.2 n3 k4 x F3 k1
      rcases hw with rfl | rfl <;> omega
    · rcases hw with rfl | rfl <;> omega
  · refine Or.inl ⟨by omega, fun n F q => ?_⟩
    obtain ⟨n', F', g1, g2, g3, g4⟩ := wl_cut q
    have h5 := h.2 n' g4 x F' g1
    have := wl_bound hu g1
    rcases hw with rfl | rfl <;> omega
/-- a line taken into account -/
def relx (D : Nat → Nat) (x y s : Nat) : Nat → Nat := fun h => if h = x then min (D x) (D y + s) else D h
theorem relx_le {D : Nat → Nat} {x y s h : Nat} : relx D x y s h ≤ D h := by
  unfold relx
  split
  · rename_i e
    rw [e]
    exact Nat.min_le_left _ _
  · exact Nat.le_refl _
theorem relx_x {D : Nat → Nat} {x y s : Nat} : relx D x y s x ≤ D y + s := by
  unfold relx
  rw [if_pos rfl]
  exact Nat.min_le_right _ _
theorem Snd_relx {N : z_N} {nu : Nat → Nat} {b w x y : Nat} {D : Nat → Nat} (h : Snd N nu b w D) (hx : x < 7) (hy : y < 7) (ha : nAdj N x y = true) : Snd N nu b w (relx D x y (w * dst (nu x) (nu y) + 1)) := by
  intro z hz
  unfold relx
  by_cases e : z = x
  · subst e
    rw [if_pos rfl]
    obtain ⟨h1, h2⟩ := h z hz
    obtain ⟨h3, h4⟩ := h y hy
    by_cases q : D z ≤ D y + (w * dst (nu z) (nu y) + 1)
    · rw [Nat.min_eq_left q]
      exact ⟨h1, h2⟩
    · rw [Nat.min_eq_right (by omega)]
      refine ⟨by omega, fun _ => ?_⟩
      obtain ⟨n, F, g1, g2⟩ := h4 (by omega)
      exact ⟨n + 1, F + dst (nu z) (nu y), ⟨b127.mpr hz, y, F, ha, g1, rfl⟩, by rw [g2, Nat.mul_add]; omega⟩
  · rw [if_neg e]
    exact h z hz
/-- within a round, behind the first so many lines -/
def Rnd (N : z_N) (nu : Nat → Nat) (w : Nat) (D0 : Nat → Nat) (l : Nat) (D : Nat → Nat) : Prop := (∀ h, D h ≤ D0 h) ∧ ∀ k, k < l → k < nN N → nP N k = true → D (nA N k) ≤ D0 (nB N k) + (w * fare N nu k + 1) ∧ D (nB N k) ≤ D0 (nA N k) + (w * fare N nu k + 1)
theorem Rnd.zero {N : z_N} {nu : Nat → Nat} {w : Nat} {D : Nat → Nat} : Rnd N nu w D 0 D := ⟨fun _ => Nat.le_refl _, fun _ h => by omega⟩
theorem Rnd.le {N : z_N} {nu : Nat → Nat} {w l : Nat} {D0 D D' : Nat → Nat} (h : Rnd N nu w D0 l D) (hd : ∀ h, D' h ≤ D h) : Rnd N nu w D0 l D' := ⟨fun x => Nat.le_trans (hd x) (h.1 x), fun k h1 h2 h3 => ⟨Nat.le_trans (hd _) (h.2 k h1 h2 h3).1, Nat.le_trans (hd _) (h.2 k h1 h2 h3).2⟩⟩
theorem Rnd.skip {N : z_N} {nu : Nat → Nat} {w l : Nat} {D0 D : Nat → Nat} (h : Rnd N nu w D0 l D) (hl : l < nN N → nP N l = false) : Rnd N nu w D0 (l + 1) D := ⟨h.1, fun k h1 h2 h3 => by
  by_cases e : k = l
  · subst e
    rw [hl h2] at h3
    cases h3
  · exact h.2 k (by omega) h2 h3⟩
theorem Rnd.line {N : z_N} {nu : Nat → Nat} {w l : Nat} {D0 D D' : Nat → Nat} (h : Rnd N nu w D0 l D) (hd : ∀ h, D' h ≤ D h) (ha : D' (nA N l) ≤ D (nB N l) + (w * fare N nu l + 1)) (hb : D' (nB N l) ≤ D (nA N l) + (w * fare N nu l + 1)) : Rnd N nu w D0 (l + 1) D' := by
  refine ⟨fun x => Nat.le_trans (hd x) (h.1 x), fun k h1 h2 h3 => ?_⟩
  by_cases e : k = l
  · subst e
    have g1 := h.1 (nA N k)
    have g2 := h.1 (nB N k)
    omega
  · have g := h.2 k (by omega) h2 h3
    have g1 := hd (nA N k)
    have g2 := hd (nB N k)
    omega
theorem Rnd.cmp {N : z_N} {nu : Nat → Nat} {b w r l : Nat} {D0 D : Nat → Nat} (h : Rnd N nu w D0 l D) (hl : nN N ≤ l) (h0 : Cmp N nu b w r D0) : Cmp N nu b w (r + 1) D := by
  intro n hn x F hq
  match n, hn, hq with
  | 0, _, hq => exact Nat.le_trans (h.1 x) (h0 0 (by omega) x F hq)
  | n + 1, hn, ⟨q1, y, G, q2, q3, q4⟩ =>
    have g := h0 n (by omega) y G q3
    obtain ⟨k, k1, k2, k3⟩ := nAdj_iff.mp q2
    have g2 := h.2 k (by omega) k1 k2
    have e : D x ≤ D0 y + (w * dst (nu x) (nu y) + 1) := by
      unfold nEd at k3
      rw [Bool.or_eq_true, Bool.and_eq_true, Bool.and_eq_true, beq_iff_eq, beq_iff_eq, beq_iff_eq, beq_iff_eq] at k3
      rcases k3 with ⟨rfl, rfl⟩ | ⟨rfl, rfl⟩
      · exact g2.1
      · rw [dst_comm]
        exact g2.2
    rw [q4, Nat.mul_add]
    omega
theorem Cmp.start {N : z_N} {nu : Nat → Nat} {b w : Nat} : Cmp N nu b w 0 (fun x => if x = b then 0 else 1000000) := by
  intro n hn x F q
  obtain rfl : n = 0 := by omega
  obtain ⟨_, rfl, rfl⟩ := q
  dsimp only
  rw [if_pos rfl]
  omega
theorem Snd.start {N : z_N} {nu : Nat → Nat} {b w : Nat} : Snd N nu b w (fun x => if x = b then 0 else 1000000) := by
  intro x hx
  dsimp only
  by_cases e : x = b
  · rw [if_pos e]
    exact ⟨by omega, fun _ => ⟨0, 0, ⟨b127.mpr hx, e, rfl⟩, by omega⟩⟩
  · rw [if_neg e]
    exact ⟨Nat.le_refl _, fun q => by omega⟩
theorem Snd.le {N : z_N} {nu : Nat → Nat} {b w : Nat} {D : Nat → Nat} (h : Snd N nu b w D) {x : Nat} (hx : x < 7) : D x ≤ 1000000 := (h x hx).1
/-- the next halt of a ride -/
def nx (N : z_N) (nu : Nat → Nat) (b x y : Nat) : Prop := nAdj N x y = true ∧ ∃ F n, bst N nu b x (F + dst (nu x) (nu y)) (n + 1) ∧ bst N nu b y F n
theorem nx_iff {N : z_N} {nu : Nat → Nat} {b w x y : Nat} {D : Nat → Nat} (hw : w = 8 ∨ w = 10) (hu : ∀ h, h < 7 → nu h ≤ 99) (h : Dst N nu b w D) (hx : x < 7) (hy : y < 7) (hb : ∃ F n, bst N nu b x F n) (ha : nAdj N x y = true) : D y + (w * dst (nu x) (nu y) + 1) = D x ↔ nx N nu b x y := by
  obtain ⟨F, n, hF⟩ := hb
  have hD := h.out hw hu hx
  rcases hD with ⟨_, q⟩ | ⟨F', n', hF', hDx, hDl⟩
  · exact absurd hF.1 (q _ _)
  obtain ⟨rfl, rfl⟩ := hF.u hF'
  rcases h.out hw hu hy with ⟨e1, q⟩ | ⟨G, m, hG, hDy, _⟩
  · constructor
    · intro z
      omega
    · rintro ⟨_, G, m, _, g⟩
      exact absurd g.1 (q _ _)
  · have a1 := hF.2.1
    have a2 := hG.2.1
    constructor
    · intro z
      rw [hDx, hDy] at z
      have e1 : n = m + 1 ∧ F = G + dst (nu x) (nu y) := by
        rcases hw with rfl | rfl <;> omega
      exact ⟨ha, G, m, by rw [← e1.1, ← e1.2]; exact hF, hG⟩
    · rintro ⟨_, G', m', g1, g2⟩
      obtain ⟨rfl, rfl⟩ := g2.u hG
      obtain ⟨rfl, rfl⟩ := hF.u g1
      rw [hDx, hDy, Nat.mul_add]
      omega
theorem nx_ex {N : z_N} {nu : Nat → Nat} {b x F n : Nat} (h : bst N nu b x F (n + 1)) : ∃ y, y < 7 ∧ nx N nu b x y := by
  obtain ⟨q1, y, G, q2, q3, q4⟩ := h.1
  refine ⟨y, b127.mp (wk_bit q3), q2, G, n, by rw [← q4]; exact h, q3, by have := h.2.1; omega, fun n' F' q => ?_⟩
  have := h.2.2 (n' + 1) (F' + dst (nu x) (nu y)) ⟨q1, y, F', q2, q, rfl⟩
  omega
noncomputable def nxb (N : z_N) (nu : Nat → Nat) (b x y : Nat) : Bool := @decide (nx N nu b x y) (Classical.propDecidable _)
theorem nxb_iff {N : z_N} {nu : Nat → Nat} {b x y : Nat} : nxb N nu b x y = true ↔ nx N nu b x y := by
  unfold nxb
  simp
noncomputable def nxt (N : z_N) (nu : Nat → Nat) (b x : Nat) : Nat := (lo (nxb N nu b x) 0 7).getD x
noncomputable def gs (N : z_N) (nu : Nat → Nat) (b : Nat) : Nat → Nat → Nat
  | 0, x => x
  | i + 1, x => gs N nu b i (nxt N nu b x)
theorem lo_none {f : Nat → Bool} : ∀ {n k : Nat}, lo f k n = none → ∀ i, k ≤ i → i < k + n → f i = false
  | 0, _, _, i, h1, h2 => by omega
  | n + 1, k, h, i, h1, h2 => by
    simp only [lo] at h
    split at h
    · cases h
    · rename_i e
      by_cases q : i = k
      · rw [q]
        cases z : f k
        · rfl
        · exact absurd z e
      · exact lo_none h i (by omega) (by omega)
theorem nxt_nx {N : z_N} {nu : Nat → Nat} {b x F n : Nat} (h : bst N nu b x F (n + 1)) : nxt N nu b x < 7 ∧ (∃ G, bst N nu b (nxt N nu b x) G n) ∧ lo (nxb N nu b x) 0 7 = some (nxt N nu b x) := by
  unfold nxt
  cases e : lo (nxb N nu b x) 0 7 with
  | none =>
    obtain ⟨y, h1, h2⟩ := nx_ex h
    have := lo_none e y (Nat.zero_le _) (by omega)
    rw [nxb_iff.mpr h2] at this
    cases this
  | some y =>
    have q := lo_lt e
    obtain ⟨_, G, m, g1, g2⟩ := nxb_iff.mp q.2.2
    obtain ⟨_, g3⟩ := h.u g1
    obtain rfl : n = m := by omega
    exact ⟨by have := q.2.1; show y < 7; omega, ⟨G, g2⟩, rfl⟩
/-- what both sides answer -/
def isRd (N : z_N) (nu : Nat → Nat) (b a : Nat) (r : Int32) : Prop := ((∀ n F, ¬ wl N nu b n a F) ∧ r = -1) ∨ ∃ F n, bst N nu b a F n ∧ r = nI F
theorem isRd.u {N : z_N} {nu : Nat → Nat} {b a : Nat} {r r' : Int32} (h : isRd N nu b a r) (h' : isRd N nu b a r') : r = r' := by
  rcases h with ⟨h1, rfl⟩ | ⟨F, n, h1, rfl⟩ <;> rcases h' with ⟨h2, rfl⟩ | ⟨F', n', h2, rfl⟩
  · rfl
  · exact absurd h2.1 (h1 _ _)
  · exact absurd h1.1 (h2 _ _)
  · rw [(h1.u h2).1]
def isCh (N : z_N) (nu : Nat → Nat) (b a i : Nat) (r : Int32) : Prop := ((∀ n F, ¬ wl N nu b n a F) ∧ r = -2) ∨ ∃ F n, bst N nu b a F n ∧ ((i ≤ n ∧ r = nI (gs N nu b i a)) ∨ (n < i ∧ r = -2))
theorem isCh.u {N : z_N} {nu : Nat → Nat} {b a i : Nat} {r r' : Int32} (h : isCh N nu b a i r) (h' : isCh N nu b a i r') : r = r' := by
  rcases h with ⟨h1, rfl⟩ | ⟨F, n, h1, h2⟩ <;> rcases h' with ⟨g1, rfl⟩ | ⟨F', n', g1, g2⟩
  · rfl
  · exact absurd g1.1 (h1 _ _)
  · exact absurd h1.1 (g1 _ _)
  · have := (h1.u g1).2
    rcases h2 with ⟨h2, rfl⟩ | ⟨h2, rfl⟩ <;> rcases g2 with ⟨g2, rfl⟩ | ⟨g2, rfl⟩
    · rfl
    · omega
    · omega
    · rfl
