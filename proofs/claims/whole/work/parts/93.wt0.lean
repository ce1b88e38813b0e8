/-! weights of open lines: what is asked -/
def sm (n : Nat) (f : Nat → Nat) : Nat := match n with
  | 0 => 0
  | n + 1 => sm n f + f n
theorem sm_cg {f g : Nat → Nat} : ∀ {n : Nat}, (∀ i, i < n → f i = g i) → sm n f = sm n g
  | 0, _ => rfl
  | n + 1, h => by
    simp only [sm]
    rw [sm_cg (fun i hi => h i (by omega)), h n (by omega)]
theorem sm_add {f g : Nat → Nat} : ∀ {n : Nat}, sm n (fun i => f i + g i) = sm n f + sm n g
  | 0 => rfl
  | n + 1 => by
    simp only [sm]
    rw [sm_add]
    omega
theorem sm_one {l x : Nat} : ∀ {n : Nat}, l < n → sm n (fun i => if i = l then x else 0) = x
  | 0, h => absurd h (Nat.not_lt_zero _)
  | n + 1, h => by
    simp only [sm]
    by_cases e : l < n
    · rw [sm_one e, if_neg (by omega), Nat.add_zero]
    · have e2 : n = l := by omega
      subst e2
      rw [if_pos rfl, sm_cg (g := fun _ => 0) (fun i hi => if_neg (by omega))]
      have z : ∀ m, sm m (fun _ => 0) = 0 := fun m => by
        induction m with
        | zero => rfl
        | succ m ih => simp only [sm]; rw [ih]
      rw [z, Nat.zero_add]
theorem sm_le {f : Nat → Nat} {c : Nat} : ∀ {n : Nat}, (∀ i, i < n → f i ≤ c) → sm n f ≤ c * n
  | 0, _ => Nat.zero_le _
  | n + 1, h => by
    simp only [sm]
    have := sm_le (n := n) (fun i hi => h i (by omega))
    have := h n (by omega)
    rw [Nat.mul_succ]
    omega
theorem cnt_inj {n m : Nat} {f g : Nat → Bool} (φ : Nat → Nat) (h : ∀ i, i < n → f i = true → φ i < m ∧ g (φ i) = true) (hi : ∀ i j, i < n → j < n → f i = true → f j = true → φ i = φ j → i = j) : cntL n f ≤ cntL m g := pg n f (fun i => cntL (φ i) g) (cntL m g) (fun i hi' hf => cntL_lt2 (h i hi' hf).1 (h i hi' hf).2) (fun i j hi' hj hf hfj e => hi i j hi' hj hf hfj (by
  have a := h i hi' hf
  have b := h j hj hfj
  rw [← sel_rk a.1 a.2, ← sel_rk b.1 b.2, show cntL (φ i) g = cntL (φ j) g from e]))
/-- unlike numbers from 1 to n, k of them: what they are together -/
theorem dsum {m n : Nat} {W : Nat → Nat} : ∀ (k : Nat) (f : Nat → Bool), cntL m f = k → (∀ i, i < m → f i = true → 1 ≤ W i ∧ W i ≤ n) → (∀ i j, i < m → j < m → f i = true → f j = true → W i = W j → i = j) → k * (k + 1) ≤ 2 * sm m (fun i => if f i = true then W i else 0) ∧ 2 * sm m (fun i => if f i = true then W i else 0) + k * k ≤ k * (2 * n + 1)
  | 0, f, hk, _, _ => by
    have z : sm m (fun i => if f i = true then W i else 0) = 0 := by
      have : ∀ i, i < m → f i = false := fun i hi => by
        cases e : f i
        · rfl
        · have := cntL_lt2 hi e
          omega
      have e2 : sm m (fun i => if f i = true then W i else 0) ≤ 0 * m := sm_le (fun i hi => by rw [this i hi]; exact Nat.le_refl _)
      omega
    rw [z]
    exact ⟨by omega, by omega⟩
  | k + 1, f, hk, hb, hi => by
    -- one is large, one is small
    have ex : ∀ (p : Nat → Prop) (g : Nat → Nat), (∀ i, i < m → f i = true → ¬ p i → g i < k) → (∀ i j, i < m → j < m → f i = true → f j = true → g i = g j → W i = W j ∨ p i ∨ p j) → ∃ i, i < m ∧ f i = true ∧ p i := fun p g h1 h2 => by
      refine Classical.byContradiction (fun no => ?_)
      have np : ∀ i, i < m → f i = true → ¬ p i := fun i a b c => no ⟨i, a, b, c⟩
      have := pg m f g k (fun i a b => h1 i a b (np i a b)) (fun i j a b c d e => by
        rcases h2 i j a b c d e with y | y | y
        · exact hi i j a b c d y
        · exact absurd y (np i a c)
        · exact absurd y (np j b d))
      omega
    have rest : ∀ i, i < m → f i = true → cntL m (fun j => f j && !decide (j = i)) = k ∧ sm m (fun j => if f j = true then W j else 0) = sm m (fun j => if (f j && !decide (j = i)) = true then W j else 0) + W i := fun i him hfi => by
      constructor
      · have cm : ∀ q, cntL q f = cntL q (fun j => f j && !decide (j = i)) + (if i < q then 1 else 0) := fun q => by
          induction q with
          | zero => rfl
          | succ q ih =>
            have st : cntL (q + 1) f = cntL q f + (if f q = true then 1 else 0) := rfl
            have st2 : cntL (q + 1) (fun j => f j && !decide (j = i)) = cntL q (fun j => f j && !decide (j = i)) + (if (f q && !decide (q = i)) = true then 1 else 0) := rfl
            rw [st, st2, ih]
            by_cases z : q = i
            · subst z
              rw [hfi, decide_eq_true (show q = q from rfl), if_neg (show ¬ q < q by omega), if_pos (show q < q + 1 by omega), if_pos (show true = true from rfl), if_neg (show ¬ (true && !true) = true by decide)]
            · rw [decide_eq_false z, Bool.not_false, Bool.and_true]
              by_cases y : i < q
              · rw [if_pos y, if_pos (show i < q + 1 by omega)]
                omega
              · rw [if_neg y, if_neg (show ¬ i < q + 1 by omega)]
                omega
        have := cm m
        rw [if_pos him] at this
        omega
      · have e : sm m (fun j => if f j = true then W j else 0) = sm m (fun j => (if (f j && !decide (j = i)) = true then W j else 0) + (if j = i then W i else 0)) := sm_cg (fun j _ => by
          by_cases z : j = i
          · subst z
            rw [hfi, decide_eq_true rfl, if_pos rfl, if_pos rfl, if_neg (by decide), Nat.zero_add]
          · rw [decide_eq_false z, Bool.not_false, Bool.and_true, if_neg z, Nat.add_zero])
        rw [e, sm_add, sm_one him]
    have ih := fun i (him : i < m) (hfi : f i = true) => dsum (m := m) (n := n) (W := W) k (fun j => f j && !decide (j = i)) (rest i him hfi).1 (fun j hj z => by
      rw [Bool.and_eq_true] at z
      exact hb j hj z.1) (fun a b ha hb' za zb => by
      rw [Bool.and_eq_true] at za zb
      exact hi a b ha hb' za.1 zb.1)
    have k2 : (k + 1) * (k + 1 + 1) = k * (k + 1) + 2 * (k + 1) := by
      rw [Nat.mul_comm (k + 1) (k + 1 + 1)]
      exact Nat.add_mul k 2 (k + 1)
    have k3 : (k + 1) * (k + 1) = k * k + 2 * k + 1 := by
      rw [Nat.add_mul, Nat.mul_add]
      omega
    have k4 : (k + 1) * (2 * n + 1) = k * (2 * n + 1) + (2 * n + 1) := Nat.succ_mul _ _
    constructor
    · obtain ⟨i, h1, h2, h3⟩ := ex (fun i => k + 1 ≤ W i) (fun i => W i - 1) (fun i a b c => by
        have := hb i a b
        show W i - 1 < k
        have c : ¬ k + 1 ≤ W i := c
        omega) (fun i j a b c e q => by
        have x := hb i a c
        have y := hb j b e
        have q : W i - 1 = W j - 1 := q
        exact Or.inl (by omega))
      have h3 : k + 1 ≤ W i := h3
      have t := (ih i h1 h2).1
      rw [(rest i h1 h2).2, k2]
      omega
    · obtain ⟨i, h1, h2, h3⟩ := ex (fun i => W i + k ≤ n) (fun i => W i + k - (n + 1)) (fun i a b c => by
        have := hb i a b
        show W i + k - (n + 1) < k
        have c : ¬ W i + k ≤ n := c
        omega) (fun i j a b c e q => by
        have q : W i + k - (n + 1) = W j + k - (n + 1) := q
        by_cases y : W i + k ≤ n
        · exact Or.inr (Or.inl y)
        · by_cases y2 : W j + k ≤ n
          · exact Or.inr (Or.inr y2)
          · exact Or.inl (by omega))
      have h3 : W i + k ≤ n := h3
      have t := (ih i h1 h2).2
      rw [(rest i h1 h2).2, k3, k4]
      omega
/-- the open lines, one by one -/
def oM (N : z_N) : Nat := cntL 10 (nP N)
def oK (N : z_N) : Nat → Nat := sel (nP N) 10
def oR (N : z_N) (l : Nat) : Nat := cntL l (nP N)
/-- what lines at a halt have together -/
def wAt (N : z_N) (A : Nat → Bool) (W : Nat → Nat) (h : Nat) : Nat := sm 10 (fun l => if (A l && nOn N l h) = true then W l else 0)
def rowP (N : z_N) (W : Nat → Nat) : Prop := (∀ l, l < 10 → nP N l = true → 1 ≤ W l ∧ W l ≤ oM N) ∧ ∀ l l', l < l' → l' < 10 → nP N l = true → nP N l' = true → W l ≠ W l'
def alkP (N : z_N) (K : Nat) (W : Nat → Nat) : Prop := rowP N W ∧ ∀ h, h < 7 → nW N h = true → wAt N (nP N) W h = K
def ulkP (N : z_N) (W : Nat → Nat) : Prop := rowP N W ∧ ∀ g h, g < 7 → h < 7 → g ≠ h → nW N g = true → nW N h = true → wAt N (nP N) W g ≠ wAt N (nP N) W h
/-- of like rows the lowest, by lines -/
def leW (N : z_N) (W W' : Nat → Nat) : Prop := ∀ l, l < 10 → nP N l = true → (∀ i, i < l → nP N i = true → W' i = W i) → W l ≤ W' l
def isLG (N : z_N) (P : (Nat → Nat) → Prop) (W : Nat → Nat) : Prop := P W ∧ ∀ W', P W' → leW N W W'
section WT0
variable {N : z_N} {W W' W2 : Nat → Nat} {A : Nat → Bool} {h l x : Nat}
theorem oK_ok {k : Nat} (h : k < oM N) : oK N k < 10 ∧ nP N (oK N k) = true ∧ oR N (oK N k) = k := sel_ok h
theorem oK_rk (hl : l < 10) (hp : nP N l = true) : oK N (oR N l) = l := sel_rk hl hp
theorem oR_lt (hl : l < 10) (hp : nP N l = true) : oR N l < oM N := cntL_lt2 hl hp
theorem oM_le : oM N ≤ 10 := cntL_le 10 _
theorem oK_ne {p k : Nat} (hp : p < oM N) (hk : k < oM N) (h : p ≠ k) : oK N p ≠ oK N k := fun e => h (by
  have h1 := (oK_ok hp).2.2
  have h2 := (oK_ok hk).2.2
  rw [e, h2] at h1
  exact h1.symm)
theorem oK_lt {p k : Nat} (hk : k < oM N) (h : p < k) : oK N p < oK N k := by
  have h1 := oK_ok (N := N) (show p < oM N by omega)
  have h2 := oK_ok hk
  refine Nat.lt_of_not_le (fun z => ?_)
  have := cntL_le2 (f := nP N) z
  have e1 : oR N (oK N p) = p := h1.2.2
  have e2 : oR N (oK N k) = k := h2.2.2
  unfold oR at e1 e2
  omega
theorem leW.tr (h1 : leW N W2 W) (h2 : leW N W W') : leW N W2 W' := by
  intro l hl hp he
  have eq : ∀ i, i < l → nP N i = true → W i = W2 i := by
    intro i
    induction i using Nat.strongRecOn with
    | ind i ih =>
      intro hi hpi
      have a := h1 i (by omega) hpi (fun j hj hpj => ih j hj (by omega) hpj)
      have b := h2 i (by omega) hpi (fun j hj hpj => by rw [he j (by omega) hpj, ih j hj (by omega) hpj])
      have c := he i hi hpi
      omega
  have a := h1 l hl hp eq
  have b := h2 l hl hp (fun i hi hpi => by rw [he i hi hpi, eq i hi hpi])
  omega
theorem leW.rfl : leW N W W := fun _ _ _ _ => Nat.le_refl _
theorem isLG.u {P : (Nat → Nat) → Prop} (h : isLG N P W) (h' : isLG N P W') : ∀ l, l < 10 → nP N l = true → W l = W' l := by
  intro g
  induction g using Nat.strongRecOn with
  | ind g ih =>
    intro hg hw
    have e : ∀ j, j < g → nP N j = true → W' j = W j := fun j hj hwj => (ih j hj (by omega) hwj).symm
    have h1 := h.2 W' h'.1 g hg hw e
    have h2 := h'.2 W h.1 g hg hw (fun j hj hwj => (e j hj hwj).symm)
    omega
theorem wA_cg {A' : Nat → Bool} (e : ∀ l, l < 10 → A l = A' l) (e2 : ∀ l, l < 10 → A l = true → W l = W' l) : wAt N A W h = wAt N A' W' h := sm_cg (fun l hl => by
  rw [← e l hl]
  cases z : A l
  · rfl
  · rw [e2 l hl z])
/-- one line more -/
theorem wA_put (hl : l < 10) (hA : A l = false) : wAt N (fun i => A i || decide (i = l)) (sU W l x) h = wAt N A W h + (if nOn N l h = true then x else 0) := by
  unfold wAt
  have e : sm 10 (fun i => if ((A i || decide (i = l)) && nOn N i h) = true then sU W l x i else 0) = sm 10 (fun i => (if (A i && nOn N i h) = true then W i else 0) + (if i = l then (if nOn N l h = true then x else 0) else 0)) := sm_cg (fun i _ => by
    by_cases z : i = l
    · subst z
      rw [hA, decide_eq_true rfl, Bool.false_or, Bool.true_and, Bool.false_and, sU_s, if_pos (show i = i from rfl), if_neg (show ¬ false = true by decide), Nat.zero_add]
    · rw [decide_eq_false z, Bool.or_false, sU_n z, if_neg z, Nat.add_zero])
  rw [e, sm_add, sm_one hl]
theorem rowP_cg (e : ∀ l, l < 10 → nP N l = true → W l = W' l) (h : rowP N W) : rowP N W' := ⟨fun l hl hp => by rw [← e l hl hp]; exact h.1 l hl hp, fun l l' hll hl' hp hp' => by rw [← e l (by omega) hp, ← e l' hl' hp']; exact h.2 l l' hll hl' hp hp'⟩
theorem alkP_cg {K : Nat} (e : ∀ l, l < 10 → nP N l = true → W l = W' l) (h : alkP N K W) : alkP N K W' := ⟨rowP_cg e h.1, fun g hg hw => by rw [← wA_cg (W := W) (fun _ _ => rfl) e]; exact h.2 g hg hw⟩
theorem ulkP_cg (e : ∀ l, l < 10 → nP N l = true → W l = W' l) (h : ulkP N W) : ulkP N W' := ⟨rowP_cg e h.1, fun g k hg hk hne h1 h2 => by rw [← wA_cg (W := W) (fun _ _ => rfl) e, ← wA_cg (W := W) (fun _ _ => rfl) e]; exact h.2 g k hg hk hne h1 h2⟩
theorem rowP.ne {l l' : Nat} (h : rowP N W) (hl : l < 10) (hl' : l' < 10) (hp : nP N l = true) (hp' : nP N l' = true) (hne : l ≠ l') : W l ≠ W l' := by
  rcases Nat.lt_or_gt_of_ne hne with y | y
  · exact h.2 l l' y hl' hp hp'
  · exact fun e => h.2 l' l y hl hp' hp e.symm
end WT0
