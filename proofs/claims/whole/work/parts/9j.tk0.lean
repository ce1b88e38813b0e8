/-! tokens: of bytes, before either side looks at them -/
def isL (c : Nat) : Bool := decide ((97 ≤ c ∧ c ≤ 122) ∨ (65 ≤ c ∧ c ≤ 90))
def isD (c : Nat) : Bool := decide (48 ≤ c ∧ c ≤ 57)
def runT (P : Nat → Bool) : Nat → Nat → Nat
  | 0, p => p
  | j + 1, p => if P p = true then runT P j (p + 1) else p
def pBk (B : Nat → Nat) (n p : Nat) : Bool := decide (p < n) && (decide (B p = 32) || decide (B p = 10))
def pLt (B : Nat → Nat) (n p : Nat) : Bool := decide (p < n) && isL (B p)
def pDg (B : Nat → Nat) (n p : Nat) : Bool := decide (p < n) && isD (B p)
def lsT (B : Nat → Nat) : Nat → Nat → List Nat
  | _, 0 => []
  | q, j + 1 => B q :: lsT B (q + 1) j
def WLs : List (List Nat) := [[114, 105, 100, 101, 115], [99, 111, 115, 116, 115], [108, 97, 121], [116, 111], [112, 108, 97, 116, 101], [97, 116], [116, 117, 114, 110], [103, 114, 97, 110, 116], [100, 97, 121], [119, 104, 105, 99, 104], [102, 117, 110, 100], [111, 112, 101, 110], [100, 105, 102, 102], [108, 111, 119], [104, 105, 103, 104], [111, 108, 100], [110, 101, 119], [98, 101, 115, 105, 100, 101], [102, 97, 114, 101], [115, 105, 103, 110], [105, 102], [116, 104, 101, 110], [101, 108, 115, 101], [101, 110, 100], [111, 114], [97, 110, 100], [110, 111, 116]]
def WL (k : Nat) : List Nat := WLs.getD k []
def idW (l : List Nat) : Nat := match lo (fun k => decide (l = WL k)) 0 27 with
  | some k => k
  | none => 42
def vlT (B : Nat → Nat) : Nat → Nat → Nat → Nat
  | x, _, 0 => x
  | x, q, j + 1 => vlT B (min 10000 (x * 10 + B q - 48)) (q + 1) j
def sgC (c : Nat) : Nat := if c = 60 then 28 else if c = 62 then 30 else if c = 61 then 32 else if c = 35 then 33 else if c = 43 then 34 else if c = 45 then 35 else if c = 42 then 36 else if c = 47 then 37 else if c = 40 then 38 else if c = 41 then 39 else if c = 59 then 40 else 42
def eqT (B : Nat → Nat) (n q : Nat) : Bool := decide (q + 1 < n) && decide (B (q + 1) = 61)
def sgK (B : Nat → Nat) (n q : Nat) : Nat := if (eqT B n q && decide (B q = 60)) = true then 29 else if (eqT B n q && decide (B q = 62)) = true then 31 else sgC (B q)
def sgN (B : Nat → Nat) (n q : Nat) : Nat := if (eqT B n q && (decide (B q = 60) || decide (B q = 62))) = true then q + 2 else q + 1
/-- where a token begins, where the next may, which it is, its number -/
def frT (B : Nat → Nat) (n p : Nat) : Nat := runT (pBk B n) n p
def enT (B : Nat → Nat) (n q : Nat) : Nat := if n ≤ q then q else if isL (B q) = true then runT (pLt B n) n q else if isD (B q) = true then runT (pDg B n) n q else sgN B n q
def nxT (B : Nat → Nat) (n p : Nat) : Nat := enT B n (frT B n p)
def cdT (B : Nat → Nat) (n q : Nat) : Nat := if n ≤ q then 41 else if isL (B q) = true then idW (lsT B q (runT (pLt B n) n q - q)) else if isD (B q) = true then 27 else sgK B n q
def tkC (B : Nat → Nat) (n p : Nat) : Nat := cdT B n (frT B n p)
def tkV (B : Nat → Nat) (n p : Nat) : Nat := vlT B 0 (frT B n p) (runT (pDg B n) n (frT B n p) - frT B n p)
section TK0
variable {P : Nat → Bool} {B : Nat → Nat} {n : Nat}
theorem run_ge : ∀ {j p : Nat}, p ≤ runT P j p
  | 0, p => Nat.le_refl _
  | j + 1, p => by
    simp only [runT]
    split
    · have := run_ge (j := j) (p := p + 1)
      omega
    · exact Nat.le_refl _
theorem run_P : ∀ {j p i : Nat}, p ≤ i → i < runT P j p → P i = true
  | 0, p, i, h1, h2 => by
    simp only [runT] at h2
    omega
  | j + 1, p, i, h1, h2 => by
    simp only [runT] at h2
    split at h2
    · rename_i h
      by_cases e : i = p
      · rw [e]
        exact h
      · exact run_P (j := j) (p := p + 1) (by omega) h2
    · omega
theorem run_le (hP : ∀ i, P i = true → i < n) : ∀ {j p : Nat}, p ≤ n → runT P j p ≤ n
  | 0, p, h => h
  | j + 1, p, h => by
    simp only [runT]
    split
    · rename_i e
      exact run_le hP (hP p e)
    · exact h
theorem run_end (hP : ∀ i, P i = true → i < n) : ∀ {j p : Nat}, n ≤ p + j → P (runT P j p) = false
  | 0, p, h => by
    simp only [runT]
    cases e : P p
    · rfl
    · have := hP p e
      omega
  | j + 1, p, h => by
    simp only [runT]
    split
    · exact run_end hP (by omega)
    · rename_i e
      exact Bool.eq_false_iff.mpr e
theorem bk_lt : ∀ i, pBk B n i = true → i < n := fun i h => by
  unfold pBk at h
  rw [Bool.and_eq_true, decide_eq_true_eq] at h
  exact h.1
theorem lt_lt : ∀ i, pLt B n i = true → i < n := fun i h => by
  unfold pLt at h
  rw [Bool.and_eq_true, decide_eq_true_eq] at h
  exact h.1
theorem dg_lt : ∀ i, pDg B n i = true → i < n := fun i h => by
  unfold pDg at h
  rw [Bool.and_eq_true, decide_eq_true_eq] at h
  exact h.1
theorem fr_ge {p : Nat} : p ≤ frT B n p := run_ge
theorem fr_le {p : Nat} (h : p ≤ n) : frT B n p ≤ n := run_le bk_lt h
theorem run_s {p : Nat} (hn : 0 < n) (h : P p = true) (hP : ∀ i, P i = true → i < n) : p < runT P n p := by
  obtain ⟨j, rfl⟩ : ∃ j, n = j + 1 := ⟨n - 1, by omega⟩
  simp only [runT]
  rw [if_pos h]
  have := run_ge (P := P) (j := j) (p := p + 1)
  omega
theorem en_gt {q : Nat} (h : q < n) : q < enT B n q := by
  unfold enT
  rw [if_neg (by omega)]
  split
  · rename_i e
    exact run_s (by omega) (by unfold pLt; rw [decide_eq_true h, e]; rfl) lt_lt
  · split
    · rename_i e
      exact run_s (by omega) (by unfold pDg; rw [decide_eq_true h, e]; rfl) dg_lt
    · unfold sgN
      split <;> omega
theorem en_le {q : Nat} (h : q ≤ n) : enT B n q ≤ n := by
  unfold enT
  split
  · exact h
  · rename_i e
    split
    · exact run_le lt_lt h
    · split
      · exact run_le dg_lt h
      · unfold sgN
        split
        · rename_i e2
          rw [Bool.and_eq_true] at e2
          have := e2.1
          unfold eqT at this
          rw [Bool.and_eq_true, decide_eq_true_eq] at this
          omega
        · omega
theorem nx_le {p : Nat} (h : p ≤ n) : nxT B n p ≤ n := en_le (fr_le h)
theorem tk_41 {p : Nat} (h : p ≤ n) : tkC B n p = 41 ↔ frT B n p = n := by
  have hf := fr_le (B := B) h
  have w42 : ∀ l, idW l ≠ 41 := fun l => by
    unfold idW
    cases e : lo (fun k => decide (l = WL k)) 0 27 with
    | none => show (42 : Nat) ≠ 41; decide
    | some k =>
      have := lo_lt e
      show k ≠ 41
      omega
  have s41 : ∀ q, sgK B n q ≠ 41 := fun q => by
    unfold sgK
    split
    · decide
    · split
      · decide
      · unfold sgC
        repeat' split
        all_goals decide
  unfold tkC cdT
  constructor
  · intro z
    split at z
    · omega
    · split at z
      · exact absurd z (w42 _)
      · split at z
        · exact absurd z (by decide)
        · exact absurd z (s41 _)
  · intro z
    rw [if_pos (by omega)]
theorem nx_gt {p : Nat} (h : p ≤ n) (e : tkC B n p ≠ 41) : p < nxT B n p ∧ frT B n p < n := by
  have hf := fr_le (B := B) h
  have h1 := fr_ge (B := B) (n := n) (p := p)
  have h2 : frT B n p ≠ n := fun z => e ((tk_41 h).mpr z)
  have h3 : frT B n p < n := by omega
  have := en_gt (B := B) h3
  exact ⟨by unfold nxT; omega, h3⟩
theorem idW_lt {l : List Nat} {k : Nat} (hk : k < 27) : idW l = k ↔ l = WL k ∧ ∀ j, j < k → l ≠ WL j := by
  unfold idW
  cases e : lo (fun k => decide (l = WL k)) 0 27 with
  | none =>
    constructor
    · intro z
      have z : 42 = k := z
      omega
    · intro z
      have := lo_none e k (Nat.zero_le _) (by omega)
      rw [decide_eq_true z.1] at this
      cases this
  | some i =>
    have h := lo_lt e
    have hm := lo_min e
    constructor
    · intro z
      have z : i = k := z
      subst z
      exact ⟨of_decide_eq_true h.2.2, fun j hj => of_decide_eq_false (hm j (Nat.zero_le _) hj)⟩
    · intro z
      show i = k
      rcases Nat.lt_trichotomy i k with y | y | y
      · exact absurd (of_decide_eq_true h.2.2) (z.2 i y)
      · exact y
      · have := hm k (Nat.zero_le _) y
        rw [decide_eq_true z.1] at this
        cases this
theorem WL_ne : ∀ i, i < 27 → ∀ j, j < 27 → i ≠ j → WL i ≠ WL j := by decide +kernel
theorem idW_iff {l : List Nat} {k : Nat} (hk : k < 27) : idW l = k ↔ l = WL k := by
  rw [idW_lt hk]
  exact ⟨fun z => z.1, fun z => ⟨z, fun j hj => by rw [z]; exact WL_ne k hk j (by omega) (by omega)⟩⟩
theorem idW_no {l : List Nat} (h : ∀ k, k < 27 → l ≠ WL k) : idW l = 42 := by
  unfold idW
  cases e : lo (fun k => decide (l = WL k)) 0 27 with
  | none => rfl
  | some i =>
    have := lo_lt e
    exact absurd (of_decide_eq_true this.2.2) (h i (by omega))
theorem ls_len : ∀ {j q : Nat}, (lsT B q j).length = j
  | 0, _ => rfl
  | j + 1, q => by
    simp only [lsT, List.length_cons]
    rw [ls_len]
theorem ls_get : ∀ {j q i : Nat}, i < j → (lsT B q j).getD i 0 = B (q + i)
  | 0, q, i, h => absurd h (Nat.not_lt_zero _)
  | j + 1, q, 0, _ => rfl
  | j + 1, q, i + 1, h => by
    show (lsT B (q + 1) j).getD i 0 = B (q + (i + 1))
    rw [ls_get (by omega), show q + 1 + i = q + (i + 1) by omega]
end TK0
