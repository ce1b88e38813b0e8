/-! nets as numbers; the reference's small methods -/
abbrev z_N : Type := Nat × (Nat × ((Nat → Nat) × (Nat → Nat)))
def nN (N : z_N) : Nat := N.1
def nO (N : z_N) : Nat := N.2.1
def nA (N : z_N) (l : Nat) : Nat := N.2.2.1 l
def nB (N : z_N) (l : Nat) : Nat := N.2.2.2 l
/-- is the line open -/
def nP (N : z_N) (l : Nat) : Bool := (nO N).testBit l
def nOn (N : z_N) (l h : Nat) : Bool := nA N l == h || nB N l == h
def nEd (N : z_N) (l g h : Nat) : Bool := (nA N l == g && nB N l == h) || (nB N l == g && nA N l == h)
/-- some line among the first so many -/
def anyL (n : Nat) (f : Nat → Bool) : Bool := match n with
  | 0 => false
  | n + 1 => anyL n f || f n
theorem anyL_iff : ∀ {n : Nat} {f : Nat → Bool}, anyL n f = true ↔ ∃ i, i < n ∧ f i = true
  | 0, f => by simp [anyL]
  | n + 1, f => by
    simp only [anyL, Bool.or_eq_true, anyL_iff]
    constructor
    · rintro (⟨i, h1, h2⟩ | h)
      · exact ⟨i, by omega, h2⟩
      · exact ⟨n, by omega, h⟩
    · rintro ⟨i, h1, h2⟩
      by_cases hi : i = n
      · exact Or.inr (by rw [← hi]; exact h2)
      · exact Or.inl ⟨i, by omega, h2⟩
def nAdj (N : z_N) (g h : Nat) : Bool := anyL (nN N) (fun l => nP N l && nEd N l g h)
theorem nAdj_iff {N : z_N} {g h : Nat} : nAdj N g h = true ↔ ∃ l, l < nN N ∧ nP N l = true ∧ nEd N l g h = true := by
  unfold nAdj
  rw [anyL_iff]
  simp only [Bool.and_eq_true]
theorem nEd_comm {N : z_N} {l g h : Nat} : nEd N l g h = nEd N l h g := by
  unfold nEd
  rw [Bool.or_comm, Bool.and_comm, Bool.and_comm (nA N l == g)]
theorem nAdj_comm {N : z_N} {g h : Nat} : nAdj N g h = nAdj N h g := by
  unfold nAdj
  congr 1
  funext l
  rw [nEd_comm]
def nWF (N : z_N) : Prop := nN N ≤ 10 ∧ nO N < 2 ^ nN N ∧ (∀ l, l < nN N → nA N l < 7 ∧ nB N l < 7 ∧ nA N l ≠ nB N l) ∧ ∀ l k, l < k → k < nN N → ¬ nEd N l (nA N k) (nB N k) = true
def MS (v : z_V) (N : z_N) (nu : Nat → Nat) : Prop := nWF N ∧ gI v 1200 0 0 = nI (nN N) ∧ gI v 1200 0 9 = nI (nO N) ∧ (∀ l, l < nN N → gI v 1200 0 (17 + 2 * l) = nI (nA N l) ∧ gI v 1200 0 (18 + 2 * l) = nI (nB N l)) ∧ ∀ h, h < 7 → gI v 1200 0 (10 + h) = nI (nu h) ∧ nu h ≤ 99
theorem nO_lt {N : z_N} (h : nWF N) : nO N < 1024 := Nat.lt_of_lt_of_le h.2.1 (Nat.pow_le_pow_right (by decide) h.1)
def dst (a b : Nat) : Nat := if a ≤ b then b - a else a - b
theorem dst_comm (a b : Nat) : dst a b = dst b a := by
  unfold dst
  split <;> split <;> omega
/-- how many are set of the first so many -/
def pc (n : Nat) (s : Nat) : Nat := match n with
  | 0 => 0
  | n + 1 => pc n s + (if s.testBit n = true then 1 else 0)
theorem pc_step : ∀ s, s < 1024 → s ≠ 0 → pc 10 (s &&& (s - 1)) + 1 = pc 10 s ∧ (s &&& (s - 1)) < s := by decide +kernel
theorem pc_le : ∀ (n s : Nat), pc n s ≤ n
  | 0, _ => Nat.le_refl _
  | n + 1, s => by
    have := pc_le n s
    simp only [pc]
    split <;> omega
section MSS
variable {d : Nat} {v : z_V} {N : z_N} {nu : Nat → Nat}
theorem bq {Q : z_RT} {b b' : Bool} (h : Q v (some (vI (bI b)))) (e : b = b') : Q v (some (vI (bI b'))) := e ▸ h
theorem s_isIn {a b c : Int32} : ZP (d + 1) m_X11_isIn [vI a, vI b, vI c] v (bI (decide (b ≤ a ∧ a ≤ c))) := fun Q h => E_X11_isIn (B_X11_isIn_0 ⟨fun q => bq (b' := false) h (decide_eq_false (fun z => Int32.not_le.mpr q z.1)), fun q => ⟨fun q2 => bq (b' := false) h (decide_eq_false (fun z => Int32.not_le.mpr q2 z.2)), fun q2 => bq (b' := true) h (decide_eq_true ⟨Int32.not_lt.mp q, Int32.not_lt.mp q2⟩)⟩⟩)
/-- an argument that is a place below n -/
def inr (a : Int32) (n : Nat) : Bool := decide (0 ≤ a.toInt ∧ a.toInt < n)
theorem inr_nI {k n : Nat} (hk : k < 2 ^ 31) : inr (nI k) n = decide (k < n) := by
  unfold inr
  rw [nI_toInt hk]
  by_cases h : k < n
  · rw [decide_eq_true h, decide_eq_true (by omega)]
  · rw [decide_eq_false h, decide_eq_false (by omega)]
theorem inr_t {a : Int32} {n : Nat} (h : inr a n = true) : ∃ k, k < n ∧ a = nI k := by
  have h := of_decide_eq_true h
  refine ⟨a.toInt.toNat, by omega, ?_⟩
  have hb : a.toInt < 2 ^ 31 := by
    have := Int32.toInt_lt a
    omega
  rw [← Int32.toInt_inj, nI_toInt (by omega)]
  omega
theorem inr_le {a : Int32} {n : Nat} (hn : n < 2 ^ 31) : decide (0 ≤ a ∧ a ≤ nI n - 1) = inr a n := by
  unfold inr
  have e : (nI n - 1).toInt = (n : Int) - 1 := by
    cases n with
    | zero => rfl
    | succ n =>
      rw [nI_pred, nI_toInt (by omega)]
      omega
  refine decide_eq_decide.mpr ?_
  rw [Int32.le_iff_toInt_le, Int32.le_iff_toInt_le, e, Int32.toInt_zero]
  constructor <;> (intro h; omega)
theorem s_isHalt {a : Int32} : ZP (d + 2) m_X11_isHalt [vI a] v (bI (inr a 7)) := fun Q h => E_X11_isHalt (B_X11_isHalt_0 (cP s_isIn (z_i01 (bq h (inr_le (n := 7) (by decide)).symm))))
theorem s_isLine {a : Int32} (hM : MS v N nu) : ZP (d + 2) m_X11_isLine [vR 11 0, vI a] v (bI (inr a (nN N))) := fun Q h => E_X11_isLine (B_X11_isLine_0 (by
  rw [hM.2.1]
  have := hM.1.1
  exact cP s_isIn (z_i01 (bq h (inr_le (by omega)).symm))))
theorem s_has {s l : Nat} (hs : s < 2 ^ 31) (hl : l < 32) : ZP (d + 1) m_X11_has [vI (nI s), vI (nI l)] v (bI (s.testBit l)) := fun Q h => E_X11_has (B_X11_has_0 (by
  rw [nI_bitb hs hl]
  cases hb : s.testBit l
  · exact ⟨fun _ => bq (b' := false) h hb, fun q => absurd q (by decide)⟩
  · exact ⟨fun q => absurd rfl q, fun _ => bq (b' := true) h hb⟩))
theorem s_isOpen {l : Nat} (hM : MS v N nu) (hl : l < 32) : ZP (d + 2) m_X11_isOpen [vR 11 0, vI (nI l)] v (bI (nP N l)) := fun Q h => E_X11_isOpen (B_X11_isOpen_0 (by
  rw [hM.2.2.1]
  have := nO_lt hM.1
  exact cP (s_has (by omega) hl) (z_i01 h)))
theorem s_bits {s : Nat} (hs : s < 1024) : ZP (d + 1) m_X11_bits [vI (nI s)] v (nI (pc 10 s)) := fun Q h => E_X11_bits (B_X11_bits_0 (by
  have key : ∀ k t : Nat, t < 1024 → t ≤ k → ∀ m, m + pc 10 t = pc 10 s → ∀ (u0 : Option z_AV), z_Wp (z_C d) 1 k_X11_bits Q 4 [u0, some (vI (nI m)), some (vI (nI t))] [] v := by
    intro k
    induction k with
    | zero =>
      intro t ht hk m hm u0
      obtain rfl : t = 0 := by omega
      refine B_X11_bits_4 ⟨fun _ => ?_, fun q => absurd rfl q⟩
      rw [show m = pc 10 s from hm]
      exact h
    | succ k ih =>
      intro t ht hk m hm u0
      refine B_X11_bits_4 (pk_eq t 0 (fun e => ?_) (fun e => ?_))
      · subst e
        rw [show m = pc 10 s from hm]
        exact h
      · have hp := pc_step t ht e
        rw [show (1 : Int32) = nI 1 from rfl, pk_sub (by omega), nI_and, nI_add]
        exact ih (t &&& (t - 1)) (by omega) (by omega) (m + 1) (by omega) _
  exact key s s hs (Nat.le_refl _) 0 (by omega) _))
theorem s_apartBy {a b : Nat} (ha : a < 2 ^ 31) (hb : b < 2 ^ 31) : ZP (d + 1) m_X11_apartBy [vI (nI a), vI (nI b)] v (nI (dst a b)) := fun Q h => E_X11_apartBy (B_X11_apartBy_0 (pk_le b a (fun e => by
    rw [pk_sub e]
    have : dst a b = a - b := by unfold dst; split <;> omega
    rw [← this]
    exact h) (fun e => by
    rw [pk_sub (by omega)]
    have : dst a b = b - a := by unfold dst; split <;> omega
    rw [← this]
    exact h)))
theorem s_one {l : Nat} (hM : MS v N nu) (hl : l < nN N) : ZP (d + 1) m_X11_one [vR 11 0, vI (nI l)] v (nI (nA N l)) := fun Q h => E_X11_one (B_X11_one_0 (by
  have := hM.1.1
  have e : (17 : Int32) + 2 * nI l = nI (17 + 2 * l) := by rw [← nI_add, ← pk_mul]; rfl
  rw [e]
  refine z_ii _ rfl (by omega) ?_
  rw [n_nI (by omega), (hM.2.2.2.1 l hl).1]
  exact h))
theorem s_other {l : Nat} (hM : MS v N nu) (hl : l < nN N) : ZP (d + 1) m_X11_other [vR 11 0, vI (nI l)] v (nI (nB N l)) := fun Q h => E_X11_other (B_X11_other_0 (by
  have := hM.1.1
  have e : (17 : Int32) + 2 * nI l + 1 = nI (18 + 2 * l) := by
    rw [show 18 + 2 * l = 17 + 2 * l + 1 by omega, ← nI_add, ← nI_add, ← pk_mul]; rfl
  rw [e]
  refine z_ii _ rfl (by omega) ?_
  rw [n_nI (by omega), (hM.2.2.2.1 l hl).2]
  exact h))
theorem s_isOn {l h : Nat} (hM : MS v N nu) (hl : l < nN N) (hh : h < 2 ^ 31) : ZP (d + 2) m_X11_isOn [vR 11 0, vI (nI l), vI (nI h)] v (bI (nOn N l h)) := fun Q k => E_X11_isOn (B_X11_isOn_0 (by
  have hw := hM.1.2.2.1 l hl
  refine cP (s_one hM hl) (pk_eq (nA N l) h (fun e => ?_) (fun e => ?_))
  · exact bq (b' := true) k (by simp [nOn, e])
  · refine cP (s_other hM hl) (pk_ne (nB N l) h (fun e2 => ?_) (fun e2 => ?_))
    · exact bq (b' := false) k (by simp [nOn, e, e2])
    · exact bq (b' := true) k (by simp [nOn, e2])))
def fare (N : z_N) (nu : Nat → Nat) (l : Nat) : Nat := dst (nu (nA N l)) (nu (nB N l))
theorem s_fareOf {l : Nat} (hM : MS v N nu) (hl : l < nN N) : ZP (d + 2) m_X11_fareOf [vR 11 0, vI (nI l)] v (nI (fare N nu l)) := fun Q h => E_X11_fareOf (B_X11_fareOf_0 (by
  have hw := hM.1.2.2.1 l hl
  have h1 := hM.2.2.2.2 _ hw.1
  have h2 := hM.2.2.2.2 _ hw.2.1
  refine cP (s_one hM hl) ?_
  rw [show (10 : Int32) = nI 10 from rfl, nI_add]
  refine z_ii _ rfl (by omega) ?_
  refine cP (s_other hM hl) ?_
  rw [nI_add]
  refine z_ii _ rfl (by omega) ?_
  rw [n_nI (by omega), n_nI (by omega), h1.1, h2.1]
  exact cP (s_apartBy (by omega) (by omega)) h))
theorem s_openMany (hM : MS v N nu) : ZP (d + 2) m_X11_openMany [vR 11 0] v (nI (pc 10 (nO N))) := fun Q h => E_X11_openMany (B_X11_openMany_0 (by
  rw [hM.2.2.1]
  exact cP (s_bits (nO_lt hM.1)) h))
theorem s_besideOf {h : Nat} (hM : MS v N nu) (hh : h < 7) : ZP (d + 3) m_X11_besideOf [vR 11 0, vI (nI h)] v (nI (bs 7 (nAdj N h))) := fun Q k => E_X11_besideOf (B_X11_besideOf_0 (by
  have hn := hM.1.1
  refine z_up0 (P := fun l => ∀ s, s < 128 → (∀ g, g < 7 → s.testBit g = anyL l (fun l => nP N l && nEd N l h g)) → z_Wp (z_C (d + 2)) 1 k_X11_besideOf Q 4 [some (vR 11 0), some (vI (nI h)), some (vI (nI s)), some (vI (nI l))] [] v) (nN N) ?_ ?_ 0 (by decide) (fun g _ => by simp [anyL])
  · intro s hs hb
    refine B_X11_besideOf_4 (pk_le (nN N) (nN N) (fun _ => ?_) (fun q => absurd q (by omega)) hM.2.1)
    rw [show s = bs 7 (nAdj N h) from bs_eq hs hb] 
    exact k
  · intro l hl ih s hs hb
    have hw := hM.1.2.2.1 l hl
    refine B_X11_besideOf_4 (pk_le (nN N) l (fun q => absurd q (by omega)) (fun _ => ?_) hM.2.1)
    refine cP (s_isOpen hM (by omega)) (br_z (fun e => ?_) (fun e => ?_))
    · rw [nI_1]
      exact ih s hs (fun g hg => by simp [anyL, hb g hg, e])
    · refine cP (s_isOn hM hl (by omega)) (br_z (fun e2 => ?_) (fun e2 => ?_))
      · rw [nI_1]
        refine ih s hs (fun g hg => ?_)
        have : nEd N l h g = false := by
          simp only [nOn, Bool.or_eq_false_iff] at e2
          simp [nEd, e2.1, e2.2]
        simp [anyL, hb g hg, this]
      · refine cP (s_one hM hl) (cP (s_other hM hl) ?_)
        have ho : ∃ o, o < 7 ∧ nA N l + nB N l - h = o ∧ h ≤ nA N l + nB N l ∧ ∀ g, g < 7 → nEd N l h g = decide (g = o) := by
          simp only [nOn, Bool.or_eq_true, beq_iff_eq] at e2
          rcases e2 with e2 | e2
          · refine ⟨nB N l, hw.2.1, by omega, by omega, fun g _ => ?_⟩
            have h3 : ¬ nB N l = h := by rw [← e2]; exact Ne.symm hw.2.2
            simp only [nEd, e2, beq_self_eq_true, Bool.true_and, beq_eq_false_iff_ne.mpr h3, Bool.false_and, Bool.or_false]
            by_cases hg : nB N l = g
            · simp [hg]
            · simp [hg, Ne.symm hg]
          · refine ⟨nA N l, hw.1, by omega, by omega, fun g _ => ?_⟩
            have h3 : ¬ nA N l = h := by rw [← e2]; exact hw.2.2
            simp only [nEd, e2, beq_self_eq_true, Bool.true_and, beq_eq_false_iff_ne.mpr h3, Bool.false_and, Bool.false_or]
            by_cases hg : nA N l = g
            · simp [hg]
            · simp [hg, Ne.symm hg]
        obtain ⟨o, ho7, hoe, hle, hoE⟩ := ho
        rw [nI_add, pk_sub hle, hoe, nI_shl (by omega), nI_or, nI_1]
        refine ih (s ||| 2 ^ o) (Nat.or_lt_two_pow (n := 7) hs (Nat.pow_lt_pow_right (by decide) ho7)) (fun g hg => ?_)
        rw [Nat.testBit_or, Nat.testBit_two_pow, hb g hg]
        simp only [anyL, e, Bool.true_and, hoE g hg]
        by_cases hgo : g = o
        · simp [hgo]
        · simp [hgo, Ne.symm hgo]))
theorem s_areBeside {g h : Nat} (hM : MS v N nu) (hg : g < 7) (hh : h < 7) : ZP (d + 4) m_X11_areBeside [vR 11 0, vI (nI g), vI (nI h)] v (bI (nAdj N g h)) := fun Q k => E_X11_areBeside (B_X11_areBeside_0 (by
  refine cP (s_besideOf hM hg) ?_
  have hlt := bs_lt 7 (nAdj N g)
  refine cP (s_has (by omega) (by omega)) (z_i01 (bq k ?_))
  rw [bs_bit]
  simp [hh]))
end MSS
