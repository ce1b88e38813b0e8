/-! small tools for runs of the small machine -/
def bI (b : Bool) : Int32 := if b = true then 1 else 0
theorem bI_01 (b : Bool) : z_01 (bI b) = true := by cases b <;> decide
theorem bI_t : bI true = 1 := rfl
theorem bI_f : bI false = 0 := rfl
theorem br_z {b : Bool} {A B : Prop} (f : b = false → A) (t : b = true → B) : (bI b = 0 → A) ∧ (¬ bI b = 0 → B) := by
  cases b
  · exact ⟨fun _ => f rfl, fun h => absurd rfl h⟩
  · exact ⟨fun h => absurd h (by decide), fun _ => t rfl⟩
theorem br_n {b : Bool} {A B : Prop} (t : b = true → A) (f : b = false → B) : (¬ bI b = 0 → A) ∧ (bI b = 0 → B) := by
  cases b
  · exact ⟨fun h => absurd rfl h, fun _ => f rfl⟩
  · exact ⟨fun _ => t rfl, fun h => absurd h (by decide)⟩
theorem z_i01 {b : Bool} {T : Prop} (h : T) : z_if (z_01 (bI b)) T := z_if_k (bI_01 b) h
theorem z_inN {j : Int32} {N : Nat} (n : Nat) (hj : j = nI n) (h : n < N) (hN : N < 2 ^ 31 := by decide) : z_in j N = true := by
  subst hj
  exact decide_eq_true (vp_in_nI h hN)
theorem z_ii {j : Int32} {N : Nat} {T : Prop} (n : Nat) (hj : j = nI n) (h : n < N) (t : T) (hN : N < 2 ^ 31 := by decide) : z_if (z_in j N) T := z_if_k (z_inN n hj h hN) t
theorem n_nI {n : Nat} (h : n < 2 ^ 31) : n_ (nI n) = n := nI_clamp h
/-- calls: what they answer, what they leave -/
def ZI (d a : Nat) (As : List z_AV) (v : z_V) (P : z_V → Int32 → Prop) : Prop := ∀ Q : z_RT, (∀ w r, P w r → Q w (some (vI r))) → z_C d a As v Q
def ZL (d a : Nat) (As : List z_AV) (v : z_V) (P : z_V → Int64 → Prop) : Prop := ∀ Q : z_RT, (∀ w r, P w r → Q w (some (vL r))) → z_C d a As v Q
def ZV (d a : Nat) (As : List z_AV) (v : z_V) (P : z_V → Prop) : Prop := ∀ Q : z_RT, (∀ w, P w → Q w none) → z_C d a As v Q
def ZP (d a : Nat) (As : List z_AV) (v : z_V) (r : Int32) : Prop := ∀ Q : z_RT, Q v (some (vI r)) → z_C d a As v Q
def ZPL (d a : Nat) (As : List z_AV) (v : z_V) (r : Int64) : Prop := ∀ Q : z_RT, Q v (some (vL r)) → z_C d a As v Q
theorem cP {d a : Nat} {As : List z_AV} {v : z_V} {r : Int32} {T : z_V → Int32 → Prop} (hs : ZP d a As v r) (k : T v r) : z_C d a As v (fun w o => ∃ i : Int32, o = some (vI i) ∧ T w i) := hs _ ⟨r, rfl, k⟩
theorem cPL {d a : Nat} {As : List z_AV} {v : z_V} {r : Int64} {T : z_V → Int64 → Prop} (hs : ZPL d a As v r) (k : T v r) : z_C d a As v (fun w o => ∃ i : Int64, o = some (vL i) ∧ T w i) := hs _ ⟨r, rfl, k⟩
theorem cI {d a : Nat} {As : List z_AV} {v : z_V} {P : z_V → Int32 → Prop} {T : z_V → Int32 → Prop} (hs : ZI d a As v P) (k : ∀ w r, P w r → T w r) : z_C d a As v (fun w o => ∃ i : Int32, o = some (vI i) ∧ T w i) := hs _ (fun w r h => ⟨r, rfl, k w r h⟩)
theorem cL {d a : Nat} {As : List z_AV} {v : z_V} {P : z_V → Int64 → Prop} {T : z_V → Int64 → Prop} (hs : ZL d a As v P) (k : ∀ w r, P w r → T w r) : z_C d a As v (fun w o => ∃ i : Int64, o = some (vL i) ∧ T w i) := hs _ (fun w r h => ⟨r, rfl, k w r h⟩)
theorem cV {d a : Nat} {As : List z_AV} {v : z_V} {P : z_V → Prop} {T : z_V → Prop} (hs : ZV d a As v P) (k : ∀ w, P w → T w) : z_C d a As v (fun w o => o = none ∧ T w) := hs _ (fun w h => ⟨rfl, k w h⟩)
theorem ZP.i {d a : Nat} {As : List z_AV} {v : z_V} {r : Int32} (h : ZP d a As v r) : ZI d a As v (fun w x => w = v ∧ x = r) := fun Q k => h Q (k v r ⟨rfl, rfl⟩)
theorem ZI.m {d a : Nat} {As : List z_AV} {v : z_V} {P P' : z_V → Int32 → Prop} (h : ZI d a As v P) (k : ∀ w r, P w r → P' w r) : ZI d a As v P' := fun Q q => h Q (fun w r z => q w r (k w r z))
theorem z_up {P : Nat → Prop} (n : Nat) (he : P n) (hs : ∀ k, k < n → P (k + 1) → P k) : ∀ k, k ≤ n → P k := by
  intro k hk
  obtain ⟨j, rfl⟩ : ∃ j, n = k + j := ⟨n - k, by omega⟩
  induction j generalizing k with
  | zero => exact he
  | succ j ih => exact hs k (by omega) (ih (k + 1) (by rw [show k + 1 + j = k + (j + 1) by omega]; exact he) (by rw [show k + 1 + j = k + (j + 1) by omega]; exact hs) (by omega))
theorem z_up0 {P : Nat → Prop} (n : Nat) (he : P n) (hs : ∀ k, k < n → P (k + 1) → P k) : P 0 := z_up n he hs 0 (Nat.zero_le n)
/-- branches by numbers -/
theorem pk_ne {x y : Int32} {A B : Prop} (a b : Nat) (f : a ≠ b → A) (g : a = b → B) (hx : x = nI a := by rfl) (hy : y = nI b := by rfl) (ha : a < 2 ^ 31 := by omega) (hb : b < 2 ^ 31 := by omega) : (¬ x = y → A) ∧ (x = y → B) := by
  subst hx hy
  rw [nI_eq ha hb]
  exact ⟨f, g⟩
theorem nI_lit {x : Int32} {n : Nat} (h : x = nI n) : x = nI n := h
theorem nI_shl {l : Nat} (h : l < 31) : i_shl 1 (nI l) = nI (2 ^ l) := by
  have : ∀ l, l < 31 → i_shl 1 (nI l) = nI (2 ^ l) := by decide +kernel
  exact this l h
theorem nI_bound (n : Nat) : (nI n).toBitVec = BitVec.ofNat 32 n := rfl
theorem nI_and (a b : Nat) : nI a &&& nI b = nI (a &&& b) := by
  apply Int32.toBitVec_inj.1
  show BitVec.ofNat 32 a &&& BitVec.ofNat 32 b = BitVec.ofNat 32 (a &&& b)
  apply BitVec.eq_of_getLsbD_eq
  intro i hi
  simp [hi]
theorem nI_or (a b : Nat) : nI a ||| nI b = nI (a ||| b) := by
  apply Int32.toBitVec_inj.1
  show BitVec.ofNat 32 a ||| BitVec.ofNat 32 b = BitVec.ofNat 32 (a ||| b)
  apply BitVec.eq_of_getLsbD_eq
  intro i hi
  simp [hi]
theorem nI_xor (a b : Nat) : nI a ^^^ nI b = nI (a ^^^ b) := by
  apply Int32.toBitVec_inj.1
  show BitVec.ofNat 32 a ^^^ BitVec.ofNat 32 b = BitVec.ofNat 32 (a ^^^ b)
  apply BitVec.eq_of_getLsbD_eq
  intro i hi
  simp [hi]
theorem nI_shr {a l : Nat} (ha : a < 2 ^ 31) (h : l < 32) : i_shr (nI a) (nI l) = nI (a / 2 ^ l) := by
  have hs : ∀ l, l < 32 → ((nI l &&& 31).toBitVec.smod 32).toNat = l := by decide +kernel
  have := pk_shrN ha (nI l &&& 31) l (hs l h)
  exact this
theorem nI_bit {a l : Nat} (ha : a < 2 ^ 31) (h : l < 32) : i_shr (nI a) (nI l) &&& 1 = nI (a / 2 ^ l % 2) := by
  rw [nI_shr ha h, show (1 : Int32) = nI 1 from rfl, nI_and, Nat.and_one_is_mod]
theorem nI_bitb {a l : Nat} (ha : a < 2 ^ 31) (h : l < 32) : i_shr (nI a) (nI l) &&& 1 = bI (a.testBit l) := by
  rw [nI_bit ha h, Nat.testBit_eq_decide_div_mod_eq]
  rcases Nat.mod_two_eq_zero_or_one (a / 2 ^ l) with e | e <;> rw [e] <;> rfl
/-- a set of places below a bound, as a number -/
def bs (n : Nat) (f : Nat → Bool) : Nat := match n with
  | 0 => 0
  | n + 1 => bs n f + (if f n = true then 2 ^ n else 0)
theorem bs_lt : ∀ (n : Nat) (f : Nat → Bool), bs n f < 2 ^ n
  | 0, _ => Nat.one_pos
  | n + 1, f => by
    have := bs_lt n f
    simp only [bs, Nat.pow_succ]
    split <;> omega
theorem bs_bit : ∀ (n : Nat) (f : Nat → Bool) (i : Nat), (bs n f).testBit i = (decide (i < n) && f i)
  | 0, _, i => by simp [bs]
  | n + 1, f, i => by
    simp only [bs]
    have hlt := bs_lt n f
    have ih := bs_bit n f
    by_cases hi : i = n
    · subst hi
      cases hf : f i
      · simp [Nat.testBit_lt_two_pow hlt]
      · simp only [if_true]
        rw [Nat.add_comm, Nat.testBit_two_pow_add_eq, Nat.testBit_lt_two_pow hlt]
        simp
    · cases hf : f n
      · simp only [Bool.false_eq_true, if_false, Nat.add_zero]
        rw [ih i]
        by_cases h : i < n
        · simp [h, Nat.lt_succ_of_lt h]
        · simp [h, show ¬ i < n + 1 by omega]
      · simp only [if_true]
        by_cases h : i < n
        · rw [Nat.add_comm, Nat.testBit_two_pow_add_gt h, ih i]
          simp [h, Nat.lt_succ_of_lt h]
        · have : bs n f + 2 ^ n < 2 ^ (n + 1) := by
            rw [Nat.pow_succ]
            omega
          rw [Nat.testBit_lt_two_pow (Nat.lt_of_lt_of_le this (Nat.pow_le_pow_right (by decide) (by omega)))]
          simp [show ¬ i < n + 1 by omega]
theorem bs_eq {n s : Nat} {f : Nat → Bool} (hs : s < 2 ^ n) (h : ∀ i, i < n → s.testBit i = f i) : s = bs n f := by
  apply Nat.eq_of_testBit_eq
  intro i
  rw [bs_bit]
  by_cases hi : i < n
  · simp [hi, h i hi]
  · rw [Nat.testBit_lt_two_pow (Nat.lt_of_lt_of_le hs (Nat.pow_le_pow_right (by decide) (by omega)))]
    simp [hi]
theorem bs_cong {n : Nat} {f g : Nat → Bool} (h : ∀ i, i < n → f i = g i) : bs n f = bs n g := bs_eq (bs_lt n f) (fun i hi => by rw [bs_bit]; simp [hi, h i hi])
