/-! MENDING: what it asks -/
def faiL (N : z_N) (L : Nat → Nat) : Prop := (∀ l, nP N l = true → fL N L l ≠ 0) ∧ ∀ l l', l ≠ l' → nP N l = true → nP N l' = true → fL N L l ≠ fL N L l'
def mdR (N : z_N) (nu : Nat → Nat) (s : Nat) : Prop := ∃ L, (∀ h, h < 7 → s.testBit h = false → L h = nu h) ∧ (∀ h, h < 7 → s.testBit h = true → L h ≤ 20 ∧ L h ≠ nu h) ∧ faiL N L
def mdC (N : z_N) (nu : Nat → Nat) (s : Nat) : Prop := ∃ L, (∀ h, h < 7 → s.testBit h = false → L h = nu h) ∧ (∀ h, h < 7 → s.testBit h = true → L h ≤ 20) ∧ faiL N L
def inNW (N : z_N) (s : Nat) : Prop := ∀ h, h < 7 → s.testBit h = true → nW N h = true
def leM (s s' : Nat) : Prop := pc 7 s < pc 7 s' ∨ (pc 7 s = pc 7 s' ∧ s ≤ s')
def mnA (N : z_N) (nu : Nat → Nat) (r : Int32) : Prop := (r = -1 ∧ ∀ s, s < 128 → ¬ mdR N nu s) ∨ ∃ s, s < 128 ∧ r = nI s ∧ mdR N nu s ∧ ∀ s', s' < 128 → mdR N nu s' → leM s s'
def mnC (N : z_N) (nu : Nat → Nat) (r : Int32) : Prop := (r = -1 ∧ ∀ s, s < 128 → inNW N s → ¬ mdC N nu s) ∨ ∃ s, s < 128 ∧ r = nI s ∧ inNW N s ∧ mdC N nu s ∧ ∀ s', s' < 128 → inNW N s' → mdC N nu s' → leM s s'
theorem mnA.u {N : z_N} {nu : Nat → Nat} {r r' : Int32} (h : mnA N nu r) (h' : mnA N nu r') : r = r' := by
  rcases h with ⟨rfl, h2⟩ | ⟨s, h1, rfl, h3, h4⟩
  · rcases h' with ⟨rfl, _⟩ | ⟨s', k1, _, k3, _⟩
    · rfl
    · exact absurd k3 (h2 s' k1)
  · rcases h' with ⟨_, k2⟩ | ⟨s', k1, rfl, k3, k4⟩
    · exact absurd h3 (k2 s h1)
    · have a := h4 s' k1 k3
      have b := k4 s h1 h3
      unfold leM at a b
      congr 1
      omega
section MN0
variable {N : z_N} {nu : Nat → Nat} {s : Nat}
theorem faiL_cg {L L' : Nat → Nat} (hW : nWF N) (e : ∀ h, h < 7 → nW N h = true → L h = L' h) (h : faiL N L) : faiL N L' := by
  have ef : ∀ l, nP N l = true → fL N L l = fL N L' l := fun l hl => by
    have hw := hW.2.2.1 l (nP_lt hW hl)
    have hn := nW_ends hW hl
    unfold fL
    rw [e _ hw.1 hn.1, e _ hw.2.1 hn.2]
  exact ⟨fun l hl => by rw [← ef l hl]; exact h.1 l hl, fun l l' hne hl hl' => by rw [← ef l hl, ← ef l' hl']; exact h.2 l l' hne hl hl'⟩
theorem mdR.c (h : mdR N nu s) : mdC N nu s := by
  obtain ⟨L, h1, h2, h3⟩ := h
  exact ⟨L, h1, fun h hh z => (h2 h hh z).1, h3⟩
theorem mdR_w (hW : nWF N) (h : mdR N nu s) : mdR N nu (bs 7 (fun h => s.testBit h && nW N h)) := by
  obtain ⟨L, h1, h2, h3⟩ := h
  refine ⟨fun h => if (s.testBit h && nW N h) = true then L h else nu h, fun h hh z => ?_, fun h hh z => ?_, faiL_cg hW (fun h hh hw => ?_) h3⟩
  · rw [bs_bit, decide_eq_true hh, Bool.true_and] at z
    show (if (s.testBit h && nW N h) = true then L h else nu h) = nu h
    rw [z]
    rfl
  · rw [bs_bit, decide_eq_true hh, Bool.true_and] at z
    show (if (s.testBit h && nW N h) = true then L h else nu h) ≤ 20 ∧ (if (s.testBit h && nW N h) = true then L h else nu h) ≠ nu h
    rw [if_pos z]
    rw [Bool.and_eq_true] at z
    exact h2 h hh z.1
  · show L h = (if (s.testBit h && nW N h) = true then L h else nu h)
    rw [hw, Bool.and_true]
    cases y : s.testBit h
    · exact h1 h hh y
    · rfl
theorem bt_ext {s t : Nat} (hs : s < 128) (ht : t < 128) (h : ∀ i, i < 7 → s.testBit i = t.testBit i) : s = t := (bs_eq (n := 7) (f := s.testBit) hs (fun i _ => rfl)).trans ((bs_cong h).trans (bs_eq (n := 7) (f := t.testBit) ht (fun i _ => rfl)).symm)
/-- fewer, or the same -/
theorem sub_or {f : Nat → Bool} (hs : s < 128) : pc 7 (bs 7 (fun h => s.testBit h && f h)) < pc 7 s ∨ (s = bs 7 (fun h => s.testBit h && f h) ∧ ∀ h, h < 7 → s.testBit h = true → f h = true) := by
  by_cases e : ∃ i, i < 7 ∧ s.testBit i = true ∧ f i = false
  · obtain ⟨i, h1, h2, h3⟩ := e
    refine Or.inl (pc_lt 7 (fun j hj z => ?_) ⟨i, h1, ?_, h2⟩)
    · rw [bs_bit, decide_eq_true hj, Bool.true_and, Bool.and_eq_true] at z
      exact z.1
    · rw [bs_bit, h3, Bool.and_false, Bool.and_false]
  · have all : ∀ h, h < 7 → s.testBit h = true → f h = true := fun h hh z => by
      cases y : f h
      · exact absurd ⟨h, hh, z, y⟩ e
      · rfl
    refine Or.inr ⟨bs_eq (n := 7) hs (fun i hi => ?_), all⟩
    cases y : s.testBit i
    · rfl
    · rw [all i hi y]
      rfl
theorem mnC_A (hW : nWF N) {r : Int32} (h : mnC N nu r) : mnA N nu r := by
  have sw : ∀ t : Nat, inNW N (bs 7 (fun h => t.testBit h && nW N h)) := fun t h hh z => by
    rw [bs_bit, decide_eq_true hh, Bool.true_and, Bool.and_eq_true] at z
    exact z.2
  rcases h with ⟨rfl, h2⟩ | ⟨s, h1, rfl, hw, h3, h4⟩
  · exact Or.inl ⟨rfl, fun s hs z => h2 _ (bs_lt 7 _) (sw s) (mdR_w hW z).c⟩
  · refine Or.inr ⟨s, h1, rfl, ?_, fun s' hs' z => ?_⟩
    · obtain ⟨L, g1, g2, g3⟩ := h3
      have hr : mdR N nu (bs 7 (fun h => s.testBit h && decide (L h ≠ nu h))) := by
        refine ⟨L, fun h hh z => ?_, fun h hh z => ?_, g3⟩
        · rw [bs_bit, decide_eq_true hh, Bool.true_and] at z
          cases y : s.testBit h
          · exact g1 h hh y
          · rw [y, Bool.true_and, decide_eq_false_iff_not] at z
            exact Decidable.not_not.mp z
        · rw [bs_bit, decide_eq_true hh, Bool.true_and, Bool.and_eq_true, decide_eq_true_eq] at z
          exact ⟨g2 h hh z.1, z.2⟩
      rcases sub_or (f := fun h => decide (L h ≠ nu h)) h1 with y | ⟨y, _⟩
      · have := h4 _ (bs_lt 7 _) (fun h hh z => by
          rw [bs_bit, decide_eq_true hh, Bool.true_and, Bool.and_eq_true] at z
          exact hw h hh z.1) hr.c
        unfold leM at this
        omega
      · rw [y]
        exact hr
    · have a := h4 _ (bs_lt 7 _) (sw s') (mdR_w hW z).c
      rcases sub_or (f := nW N) hs' with y | ⟨y, _⟩
      · unfold leM at a ⊢
        omega
      · rw [← y] at a
        exact a
end MN0
