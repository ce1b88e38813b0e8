/-! counting rows of numbers: sums turned round -/
theorem smF_end : ∀ {r c : Nat} {f : Nat → Nat}, smF (r + 1) c f = smF r c f + f (c + r)
  | 0, c, f => by simp [smF]
  | r + 1, c, f => by
    have := smF_end (r := r) (c := c + 1) (f := f)
    rw [show smF (r + 1 + 1) c f = f c + smF (r + 1) (c + 1) f from rfl, this, show smF (r + 1) c f = f c + smF r (c + 1) f from rfl, show c + 1 + r = c + (r + 1) by omega]
    omega
theorem smF_sh : ∀ {r c : Nat} {f : Nat → Nat}, smF r (c + 1) f = smF r c (fun x => f (x + 1))
  | 0, _, _ => rfl
  | r + 1, c, f => by
    show f (c + 1) + smF r (c + 1 + 1) f = f (c + 1) + smF r (c + 1) (fun x => f (x + 1))
    rw [smF_sh (r := r) (c := c + 1) (f := f)]
theorem smF_rev : ∀ {n : Nat} {f : Nat → Nat}, smF n 0 f = smF n 0 (fun x => f (n - 1 - x))
  | 0, _ => rfl
  | n + 1, f => by
    rw [smF_end, smF_rev (n := n) (f := f)]
    show _ = f (n + 1 - 1 - 0) + smF n (0 + 1) (fun x => f (n + 1 - 1 - x))
    rw [smF_sh, show n + 1 - 1 - 0 = n by omega, Nat.zero_add, Nat.add_comm]
    congr 1
    exact smF_cg (fun x _ _ => by rw [show n + 1 - 1 - (x + 1) = n - 1 - x by omega])
/-- half of them, twice -/
def wHf (top y : Nat) : Nat := if y * 2 = top then 1 else 2
theorem half_a {top : Nat} {A : Nat → Nat} (h : ∀ y, y ≤ top → A y = A (top - y)) : ∀ k, 2 * k ≤ top + 1 → smF (top + 1) 0 A = 2 * smF k 0 A + smF (top + 1 - 2 * k) k A
  | 0, _ => by simp [smF]
  | k + 1, hk => by
    have ih := half_a h k (by omega)
    obtain ⟨r, hr⟩ : ∃ r, top + 1 - 2 * k = r + 2 := ⟨top + 1 - 2 * k - 2, by omega⟩
    rw [ih, hr, show top + 1 - 2 * (k + 1) = r by omega, smF_end (r := k) (c := 0), smF_end (r := r + 1) (c := k), show smF (r + 1) k A = A k + smF r (k + 1) A from rfl, Nat.zero_add]
    have := h k (by omega)
    rw [show top - k = k + (r + 1) by omega] at this
    omega
theorem half_s {top : Nat} {A : Nat → Nat} (h : ∀ y, y ≤ top → A y = A (top - y)) : smF (top / 2 + 1) 0 (fun y => wHf top y * A y) = smF (top + 1) 0 A := by
  have tw : ∀ k, 2 * k ≤ top → smF k 0 (fun y => wHf top y * A y) = 2 * smF k 0 A := by
    intro k
    induction k with
    | zero => intro _; rfl
    | succ k ih =>
      intro hk
      rw [smF_end, smF_end, ih (by omega), Nat.zero_add]
      unfold wHf
      rw [if_neg (by omega)]
      omega
  by_cases z : top % 2 = 0
  · rw [half_a h (top / 2) (by omega), show top + 1 - 2 * (top / 2) = 1 by omega, smF_end, tw (top / 2) (by omega), Nat.zero_add]
    unfold wHf
    rw [if_pos (by omega)]
    simp [smF]
  · rw [half_a h (top / 2 + 1) (by omega), show top + 1 - 2 * (top / 2 + 1) = 0 by omega, smF_end, tw (top / 2) (by omega), smF_end (r := top / 2) (c := 0), Nat.zero_add]
    unfold wHf
    rw [if_neg (by omega)]
    show 2 * _ + 2 * _ = 2 * (_ + _) + 0
    omega
section NB7
variable {N : z_N} {L L2 : Nat → Nat} {top : Nat}
def Pc (N : z_N) : (Nat → Nat) → Bool := PbL N (CbK 0 0 0 N)
theorem Pc_iff (hW : nWF N) : Pc N L = true ↔ ptN N true (nW N) L := by
  obtain ⟨T, hT⟩ : ∃ T, ∀ h, h < 7 → L h ≤ T := ⟨L 0 + L 1 + L 2 + L 3 + L 4 + L 5 + L 6, fun h hh => by
    rcases (by omega : h = 0 ∨ h = 1 ∨ h = 2 ∨ h = 3 ∨ h = 4 ∨ h = 5 ∨ h = 6) with z | z | z | z | z | z | z <;> subst z <;> omega⟩
  have e1 : Pc N L = true ↔ solL N (CbK 0 0 0 N) T L := by
    unfold Pc PbL solL
    rw [allL_iff]
    exact ⟨fun z k hk => ⟨z k hk, hT _ (nK_ok hk).1⟩, fun z k hk => (z k hk).1⟩
  rw [e1, sol_nice hW, nice01, ← sol1 hW]
  unfold solN
  have eU : (fun g => (fun _ : Nat => false) g || nW N g) = nW N := funext (fun g => Bool.false_or _)
  rw [eU]
  exact ⟨fun z => z.1, fun z => ⟨z, fun h hh _ => hT h hh⟩⟩
/-- turned upside down -/
theorem pt_flip (hW : nWF N) (h : ∀ g, g < 7 → nW N g = true → L2 g = top - L g ∧ L g ≤ top) (z : ptN N true (nW N) L) : ptN N true (nW N) L2 := by
  have en : ∀ l, nP N l = true → (nA N l < 7 ∧ nB N l < 7) ∧ nW N (nA N l) = true ∧ nW N (nB N l) = true := fun l hl => by
    have := hW.2.2.1 l (nP_lt hW hl)
    exact ⟨⟨this.1, this.2.1⟩, nW_ends hW hl⟩
  have fe : ∀ l, nP N l = true → fL N L2 l = fL N L l := fun l hl => by
    have e := en l hl
    have a := h _ e.1.1 e.2.1
    have b := h _ e.1.2 e.2.2
    unfold fL dst
    rw [a.1, b.1]
    split <;> split <;> omega
  refine ⟨fun hu g k hg hk hne h1 h2 => ?_, fun l hl h1 h2 => ?_, fun l l' hne hl hl' a1 a2 b1 b2 => ?_⟩
  · have a := h g hg h1
    have b := h k hk h2
    have := z.1 hu g k hg hk hne h1 h2
    omega
  · have e := en l hl
    have a := h _ e.1.1 e.2.1
    have b := h _ e.1.2 e.2.2
    have := z.2.1 l hl h1 h2
    omega
  · rw [fe l hl, fe l' hl']
    exact z.2.2 l l' hne hl hl' a1 a2 b1 b2
theorem Pc_flip (hW : nWF N) (h : ∀ g, g < 7 → nW N g = true → L2 g = top - L g ∧ L g ≤ top) : Pc N L = Pc N L2 := by
  have h' : ∀ g, g < 7 → nW N g = true → L g = top - L2 g ∧ L2 g ≤ top := fun g hg hw => by
    have := h g hg hw
    omega
  apply Bool.eq_iff_iff.mpr
  rw [Pc_iff hW, Pc_iff hW]
  exact ⟨pt_flip hW h, pt_flip hW h'⟩
theorem ctV_flip (hW : nWF N) : ∀ {vs : List Nat} {L L2 : Nat → Nat}, (∀ g, g < 7 → nW N g = true → g ∉ vs → L2 g = top - L g ∧ L g ≤ top) → ctV 0 (top + 1) (Pc N) vs L = ctV 0 (top + 1) (Pc N) vs L2
  | [], L, L2, h => by
    simp only [ctV]
    rw [Pc_flip hW (fun g hg hw => h g hg hw (by simp))]
  | k :: vs, L, L2, h => by
    simp only [ctV]
    rw [smF_rev (f := fun x => ctV 0 (top + 1) (Pc N) vs (sU L2 k x))]
    refine smF_cg (fun x _ hx => ctV_flip hW (fun g hg hw hm => ?_))
    by_cases e : g = k
    · subst e
      rw [sU_s, sU_s]
      omega
    · rw [sU_n e, sU_n e]
      exact h g hg hw (by simp [e, hm])
theorem bs_cnt {f : Nat → Bool} (ht : top ≤ 10) : pc 11 (bs 64 (fun x => f x && decide (x ≤ top))) = smF (top + 1) 0 (fun x => if f x = true then 1 else 0) := by
  have k1 : ∀ k, k ≤ 64 → pc k (bs 64 (fun x => f x && decide (x ≤ top))) = smF k 0 (fun x => if (f x && decide (x ≤ top)) = true then 1 else 0) := by
    intro k
    induction k with
    | zero => exact fun _ => rfl
    | succ k ih =>
      intro hk
      rw [smF_end, Nat.zero_add, ← ih (by omega)]
      simp only [pc]
      rw [bs_bit, decide_eq_true (by omega : k < 64), Bool.true_and]
  have k2 : ∀ k, smF (top + 1 + k) 0 (fun x => if (f x && decide (x ≤ top)) = true then 1 else 0) = smF (top + 1) 0 (fun x => if f x = true then 1 else 0) := by
    intro k
    induction k with
    | zero => exact smF_cg (fun x _ hx => by rw [decide_eq_true (by omega), Bool.and_true])
    | succ k ih =>
      rw [show top + 1 + (k + 1) = (top + 1 + k) + 1 by omega, smF_end, ih, decide_eq_false (by omega), Bool.and_false]
      rfl
  rw [k1 11 (by omega), ← k2 (10 - top), show top + 1 + (10 - top) = 11 by omega]
end NB7
