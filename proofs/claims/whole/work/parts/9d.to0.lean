/-! ALL FARES: orders of halts, and what crosses -/
theorem sm_sw {f : Nat → Nat → Nat} {m : Nat} : ∀ {n : Nat}, sm n (fun i => sm m (fun j => f i j)) = sm m (fun j => sm n (fun i => f i j))
  | 0 => by
    have z : ∀ k, sm k (fun _ => 0) = 0 := fun k => by
      induction k with
      | zero => rfl
      | succ k ih => simp only [sm]; rw [ih]
    show 0 = sm m (fun _ => 0)
    rw [z]
  | n + 1 => by
    simp only [sm]
    rw [sm_sw (n := n), sm_add]
theorem sm_0 {n : Nat} {f : Nat → Nat} (h : ∀ i, i < n → f i = 0) : sm n f = 0 := by
  have : sm n f ≤ 0 * n := sm_le (fun i hi => by rw [h i hi]; exact Nat.le_refl _)
  omega
theorem sm_cnt {f : Nat → Bool} : ∀ {n : Nat}, sm n (fun i => if f i = true then 1 else 0) = cntL n f
  | 0 => rfl
  | n + 1 => by
    simp only [sm, cntL]
    rw [sm_cnt]
theorem cnt_sp {f p : Nat → Bool} : ∀ {n : Nat}, cntL n f = cntL n (fun i => f i && p i) + cntL n (fun i => f i && !p i)
  | 0 => rfl
  | n + 1 => by
    have a : cntL (n + 1) f = cntL n f + (if f n = true then 1 else 0) := rfl
    have b : cntL (n + 1) (fun i => f i && p i) = cntL n (fun i => f i && p i) + (if (f n && p n) = true then 1 else 0) := rfl
    have c : cntL (n + 1) (fun i => f i && !p i) = cntL n (fun i => f i && !p i) + (if (f n && !p n) = true then 1 else 0) := rfl
    have ih := cnt_sp (f := f) (p := p) (n := n)
    rw [a, b, c]
    cases f n <;> cases p n <;> simp <;> omega
theorem cnt_one {f : Nat → Bool} {n i : Nat} (hi : i < n) (h : ∀ j, j < n → f j = decide (j = i)) : cntL n f = 1 := by
  rw [cntL_cong n h, ← sm_cnt]
  have : sm n (fun j => if decide (j = i) = true then 1 else 0) = sm n (fun j => if j = i then 1 else 0) := sm_cg (fun j _ => by
    by_cases z : j = i
    · rw [decide_eq_true z, if_pos rfl, if_pos z]
    · rw [decide_eq_false z, if_neg z, if_neg (by decide)])
  rw [this, sm_one hi]
/-- an unlike-keeping map of a set into itself comes to all of it -/
theorem cnt_onto {n : Nat} {f : Nat → Bool} (φ : Nat → Nat) (h : ∀ i, i < n → f i = true → φ i < n ∧ f (φ i) = true) (hi : ∀ i j, i < n → j < n → f i = true → f j = true → φ i = φ j → i = j) {x : Nat} (hx : x < n) (hf : f x = true) : ∃ i, i < n ∧ f i = true ∧ φ i = x := by
  refine Classical.byContradiction (fun no => ?_)
  have a := cnt_inj (g := fun j => f j && !decide (j = x)) (m := n) φ (fun i a b => ⟨(h i a b).1, by
    rw [(h i a b).2, decide_eq_false (fun e => no ⟨i, a, b, e⟩)]
    rfl⟩) hi
  have b := cnt_rm hf n
  rw [if_pos hx] at b
  omega
def inj7 (L : Nat → Nat) : Prop := (∀ h, h < 7 → L h < 7) ∧ ∀ g h, g < 7 → h < 7 → L g = L h → g = h
def injW (N : z_N) (L : Nat → Nat) : Prop := (∀ h, h < 7 → nW N h = true → L h < nM N) ∧ ∀ g h, g < 7 → h < 7 → nW N g = true → nW N h = true → L g = L h → g = h
def csL (N : z_N) (L : Nat → Nat) : Nat := sm 10 (fun l => if nP N l = true then fL N L l else 0)
def toA (N : z_N) (r : Int32) : Prop := ∃ t, r = nI t ∧ (∃ L, injW N L ∧ csL N L = t) ∧ ∀ L, injW N L → t ≤ csL N L
theorem toA.u {N : z_N} {r r' : Int32} (h : toA N r) (h' : toA N r') : r = r' := by
  obtain ⟨t, rfl, ⟨L, h1, h2⟩, h3⟩ := h
  obtain ⟨t', rfl, ⟨L', k1, k2⟩, k3⟩ := h'
  have a := h3 L' k1
  have b := k3 L h1
  congr 1
  omega
section TO0
variable {N : z_N} {L : Nat → Nat}
theorem csL_cg {L' : Nat → Nat} (hW : nWF N) (e : ∀ h, h < 7 → nW N h = true → L h = L' h) : csL N L = csL N L' := sm_cg (fun l _ => by
  cases hp : nP N l
  · rfl
  · have hw := hW.2.2.1 l (nP_lt hW hp)
    have he := nW_ends hW hp
    unfold fL
    rw [e _ hw.1 he.1, e _ hw.2.1 he.2])
/-- more places don't help -/
theorem W_of_7 (hW : nWF N) (h : inj7 L) : ∃ L', injW N L' ∧ csL N L' ≤ csL N L := by
  have lt : ∀ g k, g < 7 → nW N g = true → L g < L k → cntL 7 (fun i => nW N i && decide (L i < L g)) < cntL 7 (fun i => nW N i && decide (L i < L k)) := fun g k hg hw hl => cntL_lt 7 (fun i _ z => by
    simp only [Bool.and_eq_true, decide_eq_true_eq] at z ⊢
    exact ⟨z.1, by omega⟩) ⟨g, hg, by rw [decide_eq_false (by omega), Bool.and_false], by rw [hw, decide_eq_true hl]; rfl⟩
  have le : ∀ g k, L g < L k → cntL 7 (fun i => nW N i && decide (L i < L k)) ≤ cntL 7 (fun i => nW N i && decide (L i < L g)) + (L k - L g) := fun g k hl => by
    have e := cnt_sp (f := fun i => nW N i && decide (L i < L k)) (p := fun i => decide (L i < L g)) (n := 7)
    have e1 : cntL 7 (fun i => (nW N i && decide (L i < L k)) && decide (L i < L g)) ≤ cntL 7 (fun i => nW N i && decide (L i < L g)) := cntL_mono 7 (fun i _ z => by
      simp only [Bool.and_eq_true] at z ⊢
      exact ⟨z.1.1, z.2⟩)
    have e2 : cntL 7 (fun i => (nW N i && decide (L i < L k)) && !decide (L i < L g)) ≤ L k - L g := pg 7 _ (fun i => L i - L g) (L k - L g) (fun i _ z => by
      simp only [Bool.and_eq_true, Bool.not_eq_true', decide_eq_true_eq, decide_eq_false_iff_not] at z
      show L i - L g < L k - L g
      omega) (fun i j hi hj z z' e => by
      simp only [Bool.and_eq_true, Bool.not_eq_true', decide_eq_true_eq, decide_eq_false_iff_not] at z z'
      have e : L i - L g = L j - L g := e
      exact h.2 i j hi hj (by omega))
    omega
  refine ⟨fun k => cntL 7 (fun i => nW N i && decide (L i < L k)), ⟨fun k hk hw => ?_, fun g k hg hk hwg hwk e => ?_⟩, sm_mono (fun l _ => ?_)⟩
  · refine cntL_lt 7 (fun i _ z => ?_) ⟨k, hk, ?_, hw⟩
    · rw [Bool.and_eq_true] at z
      exact z.1
    · rw [decide_eq_false (by omega), Bool.and_false]
  · have e : cntL 7 (fun i => nW N i && decide (L i < L g)) = cntL 7 (fun i => nW N i && decide (L i < L k)) := e
    rcases Nat.lt_trichotomy (L g) (L k) with z | z | z
    · have := lt g k hg hwg z
      omega
    · exact h.2 g k hg hk z
    · have := lt k g hk hwk z
      omega
  · cases hp : nP N l
    · exact Nat.le_refl _
    · rw [if_pos rfl, if_pos rfl]
      have hw := hW.2.2.1 l (nP_lt hW hp)
      have he := nW_ends hW hp
      have one : ∀ a b, a < 7 → b < 7 → nW N a = true → nW N b = true → dst (cntL 7 (fun i => nW N i && decide (L i < L a))) (cntL 7 (fun i => nW N i && decide (L i < L b))) ≤ dst (L a) (L b) := fun a b ha hb wa wb => by
        rcases Nat.lt_trichotomy (L a) (L b) with z | z | z
        · have h1 := lt a b ha wa z
          have h2 := le a b z
          unfold dst
          rw [if_pos (by omega), if_pos (by omega)]
          omega
        · rw [z]
          unfold dst
          rw [if_pos (Nat.le_refl _)]
          omega
        · have h1 := lt b a hb wb z
          have h2 := le b a z
          unfold dst
          rw [if_neg (by omega), if_neg (by omega)]
          omega
      exact one _ _ hw.1 hw.2.1 he.1 he.2
theorem cnt_not {f : Nat → Bool} {n : Nat} : cntL n f + cntL n (fun i => !f i) = n := by
  have e := cnt_sp (f := fun _ => true) (p := f) (n := n)
  have e1 : cntL n (fun _ => true) = n := by
    induction n with
    | zero => rfl
    | succ n ih =>
      simp only [cntL]
      rw [ih]
      · rfl
      · exact cnt_sp
  have e2 : cntL n (fun i => true && f i) = cntL n f := cntL_cong n (fun i _ => Bool.true_and _)
  have e3 : cntL n (fun i => true && !f i) = cntL n (fun i => !f i) := cntL_cong n (fun i _ => Bool.true_and _)
  omega
theorem W_to_7 (hW : nWF N) (h : injW N L) : ∃ L', inj7 L' ∧ csL N L' = csL N L := by
  have hn := cnt_not (f := nW N) (n := 7)
  have hv : ∀ k, k < 7 → nW N k = false → cntL k (fun i => !nW N i) < cntL 7 (fun i => !nW N i) := fun k hk hw => cntL_lt2 (f := fun i => !nW N i) hk (by show (!nW N k) = true; rw [hw]; rfl)
  refine ⟨fun k => if nW N k = true then L k else nM N + cntL k (fun i => !nW N i), ⟨fun k hk => ?_, fun g k hg hk e => ?_⟩, (csL_cg hW (fun k hk hw => ?_)).symm⟩
  · show (if nW N k = true then L k else nM N + cntL k (fun i => !nW N i)) < 7
    have e : nM N = cntL 7 (nW N) := rfl
    cases hw : nW N k
    · have := hv k hk hw
      rw [if_neg (by decide)]
      omega
    · have := h.1 k hk hw
      rw [if_pos rfl]
      have := nM_le (N := N)
      omega
  · have e : (if nW N g = true then L g else nM N + cntL g (fun i => !nW N i)) = (if nW N k = true then L k else nM N + cntL k (fun i => !nW N i)) := e
    cases h1 : nW N g <;> cases h2 : nW N k <;> rw [h1, h2] at e
    · rw [if_neg (by decide), if_neg (by decide)] at e
      rcases Nat.lt_trichotomy g k with z | z | z
      · have := cntL_lt2 (f := fun i => !nW N i) z (by show (!nW N g) = true; rw [h1]; rfl)
        omega
      · exact z
      · have := cntL_lt2 (f := fun i => !nW N i) z (by show (!nW N k) = true; rw [h2]; rfl)
        omega
    · rw [if_neg (by decide), if_pos rfl] at e
      have := h.1 k hk h2
      omega
    · rw [if_pos rfl, if_neg (by decide)] at e
      have := h.1 g hg h1
      omega
    · rw [if_pos rfl, if_pos rfl] at e
      exact h.2 g k hg hk h1 h2 e
  · show L k = (if nW N k = true then L k else _)
    rw [if_pos hw]
/-- lines that go out of a set -/
def crL (N : z_N) (s : Nat → Bool) : Nat := sm 10 (fun l => if (nP N l && (s (nA N l) != s (nB N l))) = true then 1 else 0)
def crH (N : z_N) (s : Nat → Bool) : Nat := sm 7 (fun h => if s h = true then cntL 7 (fun i => nAdj N h i && !s i) else 0)
theorem adj_sm (hW : nWF N) {g h : Nat} : (if nAdj N g h = true then 1 else 0) = sm 10 (fun l => if (nP N l && nEd N l g h) = true then 1 else 0) := by
  have hn := hW.1
  rw [sm_cnt]
  cases e : nAdj N g h
  · have : cntL 10 (fun l => nP N l && nEd N l g h) = cntL 10 (fun _ => false) := cntL_cong 10 (fun l hl => by
      cases y : nP N l && nEd N l g h
      · rfl
      · rw [Bool.and_eq_true] at y
        rw [nAdj_iff.mpr ⟨l, nP_lt hW y.1, y.1, y.2⟩] at e
        cases e)
    rw [this]
    rfl
  · obtain ⟨l, h1, h2, h3⟩ := nAdj_iff.mp e
    rw [if_pos rfl]
    refine (cnt_one (i := l) (by omega) (fun j _ => ?_)).symm
    by_cases z : j = l
    · rw [z, h2, h3, decide_eq_true rfl]
      rfl
    · rw [decide_eq_false z]
      cases y : nP N j && nEd N j g h
      · rfl
      · rw [Bool.and_eq_true] at y
        exact absurd (ln_un hW y.1 h2 y.2 h3) z
theorem cr_eq (hW : nWF N) (s : Nat → Bool) : crH N s = crL N s := by
  have e1 : crH N s = sm 7 (fun h => sm 7 (fun i => sm 10 (fun l => if ((s h && !s i) && (nP N l && nEd N l h i)) = true then 1 else 0))) := sm_cg (fun h _ => by
    cases hs : s h
    · rw [if_neg (by decide)]
      refine (sm_0 (fun i _ => sm_0 (fun l _ => ?_))).symm
      rw [Bool.false_and, Bool.false_and]
      rfl
    · rw [if_pos rfl, ← sm_cnt]
      refine sm_cg (fun i _ => ?_)
      cases hi : s i
      · rw [Bool.not_false, Bool.and_true, adj_sm hW]
        exact sm_cg (fun l _ => by rw [Bool.true_and, Bool.true_and])
      · rw [Bool.not_true, Bool.and_false, if_neg (by decide)]
        exact (sm_0 (fun l _ => by rw [Bool.true_and, Bool.false_and]; rfl)).symm)
  have e2 : sm 7 (fun h => sm 7 (fun i => sm 10 (fun l => if ((s h && !s i) && (nP N l && nEd N l h i)) = true then 1 else 0))) = sm 10 (fun l => sm 7 (fun h => sm 7 (fun i => if ((s h && !s i) && (nP N l && nEd N l h i)) = true then 1 else 0))) := by
    have s1 : sm 7 (fun h => sm 7 (fun i => sm 10 (fun l => if ((s h && !s i) && (nP N l && nEd N l h i)) = true then 1 else 0))) = sm 7 (fun h => sm 10 (fun l => sm 7 (fun i => if ((s h && !s i) && (nP N l && nEd N l h i)) = true then 1 else 0))) := sm_cg (fun h _ => sm_sw)
    rw [s1, sm_sw]
  rw [e1, e2]
  refine sm_cg (fun l _ => ?_)
  cases hp : nP N l
  · rw [Bool.false_and, if_neg (by decide)]
    exact sm_0 (fun h _ => sm_0 (fun i _ => by rw [Bool.false_and, Bool.and_false]; rfl))
  · have hw := hW.2.2.1 l (nP_lt hW hp)
    have inner : ∀ h, h < 7 → sm 7 (fun i => if ((s h && !s i) && (true && nEd N l h i)) = true then 1 else 0) = (if h = nA N l then (if (s (nA N l) && !s (nB N l)) = true then 1 else 0) else 0) + (if h = nB N l then (if (s (nB N l) && !s (nA N l)) = true then 1 else 0) else 0) := fun h hh => by
      have ed : ∀ i, nEd N l h i = (if h = nA N l then decide (i = nB N l) else if h = nB N l then decide (i = nA N l) else false) := fun i => nEd_l hw.2.2
      by_cases z : h = nA N l
      · rw [if_pos z, if_neg (fun y => hw.2.2 (z.symm.trans y)), Nat.add_zero]
        have : sm 7 (fun i => if ((s h && !s i) && (true && nEd N l h i)) = true then 1 else 0) = sm 7 (fun i => if i = nB N l then (if (s (nA N l) && !s (nB N l)) = true then 1 else 0) else 0) := sm_cg (fun i _ => by
          rw [ed i, if_pos z, Bool.true_and]
          by_cases y : i = nB N l
          · rw [decide_eq_true y, if_pos y, Bool.and_true, y, z]
          · rw [decide_eq_false y, if_neg y, Bool.and_false]
            rfl)
        rw [this, sm_one hw.2.1]
      · by_cases z2 : h = nB N l
        · rw [if_neg z, if_pos z2, Nat.zero_add]
          have : sm 7 (fun i => if ((s h && !s i) && (true && nEd N l h i)) = true then 1 else 0) = sm 7 (fun i => if i = nA N l then (if (s (nB N l) && !s (nA N l)) = true then 1 else 0) else 0) := sm_cg (fun i _ => by
            rw [ed i, if_neg z, if_pos z2, Bool.true_and]
            by_cases y : i = nA N l
            · rw [decide_eq_true y, if_pos y, Bool.and_true, y, z2]
            · rw [decide_eq_false y, if_neg y, Bool.and_false]
              rfl)
          rw [this, sm_one hw.1]
        · rw [if_neg z, if_neg z2]
          exact sm_0 (fun i _ => by
            rw [ed i, if_neg z, if_neg z2, Bool.and_false, Bool.and_false]
            rfl)
    rw [sm_cg inner, sm_add, sm_one hw.1, sm_one hw.2.1, Bool.true_and]
    cases s (nA N l) <;> cases s (nB N l) <;> rfl
/-- step by step: what crosses together is what fares are together -/
theorem st_tab : ∀ a, a < 7 → ∀ b, b < 7 → sm 7 (fun k => if (decide (a < k + 1) != decide (b < k + 1)) = true then 1 else 0) = dst a b := by decide +kernel
theorem cs_cr (hW : nWF N) (h : inj7 L) : csL N L = sm 7 (fun k => crL N (fun g => decide (L g < k + 1))) := by
  unfold crL
  rw [sm_sw]
  refine sm_cg (fun l _ => ?_)
  cases hp : nP N l
  · rw [if_neg (by decide)]
    exact (sm_0 (fun k _ => by rw [Bool.false_and]; rfl)).symm
  · have hw := hW.2.2.1 l (nP_lt hW hp)
    rw [if_pos rfl]
    show dst (L (nA N l)) (L (nB N l)) = _
    rw [← st_tab _ (h.1 _ hw.1) _ (h.1 _ hw.2.1)]
    exact sm_cg (fun k _ => by rw [Bool.true_and])
end TO0
