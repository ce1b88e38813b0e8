/-! the class solves: SPAN, WHOLE NUMBERS -/
theorem pg : ∀ (n : Nat) (f : Nat → Bool) (g : Nat → Nat) (m : Nat), (∀ i, i < n → f i = true → g i < m) → (∀ i j, i < n → j < n → f i = true → f j = true → g i = g j → i = j) → cntL n f ≤ m
  | 0, _, _, _ => fun _ _ => Nat.zero_le _
  | n + 1, f, g, m => fun h1 h2 => by
    simp only [cntL]
    cases e : f n
    · rw [if_neg (by decide), Nat.add_zero]
      exact pg n f g m (fun i hi => h1 i (by omega)) (fun i j hi hj => h2 i j (by omega) (by omega))
    · rw [if_pos rfl]
      have hc := h1 n (by omega) e
      have hne : ∀ i, i < n → f i = true → g i ≠ g n := fun i hi hf q => by
        have := h2 i n (by omega) (by omega) hf e q
        omega
      have := pg n f (fun i => if g i = m - 1 then g n else g i) (m - 1) (fun i hi hf => by
        have a1 := h1 i (by omega) hf
        have a2 := hne i hi hf
        show (if g i = m - 1 then g n else g i) < m - 1
        split <;> omega) (fun i j hi hj hfi hfj q => by
        have a1 := hne i hi hfi
        have a2 := hne j hj hfj
        have q : (if g i = m - 1 then g n else g i) = (if g j = m - 1 then g n else g j) := q
        refine h2 i j (by omega) (by omega) hfi hfj ?_
        split at q <;> split at q <;> omega)
      omega
theorem Fr.pC {S : Nat → Nat → Prop} {u v : z_V} {t n sp t2 n2 dp len : Nat} (h : Fr S u v) (hs : ∀ k, S t2 k) : Fr S u (pC v t n sp t2 n2 dp len) := h.trans ⟨fun t' n' k' q => ⟨if_neg (fun e => q (by rw [e.1]; exact hs _)), Eq.refl _⟩, Eq.refl _⟩
theorem fr_sm {S : Nat → Nat → Prop} {v : z_V} {t n k : Nat} {y : Int64} (hy : y = gL v t n k) : Fr S v (pL v t n k y) := by
  subst hy
  refine ⟨fun t' n' k' _ => ⟨Eq.refl _, ?_⟩, Eq.refl _⟩
  by_cases e : t' = t ∧ k' = k ∧ n' = n
  · obtain ⟨rfl, rfl, rfl⟩ := e
    exact if_pos ⟨rfl, rfl, rfl⟩
  · exact if_neg e
section NB5
variable {d : Nat} {v : z_V} {N : z_N} {nu : Nat → Nat} {top : Nat} {L : Nat → Nat} {uq io ct : Bool}
theorem nice01 : niceL 0 0 0 N top L ↔ niceL 1 0 0 N top L := by
  unfold niceL fitK
  refine and_congr ?_ (and_congr ?_ Iff.rfl)
  · simp
  · simp
theorem sol1 (hW : nWF N) : solN N true top (fun _ => false) (nW N) L ↔ niceL 1 0 0 N top L := by
  unfold solN ptN niceL fitK
  constructor
  · rintro ⟨⟨z1, _, z3⟩, z4⟩
    refine ⟨fun g h hgh hh hwg hwh => ?_, fun _ l' l hll h1 h2 => ?_, z4⟩
    · have := z1 rfl g h (by omega) hh (by omega) (by simpa using hwg) (by simpa using hwh)
      have hp : 0 < dst (L g) (L h) := Nat.pos_of_ne_zero (fun e => this (dst0.mp e))
      simp [hp]
    · have w1 := nW_ends hW h1
      have w2 := nW_ends hW h2
      exact z3 l' l (by omega) h1 h2 (by simpa using w1.1) (by simpa using w1.2) (by simpa using w2.1) (by simpa using w2.2)
  · rintro ⟨z1, z2, z4⟩
    have un : ∀ g h, g < 7 → h < 7 → g ≠ h → nW N g = true → nW N h = true → L g ≠ L h := by
      have one : ∀ g h, g < h → h < 7 → nW N g = true → nW N h = true → L g ≠ L h := fun g h hgh hh hwg hwh e => by
        have := z1 g h hgh hh hwg hwh
        rw [dst0.mpr e] at this
        simp at this
      intro g h hg hh hne hwg hwh
      rcases Nat.lt_or_gt_of_ne hne with y | y
      · exact one g h y hh hwg hwh
      · exact fun e => one h g y hg hwh hwg e.symm
    refine ⟨⟨fun _ g h hg hh hne a b => un g h hg hh hne (by simpa using a) (by simpa using b), fun l hl _ _ => ?_, fun l l' hne hl hl' _ _ _ _ => ?_⟩, z4⟩
    · have hw := hW.2.2.1 l (nP_lt hW hl)
      have we := nW_ends hW hl
      exact un _ _ hw.1 hw.2.1 hw.2.2 we.1 we.2
    · rcases Nat.lt_or_gt_of_ne hne with y | y
      · exact z2 (by decide) l l' y hl hl'
      · exact fun e => z2 (by decide) l' l y hl' hl e.symm
theorem pcN {n : Nat} : pc n (nO N) = cntL n (nP N) := by
  induction n with
  | zero => rfl
  | succ n ih =>
    simp only [pc, cntL]
    rw [ih]
    rfl
/-- too few numbers -/
theorem few (hW : nWF N) (h : niceL 1 0 0 N top L) : pc 10 (nO N) ≤ top ∧ nM N ≤ top + 1 := by
  have hs := (sol1 hW).mpr h
  obtain ⟨⟨z1, z2, z3⟩, z4⟩ := hs
  refine ⟨?_, ?_⟩
  · rw [pcN]
    have hf : ∀ l, nP N l = true → 0 < fL N L l ∧ fL N L l ≤ top := fun l hl => by
      have hw := hW.2.2.1 l (nP_lt hW hl)
      have we := nW_ends hW hl
      have a := z4 _ hw.1 we.1
      have b := z4 _ hw.2.1 we.2
      have c := z2 l hl (by simpa using we.1) (by simpa using we.2)
      have hp : 0 < fL N L l := Nat.pos_of_ne_zero (fun e => c (dst0.mp e))
      refine ⟨hp, ?_⟩
      unfold fL dst
      split <;> omega
    refine pg 10 (nP N) (fun l => fL N L l - 1) top (fun l _ hl => ?_) (fun l l' _ _ hl hl' e => ?_)
    · have := hf l hl
      show fL N L l - 1 < top
      omega
    · have a := hf l hl
      have b := hf l' hl'
      have w1 := nW_ends hW hl
      have w2 := nW_ends hW hl'
      have e : fL N L l - 1 = fL N L l' - 1 := e
      by_cases y : l = l'
      · exact y
      · exact absurd (show fL N L l = fL N L l' by omega) (z3 l l' y hl hl' (by simpa using w1.1) (by simpa using w1.2) (by simpa using w2.1) (by simpa using w2.2))
  · refine pg 7 (nW N) L (top + 1) (fun g hg hw => ?_) (fun g h hg hh hwg hwh e => ?_)
    · have := z4 g hg hw
      omega
    · by_cases y : g = h
      · exact y
      · exact absurd e (z1 rfl g h hg hh y (by simpa using hwg) (by simpa using hwh))
def F00 : Nat → Bool := fun i => decide (i = 0)
def fCl : Nat → Nat → Prop := fun t k => t = 1 ∧ (k = 11 ∨ k = 12 ∨ k = 13 ∨ k = 14)
theorem s_clear : ZV (d + 1) m_X1_clear [vR 1 0] v (fun u => FS u F00 ∧ gL u 1 0 11 = lW (fun _ => false) ∧ Fr fCl v u) := fun Q k => E_X1_clear (B_X1_clear_0 (by
  refine k _ ⟨⟨?_, ?_, ?_⟩, ?_, (((Fr.rfl.pL ⟨rfl, by decide⟩).pL ⟨rfl, by decide⟩).pL ⟨rfl, by decide⟩).pL ⟨rfl, by decide⟩⟩
  · rw [gL_pL_k (by decide), gL_pL_k (by decide), gL_pL_s]
    exact lW_1
  · rw [gL_pL_k (by decide), gL_pL_s]
    exact lW_m
  · rw [gL_pL_s, lW_0]
    exact lW_cg (fun i hi => (decide_eq_false (by omega)).symm)
  · rw [gL_pL_k (by decide), gL_pL_k (by decide), gL_pL_k (by decide), gL_pL_s]
    exact lW_0))
def fBn : Nat → Nat → Prop := fun t k => t = 1 ∧ (k = 7 ∨ k = 8 ∨ k = 9 ∨ k = 10 ∨ k = 11 ∨ k = 12 ∨ k = 13 ∨ k = 14)
def fBg : Nat → Nat → Prop := fun t k => t = 1 ∧ (k = 5 ∨ k = 7 ∨ k = 8 ∨ k = 9 ∨ k = 10 ∨ k = 11 ∨ k = 12 ∨ k = 13 ∨ k = 14)
theorem s_begin {a : Int32} : ZV (d + 2) m_X1_begin [vR 1 0, vI (bI uq), vI (bI ct), vI a] v (fun u => FS u F00 ∧ gL u 1 0 11 = lW (fun _ => false) ∧ gI u 1 0 8 = bI uq ∧ gI u 1 0 10 = bI ct ∧ gI u 1 0 9 = bI false ∧ gI u 1 0 7 = a ∧ gL u 1 0 5 = (if ct = true then 0 else gL v 1 0 5) ∧ Fr fBg v u ∧ (ct = false → Fr fBn v u)) := fun Q k => E_X1_begin (B_X1_begin_0 (by
  refine z_i01 (z_i01 ?_)
  have fin : ∀ y, y = (if ct = true then 0 else gL v 1 0 5) → z_C (d + 1) m_X1_clear [vR 1 0] (pL (pI (pI (pI (pI v 1 0 8 (bI uq)) 1 0 10 (bI ct)) 1 0 9 0) 1 0 7 a) 1 0 5 y) (fun w1 o2 => o2 = none ∧ Q w1 none) := fun y hy => by
    refine cV s_clear (fun u hu => ?_)
    obtain ⟨h1, h2, h3⟩ := hu
    have n3 : ∀ k, ¬ (k = 11 ∨ k = 12 ∨ k = 13 ∨ k = 14) → ¬ fCl 1 k := fun k z y => z y.2
    refine k u ⟨h1, h2, ?_, ?_, ?_, ?_, ?_, ((((Fr.rfl.pI ⟨rfl, by decide⟩).pI ⟨rfl, by decide⟩).pI ⟨rfl, by decide⟩).pI ⟨rfl, by decide⟩).pL ⟨rfl, by decide⟩ |>.trans (h3.mono (fun t k z => ⟨z.1, by have := z.2; omega⟩)), fun hct => ?_⟩
    · rw [h3.i (n3 _ (by decide))]
      show gI (pI (pI (pI (pI v 1 0 8 (bI uq)) 1 0 10 (bI ct)) 1 0 9 0) 1 0 7 a) 1 0 8 = _
      rw [gI_pI_k (by decide), gI_pI_k (by decide), gI_pI_k (by decide), gI_pI_s]
    · rw [h3.i (n3 _ (by decide))]
      show gI (pI (pI (pI (pI v 1 0 8 (bI uq)) 1 0 10 (bI ct)) 1 0 9 0) 1 0 7 a) 1 0 10 = _
      rw [gI_pI_k (by decide), gI_pI_k (by decide), gI_pI_s]
    · rw [h3.i (n3 _ (by decide))]
      show gI (pI (pI (pI (pI v 1 0 8 (bI uq)) 1 0 10 (bI ct)) 1 0 9 0) 1 0 7 a) 1 0 9 = _
      rw [gI_pI_k (by decide), gI_pI_s]
      rfl
    · rw [h3.i (n3 _ (by decide))]
      show gI (pI (pI (pI (pI v 1 0 8 (bI uq)) 1 0 10 (bI ct)) 1 0 9 0) 1 0 7 a) 1 0 7 = _
      rw [gI_pI_s]
    · rw [h3.l (n3 _ (by decide)), gL_pL_s, hy]
    · have f1 : Fr fBn v (pI (pI (pI (pI v 1 0 8 (bI uq)) 1 0 10 (bI ct)) 1 0 9 0) 1 0 7 a) := (((Fr.rfl.pI ⟨rfl, by decide⟩).pI ⟨rfl, by decide⟩).pI ⟨rfl, by decide⟩).pI ⟨rfl, by decide⟩
      rw [hct, if_neg (by decide)] at hy
      exact (f1.trans (fr_sm hy)).trans (h3.mono (fun t k z => ⟨z.1, by have := z.2; omega⟩))
  exact br_z (fun e => fin _ (by rw [e]; rfl)) (fun e => fin _ (by rw [e]; rfl))))
/-- a search from the start -/
theorem s_goTop (hW : nWF N) (hS : NS v N) (ht : top ≤ 63) (hF : FS v F00) (h11 : gL v 1 0 11 = lW (fun _ => false)) (h8 : gI v 1 0 8 = bI uq) (h9 : gI v 1 0 9 = bI io) (h7 : gI v 1 0 7 = nI top) (h10 : gI v 1 0 10 = 0) : ZI (d + 17) m_X1_goOn [vR 1 0, vR 0 0, vI (gI v 0 0 5), vI 0] v (fun w r => ((r = 0 ∧ ∀ L, ¬ solN N uq top (fun _ => false) (nW N) L) ∨ (r = 1 ∧ ∃ L, solN N uq top (fun _ => false) (nW N) L ∧ (io = true → isLF (nW N) (solN N uq top (fun _ => false) (nW N)) L) ∧ ∀ g, g < 7 → nW N g = true → gI w 202 0 g = nI (L g))) ∧ Fr fGo v w) := by
  have hm := nM_le (N := N)
  have hc : CtN N uq io top v (fun _ => false) (nW N) (fun _ => 0) F00 (fun _ => false) := by
    refine ⟨hS, hF, h8, h9, h7, fun _ => ⟨h11, fun x => ⟨fun z => absurd z Bool.false_ne_true, ?_⟩⟩, fun _ _ => rfl, fun g _ z => absurd z Bool.false_ne_true, ⟨fun _ g h _ _ _ z => absurd z Bool.false_ne_true, fun l _ z => absurd z Bool.false_ne_true, fun l l' _ _ _ z => absurd z Bool.false_ne_true⟩, fun x => ?_⟩
    · rintro ⟨h, _, z, _⟩
      cases z
    · unfold F00
      rw [decide_eq_true_eq]
      exact ⟨fun z => Or.inl z, fun z => by
        rcases z with z | ⟨l, _, z, _⟩
        · exact z
        · cases z⟩
  obtain ⟨d', hd'⟩ : ∃ d', d + 17 = d' + 2 * nM N + 3 := ⟨d + 14 - 2 * nM N, by omega⟩
  have key := s_goOnN (io := io) hW ht (nM N) d' v (fun _ => false) (nW N) (fun _ => 0) F00 (fun _ => false) rfl hc h10
  rw [← hd', show bs 7 (fun _ => false) = 0 from by decide, ← hS.2.2.1] at key
  refine key.m (fun w r hr => ⟨?_, hr.2.2⟩)
  rcases hr.1 with ⟨h1, h2⟩ | ⟨h1, L, _, h3, h4, h5⟩
  · exact Or.inl ⟨h1, fun L => h2 L (fun g _ z => absurd z Bool.false_ne_true)⟩
  · exact Or.inr ⟨h1, L, h3, fun hio => ⟨h3, fun L' hL' k hk hw hpre => h4 hio (fun g h _ _ z => absurd z Bool.false_ne_true) L' (fun g _ z => absurd z Bool.false_ne_true) hL' k hk hw hpre⟩, fun g hg hw => h5 g hg (by simpa using hw)⟩
end NB5
