/-! weights of open lines by the class: its small methods -/
def sgI (al : Bool) : Int32 := if al = true then -1 else 1
def tgI (al : Bool) (K s : Nat) : Int := if al = true then (K : Int) - (s : Int) else (s : Int)
theorem mx_tab : ∀ x, x < 11 → nI x * (-1) = iI (-(x : Int)) ∧ nI x * 1 = iI (x : Int) := by decide +kernel
theorem iI_add (a b : Int) : iI a + iI b = iI (a + b) := (Int32.ofInt_add a b).symm
theorem iI_sub (a b : Int) : iI a - iI b = iI (a - b) := (Int32.ofInt_sub a b).symm
theorem tg_put {al : Bool} {K s x : Nat} (hx : x ≤ 10) : iI (tgI al K s) + nI x * sgI al = iI (tgI al K (s + x)) := by
  have t := mx_tab x (by omega)
  unfold sgI tgI
  cases al
  · rw [if_neg (by decide), if_neg (by decide), if_neg (by decide), t.2, iI_add]
    congr 1
  · rw [if_pos rfl, if_pos rfl, if_pos rfl, t.1, iI_add]
    congr 1
    omega
theorem tg_take {al : Bool} {K s x : Nat} (hx : x ≤ 10) : iI (tgI al K (s + x)) - nI x * sgI al = iI (tgI al K s) := by
  have t := mx_tab x (by omega)
  unfold sgI tgI
  cases al
  · rw [if_neg (by decide), if_neg (by decide), if_neg (by decide), t.2, iI_sub]
    congr 1
    omega
  · rw [if_pos rfl, if_pos rfl, if_pos rfl, t.1, iI_sub]
    congr 1
    omega
theorem pj_lt {x y : Int32} {A B : Prop} (a b : Int) (f : a < b → A) (g : b ≤ a → B) (hx : x = iI a) (hy : y = iI b) (a1 : -1000 ≤ a) (a2 : a ≤ 1000) (b1 : -1000 ≤ b) (b2 : b ≤ 1000) : (x < y → A) ∧ (¬ x < y → B) := by
  subst hx hy
  have e := iI_lt (a := a) (b := b) (by omega) (by omega) (by omega) (by omega)
  exact ⟨fun z => f (e.mp z), fun z => g (Int.not_lt.mp (fun y => z (e.mpr y)))⟩
theorem cnt_rm {f : Nat → Bool} {i : Nat} (hf : f i = true) : ∀ q, cntL q f = cntL q (fun j => f j && !decide (j = i)) + (if i < q then 1 else 0) := fun q => by
  induction q with
  | zero => rfl
  | succ q ih =>
    have st : cntL (q + 1) f = cntL q f + (if f q = true then 1 else 0) := rfl
    have st2 : cntL (q + 1) (fun j => f j && !decide (j = i)) = cntL q (fun j => f j && !decide (j = i)) + (if (f q && !decide (q = i)) = true then 1 else 0) := rfl
    rw [st, st2, ih]
    by_cases z : q = i
    · subst z
      rw [hf, decide_eq_true (show q = q from rfl), if_neg (show ¬ q < q by omega), if_pos (show q < q + 1 by omega), if_pos (show true = true from rfl), if_neg (show ¬ (true && !true) = true by decide)]
    · rw [decide_eq_false z, Bool.not_false, Bool.and_true]
      by_cases y : i < q
      · rw [if_pos y, if_pos (show i < q + 1 by omega)]
        omega
      · rw [if_neg y, if_neg (show ¬ i < q + 1 by omega)]
        omega
theorem sm_rm {f : Nat → Bool} {W : Nat → Nat} {m i : Nat} (him : i < m) (hf : f i = true) : sm m (fun j => if f j = true then W j else 0) = sm m (fun j => if (f j && !decide (j = i)) = true then W j else 0) + W i := by
  have e : sm m (fun j => if f j = true then W j else 0) = sm m (fun j => (if (f j && !decide (j = i)) = true then W j else 0) + (if j = i then W i else 0)) := sm_cg (fun j _ => by
    by_cases z : j = i
    · subst z
      rw [hf, decide_eq_true (show j = j from rfl), if_pos (show true = true from rfl), if_pos (show j = j from rfl), if_neg (show ¬ (true && !true) = true by decide), Nat.zero_add]
    · rw [decide_eq_false z, Bool.not_false, Bool.and_true, if_neg z, Nat.add_zero])
  rw [e, sm_add, sm_one him]
theorem sm_z {f : Nat → Bool} {W : Nat → Nat} {m : Nat} (h : cntL m f = 0) : sm m (fun i => if f i = true then W i else 0) = 0 := by
  have : ∀ i, i < m → f i = false := fun i hi => by
    cases e : f i
    · rfl
    · have := cntL_lt2 hi e
      omega
  have e2 : sm m (fun i => if f i = true then W i else 0) ≤ 0 * m := sm_le (fun i hi => by rw [this i hi]; exact Nat.le_refl _)
  omega
theorem andn_bs {n a b : Nat} (ha : a < 2 ^ n) : a ^^^ (a &&& b) = bs n (fun i => a.testBit i && !b.testBit i) := by
  apply Nat.eq_of_testBit_eq
  intro i
  rw [andn_bit, bs_bit]
  by_cases z : i < n
  · simp [z]
  · rw [Nat.testBit_lt_two_pow (Nat.lt_of_lt_of_le ha (Nat.pow_le_pow_right (by decide) (by omega)))]
    simp [z]
/-- numbers given yet; lines of a halt without a weight -/
def usB (A : Nat → Bool) (W : Nat → Nat) (x : Nat) : Bool := anyL 10 (fun l => A l && decide (W l = x))
def rcN (N : z_N) (A : Nat → Bool) (h : Nat) : Nat := cntL 10 (fun l => (nP N l && !A l) && nOn N l h)
def PT (v : z_V) (N : z_N) (al : Bool) (K : Nat) (A : Nat → Bool) (W : Nat → Nat) : Prop := gI v 8 0 8 = nI (bs 11 (usB A W)) ∧ (∀ h, h < 7 → gI v 906 0 h = iI (tgI al K (wAt N A W h))) ∧ (∀ h, h < 7 → gI v 907 0 h = nI (rcN N A h)) ∧ ∀ l, l < 10 → A l = true → gI v 905 0 l = nI (W l)
def PV (N : z_N) (A : Nat → Bool) (W : Nat → Nat) : Prop := (∀ l, l < 10 → A l = true → nP N l = true ∧ 1 ≤ W l ∧ W l ≤ oM N) ∧ ∀ l l', l < 10 → l' < 10 → l ≠ l' → A l = true → A l' = true → W l ≠ W l'
def fPut : Nat → Nat → Prop := fun t k => t = 905 ∨ t = 906 ∨ t = 907 ∨ (t = 8 ∧ k = 8)
section WT4
variable {d : Nat} {v : z_V} {N : z_N} {A : Nat → Bool} {W : Nat → Nat} {al : Bool} {K l x : Nat}
theorem us_put (hl : l < 10) (hA : A l = false) (i : Nat) : usB (addF A l) (sU W l x) i = (usB A W i || decide (i = x)) := by
  apply Bool.eq_iff_iff.mpr
  unfold usB
  rw [Bool.or_eq_true, anyL_iff, anyL_iff, decide_eq_true_eq]
  constructor
  · rintro ⟨j, hj, z⟩
    rw [Bool.and_eq_true, decide_eq_true_eq] at z
    by_cases e : j = l
    · subst e
      rw [sU_s] at z
      exact Or.inr z.2.symm
    · rw [addF_n e, sU_n e] at z
      exact Or.inl ⟨j, hj, by rw [z.1, decide_eq_true z.2]; rfl⟩
  · rintro (⟨j, hj, z⟩ | z)
    · rw [Bool.and_eq_true, decide_eq_true_eq] at z
      have e : j ≠ l := fun y => by
        rw [y, hA] at z
        cases z.1
      exact ⟨j, hj, by rw [addF_n e, sU_n e, z.1, decide_eq_true z.2]; rfl⟩
    · exact ⟨l, hl, by rw [addF_s, sU_s, decide_eq_true z.symm]; rfl⟩
theorem rC_put {h : Nat} (hl : l < 10) (hp : nP N l = true) (hA : A l = false) : rcN N A h = rcN N (addF A l) h + (if nOn N l h = true then 1 else 0) := by
  unfold rcN
  cases e : nOn N l h
  · rw [if_neg (by decide), Nat.add_zero]
    refine cntL_cong 10 (fun j _ => ?_)
    by_cases z : j = l
    · subst z
      rw [e, Bool.and_false, Bool.and_false]
    · rw [addF_n z]
  · rw [cnt_rm (f := fun l => (nP N l && !A l) && nOn N l h) (i := l) (by show ((nP N l && !A l) && nOn N l h) = true; rw [hp, hA, e]; rfl) 10, if_pos hl, if_pos rfl]
    congr 1
    refine cntL_cong 10 (fun j _ => ?_)
    by_cases z : j = l
    · subst z
      rw [decide_eq_true (show j = j from rfl), Bool.not_true, Bool.and_false, addF_s, Bool.not_true, Bool.and_false, Bool.false_and]
    · rw [decide_eq_false z, Bool.not_false, Bool.and_true, addF_n z]
theorem on_ab {h : Nat} : nOn N l h = true ↔ h = nA N l ∨ h = nB N l := by
  rw [nOn_iff]
  exact ⟨fun z => z.imp Eq.symm Eq.symm, fun z => z.imp Eq.symm Eq.symm⟩
theorem s_put (hW : nWF N) (h : PT v N al K A W) (hp : nP N l = true) (hA : A l = false) (hx : x ≤ 10) : ZV (d + 1) m_X8_put [vR 8 0, vI (nI l), vI (nI (nA N l)), vI (nI (nB N l)), vI (nI x), vI (sgI al)] v (fun u => PT u N al K (addF A l) (sU W l x) ∧ Fr fPut v u) := fun Q k => E_X8_put (B_X8_put_0 (by
  have hlN := nP_lt hW hp
  have hw := hW.2.2.1 l hlN
  have hn := hW.1
  have hl : l < 10 := by omega
  obtain ⟨p1, p2, p3, p4⟩ := h
  refine z_ii l rfl hl (z_ii _ rfl hw.1 (z_ii _ rfl hw.1 (z_ii _ rfl hw.2.1 (z_ii _ rfl hw.2.1 ?_))))
  refine B_X8_put_49 (z_ii _ rfl hw.1 (z_ii _ rfl hw.1 (z_ii _ rfl hw.2.1 (z_ii _ rfl hw.2.1 ?_))))
  rw [n_nI (n := l) (by omega), n_nI (n := nA N l) (by omega), n_nI (n := nB N l) (by omega)]
  have nab : nB N l ≠ nA N l := Ne.symm hw.2.2
  refine k _ ⟨⟨?_, fun h hh => ?_, fun h hh => ?_, fun i hi hi2 => ?_⟩, (((((Fr.rfl.pI (Or.inl rfl)).pI (Or.inr (Or.inr (Or.inr ⟨rfl, rfl⟩)))).pI (Or.inr (Or.inl rfl))).pI (Or.inr (Or.inl rfl))).pI (Or.inr (Or.inr (Or.inl rfl)))).pI (Or.inr (Or.inr (Or.inl rfl)))⟩
  · rw [gI_pI_t (by decide), gI_pI_t (by decide), gI_pI_t (by decide), gI_pI_t (by decide), gI_pI_s, p1, nI_shl (by omega), nI_or]
    congr 1
    refine bs_eq (n := 11) (Nat.or_lt_two_pow (bs_lt 11 _) (Nat.pow_lt_pow_right (by decide) (by omega))) (fun i hi => ?_)
    rw [Nat.testBit_or, bs_bit, Nat.testBit_two_pow, decide_eq_true hi, Bool.true_and, us_put hl hA]
    congr 1
    rw [decide_eq_decide]
    exact eq_comm
  · rw [gI_pI_t (by decide), gI_pI_t (by decide)]
    have ew : wAt N (addF A l) (sU W l x) h = wAt N A W h + (if nOn N l h = true then x else 0) := wA_put hl hA
    rw [ew]
    by_cases e1 : h = nB N l
    · subst e1
      rw [gI_pI_s, gI_pI_k nab, gI_pI_t (by decide), gI_pI_t (by decide), p2 _ hh, if_pos (on_ab.mpr (Or.inr rfl)), tg_put hx]
    · rw [gI_pI_k e1]
      by_cases e2 : h = nA N l
      · subst e2
        rw [gI_pI_s, p2 _ hh, if_pos (on_ab.mpr (Or.inl rfl)), tg_put hx]
      · rw [gI_pI_k e2, gI_pI_t (by decide), gI_pI_t (by decide), p2 _ hh, if_neg (fun z => (on_ab.mp z).elim e2 e1), Nat.add_zero]
  · have ec := rC_put (h := h) hl hp hA
    by_cases e1 : h = nB N l
    · subst e1
      rw [if_pos (on_ab.mpr (Or.inr rfl))] at ec
      rw [gI_pI_s, gI_pI_k nab, gI_pI_t (by decide), gI_pI_t (by decide), gI_pI_t (by decide), gI_pI_t (by decide), p3 _ hh, ec, nI_pred]
    · rw [gI_pI_k e1]
      by_cases e2 : h = nA N l
      · subst e2
        rw [if_pos (on_ab.mpr (Or.inl rfl))] at ec
        rw [gI_pI_s, gI_pI_t (by decide), gI_pI_t (by decide), gI_pI_t (by decide), gI_pI_t (by decide), p3 _ hh, ec, nI_pred]
      · rw [if_neg (fun z => (on_ab.mp z).elim e2 e1), Nat.add_zero] at ec
        rw [gI_pI_k e2, gI_pI_t (by decide), gI_pI_t (by decide), gI_pI_t (by decide), gI_pI_t (by decide), p3 _ hh, ec]
  · rw [gI_pI_t (by decide), gI_pI_t (by decide), gI_pI_t (by decide), gI_pI_t (by decide), gI_pI_t (by decide)]
    by_cases e : i = l
    · subst e
      rw [gI_pI_s, sU_s]
    · rw [addF_n e] at hi2
      rw [gI_pI_k e, sU_n e]
      exact p4 i hi hi2))
theorem s_takeOff (hW : nWF N) (h : PT v N al K (addF A l) (sU W l x)) (hp : nP N l = true) (hA : A l = false) (hx : x ≤ 10) (hu : usB A W x = false) : ZV (d + 1) m_X8_takeOff [vR 8 0, vI (nI (nA N l)), vI (nI (nB N l)), vI (nI x), vI (sgI al)] v (fun u => PT u N al K A W ∧ Fr fPut v u) := fun Q k => E_X8_takeOff (B_X8_takeOff_0 (by
  have hlN := nP_lt hW hp
  have hw := hW.2.2.1 l hlN
  have hn := hW.1
  have hl : l < 10 := by omega
  obtain ⟨p1, p2, p3, p4⟩ := h
  refine z_ii _ rfl hw.1 (z_ii _ rfl hw.1 (z_ii _ rfl hw.2.1 (z_ii _ rfl hw.2.1 ?_)))
  refine B_X8_takeOff_40 (z_ii _ rfl hw.1 (z_ii _ rfl hw.1 (z_ii _ rfl hw.2.1 (z_ii _ rfl hw.2.1 ?_))))
  rw [n_nI (n := nA N l) (by omega), n_nI (n := nB N l) (by omega)]
  have nab : nB N l ≠ nA N l := Ne.symm hw.2.2
  have ew : ∀ h, wAt N (addF A l) (sU W l x) h = wAt N A W h + (if nOn N l h = true then x else 0) := fun h => wA_put hl hA
  refine k _ ⟨⟨?_, fun h hh => ?_, fun h hh => ?_, fun i hi hi2 => ?_⟩, ((((Fr.rfl.pI (Or.inr (Or.inr (Or.inr ⟨rfl, rfl⟩)))).pI (Or.inr (Or.inl rfl))).pI (Or.inr (Or.inl rfl))).pI (Or.inr (Or.inr (Or.inl rfl)))).pI (Or.inr (Or.inr (Or.inl rfl)))⟩
  · rw [gI_pI_t (by decide), gI_pI_t (by decide), gI_pI_t (by decide), gI_pI_t (by decide), gI_pI_s, p1, nI_shl (by omega), nI_andn, andn_bs (bs_lt 11 _)]
    congr 1
    refine bs_cong (fun i hi => ?_)
    rw [bs_bit, Nat.testBit_two_pow, decide_eq_true hi, Bool.true_and, us_put hl hA]
    by_cases z : i = x
    · subst z
      rw [hu, decide_eq_true (show i = i from rfl)]
      rfl
    · rw [decide_eq_false z, decide_eq_false (fun y => z y.symm), Bool.or_false]
      cases usB A W i <;> rfl
  · rw [gI_pI_t (by decide), gI_pI_t (by decide)]
    have e0 := ew h
    by_cases e1 : h = nB N l
    · subst e1
      rw [if_pos (on_ab.mpr (Or.inr rfl))] at e0
      rw [gI_pI_s, gI_pI_k nab, gI_pI_t (by decide), p2 _ hh, e0, tg_take hx]
    · rw [gI_pI_k e1]
      by_cases e2 : h = nA N l
      · subst e2
        rw [if_pos (on_ab.mpr (Or.inl rfl))] at e0
        rw [gI_pI_s, p2 _ hh, e0, tg_take hx]
      · rw [if_neg (fun z => (on_ab.mp z).elim e2 e1), Nat.add_zero] at e0
        rw [gI_pI_k e2, gI_pI_t (by decide), p2 _ hh, e0]
  · have ec := rC_put (h := h) hl hp hA
    by_cases e1 : h = nB N l
    · subst e1
      rw [if_pos (on_ab.mpr (Or.inr rfl))] at ec
      rw [gI_pI_s, gI_pI_k nab, gI_pI_t (by decide), gI_pI_t (by decide), gI_pI_t (by decide), p3 _ hh, ec, nI_1]
    · rw [gI_pI_k e1]
      by_cases e2 : h = nA N l
      · subst e2
        rw [if_pos (on_ab.mpr (Or.inl rfl))] at ec
        rw [gI_pI_s, gI_pI_t (by decide), gI_pI_t (by decide), gI_pI_t (by decide), p3 _ hh, ec, nI_1]
      · rw [if_neg (fun z => (on_ab.mp z).elim e2 e1), Nat.add_zero] at ec
        rw [gI_pI_k e2, gI_pI_t (by decide), gI_pI_t (by decide), gI_pI_t (by decide), p3 _ hh, ec]
  · have e : i ≠ l := fun y => by
      rw [y, hA] at hi2
      cases hi2
    rw [gI_pI_t (by decide), gI_pI_t (by decide), gI_pI_t (by decide), gI_pI_t (by decide), gI_pI_t (by decide), p4 i hi (by rw [addF_n e]; exact hi2), sU_n e]))
end WT4
