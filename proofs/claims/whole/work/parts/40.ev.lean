/-! whole numbers with a sign; sums and asks as trees, what they come to, how both sides write them down -/
def iI (x : Int) : Int32 := Int32.ofInt x
def lI (x : Int) : Int64 := Int64.ofInt x
theorem iI_nI (n : Nat) : iI (n : Int) = nI n := Int32.ofInt_eq_ofNat
theorem lI_lN (n : Nat) : lI (n : Int) = lN n := Int64.ofInt_eq_ofNat
theorem iI_t {x : Int} (h1 : -2147483648 ≤ x) (h2 : x < 2147483648) : (iI x).toInt = x := Int32.toInt_ofInt_of_le h1 h2
theorem lI_t {x : Int} (h1 : -9223372036854775808 ≤ x) (h2 : x < 9223372036854775808) : (lI x).toInt = x := Int64.toInt_ofInt_of_le h1 h2
theorem iI_lt {a b : Int} (a1 : -2147483648 ≤ a) (a2 : a < 2147483648) (b1 : -2147483648 ≤ b) (b2 : b < 2147483648) : iI a < iI b ↔ a < b := by
  rw [Int32.lt_iff_toInt_lt, iI_t a1 a2, iI_t b1 b2]
theorem iI_le {a b : Int} (a1 : -2147483648 ≤ a) (a2 : a < 2147483648) (b1 : -2147483648 ≤ b) (b2 : b < 2147483648) : iI a ≤ iI b ↔ a ≤ b := by
  rw [Int32.le_iff_toInt_le, iI_t a1 a2, iI_t b1 b2]
theorem iI_eq {a b : Int} (a1 : -2147483648 ≤ a) (a2 : a < 2147483648) (b1 : -2147483648 ≤ b) (b2 : b < 2147483648) : iI a = iI b ↔ a = b := by
  rw [← Int32.toInt_inj, iI_t a1 a2, iI_t b1 b2]
theorem lI_lt {a b : Int} (a1 : -9223372036854775808 ≤ a) (a2 : a < 9223372036854775808) (b1 : -9223372036854775808 ≤ b) (b2 : b < 9223372036854775808) : lI a < lI b ↔ a < b := by
  rw [Int64.lt_iff_toInt_lt, lI_t a1 a2, lI_t b1 b2]
theorem lI_eq {a b : Int} (a1 : -9223372036854775808 ≤ a) (a2 : a < 9223372036854775808) (b1 : -9223372036854775808 ≤ b) (b2 : b < 9223372036854775808) : lI a = lI b ↔ a = b := by
  rw [← Int64.toInt_inj, lI_t a1 a2, lI_t b1 b2]
theorem lI_i (x : Int) : (lI x).toInt32 = iI x := by
  unfold lI iI
  simp
theorem iI_l {x : Int} (h1 : -2147483648 ≤ x) (h2 : x < 2147483648) : (iI x).toInt64 = lI x := by
  apply Int64.toInt_inj.mp
  rw [Int32.toInt_toInt64, iI_t h1 h2, lI_t (by omega) (by omega)]
theorem lg_cmpI {a b : Int} (a1 : -9223372036854775808 ≤ a) (a2 : a < 9223372036854775808) (b1 : -9223372036854775808 ≤ b) (b2 : b < 9223372036854775808) : lg_cmp (lI a) (lI b) = if b < a then 1 else if a = b then 0 else -1 := by
  unfold lg_cmp
  simp only [GT.gt, lI_lt b1 b2 a1 a2, lI_eq a1 a2 b1 b2]
def bd (x : Int) : Prop := -1000000 ≤ x ∧ x ≤ 1000000
def xcl (x : Int) : Int := if x < -1000000 then -1000000 else if 1000000 < x then 1000000 else x
theorem xcl_bd (x : Int) : bd (xcl x) := by
  unfold xcl bd
  split
  · omega
  · split <;> omega
theorem xcl_id {x : Int} (h : bd x) : xcl x = x := by
  unfold bd at h
  unfold xcl
  rw [if_neg (by omega), if_neg (by omega)]
theorem i_clip {x : Int} (h1 : -2147483648 ≤ x) (h2 : x < 2147483648) : i_max (-1000000) (i_min 1000000 (iI x)) = iI (xcl x) := by
  unfold i_max i_min xcl
  rw [show (1000000 : Int32) = iI 1000000 by decide, show (-iI 1000000 : Int32) = iI (-1000000) by decide]
  by_cases q : x < 1000000
  · rw [if_pos ((iI_lt h1 h2 (by omega) (by omega)).mpr q)]
    by_cases q2 : -1000000 < x
    · rw [if_pos ((iI_lt (by omega) (by omega) h1 h2).mpr q2), if_neg (by omega), if_neg (by omega)]
    · rw [if_neg (fun z => q2 ((iI_lt (by omega) (by omega) h1 h2).mp z))]
      by_cases q3 : x < -1000000
      · rw [if_pos q3]
      · rw [if_neg q3, if_neg (by omega), show x = -1000000 by omega]
  · rw [if_neg (fun z => q ((iI_lt h1 h2 (by omega) (by omega)).mp z)), if_pos (by decide), if_neg (by omega)]
    by_cases q3 : 1000000 < x
    · rw [if_pos q3]
    · rw [if_neg q3, show x = 1000000 by omega]
theorem l_clip {x : Int} (h1 : -9223372036854775808 ≤ x) (h2 : x < 9223372036854775808) : l_max (-1000000) (l_min 1000000 (lI x)) = lI (xcl x) := by
  unfold l_max l_min xcl
  rw [show (1000000 : Int64) = lI 1000000 by decide, show (-lI 1000000 : Int64) = lI (-1000000) by decide]
  by_cases q : x < 1000000
  · rw [if_pos ((lI_lt h1 h2 (by omega) (by omega)).mpr q)]
    by_cases q2 : x < -1000000
    · rw [if_pos ((lI_lt h1 h2 (by omega) (by omega)).mpr q2), if_pos q2]
    · rw [if_neg (fun z => q2 ((lI_lt h1 h2 (by omega) (by omega)).mp z)), if_neg q2, if_neg (by omega)]
  · rw [if_neg (fun z => q ((lI_lt h1 h2 (by omega) (by omega)).mp z)), if_neg (by decide), if_neg (by omega)]
    by_cases q3 : 1000000 < x
    · rw [if_pos q3]
    · rw [if_neg q3, show x = 1000000 by omega]
/-- sums and asks: leaves (0, a number), (1, a name); branches by the reference's signs (3 with 30 below: if) -/
abbrev z_X : Type := Lean.RArray (Nat × Nat)
def xb (b : Bool) : Int := if b = true then 1 else 0
def un (o : Nat) : Bool := o == 2 || (o == 4 || (o == 5 || o == 20))
def xu (fa sg : Int → Int) (o : Nat) (x : Int) : Int := if o = 2 then fa x else if o = 4 then sg x else if o = 5 then -x else xb (decide (x = 0))
def xd (o : Nat) (x y : Int) : Int :=
  if o = 6 then xcl (x + y) else if o = 7 then xcl (x - y) else if o = 8 then xcl (x * y) else if o = 9 then (if y = 0 then 0 else x.tdiv y)
  else if o = 10 then xb (decide (x < y)) else if o = 11 then xb (decide (x ≤ y)) else if o = 12 then xb (decide (y < x)) else if o = 13 then xb (decide (y ≤ x)) else if o = 14 then xb (decide (x = y)) else if o = 15 then xb (decide (¬ x = y))
  else if o = 21 then xb (decide (¬ x = 0 ∧ ¬ y = 0)) else xb (decide (¬ x = 0 ∨ ¬ y = 0))
def ev (fa sg : Int → Int) (nm : Nat → Int) : z_X → Int → Int
  | .leaf a, _ => if a.1 = 0 then (a.2 : Int) else nm a.2
  | .branch o a b, k => if o = 3 then ev fa sg nm b (ev fa sg nm a 0) else if o = 30 then (if k = 0 then ev fa sg nm b 0 else ev fa sg nm a 0) else if un o = true then xu fa sg o (ev fa sg nm a 0) else xd o (ev fa sg nm a 0) (ev fa sg nm b 0)
/-- 1 a sum, 2 an ask, 3 the two of an if, 0 none -/
def ty (r : Bool) : z_X → Nat
  | .leaf a => if (a.1 = 0 ∧ a.2 ≤ 9999) ∨ (a.1 = 1 ∧ a.2 < 10 ∧ (4 ≤ a.2 → (a.2 < 7 ↔ r = true))) then 1 else 0
  | .branch o a b =>
    if o = 3 then (if ty r a = 2 ∧ ty r b = 3 then 1 else 0)
    else if o = 30 then (if ty r a = 1 ∧ ty r b = 1 then 3 else 0)
    else if o = 2 ∨ o = 4 ∨ o = 5 then (if ty r a = 1 then 1 else 0)
    else if o = 20 then (if ty r a = 2 then 2 else 0)
    else if 6 ≤ o ∧ o ≤ 9 then (if ty r a = 1 ∧ ty r b = 1 then 1 else 0)
    else if 10 ≤ o ∧ o ≤ 15 then (if ty r a = 1 ∧ ty r b = 1 then 2 else 0)
    else if o = 21 ∨ o = 22 then (if ty r a = 2 ∧ ty r b = 2 then 2 else 0) else 0
theorem xInd (r : Bool) (S B : z_X → Prop)
    (hn : ∀ n, n ≤ 9999 → S (.leaf (0, n)))
    (hm : ∀ n, n < 10 → (4 ≤ n → (n < 7 ↔ r = true)) → S (.leaf (1, n)))
    (hu : ∀ o a b, o = 2 ∨ o = 4 ∨ o = 5 → ty r a = 1 → S a → S (.branch o a b))
    (hd : ∀ o a b, 6 ≤ o → o ≤ 9 → ty r a = 1 → ty r b = 1 → S a → S b → S (.branch o a b))
    (hs : ∀ c x y, ty r c = 2 → ty r x = 1 → ty r y = 1 → B c → S x → S y → S (.branch 3 c (.branch 30 x y)))
    (hc : ∀ o a b, 10 ≤ o → o ≤ 15 → ty r a = 1 → ty r b = 1 → S a → S b → B (.branch o a b))
    (hnot : ∀ a b, ty r a = 2 → B a → B (.branch 20 a b))
    (hj : ∀ o a b, o = 21 ∨ o = 22 → ty r a = 2 → ty r b = 2 → B a → B b → B (.branch o a b)) :
    ∀ e : z_X, (ty r e = 1 → S e) ∧ (ty r e = 2 → B e) ∧ (ty r e = 3 → ∃ x y, e = .branch 30 x y ∧ ty r x = 1 ∧ ty r y = 1 ∧ S x ∧ S y) := by
  intro e
  induction e with
  | leaf a =>
    obtain ⟨o, n⟩ := a
    simp only [ty]
    split
    · rename_i h
      refine ⟨fun _ => ?_, fun q => absurd q (by decide), fun q => absurd q (by decide)⟩
      rcases h with ⟨h1, h2⟩ | ⟨h1, h2, h3⟩
      · obtain rfl : o = 0 := h1
        exact hn n h2
      · obtain rfl : o = 1 := h1
        exact hm n h2 h3
    · exact ⟨fun q => absurd q (by decide), fun q => absurd q (by decide), fun q => absurd q (by decide)⟩
  | branch o a b iha ihb =>
    simp only [ty]
    have no : ∀ {P1 P2 P3 : Prop}, ((0 = 1 → P1) ∧ (0 = 2 → P2) ∧ (0 = 3 → P3)) := fun {_ _ _} => ⟨fun q => absurd q (by decide), fun q => absurd q (by decide), fun q => absurd q (by decide)⟩
    by_cases e3 : o = 3
    · subst e3
      rw [if_pos rfl]
      split
      · rename_i h
        refine ⟨fun _ => ?_, fun q => absurd q (by decide), fun q => absurd q (by decide)⟩
        obtain ⟨x, y, rfl, h1, h2, h3, h4⟩ := ihb.2.2 h.2
        exact hs a x y h.1 h1 h2 (iha.2.1 h.1) h3 h4
      · exact no
    · rw [if_neg e3]
      by_cases e30 : o = 30
      · subst e30
        rw [if_pos rfl]
        split
        · rename_i h
          exact ⟨fun q => absurd q (by decide), fun q => absurd q (by decide), fun _ => ⟨a, b, rfl, h.1, h.2, iha.1 h.1, ihb.1 h.2⟩⟩
        · exact no
      · rw [if_neg e30]
        by_cases eu : o = 2 ∨ o = 4 ∨ o = 5
        · rw [if_pos eu]
          split
          · rename_i h
            exact ⟨fun _ => hu o a b eu h (iha.1 h), fun q => absurd q (by decide), fun q => absurd q (by decide)⟩
          · exact no
        · rw [if_neg eu]
          by_cases e20 : o = 20
          · subst e20
            rw [if_pos rfl]
            split
            · rename_i h
              exact ⟨fun q => absurd q (by decide), fun _ => hnot a b h (iha.2.1 h), fun q => absurd q (by decide)⟩
            · exact no
          · rw [if_neg e20]
            by_cases ed : 6 ≤ o ∧ o ≤ 9
            · rw [if_pos ed]
              split
              · rename_i h
                exact ⟨fun _ => hd o a b ed.1 ed.2 h.1 h.2 (iha.1 h.1) (ihb.1 h.2), fun q => absurd q (by decide), fun q => absurd q (by decide)⟩
              · exact no
            · rw [if_neg ed]
              by_cases ec : 10 ≤ o ∧ o ≤ 15
              · rw [if_pos ec]
                split
                · rename_i h
                  exact ⟨fun q => absurd q (by decide), fun _ => hc o a b ec.1 ec.2 h.1 h.2 (iha.1 h.1) (ihb.1 h.2), fun q => absurd q (by decide)⟩
                · exact no
              · rw [if_neg ec]
                by_cases ej : o = 21 ∨ o = 22
                · rw [if_pos ej]
                  split
                  · rename_i h
                    exact ⟨fun q => absurd q (by decide), fun _ => hj o a b ej h.1 h.2 (iha.2.1 h.1) (ihb.2.1 h.2), fun q => absurd q (by decide)⟩
                  · exact no
                · rw [if_neg ej]
                  exact no
theorem xb_bd (b : Bool) : bd (xb b) := by
  cases b <;> exact ⟨by decide, by decide⟩
theorem tdiv_bd {x y : Int} (hx : bd x) (hy : ¬ y = 0) : bd (x.tdiv y) := by
  have h := Int.natAbs_tdiv_le_natAbs x y
  unfold bd at hx ⊢
  omega
theorem xd_bd (o : Nat) {x y : Int} (hx : bd x) : bd (xd o x y) := by
  unfold xd
  repeat' split
  all_goals first
    | exact xcl_bd _
    | exact xb_bd _
    | exact ⟨by decide, by decide⟩
    | exact tdiv_bd hx (by assumption)
theorem ev_bd {fa sg : Int → Int} {nm : Nat → Int} (hf : ∀ x, bd (fa x)) (hg : ∀ x, bd (sg x)) (hn : ∀ k, bd (nm k)) (r : Bool) (e : z_X) : (ty r e = 1 → bd (ev fa sg nm e 0)) ∧ (ty r e = 2 → bd (ev fa sg nm e 0)) := by
  have h := xInd r (fun e => bd (ev fa sg nm e 0)) (fun e => bd (ev fa sg nm e 0))
    (fun n h => by
      show bd (n : Int)
      unfold bd
      omega)
    (fun n _ _ => hn n)
    (fun o a b ho _ iha => by
      simp only [ev]
      rw [if_neg (by omega), if_neg (by omega), if_pos (by rcases ho with h | h | h <;> subst h <;> rfl)]
      unfold xu
      split
      · exact hf _
      · split
        · exact hg _
        · split
          · have iha : bd (ev fa sg nm a 0) := iha
            unfold bd at iha ⊢
            omega
          · exact xb_bd _)
    (fun o a b h1 h2 _ _ iha ihb => by
      simp only [ev]
      rw [if_neg (by omega), if_neg (by omega), if_neg (by
        unfold un
        simp only [Bool.or_eq_true, beq_iff_eq]
        omega)]
      exact xd_bd o iha)
    (fun c x y _ _ _ _ ihx ihy => by
      simp only [ev]
      rw [if_pos trivial, if_neg (by decide), if_pos trivial]
      split
      · exact ihy
      · exact ihx)
    (fun o a b h1 h2 _ _ iha ihb => by
      simp only [ev]
      rw [if_neg (by omega), if_neg (by omega), if_neg (by
        unfold un
        simp only [Bool.or_eq_true, beq_iff_eq]
        omega)]
      exact xd_bd o iha)
    (fun a b _ iha => by
      simp only [ev]
      rw [if_neg (by decide), if_neg (by decide), if_pos (by rfl)]
      exact xb_bd _)
    (fun o a b ho _ _ iha ihb => by
      simp only [ev]
      rw [if_neg (by omega), if_neg (by omega), if_neg (by rcases ho with h | h <;> subst h <;> decide)]
      exact xd_bd o iha) e
  exact ⟨h.1, h.2.1⟩
/-- how many places both sides' writings take; how many values the class has waiting at most -/
def lR : z_X → Nat
  | .leaf _ => 1
  | .branch o a b => if o = 30 then lR a + lR b else if un o = true then lR a + 1 else lR a + lR b + 1
def lC : z_X → Nat
  | .leaf _ => 1
  | .branch o a b => if un o = true then lC a + 1 else lC a + lC b + 1
def sk : z_X → Nat
  | .leaf _ => 1
  | .branch o a b => if o = 3 ∨ o = 30 then max (sk a) (sk b) else if un o = true then sk a else max (sk a) (sk b + 1)
def lfC : z_X → Nat
  | .leaf _ => 0
  | .branch _ a _ => lC a
def oC (o : Nat) : Nat := if o = 2 then 18 else if o = 4 then 19 else if o = 5 then 43 else if o = 20 then 26 else if o = 21 then 25 else if o = 22 then 24 else if o < 10 then o + 28 else o + 18
/-- the class's writing of it stands from f on -/
def rC (g : Nat → Int32) : Nat → z_X → Prop
  | f, .leaf a => g f = nI (if a.1 = 0 then a.2 * 64 + 27 else a.2 + 8)
  | f, .branch o a b => if o = 3 then rC g f a ∧ g (f + lC a) = nI ((f + lC a + 1 + lfC b + 1) * 64 + 21) ∧ rC g (f + lC a + 1) b
    else if o = 30 then rC g f a ∧ g (f + lC a) = nI ((f + lC a + 1 + lC b) * 64 + 22) ∧ rC g (f + lC a + 1) b
    else if un o = true then rC g f a ∧ g (f + lC a) = nI (oC o)
    else rC g f a ∧ rC g (f + lC a) b ∧ g (f + lC a + lC b) = nI (oC o)
/-- the reference's writing of it stands from f on -/
def rR (g : Nat → Int32 × Int32) : Nat → z_X → Prop
  | f, .leaf a => g f = (nI a.1, nI a.2)
  | f, .branch o a b => if o = 30 then rR g f a ∧ rR g (f + lR a) b
    else if un o = true then rR g f a ∧ (g (f + lR a)).1 = nI o
    else rR g f a ∧ rR g (f + lR a) b ∧ (g (f + lR a + lR b)).1 = nI o
theorem lR_pos : ∀ e : z_X, 0 < lR e
  | .leaf _ => Nat.one_pos
  | .branch o a b => by
    have := lR_pos a
    simp only [lR]
    split
    · omega
    · split <;> omega
theorem lC_pos : ∀ e : z_X, 0 < lC e
  | .leaf _ => Nat.one_pos
  | .branch o a b => by
    have := lC_pos a
    simp only [lC]
    split <;> omega
theorem rC_cong {g g' : Nat → Int32} : ∀ {e : z_X} {f : Nat}, (∀ i, f ≤ i → i < f + lC e → g' i = g i) → rC g f e → rC g' f e
  | .leaf a, f, h, k => by
    simp only [rC] at k ⊢
    rw [h f (Nat.le_refl _) (by simp [lC])]
    exact k
  | .branch o a b, f, h, k => by
    simp only [rC] at k ⊢
    simp only [lC] at h
    by_cases e3 : o = 3
    · rw [if_pos e3] at k ⊢
      rw [if_neg (by subst e3; decide)] at h
      exact ⟨rC_cong (fun i h1 h2 => h i h1 (by omega)) k.1, by rw [h _ (by omega) (by omega)]; exact k.2.1, rC_cong (fun i h1 h2 => h i (by omega) (by omega)) k.2.2⟩
    · rw [if_neg e3] at k ⊢
      by_cases e30 : o = 30
      · rw [if_pos e30] at k ⊢
        rw [if_neg (by subst e30; decide)] at h
        exact ⟨rC_cong (fun i h1 h2 => h i h1 (by omega)) k.1, by rw [h _ (by omega) (by omega)]; exact k.2.1, rC_cong (fun i h1 h2 => h i (by omega) (by omega)) k.2.2⟩
      · rw [if_neg e30] at k ⊢
        by_cases eu : un o = true
        · rw [if_pos eu] at k h ⊢
          exact ⟨rC_cong (fun i h1 h2 => h i h1 (by omega)) k.1, by rw [h _ (by omega) (by omega)]; exact k.2⟩
        · rw [if_neg eu] at k h ⊢
          exact ⟨rC_cong (fun i h1 h2 => h i h1 (by omega)) k.1, rC_cong (fun i h1 h2 => h i (by omega) (by omega)) k.2.1, by rw [h _ (by omega) (by omega)]; exact k.2.2⟩
theorem rR_cong {g g' : Nat → Int32 × Int32} : ∀ {e : z_X} {f : Nat}, (∀ i, f ≤ i → i < f + lR e → g' i = g i) → rR g f e → rR g' f e
  | .leaf a, f, h, k => by
    simp only [rR] at k ⊢
    rw [h f (Nat.le_refl _) (by simp [lR])]
    exact k
  | .branch o a b, f, h, k => by
    simp only [rR] at k ⊢
    simp only [lR] at h
    by_cases e30 : o = 30
    · rw [if_pos e30] at k h ⊢
      exact ⟨rR_cong (fun i h1 h2 => h i h1 (by omega)) k.1, rR_cong (fun i h1 h2 => h i (by omega) (by omega)) k.2⟩
    · rw [if_neg e30] at k h ⊢
      by_cases eu : un o = true
      · rw [if_pos eu] at k h ⊢
        exact ⟨rR_cong (fun i h1 h2 => h i h1 (by omega)) k.1, by rw [h _ (by omega) (by omega)]; exact k.2⟩
      · rw [if_neg eu] at k h ⊢
        exact ⟨rR_cong (fun i h1 h2 => h i h1 (by omega)) k.1, rR_cong (fun i h1 h2 => h i (by omega) (by omega)) k.2.1, by rw [h _ (by omega) (by omega)]; exact k.2.2⟩
