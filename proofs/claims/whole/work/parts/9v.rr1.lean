/-! the reference reads sums and asks: what is piled -/
def rkR (x : Nat) : Nat := if 40 ≤ x then 0 else if x = 22 then 1 else if x = 21 then 2 else if x = 20 then 3 else if 10 ≤ x then 4 else if 8 ≤ x then 6 else if 6 ≤ x then 5 else 7
def isO (x : Nat) : Nat := if x < 6 ∨ x = 20 ∨ 40 ≤ x then 1 else 0
def opN : List Nat → Nat
  | [] => 0
  | x :: X => isO x + opN X
def opT : List Nat → Nat
  | [] => 0
  | x :: X => if 40 ≤ x then x else opT X
def opA : List Nat → Int32
  | [] => -1
  | x :: X => if 40 ≤ x then nI X.length else opA X
def tpP : List Nat → Nat
  | [] => 0
  | x :: _ => rkR x
def cmpR : List Nat → Bool
  | [] => false
  | x :: X => if 4 < rkR x then cmpR X else decide (rkR x = 4)
def askA : List Nat → Bool
  | [] => false
  | x :: X => decide (opT (x :: X) = 41) && (decide (40 ≤ x) || decide (1 ≤ rkR x ∧ rkR x ≤ 3))
def PLs (u : z_V) : List Nat → Prop
  | [] => True
  | x :: X => gI u 1215 0 X.length = nI x ∧ x < 44 ∧ PLs u X
def oN (X : List Nat) : Int32 := if opT X = 0 then -1 else nI (opT X)
def Pil (u : z_V) (X : List Nat) : Prop := gI u 11 0 16 = nI X.length ∧ PLs u X ∧ X.length ≤ 100
theorem rk_le : ∀ {x : Nat}, rkR x ≤ 7 := fun {x} => by
  unfold rkR
  repeat' split
  all_goals omega
theorem PLs.fr {u w : z_V} : ∀ {X : List Nat}, PLs u X → (∀ i, i < X.length → gI w 1215 0 i = gI u 1215 0 i) → PLs w X
  | [], _, _ => trivial
  | x :: X, h, f => ⟨(f _ (Nat.lt_succ_self _)).trans h.1, h.2.1, h.2.2.fr (fun i hi => f i (Nat.lt_succ_of_lt hi))⟩
section RR1
variable {d : Nat} {v : z_V}
theorem s_rank {x : Nat} (hx : x < 64) (hd : 1 ≤ d) : ZP d m_X11_rank [vI (nI x)] v (nI (rkR x)) := by
  obtain ⟨e, rfl⟩ : ∃ e, d = e + 1 := ⟨d - 1, by omega⟩
  intro Q q
  have k : ∀ y, rkR x = y → Q v (some (vI (nI y))) := fun y e => by rw [← e]; exact q
  unfold rkR at k
  refine E_X11_rank (B_X11_rank_0 (pk_lt x 40 (fun a => pk_ne x 22 (fun b => pk_ne x 21 (fun c => pk_ne x 20 (fun g => pk_lt x 10 (fun h => pk_lt x 8 (fun i => pk_lt x 6 (fun j => k 7 ?_) (fun j => k 5 ?_)) (fun i => k 6 ?_)) (fun h => k 4 ?_)) (fun g => k 3 ?_)) (fun c => k 2 ?_)) (fun b => k 1 ?_)) (fun a => k 0 ?_)))
  · rw [if_neg (by omega), if_neg b, if_neg c, if_neg g, if_neg (by omega), if_neg (by omega), if_neg (by omega)]
  · rw [if_neg (by omega), if_neg b, if_neg c, if_neg g, if_neg (by omega), if_neg (by omega), if_pos (by omega)]
  · rw [if_neg (by omega), if_neg b, if_neg c, if_neg g, if_neg (by omega), if_pos (by omega)]
  · rw [if_neg (by omega), if_neg b, if_neg c, if_neg g, if_pos (by omega)]
  · rw [if_neg (by omega), if_neg b, if_neg c, if_pos g]
  · rw [if_neg (by omega), if_neg b, if_pos c]
  · rw [if_neg (by omega), if_pos b]
  · rw [if_pos (by omega)]
theorem nI_dn {n : Nat} : nI (n + 1) + (-1) = nI n := by rw [← nI_1]; simp [Int32.add_assoc]
theorem nI_s1 {n : Nat} : nI (n + 1) - 1 = nI n := by rw [show (1 : Int32) = nI 1 from rfl, pk_sub (by omega), Nat.add_sub_cancel]
theorem openAt7 {Q : z_RT} : ∀ {X : List Nat}, PLs v X → X.length ≤ 100 → Q v (some (vI (opA X))) → z_Wp (z_C d) 1 k_X11_openAt Q 7 [some (vR 11 0), some (vI (nI X.length - 1))] [] v
  | [], _, _, q => B_X11_openAt_7 ⟨fun _ => q, fun z => absurd (show nI 0 - 1 < 0 by decide) z⟩
  | x :: X, h, hl, q => by
    have hl : X.length + 1 ≤ 100 := hl
    refine B_X11_openAt_7 ?_
    rw [show (x :: X).length = X.length + 1 from rfl, nI_s1]
    have hx := h.2.1
    refine ⟨fun z => absurd z (nI_pos (by omega)), fun _ => z_ii X.length rfl (by omega) ?_⟩
    rw [n_nI (by omega), h.1]
    refine pk_le 40 x (fun z => ?_) (fun z => ?_)
    · simp only [opA] at q
      rw [if_pos z] at q
      exact q
    · simp only [opA] at q
      rw [if_neg (by omega)] at q
      cases X with
      | nil => exact openAt7 (X := []) trivial (by decide) q
      | cons y Y =>
        rw [show (y :: Y).length = Y.length + 1 from rfl, nI_dn, ← nI_s1]
        exact openAt7 (X := y :: Y) h.2.2 (by omega) q
theorem s_openAt {X : List Nat} (h : Pil v X) (hd : 1 ≤ d) : ZP d m_X11_openAt [vR 11 0] v (opA X) := by
  obtain ⟨e, rfl⟩ : ∃ e, d = e + 1 := ⟨d - 1, by omega⟩
  intro Q q
  refine E_X11_openAt (B_X11_openAt_0 ?_)
  rw [h.1]
  exact openAt7 h.2.1 h.2.2 q
theorem opA_T : ∀ {X : List Nat}, PLs v X → (opT X = 0 ∧ opA X = -1) ∨ (40 ≤ opT X ∧ opT X < 44 ∧ ∃ i, i < X.length ∧ opA X = nI i ∧ gI v 1215 0 i = nI (opT X))
  | [], _ => Or.inl ⟨rfl, rfl⟩
  | x :: X, h => by
    simp only [opT, opA]
    by_cases z : 40 ≤ x
    · rw [if_pos z, if_pos z]
      exact Or.inr ⟨z, h.2.1, X.length, Nat.lt_succ_self _, rfl, h.1⟩
    · rw [if_neg z, if_neg z]
      rcases opA_T h.2.2 with y | ⟨y1, y2, i, y3, y4⟩
      · exact Or.inl y
      · exact Or.inr ⟨y1, y2, i, Nat.lt_succ_of_lt y3, y4⟩
theorem s_openNow {X : List Nat} (h : Pil v X) (hd : 2 ≤ d) : ZP d m_X11_openNow [vR 11 0] v (oN X) := by
  obtain ⟨e, rfl⟩ : ∃ e, d = e + 1 := ⟨d - 1, by omega⟩
  intro Q q
  have hl := h.2.2
  unfold oN at q
  refine E_X11_openNow (B_X11_openNow_0 (cP (s_openAt h (d := e) (by omega)) ?_))
  rcases opA_T h.2.1 with ⟨y, z⟩ | ⟨y1, y2, i, y3, y4, y5⟩
  · rw [if_pos y] at q
    rw [z]
    exact ⟨fun z => absurd z (by decide), fun _ => q⟩
  · rw [if_neg (by omega)] at q
    rw [y4]
    refine ⟨fun _ => cP (s_openAt h (d := e) (by omega)) ?_, fun z => absurd (nI_pos' (by omega)) z⟩
    rw [y4]
    refine z_ii i rfl (by omega) ?_
    rw [n_nI (by omega), y5]
    exact q
theorem cmp7 {Q : z_RT} (hd : 1 ≤ d) : ∀ {X : List Nat}, PLs v X → X.length ≤ 100 → Q v (some (vI (bI (cmpR X)))) → z_Wp (z_C d) 4 k_X11_isCompared Q 7 [some (vR 11 0), some (vI (nI X.length - 1))] [] v
  | [], _, _, q => B_X11_isCompared_7 ⟨fun _ => ⟨fun _ => q, fun z => absurd (show nI 0 - 1 < 0 by decide) z⟩, fun z => absurd (show nI 0 - 1 < 0 by decide) z⟩
  | x :: X, h, hl, q => by
    have hl : X.length + 1 ≤ 100 := hl
    refine B_X11_isCompared_7 ?_
    rw [show (x :: X).length = X.length + 1 from rfl, nI_s1]
    have hx := h.2.1
    have hr := rk_le (x := x)
    have np : ¬ nI X.length < 0 := nI_pos (by omega)
    refine ⟨fun z => absurd z np, fun _ => z_ii X.length rfl (by omega) ?_⟩
    rw [n_nI (by omega), h.1]
    refine cP (s_rank (by omega) hd) (pk_le (rkR x) 4 (fun z => ⟨fun z => absurd z np, fun _ => z_ii X.length rfl (by omega) ?_⟩) (fun z => ?_))
    · simp only [cmpR] at q
      rw [if_neg (by omega)] at q
      rw [h.1]
      refine cP (s_rank (by omega) hd) ?_
      exact pk_ne (rkR x) 4 (fun n => by rw [decide_eq_false n] at q; exact q) (fun n => by rw [decide_eq_true n] at q; exact q)
    · simp only [cmpR] at q
      rw [if_pos (by omega)] at q
      cases X with
      | nil => exact cmp7 hd (X := []) trivial (by decide) q
      | cons y Y =>
        rw [show (y :: Y).length = Y.length + 1 from rfl, nI_dn, ← nI_s1]
        exact cmp7 hd (X := y :: Y) h.2.2 (by omega) q
theorem s_isCompared {X : List Nat} (h : Pil v X) (hd : 2 ≤ d) : ZP d m_X11_isCompared [vR 11 0] v (bI (cmpR X)) := by
  obtain ⟨e, rfl⟩ : ∃ e, d = e + 1 := ⟨d - 1, by omega⟩
  intro Q q
  refine E_X11_isCompared (B_X11_isCompared_0 ?_)
  rw [h.1]
  exact cmp7 (d := e) (by omega) h.2.1 h.2.2 q
theorem s_isAskAhead {X : List Nat} (h : Pil v X) (hd : 3 ≤ d) : ZP d m_X11_isAskAhead [vR 11 0] v (bI (askA X)) := by
  obtain ⟨e, rfl⟩ : ∃ e, d = e + 1 := ⟨d - 1, by omega⟩
  intro Q q
  have hl := h.2.2
  refine E_X11_isAskAhead (B_X11_isAskAhead_0 (cP (s_openNow h (d := e) (by omega)) ?_))
  unfold oN
  cases X with
  | nil => exact ⟨fun _ => q, fun z => absurd z (by decide)⟩
  | cons x X =>
    simp only [askA] at q
    have hx := h.2.1.2.1
    have hl : X.length + 1 ≤ 100 := hl
    rw [h.1, show (x :: X).length = X.length + 1 from rfl, nI_s1, n_nI (by omega), h.2.1.1]
    have r7 := rk_le (x := x)
    have no : opT (x :: X) ≠ 41 → Q v (some (vI 0)) := fun z => by rw [decide_eq_false z, Bool.false_and] at q; exact q
    rcases opA_T h.2.1 with ⟨y, z⟩ | ⟨y1, y2, i, y3, y4, y5⟩
    · rw [if_pos y]
      exact ⟨fun _ => no (by omega), fun z => absurd z (by decide)⟩
    · rw [if_neg (by omega)]
      refine pk_ne (opT (x :: X)) 41 (fun n => no n) (fun n => z_ii X.length rfl (by omega) ?_)
      rw [decide_eq_true n, Bool.true_and] at q
      refine pk_le 40 x (fun z => ?_) (fun z => z_ii X.length rfl (by omega) (cP (s_rank (by omega) (d := e) (by omega)) ?_))
      · rw [decide_eq_true z, Bool.true_or] at q
        exact q
      · rw [decide_eq_false (by omega), Bool.false_or] at q
        obtain ⟨e', rfl⟩ : ∃ e', e = e' + 1 := ⟨e - 1, by omega⟩
        refine cP (s_isIn (d := e')) ?_
        have e1 : ((1 : Int32) ≤ nI (rkR x) ∧ nI (rkR x) ≤ 3) ↔ (1 ≤ rkR x ∧ rkR x ≤ 3) := by
          rw [show (1 : Int32) = nI 1 from rfl, show (3 : Int32) = nI 3 from rfl, nI_leI (by decide) (by omega), nI_leI (by omega) (by decide)]
        by_cases g : 1 ≤ rkR x ∧ rkR x ≤ 3
        · rw [decide_eq_true (e1.mpr g)]
          rw [decide_eq_true g] at q
          exact ⟨fun z => absurd z (by decide), fun _ => q⟩
        · rw [decide_eq_false (fun z => g (e1.mp z))]
          rw [decide_eq_false g] at q
          exact ⟨fun _ => q, fun z => absurd rfl z⟩
end RR1
