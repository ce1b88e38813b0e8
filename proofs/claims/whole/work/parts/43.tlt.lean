/-! the class runs a whole law, and tells -/
section TLT
variable {d : Nat} {v : z_V} {N : z_N} {nu : Nat → Nat} {w D F : Nat} {wh num : Nat}
def RunC (d : Nat) (v : z_V) (N : z_N) (nu : Nat → Nat) (w D F wh num m en : Nat) (Q : z_RT) (x6 : Int32) (e : z_X) : Prop :=
  ∀ (f t i : Nat) (st : Nat → Int) (u : z_V), rC (gI v 700 m) f e → t + sk e ≤ 64 → f + lC e ≤ en → i ≤ f → Fr sTl v u → TS u w wh num t st →
    (∀ (u' : z_V) (i' : Nat), i' ≤ f + lC e → Fr sTl v u' → TS u' w wh num (t + 1) (ps st t (ev (fav N nu) (sgv nu) (nmv N nu D F wh num) e 0)) →
      ∀ (u3 u4 u5 u10 u11 : Option z_AV), z_Wp (z_C (d + 4)) 1 k_X5_tell Q 90 [some (vR 5 w), some (vR 9 w), some (vR 6 m), u3, u4, u5, some (vI x6), some (vI (nI (f + lC e))), some (vI (nI en)), some (vI (nI i')), u10, u11] [] u') →
    ∀ (u3 u4 u5 u10 u11 : Option z_AV), z_Wp (z_C (d + 4)) 1 k_X5_tell Q 90 [some (vR 5 w), some (vR 9 w), some (vR 6 m), u3, u4, u5, some (vI x6), some (vI (nI f)), some (vI (nI en)), some (vI (nI i)), u10, u11] [] u
theorem un_not {o : Nat} (h1 : o ≠ 2) (h2 : o ≠ 4) (h3 : o ≠ 5) (h4 : o ≠ 20) : ¬ un o = true := by
  unfold un
  simp only [Bool.or_eq_true, beq_iff_eq]
  omega
theorem ps_s {st : Nat → Int} {t : Nat} {x : Int} : ps st t x t = x := if_pos rfl
theorem ps_n {st : Nat → Int} {t j : Nat} {x : Int} (h : j ≠ t) : ps st t x j = st j := if_neg h
theorem sk_pos : ∀ e : z_X, 1 ≤ sk e
  | .leaf _ => Nat.le_refl _
  | .branch o a b => by
    have := sk_pos a
    simp only [sk]
    split
    · omega
    · split <;> omega
theorem Fr.i7 {u v : z_V} (h : Fr sTl v u) (m k : Nat) : gI u 700 m k = gI v 700 m k := h.i (sTl_not (by decide))
theorem s_run {m en : Nat} {Q : z_RT} {x6 : Int32} {r : Bool} (hE : CE v w N nu D F) (hwh : wh < 10) (hnum : num ≤ 99) (h1 : r = true → wh < nN N) (h2 : r = false → wh < 7) (hen : en ≤ 300) (e : z_X) : (ty r e = 1 → RunC d v N nu w D F wh num m en Q x6 e) ∧ (ty r e = 2 → RunC d v N nu w D F wh num m en Q x6 e) := by
  have hu : ∀ h, h < 7 → nu h ≤ 99 := fun h hh => (hE.1.2.2.2.2 h hh).2
  have hD := hE.2.2.2.1
  have hF := hE.2.2.2.2
  have hbd := fun e => ev_bd (fav_bd hE.1.1 hu) (sgv_bd hu) (nmv_bd (wh := wh) (num := num) hE.1.1 hu hD hF (by omega) hnum) r e
  -- a leaf
  have leaf : ∀ (a : Nat × Nat) (c : Nat) (y : Int), (∀ g f, rC g f (.leaf a) → g f = nI c) → c < 2 ^ 25 → c % 64 ≠ 21 → c % 64 ≠ 22 → ev (fav N nu) (sgv nu) (nmv N nu D F wh num) (.leaf a) 0 = y → (∀ (u : z_V) t st, Fr sTl v u → TS u w wh num t st → ZI (d + 4) m_X5_valueOf [vR 5 w, vR 9 w, vI (nI (c % 64)), vI (nI (c / 64))] u (fun u' x => (∃ z : Int, x = iI z ∧ -2147483648 ≤ z ∧ z < 2147483648 ∧ xcl z = y) ∧ TS u' w wh num t st ∧ Fr sTl u u')) → RunC d v N nu w D F wh num m en Q x6 (.leaf a) := by
    intro a c y hg hc h21 h22 hev hval f t i st u hr hsk hle hi hf hT k
    rw [hev] at k
    have hsk : t + 1 ≤ 64 := hsk
    have hle : f + 1 ≤ en := hle
    exact s_step1 (wh := wh) (num := num) (c := c) (y := y) (st' := st) (t' := t) ((hf.i7 _ _).trans (hg _ _ hr)) hc h21 h22 hen (by omega) hi (by omega) (hval u t st hf hT) (fun u'' hf'' hT'' => k u'' _ (by show i + 1 ≤ f + 1; omega) (hf.trans hf'') hT'')
  -- one that takes one
  have one : ∀ o a b, un o = true → bd (ev (fav N nu) (sgv nu) (nmv N nu D F wh num) a 0) → RunC d v N nu w D F wh num m en Q x6 a → RunC d v N nu w D F wh num m en Q x6 (.branch o a b) := by
    intro o a b ho hba iha f t i st u hr hsk hle hi hf hT k
    have n3 : o ≠ 3 ∧ o ≠ 30 := by
      unfold un at ho
      simp only [Bool.or_eq_true, beq_iff_eq] at ho
      omega
    have hL : lC (.branch o a b) = lC a + 1 := by simp only [lC]; rw [if_pos ho]
    have hV : ev (fav N nu) (sgv nu) (nmv N nu D F wh num) (.branch o a b) 0 = xu (fav N nu) (sgv nu) o (ev (fav N nu) (sgv nu) (nmv N nu D F wh num) a 0) := by simp only [ev]; rw [if_neg n3.1, if_neg n3.2, if_pos ho]
    have hS : sk (.branch o a b) = sk a := by simp only [sk]; rw [if_neg (by omega), if_pos ho]
    rw [hL, hV] at k
    rw [hL] at hle
    rw [hS] at hsk
    simp only [rC] at hr
    rw [if_neg n3.1, if_neg n3.2, if_pos ho] at hr
    have hp := sk_pos a
    refine iha f t i st u hr.1 hsk (by omega) hi hf hT (fun u' i' hi' hf' hT' => ?_)
    have hoC := oC_big (Or.inl ho)
    refine s_step1 (wh := wh) (num := num) (c := oC o) (y := xu (fav N nu) (sgv nu) o (ev (fav N nu) (sgv nu) (nmv N nu D F wh num) a 0)) (st' := ps st t (ev (fav N nu) (sgv nu) (nmv N nu D F wh num) a 0)) ((hf'.i7 _ _).trans hr.2) (by omega) (by omega) (by omega) hen (by omega) hi' (t' := t) (by omega) ?_ (fun u'' hf'' hT'' => ?_)
    · rw [Nat.mod_eq_of_lt hoC.2.1]
      refine (s_valU (hE.tl hf') ho hT' (by rw [ps_s]; exact hba)).m (fun w2 x hx => ⟨⟨_, hx.1, ?_⟩, hx.2⟩)
      rw [ps_s]
      have hb : bd (xu (fav N nu) (sgv nu) o (ev (fav N nu) (sgv nu) (nmv N nu D F wh num) a 0)) := by
        unfold xu
        split
        · exact fav_bd hE.1.1 hu _
        · split
          · exact sgv_bd hu _
          · split
            · unfold bd at hba ⊢
              omega
            · exact xb_bd _
      refine ⟨?_, ?_, xcl_id hb⟩ <;> (unfold bd at hb; omega)
    · exact k u'' _ (by omega) (hf'.trans hf'') (hT''.cg (fun j hj => by
        by_cases e : j = t
        · subst e; rw [ps_s, ps_s]
        · rw [ps_n e, ps_n e, ps_n e]))
  -- one that takes two
  have two : ∀ o a b, ((6 ≤ o ∧ o ≤ 15) ∨ o = 21 ∨ o = 22) → bd (ev (fav N nu) (sgv nu) (nmv N nu D F wh num) a 0) → bd (ev (fav N nu) (sgv nu) (nmv N nu D F wh num) b 0) → RunC d v N nu w D F wh num m en Q x6 a → RunC d v N nu w D F wh num m en Q x6 b → RunC d v N nu w D F wh num m en Q x6 (.branch o a b) := by
    intro o a b ho hba hbb iha ihb f t i st u hr hsk hle hi hf hT k
    have hnu : ¬ un o = true := un_not (by omega) (by omega) (by omega) (by omega)
    have hL : lC (.branch o a b) = lC a + lC b + 1 := by simp only [lC]; rw [if_neg hnu]
    have hV : ev (fav N nu) (sgv nu) (nmv N nu D F wh num) (.branch o a b) 0 = xd o (ev (fav N nu) (sgv nu) (nmv N nu D F wh num) a 0) (ev (fav N nu) (sgv nu) (nmv N nu D F wh num) b 0) := by simp only [ev]; rw [if_neg (by omega), if_neg (by omega), if_neg hnu]
    have hS : sk (.branch o a b) = max (sk a) (sk b + 1) := by simp only [sk]; rw [if_neg (by omega), if_neg hnu]
    rw [hL, hV] at k
    rw [hL] at hle
    rw [hS] at hsk
    simp only [rC] at hr
    rw [if_neg (by omega), if_neg (by omega), if_neg hnu] at hr
    have hoC := oC_big (Or.inr ho)
    have hp := sk_pos a
    refine iha f t i st u hr.1 (by omega) (by omega) hi hf hT (fun u' i' hi' hf' hT' => ?_)
    refine ihb (f + lC a) (t + 1) i' _ u' hr.2.1 (by omega) (by omega) hi' hf' hT' (fun u2 i2 hi2 hf2 hT2 => ?_)
    have hval := s_valD (d := d) (a3 := nI (oC o / 64)) ho hT2 (by rw [ps_n (by omega), ps_s]; exact hba) (by rw [ps_s]; exact hbb)
    rw [ps_s, ps_n (show t ≠ t + 1 by omega), ps_s] at hval
    refine s_step1 (wh := wh) (num := num) (c := oC o) (t' := t) ((hf2.i7 _ _).trans hr.2.2) (by omega) (by omega) (by omega) hen (by omega) hi2 (by omega) (by rw [Nat.mod_eq_of_lt hoC.2.1]; exact hval) (fun u'' hf'' hT'' => ?_)
    rw [show f + lC a + lC b + 1 = f + (lC a + lC b + 1) by omega]
    exact k u'' _ (by omega) (hf2.trans hf'') (hT''.cg (fun j hj => by
        by_cases e : j = t
        · subst e; rw [ps_s, ps_s]
        · rw [ps_n e, ps_n e, ps_n (by omega), ps_n e]))
  have h := xInd r (RunC d v N nu w D F wh num m en Q x6) (RunC d v N nu w D F wh num m en Q x6)
    (fun n hn => by
      refine leaf (0, n) (n * 64 + 27) n (fun g f hr => hr) (by omega) (by omega) (by omega) rfl (fun u t st hf hT Q' k => ?_)
      rw [show (n * 64 + 27) % 64 = 27 by omega, show (n * 64 + 27) / 64 = n by omega]
      refine E_X5_valueOf (B_X5_valueOf_0 (br_nF (by rfl) (k _ _ ⟨⟨n, (iI_nI n).symm, by omega, by omega, xcl_id ?_⟩, hT, Fr.rfl⟩)))
      unfold bd
      omega)
    (fun n hn hr => by
      have hb := nmv_bd (wh := wh) (num := num) hE.1.1 hu hD hF (by omega) hnum n
      refine leaf (1, n) (n + 8) (nmv N nu D F wh num n) (fun g f hr => hr) (by omega) (by omega) (by omega) rfl (fun u t st hf hT Q' k => ?_)
      rw [show (n + 8) % 64 = n + 8 by omega]
      refine E_X5_valueOf (B_X5_valueOf_0 (pk_ne (n + 8) 27 (fun _ => pk_lt (n + 8) 8 (fun q => absurd q (by omega)) (fun _ => pk_lt 17 (n + 8) (fun q => absurd q (by omega)) (fun _ => ?_))) (fun q => absurd q (by omega))))
      refine cP (s_nameOf (hE.tl hf) hT hn hr h1 h2 hwh) (k _ _ ⟨⟨_, rfl, ?_, ?_, xcl_id hb⟩, hT, Fr.rfl⟩) <;> (unfold bd at hb; omega))
    (fun o a b ho ha iha => one o a b (by rcases ho with e | e | e <;> subst e <;> rfl) ((hbd a).1 ha) iha)
    (fun o a b ho ho2 ha hb iha ihb => two o a b (by omega) ((hbd a).1 ha) ((hbd b).1 hb) iha ihb)
    (fun c x y hc hx hy ihc ihx ihy => by
      intro f t i st u hr hsk hle hi hf hT k
      have hL : lC (.branch 3 c (.branch 30 x y)) = lC c + 1 + lC x + 1 + lC y := by
        simp only [lC]
        rw [if_neg (by decide), if_neg (by decide)]
        omega
      have hV : ev (fav N nu) (sgv nu) (nmv N nu D F wh num) (.branch 3 c (.branch 30 x y)) 0 = if ev (fav N nu) (sgv nu) (nmv N nu D F wh num) c 0 = 0 then ev (fav N nu) (sgv nu) (nmv N nu D F wh num) y 0 else ev (fav N nu) (sgv nu) (nmv N nu D F wh num) x 0 := by
        simp only [ev]
        rw [if_pos trivial, if_neg (by decide), if_pos trivial]
      have hS : sk (.branch 3 c (.branch 30 x y)) = max (sk c) (max (sk x) (sk y)) := by
        simp only [sk]
        rw [if_pos (by decide), if_pos (by decide)]
      rw [hL, hV] at k
      rw [hL] at hle
      rw [hS] at hsk
      simp only [rC] at hr
      rw [if_pos trivial, if_neg (by decide), if_pos trivial] at hr
      obtain ⟨r1, r2, r3, r4, r5⟩ := hr
      simp only [lfC] at r2
      have hp := sk_pos c
      have hbc := (hbd c).2 hc
      unfold bd at hbc
      refine ihc f t i st u r1 (by omega) (by omega) hi hf hT (fun u' i' hi' hf' hT' => ?_)
      intro u3 u4 u5 u10 u11
      refine B_X5_tell_a_90 (pk_le 300 i' (fun q => absurd q (by omega)) (fun _ => br_F (nI_pos (by omega)) (pk_le en (f + lC c) (fun q => absurd q (by omega)) (fun _ => pk_le 300 (f + lC c) (fun q => absurd q (by omega)) (fun _ => z_ii (f + lC c) rfl (by omega) (z_ii (f + lC c) rfl (by omega) ?_))))))
      rw [n_nI (by omega), (hf'.i7 _ _).trans r2, nI_lo6 (by omega), nI_hi6 (by omega), show ((f + lC c + 1 + lC x + 1) * 64 + 21) % 64 = 21 by omega, show ((f + lC c + 1 + lC x + 1) * 64 + 21) / 64 = f + lC c + 1 + lC x + 1 by omega]
      refine br_nF (by rfl) (cI (s_pop hT') (fun u2 x2 hu2 => ?_))
      obtain ⟨rfl, hT2, hf2⟩ := hu2
      rw [ps_s, nI_1, nI_1]
      have hf2 := hf'.trans hf2
      have e0 := iI0 (x := ev (fav N nu) (sgv nu) (nmv N nu D F wh num) c 0) (by omega) (by omega)
      refine ⟨fun q => ?_, fun q => ?_⟩
      · rw [if_neg (fun z => q (e0.mpr z))] at k
        refine ihx (f + lC c + 1) t (i' + 1) _ u2 r3 (by omega) (by omega) (by omega) hf2 hT2 (fun u3 i3 hi3 hf3 hT3 => ?_) _ _ _ _ _
        intro u3' u4 u5 u10 u11
        refine B_X5_tell_a_90 (pk_le 300 i3 (fun q => absurd q (by omega)) (fun _ => br_F (nI_pos (by omega)) (pk_le en (f + lC c + 1 + lC x) (fun q => absurd q (by omega)) (fun _ => pk_le 300 (f + lC c + 1 + lC x) (fun q => absurd q (by omega)) (fun _ => z_ii (f + lC c + 1 + lC x) rfl (by omega) (z_ii (f + lC c + 1 + lC x) rfl (by omega) ?_))))))
        rw [n_nI (by omega), (hf3.i7 _ _).trans r4, nI_lo6 (by omega), nI_hi6 (by omega), show ((f + lC c + 1 + lC x + 1 + lC y) * 64 + 22) % 64 = 22 by omega, show ((f + lC c + 1 + lC x + 1 + lC y) * 64 + 22) / 64 = f + (lC c + 1 + lC x + 1 + lC y) by omega]
        refine br_nT (by decide) (br_nF (by rfl) ?_)
        rw [nI_1]
        refine k u3 _ (by omega) hf3 (hT3.cg (fun j hj => ?_)) _ _ _ _ _
        by_cases e : j = t
        · subst e; rw [ps_s, ps_s]
        · rw [ps_n e, ps_n e, ps_n e]
      · rw [if_pos (e0.mp q)] at k
        refine ihy (f + lC c + 1 + lC x + 1) t (i' + 1) _ u2 r5 (by omega) (by omega) (by omega) hf2 hT2 (fun u3 i3 hi3 hf3 hT3 => ?_) _ _ _ _ _
        rw [show f + lC c + 1 + lC x + 1 + lC y = f + (lC c + 1 + lC x + 1 + lC y) by omega]
        refine k u3 _ (by omega) hf3 (hT3.cg (fun j hj => ?_))
        by_cases e : j = t
        · subst e; rw [ps_s, ps_s]
        · rw [ps_n e, ps_n e, ps_n e])
    (fun o a b ho ho2 ha hb iha ihb => two o a b (by omega) ((hbd a).1 ha) ((hbd b).1 hb) iha ihb)
    (fun a b ha iha => one 20 a b rfl ((hbd a).2 ha) iha)
    (fun o a b ho ha hb iha ihb => two o a b (by omega) ((hbd a).2 ha) ((hbd b).2 hb) iha ihb) e
  exact ⟨h.1, h.2.1⟩
/-- a text: rides, costs, how many clauses, their kinds, their two numbers -/
abbrev z_T : Type := Option z_X × (Option z_X × (Nat × ((Nat → Nat) × ((Nat → Nat) × (Nat → Nat)))))
def hl (x : Int) (top : Nat) : Nat := if x < 0 then 0 else if (top : Int) < x then top else x.toNat
def lv (N : z_N) (nu : Nat → Nat) (D F wh num : Nat) (law : Option z_X) (wo top : Nat) : Nat := match law with
  | none => wo
  | some e => hl (ev (fav N nu) (sgv nu) (nmv N nu D F wh num) e 0) top
def kC (k : Nat) : Nat := if k ≤ 2 then k else if k = 3 then 4 else k + 2
def LC1 (v : z_V) (m a b : Nat) (r : Bool) (law : Option z_X) : Prop := match law with
  | none => gI v 6 m a = nI 0 ∧ gI v 6 m b = nI 0
  | some e => ∃ f, gI v 6 m a = nI f ∧ gI v 6 m b = nI (f + lC e) ∧ f + lC e ≤ 300 ∧ rC (gI v 700 m) f e ∧ ty r e = 1 ∧ sk e ≤ 64
/-- what a clause by hand may have told -/
def ck (k a b : Nat) : Prop := k ≤ 6 ∧ (k = 2 → a < 7 ∧ b < 7) ∧ (k = 3 → a ≤ 99 ∧ b < 7) ∧ (k = 4 → a < 10) ∧ (k = 5 → 1 ≤ a ∧ a ≤ 99) ∧ (k = 6 → 1 ≤ a ∧ a ≤ 60)
def TC (v : z_V) (m : Nat) (T : z_T) : Prop := LC1 v m 6 7 true T.1 ∧ LC1 v m 8 9 false T.2.1 ∧ gI v 6 m 5 = nI T.2.2.1 ∧ T.2.2.1 ≤ 24 ∧ ∀ j, j < T.2.2.1 → gI v 701 m j = nI (kC (T.2.2.2.1 j)) ∧ gI v 702 m j = nI (T.2.2.2.2.1 j) ∧ gI v 703 m j = nI (T.2.2.2.2.2 j) ∧ ck (T.2.2.2.1 j) (T.2.2.2.2.1 j) (T.2.2.2.2.2 j)
theorem hl_I {x : Int} {top : Nat} (hb : bd x) (ht : top < 1000) : i_max 0 (i_min (nI top) (iI x)) = nI (hl x top) := by
  unfold bd at hb
  unfold i_max i_min hl
  rw [← iI_nI, show (0 : Int32) = iI 0 by decide]
  have l1 : iI x < iI (top : Int) ↔ x < top := iI_lt (by omega) (by omega) (by omega) (by omega)
  by_cases q : x < top
  · rw [if_pos (l1.mpr q)]
    have l2 : iI 0 < iI x ↔ 0 < x := iI_lt (by omega) (by omega) (by omega) (by omega)
    by_cases q3 : 0 < x
    · rw [if_pos (l2.mpr q3), if_neg (by omega), if_neg (by omega), ← iI_nI, Int.toNat_of_nonneg (by omega)]
    · rw [if_neg (fun z => q3 (l2.mp z))]
      by_cases q2 : x < 0
      · rw [if_pos q2]
        rfl
      · rw [if_neg q2, if_neg (by omega), show x = 0 by omega]
        rfl
  · rw [if_neg (fun z => q (l1.mp z))]
    have l2 : iI 0 < iI (top : Int) ↔ (0 : Int) < top := iI_lt (by omega) (by omega) (by omega) (by omega)
    have e : (if x < 0 then 0 else if (top : Int) < x then top else x.toNat) = top := by
      split
      · omega
      · split
        · rfl
        · omega
    rw [e]
    by_cases q4 : 0 < top
    · rw [if_pos (l2.mpr (by omega)), iI_nI]
    · rw [if_neg (fun z => q4 (by have := l2.mp z; omega)), show top = 0 by omega]
      rfl
theorem ps_st {st : Nat → Int} {t : Nat} : ps st t (st t) = st := by
  funext j
  unfold ps
  split
  · rename_i h; rw [h]
  · rfl
theorem s_hasT {m : Nat} {a b : Nat} {r : Bool} {law : Option z_X} (h : LC1 v m a b r law) (hab : (r = true ∧ a = 6 ∧ b = 7) ∨ (r = false ∧ a = 8 ∧ b = 9)) : ZP (d + 1) m_X6_has [vR 6 m, vI (bI (!r))] v (bI law.isSome) := fun Q k => E_X6_has (B_X6_has_0 (by
  have key : ∀ {x y : Int32}, gI v 6 m a = x → gI v 6 m b = y → (x < y ↔ law.isSome = true) := by
    intro x y hx hy
    subst hx hy
    cases law with
    | none =>
      rw [h.1, h.2]
      exact ⟨fun q => absurd q (by decide), fun q => absurd q (by decide)⟩
    | some e =>
      obtain ⟨f, h1, h2, h3, _⟩ := h
      rw [h1, h2, nI_ltI (by omega) (by omega)]
      have := lC_pos e
      exact ⟨fun _ => rfl, fun _ => by omega⟩
  have fin : ∀ {x y : Int32}, gI v 6 m a = x → gI v 6 m b = y → (y ≤ x → Q v (some (vI 0))) ∧ (¬ y ≤ x → Q v (some (vI 1))) := by
    intro x y hx hy
    refine bzN ?_ k
    rw [← Int32.not_lt, key hx hy]
    simp
  rcases hab with ⟨rfl, rfl, rfl⟩ | ⟨rfl, rfl, rfl⟩
  · exact br_nF (by rfl) (fin rfl rfl)
  · exact br_nT (by decide) (fin rfl rfl)))
end TLT
