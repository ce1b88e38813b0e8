/-! the reference sums up: its small ones -/
def lr (a : Int) : Prop := -9223372036854775808 ≤ a ∧ a < 9223372036854775808
theorem bd_lr {a : Int} (h : bd a) : lr a := by
  unfold bd at h
  unfold lr
  omega
theorem lc_lt {a b : Int} (ha : lr a) (hb : lr b) : lg_cmp (lI a) (lI b) < 0 ↔ a < b := by
  rw [lg_cmpI ha.1 ha.2 hb.1 hb.2]
  by_cases h : b < a
  · rw [if_pos h]
    exact ⟨fun q => absurd q (by decide), fun q => absurd q (by omega)⟩
  · rw [if_neg h]
    by_cases e : a = b
    · rw [if_pos e]
      exact ⟨fun q => absurd q (by decide), fun q => absurd q (by omega)⟩
    · rw [if_neg e]
      exact ⟨fun _ => by omega, fun _ => by decide⟩
theorem lc_ge {a b : Int} (ha : lr a) (hb : lr b) : 0 ≤ lg_cmp (lI a) (lI b) ↔ b ≤ a := by
  rw [← Int32.not_lt, lc_lt ha hb]
  omega
theorem lc_eq {a b : Int} (ha : lr a) (hb : lr b) : lg_cmp (lI a) (lI b) = 0 ↔ a = b := by
  rw [lg_cmpI ha.1 ha.2 hb.1 hb.2]
  by_cases h : b < a
  · rw [if_pos h]
    exact ⟨fun q => absurd q (by decide), fun q => absurd q (by omega)⟩
  · rw [if_neg h]
    by_cases e : a = b
    · rw [if_pos e]
      exact ⟨fun _ => e, fun _ => rfl⟩
    · rw [if_neg e]
      exact ⟨fun q => absurd q (by decide), fun q => absurd q e⟩
theorem lc_gt {a b : Int} (ha : lr a) (hb : lr b) : 0 < lg_cmp (lI a) (lI b) ↔ b < a := by
  rw [lg_cmpI ha.1 ha.2 hb.1 hb.2]
  by_cases h : b < a
  · rw [if_pos h]
    exact ⟨fun _ => h, fun _ => by decide⟩
  · rw [if_neg h]
    by_cases e : a = b
    · rw [if_pos e]
      exact ⟨fun q => absurd q (by decide), fun q => absurd q h⟩
    · rw [if_neg e]
      exact ⟨fun q => absurd q (by decide), fun q => absurd q h⟩
theorem lc_le {a b : Int} (ha : lr a) (hb : lr b) : lg_cmp (lI a) (lI b) ≤ 0 ↔ a ≤ b := by
  rw [← Int32.not_lt, lc_gt ha hb]
  omega
theorem pick {c p : Prop} {A B : Prop} (e : c ↔ p) (f : p → A) (g : ¬ p → B) : (c → A) ∧ (¬ c → B) := ⟨fun q => f (e.mp q), fun q => g (fun z => q (e.mpr z))⟩
theorem pickN {c p : Prop} {A B : Prop} (e : c ↔ p) (f : ¬ p → A) (g : p → B) : (¬ c → A) ∧ (c → B) := ⟨fun q => f (fun z => q (e.mpr z)), fun q => g (e.mp q)⟩
def ME (v : z_V) (N : z_N) (nu : Nat → Nat) (D F : Nat) : Prop := MS v N nu ∧ gI v 1200 0 5 = nI D ∧ gI v 1200 0 7 = nI F ∧ D ≤ 9999 ∧ F ≤ 99999
theorem ME.fr {v u : z_V} {N : z_N} {nu : Nat → Nat} {D F : Nat} {S : Nat → Nat → Prop} (h : ME v N nu D F) (f : Fr S v u) (hs : ∀ k, ¬ S 1200 k) : ME u N nu D F := ⟨h.1.fr f hs, (f.i (hs _)).trans h.2.1, (f.i (hs _)).trans h.2.2.1, h.2.2.2⟩
def sTr : Nat → Nat → Prop := sT [1220, 1221, 1222]
theorem sTr_in {t k : Nat} (h : t ∈ [1220, 1221, 1222]) : sTr t k := h
theorem sTr_not {t k : Nat} (h : t ≠ 1220 ∧ t ≠ 1221 ∧ t ≠ 1222) : ¬ sTr t k := by
  intro q
  have q : t ∈ [1220, 1221, 1222] := q
  simp only [List.mem_cons, List.not_mem_nil, or_false] at q
  omega
theorem ME.tl {v u : z_V} {N : z_N} {nu : Nat → Nat} {D F : Nat} (h : ME v N nu D F) (f : Fr sTr v u) : ME u N nu D F := h.fr f (fun _ => sTr_not (by decide))
section TLM
variable {d : Nat} {v : z_V} {N : z_N} {nu : Nat → Nat} {D F : Nat}
theorem s_clip {x : Int} (hx : lr x) : ZPL (d + 1) m_X11_clip [vL (lI x)] v (lI (xcl x)) := fun Q k => E_X11_clip (B_X11_clip_0 (by
  unfold xcl at k
  rw [show (1000000 : Int64) = lI 1000000 by decide, show (-lI 1000000 : Int64) = lI (-1000000) by decide]
  refine pick (lc_le hx (by unfold lr; omega)) (fun q => pick (lc_ge hx (by unfold lr; omega)) (fun q2 => ?_) (fun q2 => ?_)) (fun q => ?_)
  · rw [if_neg (by omega), if_neg (by omega)] at k
    exact k
  · rw [if_pos (by omega)] at k
    exact k
  · rw [if_neg (by omega), if_pos (by omega)] at k
    exact k))
theorem s_held {x : Int} {top : Nat} (hx : lr x) (ht : top < 1000000) : ZP (d + 1) m_X11_held [vL (lI x), vI 0, vI (nI top)] v (nI (hl x top)) := fun Q k => E_X11_held (B_X11_held_0 (by
  unfold hl at k
  rw [nI_l (by omega), ← lI_lN, show (0 : Int32).toInt64 = lI 0 by decide]
  refine pick (lc_ge hx (by unfold lr; omega)) (fun q => pick (lc_le hx (by unfold lr; omega)) (fun q2 => ?_) (fun q2 => ?_)) (fun q => ?_)
  · rw [if_neg (by omega), if_neg (by omega), ← iI_nI, Int.toNat_of_nonneg q] at k
    rw [lI_i]
    exact k
  · rw [if_neg (by omega), if_pos (by omega)] at k
    exact k
  · rw [if_pos (by omega)] at k
    exact k))
theorem s_ofOne {o : Nat} {x : Int} (hM : MS v N nu) (hx : bd x) (ho : o = 2 ∨ o = 4 ∨ o = 5) : ZPL (d + 3) m_X11_ofOne [vR 11 0, vI (nI o), vL (lI x)] v (lI (xu (fav N nu) (sgv nu) o x)) := fun Q k => E_X11_ofOne (B_X11_ofOne_0 (by
  have hx' := hx
  unfold bd at hx'
  have hn := hM.1.1
  have l0 : lr 0 := by unfold lr; omega
  rw [show (0 : Int64) = lI 0 by decide, hM.2.1, nI_l (by omega), ← lI_lN]
  rcases ho with e | e | e <;> subst e
  · refine br_nT (by decide) (br_nT (by decide) ?_)
    have k : Q v (some (vL (lI (fav N nu x)))) := k
    unfold fav at k
    refine pick (lc_lt (bd_lr hx) l0) (fun q => ?_) (fun q => pick (lc_ge (bd_lr hx) (by unfold lr; omega)) (fun q2 => ?_) (fun q2 => ?_))
    · rw [if_neg (by omega)] at k
      exact k
    · rw [if_neg (by omega)] at k
      exact k
    · rw [if_pos (by omega)] at k
      obtain ⟨n, rfl⟩ : ∃ n : Nat, x = n := ⟨x.toNat, by omega⟩
      rw [Int.toNat_natCast, lI_lN] at k
      rw [lI_i, iI_nI]
      refine cP (s_fareOf hM (by omega)) ?_
      have hw := hM.1.2.2.1 n (by omega)
      have := dst_le (hM.2.2.2.2 _ hw.1).2 (hM.2.2.2.2 _ hw.2.1).2
      rw [nI_l (by unfold fare; omega)]
      exact k
  · refine br_nT (by decide) (br_nF (by rfl) ?_)
    have k : Q v (some (vL (lI (sgv nu x)))) := k
    unfold sgv at k
    rw [show (7 : Int64) = lI 7 by decide]
    refine pick (lc_lt (bd_lr hx) l0) (fun q => ?_) (fun q => pick (lc_ge (bd_lr hx) (by unfold lr; omega)) (fun q2 => ?_) (fun q2 => ?_))
    · rw [if_neg (by omega)] at k
      exact k
    · rw [if_neg (by omega)] at k
      exact k
    · rw [if_pos (by omega)] at k
      obtain ⟨n, rfl⟩ : ∃ n : Nat, x = n := ⟨x.toNat, by omega⟩
      rw [Int.toNat_natCast, lI_lN] at k
      rw [lI_i, iI_nI, show (10 : Int32) = nI 10 from rfl, nI_add]
      have h1 := hM.2.2.2.2 n (by omega)
      refine z_ii (10 + n) rfl (by omega) ?_
      rw [n_nI (by omega), h1.1, nI_l (by omega)]
      exact k
  · refine br_nF (by rfl) ?_
    have k : Q v (some (vL (lI (-x)))) := k
    rw [show -lI x = lI (-x) from (Int64.ofInt_neg x).symm]
    exact k))
theorem lI_tdiv {x y : Int} (hx : bd x) (hy : bd y) : lI x / lI y = lI (x.tdiv y) := by
  unfold bd at hx hy
  unfold lI
  rw [Int64.ofInt_tdiv (by rw [Int64.toInt_minValue]; omega) (by rw [Int64.toInt_maxValue]; omega) (by rw [Int64.toInt_minValue]; omega) (by rw [Int64.toInt_maxValue]; omega)]
theorem s_two {o : Nat} {x y : Int} (hx : bd x) (hy : bd y) (h1 : 6 ≤ o) (h2 : o ≤ 9) : ZPL (d + 2) m_X11_two [vI (nI o), vL (lI x), vL (lI y)] v (lI (xd o x y)) := fun Q k => E_X11_two (B_X11_two_0 (by
  have hx' := hx
  have hy' := hy
  unfold bd at hx' hy'
  have hc : o = 6 ∨ o = 7 ∨ o = 8 ∨ o = 9 := by omega
  rcases hc with e | e | e | e <;> subst e
  · unfold xd at k
    rw [if_pos rfl] at k
    refine br_T (by rfl) ?_
    rw [show lI x + lI y = lI (x + y) from (Int64.ofInt_add x y).symm]
    exact cPL (s_clip (by unfold lr; omega)) k
  · unfold xd at k
    rw [if_neg (by decide), if_pos rfl] at k
    refine br_F (by decide) (br_T (by rfl) ?_)
    rw [show lI x - lI y = lI (x - y) from (Int64.ofInt_sub x y).symm]
    exact cPL (s_clip (by unfold lr; omega)) k
  · unfold xd at k
    rw [if_neg (by decide), if_neg (by decide), if_pos rfl] at k
    have hm := bd_mul hx hy
    refine br_F (by decide) (br_F (by decide) (br_T (by rfl) ?_))
    rw [show lI x * lI y = lI (x * y) from (Int64.ofInt_mul x y).symm]
    exact cPL (s_clip (by unfold lr; omega)) k
  · unfold xd at k
    rw [if_neg (by decide), if_neg (by decide), if_neg (by decide), if_pos rfl] at k
    refine br_F (by decide) (br_F (by decide) (br_F (by decide) ?_))
    have l0 : lr 0 := by unfold lr; omega
    rw [show (0 : Int64) = lI 0 by decide]
    refine pickN (lc_eq (bd_lr hy) l0) (fun q => ?_) (fun q => ?_)
    · rw [if_neg q] at k
      have hb := tdiv_bd hx q
      refine z_if_k (decide_eq_true (fun z => q ?_)) ?_
      · rw [show (0 : Int64) = lI 0 by decide, lI_eq (by omega) (by omega) (by omega) (by omega)] at z
        exact z
      · rw [lI_tdiv hx hy]
        refine cPL (s_clip (bd_lr hb)) ?_
        rw [xcl_id hb]
        exact k
    · rw [if_pos q] at k
      exact k))
theorem s_isAsked {o : Nat} {x y : Int} (hx : bd x) (hy : bd y) (h1 : 10 ≤ o) (h2 : o ≤ 15) : ZP (d + 1) m_X11_isAsked [vI (nI o), vL (lI x), vL (lI y)] v (bI (hv o x y)) := fun Q k => E_X11_isAsked (B_X11_isAsked_0 (by
  have lx := bd_lr hx
  have ly := bd_lr hy
  have hc : o = 10 ∨ o = 11 ∨ o = 12 ∨ o = 13 ∨ o = 14 ∨ o = 15 := by omega
  rcases hc with e | e | e | e | e | e <;> subst e
  · exact br_nF (by rfl) (bzN (b := hv 10 x y) ((lc_ge lx ly).trans ⟨fun q => decide_eq_false (by omega), fun q => by have q := of_decide_eq_false q; omega⟩) k)
  · exact br_nT (by decide) (br_nF (by rfl) (bzN (b := hv 11 x y) ((lc_gt lx ly).trans ⟨fun q => decide_eq_false (by omega), fun q => by have q := of_decide_eq_false q; omega⟩) k))
  · exact br_nT (by decide) (br_nT (by decide) (br_nF (by rfl) (bzN (b := hv 12 x y) ((lc_le lx ly).trans ⟨fun q => decide_eq_false (by omega), fun q => by have q := of_decide_eq_false q; omega⟩) k)))
  · exact br_nT (by decide) (br_nT (by decide) (br_nT (by decide) (br_nF (by rfl) (bzN (b := hv 13 x y) ((lc_lt lx ly).trans ⟨fun q => decide_eq_false (by omega), fun q => by have q := of_decide_eq_false q; omega⟩) k))))
  · have := bzB (b := hv 14 x y) ((lc_eq lx ly).trans ⟨fun q => decide_eq_true q, fun q => of_decide_eq_true q⟩) k
    exact br_nT (by decide) (br_nT (by decide) (br_nT (by decide) (br_nT (by decide) (br_nF (by rfl) ⟨this.2, this.1⟩))))
  · exact br_nT (by decide) (br_nT (by decide) (br_nT (by decide) (br_nT (by decide) (br_nT (by decide) (bzN (b := hv 15 x y) ((lc_eq lx ly).trans ⟨fun q => decide_eq_false (by omega), fun q => by have q := of_decide_eq_false q; omega⟩) k)))))))
theorem s_joinR {o : Nat} {x y : Int} (hx : bd x) (hy : bd y) (ho : o = 21 ∨ o = 22) : ZP (d + 1) m_X11_joined [vI (nI o), vI (iI x), vI (iI y)] v (bI (hv o x y)) := fun Q k => E_X11_joined (B_X11_joined_0 (by
  unfold bd at hx hy
  have e1 := iI0 (x := x) (by omega) (by omega)
  have e2 := iI0 (x := y) (by omega) (by omega)
  rcases ho with e | e <;> subst e
  · refine br_nF (by rfl) ⟨fun q => ?_, fun q => ⟨fun q2 => ?_, fun q2 => ?_⟩⟩
    · exact bq (b' := false) k (decide_eq_false (fun z => z.1 (e1.mp q)))
    · exact bq (b' := false) k (decide_eq_false (fun z => z.2 (e2.mp q2)))
    · exact bq (b' := true) k (decide_eq_true ⟨fun z => q (e1.mpr z), fun z => q2 (e2.mpr z)⟩)
  · refine br_nT (by decide) ⟨fun q => ?_, fun q => ⟨fun q2 => ?_, fun q2 => ?_⟩⟩
    · exact bq (b' := true) k (decide_eq_true (Or.inl (fun z => q (e1.mpr z))))
    · exact bq (b' := false) k (decide_eq_false (fun z => by
        rcases z with z | z
        · exact z (e1.mp q)
        · exact z (e2.mp q2)))
    · exact bq (b' := true) k (decide_eq_true (Or.inr (fun z => q2 (e2.mpr z))))))
end TLM
