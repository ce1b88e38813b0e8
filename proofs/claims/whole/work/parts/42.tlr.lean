/-! the class runs a law -/
def hv (o : Nat) (x y : Int) : Bool := if o = 10 then decide (x < y) else if o = 11 then decide (x ≤ y) else if o = 12 then decide (y < x) else if o = 13 then decide (y ≤ x) else if o = 14 then decide (x = y) else if o = 15 then decide (¬ x = y)
  else if o = 21 then decide (¬ x = 0 ∧ ¬ y = 0) else decide (¬ x = 0 ∨ ¬ y = 0)
theorem bzB {Q : z_RT} {v : z_V} {c : Prop} {b : Bool} (e : c ↔ b = true) (h : Q v (some (vI (bI b)))) : (c → Q v (some (vI 1))) ∧ (¬ c → Q v (some (vI 0))) := by
  cases b
  · exact ⟨fun q => absurd (e.mp q) (by decide), fun _ => h⟩
  · exact ⟨fun _ => h, fun q => absurd (e.mpr rfl) q⟩
theorem bzN {Q : z_RT} {v : z_V} {c : Prop} {b : Bool} (e : c ↔ b = false) (h : Q v (some (vI (bI b)))) : (c → Q v (some (vI 0))) ∧ (¬ c → Q v (some (vI 1))) := by
  cases b
  · exact ⟨fun _ => h, fun q => absurd (e.mpr rfl) q⟩
  · exact ⟨fun q => absurd (e.mp q) (by decide), fun _ => h⟩
theorem iI0 {x : Int} (h1 : -2147483648 ≤ x) (h2 : x < 2147483648) : iI x = 0 ↔ x = 0 := by
  rw [show (0 : Int32) = iI 0 by decide, iI_eq h1 h2 (by decide) (by decide)]
theorem iI_bI (b : Bool) : iI (xb b) = bI b := by cases b <;> rfl
section TLR
variable {d : Nat} {v : z_V} {N : z_N} {nu : Nat → Nat} {w D F : Nat} {wh num t : Nat} {st : Nat → Int}
theorem s_holds {o : Nat} {x y : Int} (hx : bd x) (hy : bd y) (ho : (10 ≤ o ∧ o ≤ 15) ∨ o = 21 ∨ o = 22) : ZP (d + 1) m_X5_holds [vI (nI (oC o)), vI (iI x), vI (iI y)] v (bI (hv o x y)) := fun Q k => E_X5_holds (B_X5_holds_0 (by
  unfold bd at hx hy
  have x1 : -2147483648 ≤ x := by omega
  have x2 : x < 2147483648 := by omega
  have y1 : -2147483648 ≤ y := by omega
  have y2 : y < 2147483648 := by omega
  have hc : o = 10 ∨ o = 11 ∨ o = 12 ∨ o = 13 ∨ o = 14 ∨ o = 15 ∨ o = 21 ∨ o = 22 := by omega
  rcases hc with e | e | e | e | e | e | e | e <;> subst e
  · refine br_F (by decide) (br_F (by decide) (br_F (by decide) (br_T (by rfl) ?_)))
    exact bzN ((iI_le y1 y2 x1 x2).trans ⟨fun q => decide_eq_false (by omega), fun q => by have q := of_decide_eq_false q; omega⟩) k
  · refine br_F (by decide) (br_F (by decide) (br_F (by decide) (br_F (by decide) (br_T (by rfl) ?_))))
    exact bzN ((iI_lt y1 y2 x1 x2).trans ⟨fun q => decide_eq_false (by omega), fun q => by have q := of_decide_eq_false q; omega⟩) k
  · refine br_F (by decide) (br_F (by decide) (br_F (by decide) (br_F (by decide) (br_F (by decide) (br_T (by rfl) ?_)))))
    exact bzN ((iI_le x1 x2 y1 y2).trans ⟨fun q => decide_eq_false (by omega), fun q => by have q := of_decide_eq_false q; omega⟩) k
  · refine br_F (by decide) (br_F (by decide) (br_F (by decide) (br_F (by decide) (br_F (by decide) (br_F (by decide) (br_T (by rfl) ?_))))))
    exact bzN ((iI_lt x1 x2 y1 y2).trans ⟨fun q => decide_eq_false (by omega), fun q => by have q := of_decide_eq_false q; omega⟩) k
  · refine br_F (by decide) (br_F (by decide) (br_F (by decide) (br_F (by decide) (br_F (by decide) (br_F (by decide) (br_F (by decide) (br_T (by rfl) ?_)))))))
    have := bzB (b := hv 14 x y) ((iI_eq x1 x2 y1 y2).trans ⟨fun q => decide_eq_true q, fun q => of_decide_eq_true q⟩) k
    exact ⟨this.2, this.1⟩
  · refine br_F (by decide) (br_F (by decide) (br_F (by decide) (br_F (by decide) (br_F (by decide) (br_F (by decide) (br_F (by decide) (br_F (by decide) (br_T (by rfl) ?_))))))))
    exact bzN (b := hv 15 x y) ((iI_eq x1 x2 y1 y2).trans ⟨fun q => decide_eq_false (by omega), fun q => by have q := of_decide_eq_false q; omega⟩) k
  · refine br_T (by rfl) ?_
    have e1 := iI0 x1 x2
    have e2 := iI0 y1 y2
    refine ⟨fun q => ?_, fun q => ⟨fun q2 => ?_, fun q2 => ?_⟩⟩
    · exact bq (b' := false) k (decide_eq_false (fun z => z.1 (e1.mp q)))
    · exact bq (b' := false) k (decide_eq_false (fun z => z.2 (e2.mp q2)))
    · exact bq (b' := true) k (decide_eq_true ⟨fun z => q (e1.mpr z), fun z => q2 (e2.mpr z)⟩)
  · refine br_F (by decide) (br_F (by decide) (br_F (by decide) (br_F (by decide) (br_F (by decide) (br_F (by decide) (br_F (by decide) (br_F (by decide) (br_F (by decide) ?_))))))))
    have e1 := iI0 x1 x2
    have e2 := iI0 y1 y2
    refine ⟨fun q => ?_, fun q => ⟨fun q2 => ?_, fun q2 => ?_⟩⟩
    · exact bq (b' := true) k (decide_eq_true (Or.inl (fun z => q (e1.mpr z))))
    · exact bq (b' := false) k (decide_eq_false (fun z => by
        rcases z with z | z
        · exact z (e1.mp q)
        · exact z (e2.mp q2)))
    · exact bq (b' := true) k (decide_eq_true (Or.inr (fun z => q2 (e2.mpr z))))))
theorem bd_mul {x y : Int} (hx : bd x) (hy : bd y) : -1000000000000 ≤ x * y ∧ x * y ≤ 1000000000000 := by
  have h : (x * y).natAbs ≤ 1000000 * 1000000 := by
    rw [Int.natAbs_mul]
    exact Nat.mul_le_mul (by unfold bd at hx; omega) (by unfold bd at hy; omega)
  omega
theorem iI_tdiv {x y : Int} (hx : bd x) (hy : bd y) : iI x / iI y = iI (x.tdiv y) := by
  unfold bd at hx hy
  unfold iI
  rw [Int32.ofInt_tdiv (by rw [Int32.toInt_minValue]; omega) (by rw [Int32.toInt_maxValue]; omega) (by rw [Int32.toInt_minValue]; omega) (by rw [Int32.toInt_maxValue]; omega)]
theorem s_joinX {o : Nat} {x y : Int} (hx : bd x) (hy : bd y) (ho : (6 ≤ o ∧ o ≤ 15) ∨ o = 21 ∨ o = 22) : ∃ z : Int, -2147483648 ≤ z ∧ z < 2147483648 ∧ xcl z = xd o x y ∧ ZP (d + 2) m_X5_joined [vI (nI (oC o)), vI (iI x), vI (iI y)] v (iI z) := by
  have hx' := hx
  have hy' := hy
  unfold bd at hx hy
  by_cases hlo : o ≤ 9
  · have hc : o = 6 ∨ o = 7 ∨ o = 8 ∨ o = 9 := by omega
    rcases hc with e | e | e | e <;> subst e
    · refine ⟨x + y, by omega, by omega, by unfold xd; rw [if_pos rfl], fun Q k => E_X5_joined (B_X5_joined_0 (br_T (by rfl) ?_))⟩
      rw [show iI x + iI y = iI (x + y) from (Int32.ofInt_add x y).symm]
      exact k
    · refine ⟨x - y, by omega, by omega, by unfold xd; rw [if_neg (by decide), if_pos rfl], fun Q k => E_X5_joined (B_X5_joined_0 (br_F (by decide) (br_T (by rfl) ?_)))⟩
      rw [show iI x - iI y = iI (x - y) from (Int32.ofInt_sub x y).symm]
      exact k
    · have hm := bd_mul hx' hy'
      have hb := xcl_bd (x * y)
      have hb' := hb
      unfold bd at hb'
      refine ⟨xcl (x * y), by omega, by omega, (xcl_id hb).trans (by unfold xd; rw [if_neg (by decide), if_neg (by decide), if_pos rfl]), fun Q k => E_X5_joined (B_X5_joined_0 (br_F (by decide) (br_F (by decide) (br_T (by rfl) ?_))))⟩
      refine cP (r := iI (xcl (x * y))) (fun Q k => E_X5_product (B_X5_product_0 ?_)) k
      rw [iI_l (by omega) (by omega), iI_l (by omega) (by omega), show lI x * lI y = lI (x * y) from (Int64.ofInt_mul x y).symm, l_clip (by omega) (by omega), lI_i]
      exact k
    · by_cases h0 : y = 0
      · subst h0
        refine ⟨0, by omega, by omega, (xcl_id (x := 0) (by unfold bd; omega)).trans (by unfold xd; rw [if_neg (by decide), if_neg (by decide), if_neg (by decide), if_pos rfl, if_pos rfl]), fun Q k => E_X5_joined (B_X5_joined_0 (br_F (by decide) (br_F (by decide) (br_F (by decide) (br_T (by rfl) (br_nF (by rfl) ?_))))))⟩
        exact k
      · have hb := tdiv_bd hx' h0
        have hb' := hb
        unfold bd at hb'
        have hne : ¬ iI y = 0 := fun q => h0 ((iI0 (by omega) (by omega)).mp q)
        refine ⟨x.tdiv y, by omega, by omega, ?_, fun Q k => E_X5_joined (B_X5_joined_0 (br_F (by decide) (br_F (by decide) (br_F (by decide) (br_T (by rfl) (br_nT hne ?_))))))⟩
        · rw [xcl_id hb]
          unfold xd
          rw [if_neg (by decide), if_neg (by decide), if_neg (by decide), if_pos rfl, if_neg h0]
        · refine z_if_k (decide_eq_true hne) ?_
          rw [iI_tdiv hx' hy']
          exact k
  · have ho2 : (10 ≤ o ∧ o ≤ 15) ∨ o = 21 ∨ o = 22 := by omega
    have hb := xb_bd (hv o x y)
    have hb' := hb
    unfold bd at hb'
    refine ⟨xb (hv o x y), by omega, by omega, ?_, fun Q k => E_X5_joined (B_X5_joined_0 ?_)⟩
    · rw [xcl_id hb]
      have hc : o = 10 ∨ o = 11 ∨ o = 12 ∨ o = 13 ∨ o = 14 ∨ o = 15 ∨ o = 21 ∨ o = 22 := by omega
      rcases hc with e | e | e | e | e | e | e | e <;> subst e <;> rfl
    · have hd : ∀ c, 34 ≤ c → c ≤ 37 → ¬ nI (oC o) = nI c := by
        intro c h1 h2 q
        have hc : o = 10 ∨ o = 11 ∨ o = 12 ∨ o = 13 ∨ o = 14 ∨ o = 15 ∨ o = 21 ∨ o = 22 := by omega
        have hl : oC o < 34 := by rcases hc with e | e | e | e | e | e | e | e <;> subst e <;> decide
        rw [nI_eq (by omega) (by omega)] at q
        omega
      refine br_F (hd 34 (by decide) (by decide)) (br_F (hd 35 (by decide) (by decide)) (br_F (hd 36 (by decide) (by decide)) (br_F (hd 37 (by decide) (by decide)) ?_)))
      refine cP (s_holds hx' hy' ho2) ?_
      rw [iI_bI] at k
      exact br_z (fun e => bq (b' := false) k e) (fun e => bq (b' := true) k e)
theorem oC_big {o : Nat} (ho : un o = true ∨ (6 ≤ o ∧ o ≤ 15) ∨ o = 21 ∨ o = 22) : 18 ≤ oC o ∧ oC o < 64 ∧ oC o ≠ 27 ∧ oC o ≠ 21 ∧ oC o ≠ 22 := by
  have hc : o = 2 ∨ o = 4 ∨ o = 5 ∨ o = 20 ∨ o = 6 ∨ o = 7 ∨ o = 8 ∨ o = 9 ∨ o = 10 ∨ o = 11 ∨ o = 12 ∨ o = 13 ∨ o = 14 ∨ o = 15 ∨ o = 21 ∨ o = 22 := by
    rcases ho with h | h
    · unfold un at h
      simp only [Bool.or_eq_true, beq_iff_eq] at h
      omega
    · omega
  rcases hc with e | e | e | e | e | e | e | e | e | e | e | e | e | e | e | e <;> subst e <;> decide
/-- into the part that takes values off -/
theorem s_val27 {o : Nat} {a3 : Int32} {Q : z_RT} (ho : un o = true ∨ (6 ≤ o ∧ o ≤ 15) ∨ o = 21 ∨ o = 22) (h : ∀ (u3 u4 : Option z_AV), z_Wp (z_C d) 1 k_X5_valueOf Q 27 [some (vR 5 w), some (vR 9 w), some (vI (nI (oC o))), u3, u4] [] v) : z_C (d + 1) m_X5_valueOf [vR 5 w, vR 9 w, vI (nI (oC o)), vI a3] v Q := by
  obtain ⟨h1, h2, h3, _⟩ := oC_big ho
  exact E_X5_valueOf (B_X5_valueOf_0 (pk_ne (oC o) 27 (fun _ => pk_lt (oC o) 8 (fun _ => h _ _) (fun _ => pk_lt 17 (oC o) (fun _ => h _ _) (fun q => absurd q (by omega)))) (fun q => absurd q h3)))
theorem s_valU {o : Nat} {a3 : Int32} (hE : CE v w N nu D F) (ho : un o = true) (hT : TS v w wh num (t + 1) st) (hb : bd (st t)) : ZI (d + 4) m_X5_valueOf [vR 5 w, vR 9 w, vI (nI (oC o)), vI a3] v (fun u x => x = iI (xu (fav N nu) (sgv nu) o (st t)) ∧ TS u w wh num t st ∧ Fr sTl v u) := fun Q k => s_val27 (Or.inl ho) (fun u3 u4 => B_X5_valueOf_27 (by
  have hb' := hb
  unfold bd at hb'
  refine cI (s_pop hT) (fun u x hu => ?_)
  obtain ⟨rfl, hu1, hu2⟩ := hu
  have hEu := (hE.tl hu2).1
  have hc : o = 2 ∨ o = 4 ∨ o = 5 ∨ o = 20 := by
    unfold un at ho
    simp only [Bool.or_eq_true, beq_iff_eq] at ho
    omega
  rcases hc with e | e | e | e <;> subst e
  · exact br_T (by rfl) (cP (s_fareV hEu (by omega) (by omega)) (k _ _ ⟨rfl, hu1, hu2⟩))
  · exact br_F (by decide) (br_T (by rfl) (cP (s_signV hEu (by omega) (by omega)) (k _ _ ⟨rfl, hu1, hu2⟩)))
  · refine br_F (by decide) (br_F (by decide) (br_F (by decide) (br_T (by rfl) (k _ _ ⟨?_, hu1, hu2⟩))))
    exact (Int32.ofInt_neg (st t)).symm
  · refine br_F (by decide) (br_F (by decide) (br_T (by rfl) ?_))
    have e0 := iI0 (x := st t) (by omega) (by omega)
    refine ⟨fun q => k _ _ ⟨?_, hu1, hu2⟩, fun q => k _ _ ⟨?_, hu1, hu2⟩⟩
    · show (0 : Int32) = iI (xb (decide (st t = 0)))
      rw [decide_eq_false (fun z => q (e0.mpr z))]
      rfl
    · show (1 : Int32) = iI (xb (decide (st t = 0)))
      rw [decide_eq_true (e0.mp q)]
      rfl))
theorem s_valD {o : Nat} {a3 : Int32} (ho : (6 ≤ o ∧ o ≤ 15) ∨ o = 21 ∨ o = 22) (hT : TS v w wh num (t + 2) st) (hb : bd (st t)) (hb2 : bd (st (t + 1))) : ZI (d + 4) m_X5_valueOf [vR 5 w, vR 9 w, vI (nI (oC o)), vI a3] v (fun u x => (∃ z : Int, x = iI z ∧ -2147483648 ≤ z ∧ z < 2147483648 ∧ xcl z = xd o (st t) (st (t + 1))) ∧ TS u w wh num t st ∧ Fr sTl v u) := fun Q k => s_val27 (Or.inr ho) (fun u3 u4 => B_X5_valueOf_27 (by
  refine cI (s_pop hT) (fun u x hu => ?_)
  obtain ⟨rfl, hu1, hu2⟩ := hu
  have hne : ∀ c, (c = 18 ∨ c = 19 ∨ c = 26 ∨ c = 43) → ¬ nI (oC o) = nI c := by
    intro c h1 q
    have hc : o = 6 ∨ o = 7 ∨ o = 8 ∨ o = 9 ∨ o = 10 ∨ o = 11 ∨ o = 12 ∨ o = 13 ∨ o = 14 ∨ o = 15 ∨ o = 21 ∨ o = 22 := by omega
    have hl : oC o < 64 ∧ oC o ≠ 18 ∧ oC o ≠ 19 ∧ oC o ≠ 26 ∧ oC o ≠ 43 := by rcases hc with e | e | e | e | e | e | e | e | e | e | e | e <;> subst e <;> decide
    rw [nI_eq (by omega) (by omega)] at q
    omega
  refine br_F (hne 18 (by decide)) (br_F (hne 19 (by decide)) (br_F (hne 26 (by decide)) (br_F (hne 43 (by decide)) ?_)))
  refine cI (s_pop hu1) (fun u' x hu' => ?_)
  obtain ⟨rfl, hu1', hu2'⟩ := hu'
  obtain ⟨z, z1, z2, z3, z4⟩ := s_joinX (d := d + 1) (v := u') (o := o) hb hb2 ho
  exact cP z4 (k _ _ ⟨⟨z, rfl, z1, z2, z3⟩, hu1', hu2.trans hu2'⟩)))
theorem TS.cg {u : z_V} {st' : Nat → Int} (h : TS u w wh num t st) (e : ∀ j, j < t → st j = st' j) : TS u w wh num t st' := ⟨h.1, h.2.1, h.2.2.1, h.2.2.2.1, fun j hj => by rw [← e j hj]; exact h.2.2.2.2 j hj⟩
theorem nI_lo6 {n : Nat} (h : n < 2 ^ 31) : nI n &&& 63 = nI (n % 64) := pk_andN (by omega) 6 (by rfl)
theorem nI_hi6 {n : Nat} (h : n < 2 ^ 31) : i_shr (nI n) 6 = nI (n / 64) := nI_shr (l := 6) h (by decide)
/-- one step of a law that only puts a value there -/
theorem s_step1 {Q : z_RT} {m en f i c t' : Nat} {y : Int} {st' : Nat → Int} {x6 : Int32} (hg : gI v 700 m f = nI c) (hc : c < 2 ^ 25) (h21 : c % 64 ≠ 21) (h22 : c % 64 ≠ 22) (hen : en ≤ 300) (hf : f < en) (hi : i ≤ f) (ht : t' < 64)
    (hval : ZI (d + 4) m_X5_valueOf [vR 5 w, vR 9 w, vI (nI (c % 64)), vI (nI (c / 64))] v (fun u x => (∃ z : Int, x = iI z ∧ -2147483648 ≤ z ∧ z < 2147483648 ∧ xcl z = y) ∧ TS u w wh num t' st' ∧ Fr sTl v u))
    (k : ∀ (u : z_V), Fr sTl v u → TS u w wh num (t' + 1) (ps st' t' y) → ∀ (u3 u4 u5 u10 u11 : Option z_AV), z_Wp (z_C (d + 4)) 1 k_X5_tell Q 90 [some (vR 5 w), some (vR 9 w), some (vR 6 m), u3, u4, u5, some (vI x6), some (vI (nI (f + 1))), some (vI (nI en)), some (vI (nI (i + 1))), u10, u11] [] u) :
    ∀ (u3 u4 u5 u10 u11 : Option z_AV), z_Wp (z_C (d + 4)) 1 k_X5_tell Q 90 [some (vR 5 w), some (vR 9 w), some (vR 6 m), u3, u4, u5, some (vI x6), some (vI (nI f)), some (vI (nI en)), some (vI (nI i)), u10, u11] [] v := by
  intro u3 u4 u5 u10 u11
  refine B_X5_tell_a_90 (pk_le 300 i (fun q => absurd q (by omega)) (fun _ => br_F (nI_pos (by omega)) (pk_le en f (fun q => absurd q (by omega)) (fun _ => pk_le 300 f (fun q => absurd q (by omega)) (fun _ => z_ii f rfl (by omega) (z_ii f rfl (by omega) ?_))))))
  rw [n_nI (by omega), hg, nI_lo6 (by omega), nI_hi6 (by omega)]
  have hm := Nat.mod_lt c (show 0 < 64 by decide)
  refine pk_ne (c % 64) 21 (fun _ => pk_ne (c % 64) 22 (fun _ => ?_) (fun q => absurd q h22)) (fun q => absurd q h21)
  refine cI hval (fun u x hu => ?_)
  obtain ⟨⟨z, rfl, z1, z2, rfl⟩, hu1, hu2⟩ := hu
  refine cV (s_push hu1 z1 z2 ht) (fun u' hu' => ?_)
  rw [nI_1, nI_1]
  exact k u' (hu2.trans hu'.2) hu'.1 _ _ _ _ _
end TLR
