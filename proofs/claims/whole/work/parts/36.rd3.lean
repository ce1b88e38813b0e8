theorem lo_min {f : Nat → Bool} : ∀ {n k i : Nat}, lo f k n = some i → ∀ j, k ≤ j → j < i → f j = false
  | 0, _, _, h, _, _, _ => by cases h
  | n + 1, k, i, h, j, h1, h2 => by
    simp only [lo] at h
    split at h
    · cases h
      omega
    · rename_i e
      by_cases q : j = k
      · rw [q]
        cases z : f k
        · rfl
        · exact absurd z e
      · exact lo_min h j (by omega) h2
theorem nEd_iff {N : z_N} {l x y : Nat} : nEd N l x y = true ↔ (nA N l = x ∧ nB N l = y) ∨ (nB N l = x ∧ nA N l = y) := by
  unfold nEd
  rw [Bool.or_eq_true, Bool.and_eq_true, Bool.and_eq_true, beq_iff_eq, beq_iff_eq, beq_iff_eq, beq_iff_eq]
theorem nOn_iff {N : z_N} {l x : Nat} : nOn N l x = true ↔ nA N l = x ∨ nB N l = x := by
  unfold nOn
  rw [Bool.or_eq_true, beq_iff_eq, beq_iff_eq]
theorem fare_ed {N : z_N} {nu : Nat → Nat} {l x y : Nat} (h : nEd N l x y = true) : fare N nu l = dst (nu x) (nu y) := by
  rcases nEd_iff.mp h with ⟨rfl, rfl⟩ | ⟨rfl, rfl⟩
  · rfl
  · exact dst_comm _ _
theorem i_rem_nI {a w : Nat} (ha : a < 2 ^ 31) (h0 : 0 < w) (hw : w < 2 ^ 31) : i_rem (nI a) (nI w) = nI (a % w) := pk_rem ha h0 hw
theorem nneg {a : Int32} (h : 0 ≤ a) : ∃ m, m < 2 ^ 31 ∧ a = nI m := by
  rw [Int32.le_iff_toInt_le, Int32.toInt_zero] at h
  exact inr_t (decide_eq_true ⟨h, by have := Int32.toInt_lt a; omega⟩)
/-- what both sides answer -/
def isChg (N : z_N) (nu : Nat → Nat) (a b i r : Int32) : Prop := ((inr a 7 && (inr b 7 && inr i 7)) = false ∧ r = -2) ∨ ∃ x y m, x < 7 ∧ y < 7 ∧ m < 7 ∧ a = nI x ∧ b = nI y ∧ i = nI m ∧ isCh N nu y x m r
def isRid (N : z_N) (nu : Nat → Nat) (a b r : Int32) : Prop := ((inr a 7 && inr b 7) = false ∧ r = -1) ∨ ∃ x y, x < 7 ∧ y < 7 ∧ a = nI x ∧ b = nI y ∧ isRd N nu y x r
theorem inr7 {k : Nat} (h : k < 7) : inr (nI k) 7 = true := by
  rw [inr_nI (by omega)]
  exact decide_eq_true h
theorem isRid.u {N : z_N} {nu : Nat → Nat} {a b r r' : Int32} (h : isRid N nu a b r) (h' : isRid N nu a b r') : r = r' := by
  rcases h with ⟨h1, rfl⟩ | ⟨x, y, hx, hy, rfl, rfl, h1⟩ <;> rcases h' with ⟨h2, rfl⟩ | ⟨x', y', hx', hy', q1, q2, h2⟩
  · rfl
  · rw [q1, q2, inr7 hx', inr7 hy'] at h1
    cases h1
  · rw [inr7 hx, inr7 hy] at h2
    cases h2
  · have e1 := (nI_eq (by omega) (by omega)).mp q1
    have e2 := (nI_eq (by omega) (by omega)).mp q2
    subst e1 e2
    exact h1.u h2
theorem isChg.u {N : z_N} {nu : Nat → Nat} {a b i r r' : Int32} (h : isChg N nu a b i r) (h' : isChg N nu a b i r') : r = r' := by
  rcases h with ⟨h1, rfl⟩ | ⟨x, y, m, hx, hy, hm, rfl, rfl, rfl, h1⟩ <;> rcases h' with ⟨h2, rfl⟩ | ⟨x', y', m', hx', hy', hm', q1, q2, q3, h2⟩
  · rfl
  · rw [q1, q2, q3, inr7 hx', inr7 hy', inr7 hm'] at h1
    cases h1
  · rw [inr7 hx, inr7 hy, inr7 hm] at h2
    cases h2
  · have e1 := (nI_eq (by omega) (by omega)).mp q1
    have e2 := (nI_eq (by omega) (by omega)).mp q2
    have e3 := (nI_eq (by omega) (by omega)).mp q3
    subst e1 e2 e3
    exact h1.u h2
theorem lt1_nI {a : Int32} {n : Nat} {A B C : Prop} (hn : n < 2 ^ 31) (f : inr a n = false → A) (t : inr a n = true → C) (g : inr a n = false → B) : (a < 0 → A) ∧ (¬ a < 0 → (a < nI n → C) ∧ (¬ a < nI n → B)) := by
  have h := lt0_nI (a := a) hn f g t
  exact ⟨h.1, fun q => ⟨fun z => (h.2 q).2 (Int32.not_le.mpr z), fun z => (h.2 q).1 (Int32.not_lt.mp z)⟩⟩
section RDQ
variable {d : Nat} {v : z_V} {N : z_N} {nu : Nat → Nat}
theorem s_isNext {b x y : Nat} {D : Nat → Nat} (hM : MS v N nu) (hD : Dst N nu b 10 D) (h3 : arr 1237 v D) (hx : x < 7) (hy : y < 7) (hb : ∃ F n, bst N nu b x F n) : ZP (d + 3) m_X11_isNext [vR 11 0, vI (nI x), vI (nI y)] v (bI (nxb N nu b x y)) := fun Q k => E_X11_isNext (B_X11_isNext_0 (by
  have hu := hM.u
  have hW := hM.1
  have hW1 := hW.1
  refine z_up0 (P := fun l => (∀ i, i < l → nP N i = true → nEd N i x y = true → nxb N nu b x y = false) → z_Wp (z_C (d + 2)) 4 k_X11_isNext Q 2 [some (vR 11 0), some (vI (nI x)), some (vI (nI y)), some (vI (nI l))] [] v) (nN N) ?_ ?_ (fun i hi => absurd hi (by omega))
  · intro h
    refine B_X11_isNext_2 ?_
    rw [hM.2.1]
    refine pk_le (nN N) (nN N) (fun _ => ?_) (fun q => absurd q (by omega))
    have : nxb N nu b x y = false := by
      cases e : nxb N nu b x y
      · rfl
      · obtain ⟨i, i1, i2, i3⟩ := nAdj_iff.mp (nxb_iff.mp e).1
        rw [← e]
        exact h i i1 i2 i3
    rw [this] at k
    exact k
  · intro l hl ih h
    refine B_X11_isNext_2 ?_
    rw [hM.2.1]
    obtain ⟨hA7, hB7, hAB⟩ := hW.2.2.1 l hl
    have hno : (nP N l = true → nEd N l x y = true → nxb N nu b x y = false) → z_Wp (z_C (d + 2)) 4 k_X11_isNext Q 2 [some (vR 11 0), some (vI (nI x)), some (vI (nI y)), some (vI (nI l + 1))] [] v := fun z => by
      rw [nI_1]
      refine ih (fun i hi p q => ?_)
      by_cases e : i = l
      · subst e
        exact z p q
      · exact h i (by omega) p q
    refine pk_le (nN N) l (fun q => absurd q (by omega)) (fun _ => ?_)
    refine cP (s_isOpen hM (by omega)) (br_z (fun e => hno (fun z => by rw [e] at z; cases z)) (fun e => ?_))
    refine pk_eq y x (fun q => hno (fun _ z => ?_)) (fun q => ?_)
    · rcases nEd_iff.mp z with ⟨z1, z2⟩ | ⟨z1, z2⟩ <;> omega
    refine cP (s_isOn hM hl (by omega)) (br_z (fun e1 => hno (fun _ z => ?_)) (fun e1 => ?_))
    · have : nOn N l x = true := nOn_iff.mpr (by rcases nEd_iff.mp z with ⟨z1, z2⟩ | ⟨z1, z2⟩ <;> omega)
      rw [e1] at this
      cases this
    refine cP (s_isOn hM hl (by omega)) (br_z (fun e2 => hno (fun _ z => ?_)) (fun e2 => ?_))
    · have : nOn N l y = true := nOn_iff.mpr (by rcases nEd_iff.mp z with ⟨z1, z2⟩ | ⟨z1, z2⟩ <;> omega)
      rw [e2] at this
      cases this
    have hE : nEd N l x y = true := nEd_iff.mpr (by
      rcases nOn_iff.mp e1 with z1 | z1 <;> rcases nOn_iff.mp e2 with z2 | z2 <;> omega)
    have ha : nAdj N x y = true := nAdj_iff.mpr ⟨l, hl, e, hE⟩
    have hi := nx_iff (Or.inr rfl) hu hD hx hy hb ha
    refine z_ii y rfl hy (cP (s_fareOf hM hl) (z_ii x rfl hx ?_))
    rw [show (10 : Int32) = nI 10 from rfl, pk_mul, n_nI (n := x) (by omega), n_nI (n := y) (by omega), h3 x hx, h3 y hy, nI_add, nI_1, fare_ed hE]
    have i1 := hD.1.le hx
    have i2 := hD.1.le hy
    have i3 := dst_99 (hu x hx) (hu y hy)
    refine pk_ne (D y + 10 * dst (nu x) (nu y) + 1) (D x) (fun z => hno (fun _ _ => ?_)) (fun z => ?_)
    · cases w : nxb N nu b x y
      · rfl
      · exact absurd (hi.mpr (nxb_iff.mp w)) z
    · rw [nxb_iff.mpr (hi.mp z)] at k
      exact k))
theorem s_changeR {a b i : Int32} (hM : MS v N nu) : ZI (d + 4) m_X11_change [vR 11 0, vI a, vI b, vI i] v (fun u r => isChg N nu a b i r ∧ Fr (sT [1237]) v u) := fun Q k => E_X11_change (B_X11_change_0 (by
  have hu := hM.u
  refine cP s_isHalt (br_z (fun e => k _ _ ⟨Or.inl ⟨by rw [e]; rfl, rfl⟩, Fr.rfl⟩) (fun e => ?_))
  refine cP s_isHalt (br_z (fun e2 => k _ _ ⟨Or.inl ⟨by rw [e2, Bool.false_and, Bool.and_false], rfl⟩, Fr.rfl⟩) (fun e2 => ?_))
  refine ⟨fun h0 => ?_, fun h0 => k _ _ ⟨Or.inl ⟨?_, rfl⟩, Fr.rfl⟩⟩
  rotate_left
  · have : inr i 7 = false := decide_eq_false (fun q => h0 (by
      rw [Int32.le_iff_toInt_le, Int32.toInt_zero]
      exact q.1))
    rw [this, Bool.and_false, Bool.and_false]
  obtain ⟨m, hm, rfl⟩ := nneg h0
  obtain ⟨x, hx, rfl⟩ := inr_t e
  obtain ⟨y, hy, rfl⟩ := inr_t e2
  have big : ∀ r, (m < 7 → isCh N nu y x m r) → (7 ≤ m → r = -2) → isChg N nu (nI x) (nI y) (nI m) r := fun r g1 g2 => by
    by_cases q : m < 7
    · exact Or.inr ⟨x, y, m, hx, hy, q, rfl, rfl, rfl, g1 q⟩
    · refine Or.inl ⟨?_, g2 (by omega)⟩
      rw [inr_nI (k := m) hm, decide_eq_false q, Bool.and_false, Bool.and_false]
  refine cV (s_layRides hM hy) (fun u hu2 => ?_)
  obtain ⟨⟨D, hD, h3⟩, f⟩ := hu2
  have hMu := hM.fr f (fun k => (by decide : ¬ (1200 ∈ [1237])))
  have hle := hD.1.le hx
  refine z_ii x rfl hx ?_
  rw [n_nI (n := x) (by omega), h3 x hx]
  have ho := hD.out (Or.inr rfl) hu hx
  refine pk_le 1000000 (D x) (fun q => ?_) (fun q => ?_)
  · refine k _ _ ⟨big _ (fun _ => ?_) (fun _ => rfl), f⟩
    rcases ho with ⟨_, e⟩ | ⟨F, n, h1, h2, _⟩
    · exact Or.inl ⟨e, rfl⟩
    · omega
  · refine z_ii x rfl hx ?_
    rcases ho with ⟨e, _⟩ | ⟨F, n, h1, h2, _⟩
    · omega
    have hn6 := h1.2.1
    rw [show (10 : Int32) = nI 10 from rfl, i_rem_nI (by omega) (by decide) (by decide), show D x % 10 = n by omega]
    refine pk_le m n (fun q2 => ?_) (fun q2 => ?_)
    · have main := z_up0 (P := fun j => ∀ h F' n', n' + j = n → h < 7 → bst N nu y h F' n' → gs N nu y (m - j) h = gs N nu y m x → ∀ u1 u2 u6 : Option z_AV, z_Wp (z_C (d + 3)) 1 k_X11_change Q 60 [some (vR 11 0), u1, u2, some (vI (nI m)), some (vI (nI h)), some (vI (nI j)), u6] [] u) m ?_ ?_
      · exact main x F n rfl hx h1 rfl _ _ _
      · intro h F' n' hn hh hbs hg u1 u2 u6
        refine B_X11_change_60 (pk_le m m (fun _ => ?_) (fun z => absurd z (by omega)))
        rw [Nat.sub_self] at hg
        refine k _ _ ⟨big _ (fun _ => Or.inr ⟨F, n, h1, Or.inl ⟨q2, ?_⟩⟩) (fun z => by omega), f⟩
        rw [← hg]
        rfl
      · intro j hj ih h F' n' hn hh hbs hg u1 u2 u6
        refine B_X11_change_60 (pk_le m j (fun z => absurd z (by omega)) (fun _ => ?_))
        obtain ⟨n', rfl⟩ : ∃ z, n' = z + 1 := ⟨n' - 1, by omega⟩
        obtain ⟨g1, ⟨G, g2⟩, g3⟩ := nxt_nx hbs
        refine z_up0 (P := fun z => ∀ u1 u2 : Option z_AV, z_Wp (z_C (d + 3)) 1 k_X11_change Q 69 [some (vR 11 0), u1, u2, some (vI (nI m)), some (vI (nI h)), some (vI (nI j)), some (vI (nI z))] [] u) (nxt N nu y h) ?_ ?_ _ _
        · intro u1 u2
          refine B_X11_change_69 (cP (s_isNext hMu hD h3 hh g1 ⟨_, _, hbs⟩) (br_n (fun _ => ?_) (fun z => ?_)))
          · rw [nI_1]
            refine ih _ G n' (by omega) g1 g2 ?_ _ _ _
            rw [← hg, show m - j = (m - (j + 1)) + 1 by omega]
            rfl
          · rw [(lo_lt g3).2.2] at z
            cases z
        · intro z hz ihz u1 u2
          refine B_X11_change_69 (cP (s_isNext hMu hD h3 hh (by omega) ⟨_, _, hbs⟩) (br_n (fun w => ?_) (fun _ => ?_)))
          · rw [lo_min g3 z (Nat.zero_le _) hz] at w
            cases w
          · rw [nI_1]
            exact ihz _ _
    · exact k _ _ ⟨big _ (fun _ => Or.inr ⟨F, n, h1, Or.inr ⟨q2, rfl⟩⟩) (fun _ => rfl), f⟩))
def sRd : Nat → Nat → Prop := sT [0, 100, 101, 102, 801]
theorem sRd_n {v w : z_V} (h : Fr sNet v w) : Fr sRd v w := h.mono (fun t k (q : t ∈ [0, 100, 101, 102]) => (show t ∈ [0, 100, 101, 102, 801] by simp only [List.mem_cons, List.not_mem_nil, or_false] at q ⊢; omega))
theorem sRd_8 {v w : z_V} (h : Fr (sT [801]) v w) : Fr sRd v w := h.mono (fun t k (q : t ∈ [801]) => (show t ∈ [0, 100, 101, 102, 801] by simp only [List.mem_cons, List.not_mem_nil, or_false] at q ⊢; omega))
theorem NU.of {u : z_V} (hC : CW v 0 N nu) (f : Fr sNet v u) : NU u nu := fun h hh => ⟨(f.i (sNet_not (by decide))).trans (hC.2.2.2.2 h hh).1, (hC.2.2.2.2 h hh).2⟩
theorem s_rideC {a b : Int32} (hC : CW v 0 N nu) : ZI (d + 4) m_X10_ride [vR 10 0, vI a, vI b] v (fun u r => isRid N nu a b r ∧ Fr sRd v u) := fun Q k => E_X10_ride (B_X10_ride_0 (by
  have bad : ∀ e, (inr a 7 && inr b 7) = false → e = (-1 : Int32) → Q v (some (vI e)) := fun e h1 h2 => k _ _ ⟨Or.inl ⟨h1, h2⟩, Fr.rfl⟩
  refine lt0_nI (n := 7) (by decide) (fun e => bad _ (by rw [e]; rfl) rfl) (fun e => bad _ (by rw [e]; rfl) rfl) (fun e => ?_)
  refine lt1_nI (n := 7) (by decide) (fun e => bad _ (by rw [e, Bool.and_false]) rfl) (fun e2 => ?_) (fun e => bad _ (by rw [e, Bool.and_false]) rfl)
  obtain ⟨x, hx, rfl⟩ := inr_t e
  obtain ⟨y, hy, rfl⟩ := inr_t e2
  exact cV (s_look hC) (fun u hu => cI (s_rideFares hC.1 hu.1 (NU.of hC hu.2) hx hy) (fun w r hw => k _ _ ⟨Or.inr ⟨x, y, hx, hy, rfl, rfl, hw.1⟩, (sRd_n hu.2).trans (sRd_8 hw.2)⟩))))
theorem s_changeC {a b i : Int32} (hC : CW v 0 N nu) : ZI (d + 4) m_X10_change [vR 10 0, vI a, vI b, vI i] v (fun u r => isChg N nu a b i r ∧ Fr sRd v u) := fun Q k => E_X10_change (B_X10_change_0 (by
  have bad : ∀ e, (inr a 7 && (inr b 7 && inr i 7)) = false → e = (-2 : Int32) → Q v (some (vI e)) := fun e h1 h2 => k _ _ ⟨Or.inl ⟨h1, h2⟩, Fr.rfl⟩
  refine lt0_nI (n := 7) (by decide) (fun e => bad _ (by rw [e]; rfl) rfl) (fun e => bad _ (by rw [e]; rfl) rfl) (fun e => ?_)
  refine lt0_nI (n := 7) (by decide) (fun e => bad _ (by rw [e, Bool.false_and, Bool.and_false]) rfl) (fun e => bad _ (by rw [e, Bool.false_and, Bool.and_false]) rfl) (fun e2 => ?_)
  refine lt1_nI (n := 7) (by decide) (fun e => bad _ (by rw [e, Bool.and_false, Bool.and_false]) rfl) (fun e3 => ?_) (fun e => bad _ (by rw [e, Bool.and_false, Bool.and_false]) rfl)
  obtain ⟨x, hx, rfl⟩ := inr_t e
  obtain ⟨y, hy, rfl⟩ := inr_t e2
  obtain ⟨m, hm, rfl⟩ := inr_t e3
  exact cV (s_look hC) (fun u hu => cI (s_rideHalt hC.1 hu.1 (NU.of hC hu.2) hx hy hm) (fun w r hw => k _ _ ⟨Or.inr ⟨x, y, m, hx, hy, hm, rfl, rfl, rfl, hw.1⟩, (sRd_n hu.2).trans (sRd_8 hw.2)⟩))))
end RDQ
