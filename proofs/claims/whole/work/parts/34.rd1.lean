/-! A RIDE, both sides -/
def arr (t : Nat) (u : z_V) (D : Nat → Nat) : Prop := ∀ h, h < 7 → gI u t 0 h = nI (D h)
theorem i_min_nI {a b : Nat} (ha : a < 2 ^ 31) (hb : b < 2 ^ 31) : i_min (nI a) (nI b) = nI (min a b) := by
  unfold i_min
  simp only [Int32.lt_iff_toInt_lt, nI_toInt ha, nI_toInt hb]
  by_cases h : b < a
  · rw [if_pos (by omega), Nat.min_eq_right (by omega)]
  · rw [if_neg (by omega), Nat.min_eq_left (by omega)]
theorem arr_relx {t : Nat} {u : z_V} {D : Nat → Nat} {x y s : Nat} (h : arr t u D) (hx : x < 7) : arr t (pI u t 0 x (nI (relx D x y s x))) (relx D x y s) := by
  intro i hi
  by_cases e : i = x
  · subst e
    rw [gI_pI_s]
  · rw [gI_pI_k e, h i hi]
    unfold relx
    rw [if_neg e]
theorem arr_min {t : Nat} {u : z_V} {D : Nat → Nat} {x y s : Nat} (h : arr t u D) (hx : x < 7) (hy : y < 7) (bx : D x ≤ 1000000) (b2 : D y ≤ 1000000) (hs : s < 1000000) : i_min (gI u t 0 x) (gI u t 0 y + nI s) = nI (relx D x y s x) := by
  rw [h x hx, h y hy, nI_add, i_min_nI (by omega) (by omega)]
  unfold relx
  rw [if_pos rfl]
def NU (v : z_V) (nu : Nat → Nat) : Prop := ∀ h, h < 7 → gI v 500 0 h = nI (nu h) ∧ nu h ≤ 99
section RDS
variable {d : Nat} {v : z_V} {N : z_N} {nu : Nat → Nat}
theorem s_stepWorth {a b : Nat} (hU : NU v nu) (ha : a < 7) (hb : b < 7) : ZP (d + 1) m_X7_stepWorth [vR 500 0, vI (nI a), vI (nI b)] v (nI (8 * dst (nu a) (nu b) + 1)) := fun Q k => E_X7_stepWorth (B_X7_stepWorth_0 (by
  have h1 := (hU a ha).2
  have h2 := (hU b hb).2
  refine z_ii a rfl ha (z_ii b rfl hb ?_)
  rw [n_nI (n := a) (by omega), n_nI (n := b) (by omega), (hU a ha).1, (hU b hb).1, i_abs_sub (by omega) (by omega), show (8 : Int32) = nI 8 from rfl, pk_mul, nI_1, Nat.mul_comm]
  exact k))
theorem s_reckon {b : Nat} (hW : nWF N) (hN : NS v N) (hU : NU v nu) (hb : b < 7) : ZV (d + 2) m_X7_reckon [vR 7 0, vR 0 0, vR 500 0, vI (nI b)] v (fun u => (∃ D, Dst N nu b 8 D ∧ arr 801 u D) ∧ Fr (sT [801]) v u) := fun Q k => E_X7_reckon (B_X7_reckon_0 (by
  have hu : ∀ h, h < 7 → nu h ≤ 99 := fun h hh => (hU h hh).2
  -- the rounds
  have rounds : ∀ (u : z_V) (D : Nat → Nat), Fr (sT [801]) v u → Snd N nu b 8 D → Cmp N nu b 8 0 D → arr 801 u D → z_Wp (z_C (d + 1)) 0 k_X7_reckon Q 38 [some (vR 7 0), some (vR 0 0), some (vR 500 0), some (vI (nI b)), some (vI 1), none, none, none, none] [] u := by
    have main := z_up0 (P := fun j => ∀ (u : z_V) (D : Nat → Nat), Fr (sT [801]) v u → Snd N nu b 8 D → Cmp N nu b 8 j D → arr 801 u D → ∀ (u3 u5 u6 u7 u8 : Option z_AV), z_Wp (z_C (d + 1)) 0 k_X7_reckon Q 38 [some (vR 7 0), some (vR 0 0), some (vR 500 0), u3, some (vI (nI (j + 1))), u5, u6, u7, u8] [] u) 6 ?_ ?_
    · intro u D f h1 h2 h3
      exact main u D f h1 h2 h3 _ _ _ _ _
    · intro u D f h1 h2 h3 u3 u5 u6 u7 u8
      refine B_X7_reckon_38 (pk_le 7 7 (fun _ => ?_) (fun q => absurd q (by decide)))
      exact k _ ⟨⟨D, ⟨h1, h2⟩, h3⟩, f⟩
    · intro j hj ihj u D0 f h1 h2 h3 u3 u5 u6 u7 u8
      refine B_X7_reckon_38 (pk_le 7 (j + 1) (fun q => absurd q (by omega)) (fun _ => ?_))
      refine z_up0 (P := fun l => ∀ (u : z_V) (D : Nat → Nat), Fr (sT [801]) v u → Snd N nu b 8 D → Rnd N nu 8 D0 l D → arr 801 u D → ∀ (u3 u6 u7 u8 : Option z_AV), z_Wp (z_C (d + 1)) 0 k_X7_reckon Q 48 [some (vR 7 0), some (vR 0 0), some (vR 500 0), u3, some (vI (nI (j + 1))), some (vI (nI l)), u6, u7, u8] [] u) 10 ?_ ?_ u D0 f h1 Rnd.zero h3 _ _ _ _
      · intro u D f h1 hR h3 u3 u6 u7 u8
        refine B_X7_reckon_48 (pk_le 10 10 (fun _ => ?_) (fun q => absurd q (by decide)))
        rw [nI_1]
        exact ihj u D f h1 (hR.cmp hW.1 h2) h3 _ _ _ _ _
      · intro l hl ih u D f h1 hR h3 u3 u6 u7 u8
        have hNu : NS u N := hN.fr f (fun k => (by decide : ¬ (0 ∈ [801]))) (fun k => (by decide : ¬ (100 ∈ [801]))) (fun k => (by decide : ¬ (101 ∈ [801]))) (fun k => (by decide : ¬ (102 ∈ [801])))
        have hUu : NU u nu := fun h hh => ⟨(f.i (by decide : ¬ (500 ∈ [801]))).trans (hU h hh).1, (hU h hh).2⟩
        refine B_X7_reckon_48 (pk_le 10 l (fun q => absurd q (by omega)) (fun _ => ?_))
        refine cP (s_isOpenX (by have := nO_lt hW; omega) hNu.1 (by omega)) (br_z (fun e => ?_) (fun e => ?_))
        · refine B_X7_reckon_146 ?_
          rw [nI_1]
          exact ih u D f h1 (hR.skip (fun _ => e)) h3 _ _ _ _
        · have hln := nP_lt hW e
          obtain ⟨hA, hB⟩ := hNu.2.2.2.2.2.1 l hl e
          obtain ⟨hA7, hB7, _⟩ := hW.2.2.1 l hln
          refine z_ii l rfl hl (z_ii l rfl hl ?_)
          rw [n_nI (n := l) (by omega), hA, hB]
          refine cP (s_stepWorth hUu hA7 hB7) ?_
          have hf : dst (nu (nA N l)) (nu (nB N l)) ≤ 99 := dst_99 (hu _ hA7) (hu _ hB7)
          refine z_ii _ rfl hA7 (z_ii _ rfl hB7 (z_ii _ rfl hA7 (z_ii _ rfl hB7 (z_ii _ rfl hA7 (z_ii _ rfl hB7 ?_)))))
          rw [n_nI (n := nA N l) (by omega), n_nI (n := nB N l) (by omega)]
          have hab : nAdj N (nA N l) (nB N l) = true := nAdj_iff.mpr ⟨l, hln, e, by unfold nEd; simp⟩
          have S1 := Snd_relx h1 hA7 hB7 hab
          have S2 := Snd_relx S1 hB7 hA7 (nAdj_comm.trans hab)
          rw [dst_comm (nu (nB N l))] at S2
          rw [arr_min h3 hA7 hB7 (h1.le hA7) (h1.le hB7) (by omega)]
          have a1 := arr_relx (y := nB N l) (s := 8 * dst (nu (nA N l)) (nu (nB N l)) + 1) h3 hA7
          rw [arr_min a1 hB7 hA7 (S1.le hB7) (S1.le hA7) (by omega)]
          have a2 := arr_relx (y := nA N l) (s := 8 * dst (nu (nA N l)) (nu (nB N l)) + 1) a1 hB7
          refine B_X7_reckon_146 ?_
          rw [nI_1]
          refine ih _ _ ((f.pI (by decide : (801 ∈ [801]))).pI (by decide : (801 ∈ [801]))) S2 ?_ a2 _ _ _ _
          exact hR.line (fun _ => Nat.le_trans relx_le relx_le) (Nat.le_trans relx_le relx_x) (Nat.le_trans relx_x (Nat.add_le_add_right relx_le _))
  refine z_up0 (P := fun x => ∀ (u : z_V), Fr (sT [801]) v u → (∀ h, h < x → gI u 801 0 h = nI (if h = b then 0 else 1000000)) → ∀ (u5 u6 u7 u8 : Option z_AV), z_Wp (z_C (d + 1)) 0 k_X7_reckon Q 3 [some (vR 7 0), some (vR 0 0), some (vR 500 0), some (vI (nI b)), some (vI (nI x)), u5, u6, u7, u8] [] u) 7 ?_ ?_ v Fr.rfl (fun h hh => absurd hh (by omega)) _ _ _ _
  · intro u f h u5 u6 u7 u8
    refine B_X7_reckon_3 (pk_le 7 7 (fun _ => ?_) (fun q => absurd q (by decide)))
    exact rounds u _ f Snd.start Cmp.start h
  · intro x hx ih u f h u5 u6 u7 u8
    have go : ∀ val : Nat, val = (if x = b then 0 else 1000000) → z_Wp (z_C (d + 1)) 0 k_X7_reckon Q 3 [some (vR 7 0), some (vR 0 0), some (vR 500 0), some (vI (nI b)), some (vI (nI x + 1)), none, none, none, none] [] (pI u 801 0 (n_ (nI x)) (nI val)) := by
      intro val hv
      rw [nI_1, n_nI (by omega)]
      refine ih _ (f.pI (by decide : (801 ∈ [801]))) (fun i hi => ?_) _ _ _ _
      by_cases e : i = x
      · subst e
        rw [gI_pI_s, hv]
      · rw [gI_pI_k e]
        exact h i (by omega)
    refine B_X7_reckon_3 (pk_le 7 x (fun q => absurd q (by omega)) (fun _ => pk_ne x b (fun q => ?_) (fun q => ?_)))
    · exact z_ii x rfl hx (go 1000000 (by rw [if_neg q]))
    · exact z_ii x rfl hx (go 0 (by rw [if_pos q]))))
theorem pk_d {a w : Nat} (ha : a < 2 ^ 31) (h0 : 0 < w) (hw : w < 2 ^ 31) : nI a / nI w = nI (a / w) := pk_div ha h0 hw
theorem s_rideFares {a b : Nat} (hW : nWF N) (hN : NS v N) (hU : NU v nu) (ha : a < 7) (hb : b < 7) : ZI (d + 3) m_X7_rideFares [vR 7 0, vR 0 0, vR 500 0, vI (nI a), vI (nI b)] v (fun u r => isRd N nu b a r ∧ Fr (sT [801]) v u) := fun Q k => E_X7_rideFares (B_X7_rideFares_0 (by
  refine cV (s_reckon hW hN hU hb) (fun u hu => ?_)
  obtain ⟨⟨D, hD, h3⟩, f⟩ := hu
  have hle := hD.1.le ha
  refine z_ii a rfl ha ?_
  rw [n_nI (n := a) (by omega), h3 a ha]
  have ho := hD.out (Or.inl rfl) (fun h hh => (hU h hh).2) ha
  refine pk_lt (D a) 1000000 (fun q => ?_) (fun q => ?_)
  · refine z_ii a rfl ha ?_
    refine k _ _ ⟨?_, f⟩
    rcases ho with ⟨e, _⟩ | ⟨F, n, h1, h2, _⟩
    · omega
    · refine Or.inr ⟨F, n, h1, ?_⟩
      rw [show (8 : Int32) = nI 8 from rfl, pk_d (by omega) (by decide) (by decide)]
      have := h1.2.1
      congr 1
      omega
  · refine k _ _ ⟨?_, f⟩
    rcases ho with ⟨_, e⟩ | ⟨F, n, h1, h2, _⟩
    · exact Or.inl ⟨e, rfl⟩
    · omega))
theorem s_nextHalt {b h : Nat} {D : Nat → Nat} (hW : nWF N) (hN : NS v N) (hU : NU v nu) (hD : Dst N nu b 8 D) (h3 : arr 801 v D) (hh : h < 7) (hb : ∃ F n, bst N nu b h F n) : ZP (d + 2) m_X7_nextHalt [vR 7 0, vR 0 0, vR 500 0, vI (nI h)] v (nI (nxt N nu b h)) := fun Q k => E_X7_nextHalt (B_X7_nextHalt_0 (by
  have hu : ∀ h, h < 7 → nu h ≤ 99 := fun h hh => (hU h hh).2
  refine z_up0 (P := fun x => lo (nxb N nu b h) 0 7 = lo (nxb N nu b h) x (7 - x) → ∀ u5 : Option z_AV, z_Wp (z_C (d + 1)) 1 k_X7_nextHalt Q 3 [some (vR 7 0), some (vR 0 0), some (vR 500 0), some (vI (nI h)), some (vI (nI x)), u5] [] v) 7 ?_ ?_ rfl _
  · intro e u5
    refine B_X7_nextHalt_3 (pk_le 7 7 (fun _ => ?_) (fun q => absurd q (by decide)))
    have : nxt N nu b h = h := by unfold nxt; rw [e]; rfl
    rw [this] at k
    exact k
  · intro x hx ih e u5
    have hstep : lo (nxb N nu b h) x (7 - x) = if nxb N nu b h x = true then some x else lo (nxb N nu b h) (x + 1) (7 - (x + 1)) := by
      rw [show 7 - x = (7 - (x + 1)) + 1 by omega]
      rfl
    have hno : nxb N nu b h x = false → ∀ u5 : Option z_AV, z_Wp (z_C (d + 1)) 1 k_X7_nextHalt Q 3 [some (vR 7 0), some (vR 0 0), some (vR 500 0), some (vI (nI h)), some (vI (nI x + 1)), u5] [] v := fun z u5 => by
      rw [nI_1]
      exact ih (by rw [e, hstep, z]; rfl) _
    have hb7 := bs_lt 7 (nAdj N h)
    have bit : (bs 7 (nAdj N h)).testBit x = nAdj N h x := by rw [bs_bit]; simp [hx]
    refine B_X7_nextHalt_3 (pk_le 7 x (fun q => absurd q (by omega)) (fun _ => ?_))
    refine z_ii h rfl hh ?_
    rw [n_nI (n := h) (by omega), hN.2.2.2.2.2.2 h hh, nI_bitb (by omega) (by omega), bit]
    refine br_z (fun q => ?_) (fun q => ?_)
    · refine B_X7_nextHalt_29 ⟨fun _ => hno ?_ _, fun z => absurd rfl z⟩
      cases z : nxb N nu b h x
      · rfl
      · rw [(nxb_iff.mp z).1] at q
        cases q
    · refine B_X7_nextHalt_29 ⟨fun z => absurd z (by decide), fun _ => ?_⟩
      refine z_ii x rfl hx (cP (s_stepWorth hU hh hx) (z_ii h rfl hh ?_))
      rw [n_nI (n := h) (by omega), n_nI (n := x) (by omega), h3 x hx, h3 h hh, nI_add]
      have i1 := hD.1.le hx
      have i2 := hD.1.le hh
      have i3 := dst_99 (hu h hh) (hu x hx)
      have hi := nx_iff (Or.inl rfl) hu hD hh hx hb q
      refine pk_ne (D x + (8 * dst (nu h) (nu x) + 1)) (D h) (fun z => ?_) (fun z => ?_)
      · refine hno ?_ _
        cases y : nxb N nu b h x
        · rfl
        · exact absurd (hi.mpr (nxb_iff.mp y)) z
      · have y := nxb_iff.mpr (hi.mp z)
        have : nxt N nu b h = x := by unfold nxt; rw [e, hstep, y]; rfl
        rw [this] at k
        exact k))
theorem s_rideHalt {a b i : Nat} (hW : nWF N) (hN : NS v N) (hU : NU v nu) (ha : a < 7) (hb : b < 7) (hi : i < 7) : ZI (d + 3) m_X7_rideHalt [vR 7 0, vR 0 0, vR 500 0, vI (nI a), vI (nI b), vI (nI i)] v (fun u r => isCh N nu b a i r ∧ Fr (sT [801]) v u) := fun Q k => E_X7_rideHalt (B_X7_rideHalt_0 (by
  refine cV (s_reckon hW hN hU hb) (fun u hu => ?_)
  obtain ⟨⟨D, hD, h3⟩, f⟩ := hu
  have hNu : NS u N := hN.fr f (fun k => (by decide : ¬ (0 ∈ [801]))) (fun k => (by decide : ¬ (100 ∈ [801]))) (fun k => (by decide : ¬ (101 ∈ [801]))) (fun k => (by decide : ¬ (102 ∈ [801])))
  have hUu : NU u nu := fun h hh => ⟨(f.i (by decide : ¬ (500 ∈ [801]))).trans (hU h hh).1, (hU h hh).2⟩
  have hle := hD.1.le ha
  refine z_ii a rfl ha ?_
  rw [n_nI (n := a) (by omega), h3 a ha]
  have ho := hD.out (Or.inl rfl) (fun h hh => (hU h hh).2) ha
  refine pk_lt (D a) 1000000 (fun q => ?_) (fun q => ?_)
  · rcases ho with ⟨e, _⟩ | ⟨F, n, h1, h2, _⟩
    · omega
    · -- the halts one by one
      have main := z_up0 (P := fun x => ∀ h F' n', n' + x = n ∨ n < x → h < 7 → bst N nu b h F' n' → gs N nu b (i - x) h = gs N nu b i a → x ≤ n → ∀ u3 : Option z_AV, z_Wp (z_C (d + 2)) 1 k_X7_rideHalt Q 28 [some (vR 7 0), some (vR 0 0), some (vR 500 0), u3, some (vI (nI b)), some (vI (nI i)), some (vI (nI h)), some (vI (nI x))] [] u) i ?_ ?_
      · exact main a F n (Or.inl rfl) ha h1 rfl (Nat.zero_le _) _
      · intro h F' n' hn hh hbs hg hx u3
        refine B_X7_rideHalt_28 (pk_le i i (fun _ => ?_) (fun z => absurd z (by omega)))
        rw [Nat.sub_self] at hg
        refine k _ _ ⟨Or.inr ⟨F, n, h1, Or.inl ⟨hx, ?_⟩⟩, f⟩
        rw [← hg]
        rfl
      · intro x hx ih h F' n' hn hh hbs hg hxn u3
        refine B_X7_rideHalt_28 (pk_le i x (fun z => absurd z (by omega)) (fun _ => pk_ne h b (fun z => ?_) (fun z => ?_)))
        · obtain ⟨n', rfl⟩ : ∃ m, n' = m + 1 := by
            cases n' with
            | zero => exact absurd hbs.1.2.1 z
            | succ m => exact ⟨m, rfl⟩
          obtain ⟨g1, ⟨G, g2⟩, _⟩ := nxt_nx hbs
          refine cP (s_nextHalt hW hNu hUu hD h3 hh ⟨_, _, hbs⟩) ?_
          rw [nI_1]
          refine ih _ G n' (Or.inl (by omega)) g1 g2 ?_ (by omega) _
          rw [← hg, show i - x = (i - (x + 1)) + 1 by omega]
          rfl
        · subst z
          have := (hbs.u (bst_b hb)).2
          exact k _ _ ⟨Or.inr ⟨F, n, h1, Or.inr ⟨by omega, rfl⟩⟩, f⟩
  · refine k _ _ ⟨?_, f⟩
    rcases ho with ⟨_, e⟩ | ⟨F, n, h1, h2, _⟩
    · exact Or.inl ⟨e, rfl⟩
    · omega))
end RDS
