/-! A GAME, A MARK -/
def lo (f : Nat → Bool) : Nat → Nat → Option Nat
  | _, 0 => none
  | k, n + 1 => if f k = true then some k else lo f (k + 1) n
theorem lo_cong {f g : Nat → Bool} : ∀ {n k : Nat}, (∀ i, k ≤ i → i < k + n → f i = g i) → lo f k n = lo g k n
  | 0, _, _ => rfl
  | n + 1, k, h => by
    simp only [lo, h k (Nat.le_refl _) (by omega), lo_cong (n := n) (k := k + 1) (fun i h1 h2 => h i (by omega) (by omega))]
theorem lo_lt {f : Nat → Bool} : ∀ {n k i : Nat}, lo f k n = some i → k ≤ i ∧ i < k + n ∧ f i = true
  | 0, _, _, h => by cases h
  | n + 1, k, i, h => by
    simp only [lo] at h
    split at h
    · cases h
      exact ⟨Nat.le_refl _, by omega, by assumption⟩
    · have := lo_lt h
      exact ⟨by omega, by omega, this.2.2⟩
def enc (o : Option Nat) : Int32 := match o with
  | none => -1
  | some h => nI h
theorem enc_none {o : Option Nat} (h : ∀ i, o = some i → i < 2 ^ 31) : enc o = -1 ↔ o = none := by
  cases o with
  | none => simp [enc]
  | some i =>
    constructor
    · intro q
      have := congrArg Int32.toInt q
      rw [show enc (some i) = nI i from rfl, nI_toInt (h i rfl)] at this
      simp at this
    · intro q
      cases q
def gm (N : z_N) (T : Nat → Option Nat) (s h : Nat) : Bool := !s.testBit h && (decide (bs 7 (nAdj N h) &&& s = 0) && (T (s ||| 2 ^ h)).isNone)
def GEq (N : z_N) (mk : Nat) (T : Nat → Option Nat) : Prop := ∀ s, mk ≤ s → s < 128 → T s = lo (gm N T s) 0 7
theorem or_gt {s h : Nat} (e : s.testBit h = false) : s < s ||| 2 ^ h := by
  refine Nat.lt_of_le_of_ne Nat.left_le_or (fun q => ?_)
  have : (s ||| 2 ^ h).testBit h = true := by rw [Nat.testBit_or, Nat.testBit_two_pow]; simp
  rw [← q, e] at this
  cases this
theorem or1_lt {s h : Nat} (hs : s < 128) (hh : h < 7) : s ||| 2 ^ h < 128 := Nat.or_lt_two_pow (n := 7) hs (Nat.pow_lt_pow_right (by decide) hh)
theorem gm_cong {N : z_N} {T T' : Nat → Option Nat} {s : Nat} (hs : s < 128) (h : ∀ t, s < t → t < 128 → T t = T' t) : lo (gm N T s) 0 7 = lo (gm N T' s) 0 7 := lo_cong (fun i _ hi => by
  unfold gm
  cases e : s.testBit i
  · rw [h _ (or_gt e) (or1_lt hs (by omega))]
  · rfl)
theorem GEq.u {N : z_N} {mk : Nat} {T T' : Nat → Option Nat} (h1 : GEq N mk T) (h2 : GEq N mk T') : ∀ s, mk ≤ s → s < 128 → T s = T' s := by
  have key : ∀ n s, 128 - s ≤ n → mk ≤ s → s < 128 → T s = T' s := by
    intro n
    induction n with
    | zero => intro s h3 _ h4; omega
    | succ n ih =>
      intro s h3 h4 h5
      rw [h1 s h4 h5, h2 s h4 h5]
      exact gm_cong h5 (fun t q1 q2 => ih t (by omega) (by omega) q2)
  exact fun s a b => key _ s (Nat.le_refl _) a b
theorem GEq.set {N : z_N} {m : Nat} {T : Nat → Option Nat} (h : GEq N (m + 1) T) (hm : m < 128) : GEq N m (fun s => if s = m then lo (gm N T m) 0 7 else T s) := by
  intro s h1 h2
  by_cases e : s = m
  · subst e
    dsimp only
    rw [if_pos rfl]
    exact gm_cong h2 (fun t q1 _ => by rw [if_neg (by omega)])
  · dsimp only
    rw [if_neg e, h s (by omega) h2]
    exact gm_cong h2 (fun t q1 _ => by rw [if_neg (by omega)])
theorem enc7 {N : z_N} {T : Nat → Option Nat} {s : Nat} : ∀ i, lo (gm N T s) 0 7 = some i → i < 2 ^ 31 := fun i hi => by
  have := (lo_lt hi).2.1
  omega
theorem andz {a b : Nat} (ha : a < 2 ^ 31) (hb : b < 2 ^ 31) : nI a &&& nI b = 0 ↔ a &&& b = 0 := by
  rw [nI_and, ← nI_0, nI_eq (Nat.lt_of_le_of_lt Nat.and_le_left ha) (Nat.two_pow_pos 31)]
theorem pk_slf {m : Nat} {A B : Prop} (h : m < 2 ^ 31) (a : A) : (nI m + (-1) < nI m → A) ∧ (¬ nI m + (-1) < nI m → B) := by
  refine ⟨fun _ => a, fun q => absurd ?_ q⟩
  rw [Int32.lt_iff_toInt_lt, nI_toInt h]
  cases m with
  | zero => decide
  | succ m => rw [pk_m1, nI_toInt (by omega)]; omega
section GMS
variable {d : Nat} {v : z_V} {N : z_N} {nu : Nat → Nat}
theorem s_winner {mk : Nat} (hW : nWF N) (hN : NS v N) (hm : mk < 128) : ZI (d + 1) m_X7_winner [vR 7 0, vR 0 0, vI (nI mk)] v (fun u r => (∃ T, GEq N mk T ∧ r = enc (T mk)) ∧ Fr (sT [800]) v u) := fun Q k => E_X7_winner (B_X7_winner_0 (by
  have key : ∀ j m, m = mk + j → m ≤ 128 → ∀ (u : z_V) (T : Nat → Option Nat), Fr (sT [800]) v u → GEq N m T → (∀ s, m ≤ s → s < 128 → gI u 800 0 s = enc (T s)) → ∀ (u4 u5 : Option z_AV), z_Wp (z_C d) 1 k_X7_winner Q 3 [some (vR 7 0), some (vR 0 0), some (vI (nI mk)), some (vI (nI m + (-1))), u4, u5] [] u := by
    intro j
    induction j with
    | zero =>
      intro m hmj hm8 u T f hG hT u4 u5
      obtain rfl : m = mk := by omega
      refine B_X7_winner_3 (pk_slf (by omega) ?_)
      refine z_ii m rfl hm ?_
      rw [n_nI (by omega), hT m (Nat.le_refl _) hm]
      exact k _ _ ⟨⟨T, hG, rfl⟩, f⟩
    | succ j ih =>
      intro m hmj hm8 u T f hG hT u4 u5
      obtain ⟨m, rfl⟩ : ∃ z, m = z + 1 := ⟨m - 1, by omega⟩
      rw [pk_m1]
      refine B_X7_winner_3 (pk_lt m mk (fun q => absurd q (by omega)) (fun _ => ?_))
      refine z_ii m rfl (by omega) ?_
      rw [n_nI (by omega)]
      -- the halts from the last one down
      have inner : ∀ i, i ≤ 7 → ∀ (u : z_V), Fr (sT [800]) v u → (∀ s, m + 1 ≤ s → s < 128 → gI u 800 0 s = enc (T s)) → gI u 800 0 m = enc (lo (gm N T m) i (7 - i)) → ∀ (u5 : Option z_AV), z_Wp (z_C d) 1 k_X7_winner Q 19 [some (vR 7 0), some (vR 0 0), some (vI (nI mk)), some (vI (nI m)), some (vI (nI i + (-1))), u5] [] u := by
        intro i
        induction i with
        | zero =>
          intro _ u f hT hm0 u5
          refine B_X7_winner_19 ⟨fun _ => ?_, fun q => absurd (by decide) q⟩
          refine ih m (by omega) (by omega) u _ f (hG.set (by omega)) (fun s h1 h2 => ?_) _ _
          by_cases e : s = m
          · subst e
            rw [if_pos rfl]
            exact hm0
          · rw [if_neg e]
            exact hT s (by omega) h2
        | succ i ihi =>
          intro hi7 u f hT hm0 u5
          rw [pk_m1]
          have hstep : lo (gm N T m) i (7 - i) = if gm N T m i = true then some i else lo (gm N T m) (i + 1) (7 - (i + 1)) := by
            rw [show 7 - i = (7 - (i + 1)) + 1 by omega]
            rfl
          have hnb : gI u 102 0 i = nI (bs 7 (nAdj N i)) := (f.i (by decide : ¬ (102 ∈ [800]))).trans (hN.2.2.2.2.2.2 i (by omega))
          have hb7 := bs_lt 7 (nAdj N i)
          have hno : gm N T m i = false → ∀ s0 : Int32, s0 = 0 → z_Wp (z_C d) 1 k_X7_winner Q 50 [some (vR 7 0), some (vR 0 0), some (vI (nI mk)), some (vI (nI m)), some (vI (nI i)), none] [vI s0] u := by
            intro e s0 hs0
            refine B_X7_winner_50 ⟨fun _ => ?_, fun q => absurd hs0 q⟩
            refine ihi (by omega) u f hT ?_ _
            rw [hm0, hstep, e]
            rfl
          refine B_X7_winner_19 ⟨fun q => absurd q (nI_pos (by omega)), fun _ => ?_⟩
          rw [nI_bitb (by omega) (by omega)]
          refine br_n (fun e => ?_) (fun e => ?_)
          · exact hno (by unfold gm; rw [e]; rfl) 0 rfl
          · refine z_ii i rfl (by omega) ?_
            rw [n_nI (by omega), hnb]
            refine ⟨fun q => hno (by
              unfold gm
              rw [decide_eq_false (fun z => q ((andz (by omega) (by omega)).mpr z))]
              simp) 0 rfl, fun q => ?_⟩
            have q := (andz (by omega) (by omega)).mp q
            refine B_X7_winner_50 ⟨fun z => absurd z (by decide), fun _ => ?_⟩
            rw [nI_shl (by omega), nI_or]
            have hgt := or_gt e
            have hlt := or1_lt (show m < 128 by omega) (show i < 7 by omega)
            refine z_ii _ rfl hlt ?_
            rw [n_nI (by omega), hT _ (by omega) hlt]
            have hTn : enc (T (m ||| 2 ^ i)) = -1 ↔ T (m ||| 2 ^ i) = none := enc_none (fun z hz => by
              rw [hG _ (by omega) hlt] at hz
              exact enc7 z hz)
            refine ⟨fun z => ?_, fun z => ?_⟩
            · have z2 : (T (m ||| 2 ^ i)).isNone = false := by
                cases hz : T (m ||| 2 ^ i) with
                | none => exact absurd (hTn.mpr hz) z
                | some x => rfl
              refine ihi (by omega) u f hT ?_ _
              rw [hm0, hstep]
              rw [show gm N T m i = false by unfold gm; rw [z2]; simp]
              rfl
            · have z2 : (T (m ||| 2 ^ i)).isNone = true := by rw [hTn.mp z]; rfl
              refine z_ii m rfl (by omega) ?_
              rw [n_nI (by omega)]
              refine ihi (by omega) _ (f.pI (by decide : (800 ∈ [800]))) (fun s h1 h2 => ?_) ?_ _
              · rw [gI_pI_k (by omega)]
                exact hT s h1 h2
              · rw [gI_pI_s, hstep, show gm N T m i = true by unfold gm; rw [z2, e, decide_eq_true q]; rfl]
                rfl
      refine inner 7 (Nat.le_refl _) _ (f.pI (by decide : (800 ∈ [800]))) (fun s h1 h2 => ?_) ?_ _
      · rw [gI_pI_k (by omega)]
        exact hT s h1 h2
      · rw [gI_pI_s]
        rfl
  exact key (128 - mk) 128 (by omega) (Nat.le_refl _) v (fun _ => none) Fr.rfl (fun s h1 h2 => by omega) (fun s h1 h2 => by omega) _ _))
theorem s_markOf {s : Nat} {T : Nat → Option Nat} (hM : MS v N nu) (hs : s < 128) (hT : ∀ t, s < t → t < 128 → gI v 1236 0 t = bI (T t).isSome) : ZP (d + 4) m_X11_markOf [vR 11 0, vI (nI s)] v (enc (lo (gm N T s) 0 7)) := fun Q k => E_X11_markOf (B_X11_markOf_0 (by
  refine z_up0 (P := fun h => lo (gm N T s) 0 7 = lo (gm N T s) h (7 - h) → z_Wp (z_C (d + 3)) 1 k_X11_markOf Q 2 [some (vR 11 0), some (vI (nI s)), some (vI (nI h))] [] v) 7 ?_ ?_ rfl
  · intro e
    refine B_X11_markOf_2 (pk_le 7 7 (fun _ => ?_) (fun q => absurd q (by decide)))
    rw [e] at k
    exact k
  · intro h hh ih e
    have hstep : lo (gm N T s) h (7 - h) = if gm N T s h = true then some h else lo (gm N T s) (h + 1) (7 - (h + 1)) := by
      rw [show 7 - h = (7 - (h + 1)) + 1 by omega]
      rfl
    have hno : gm N T s h = false → z_Wp (z_C (d + 3)) 1 k_X11_markOf Q 2 [some (vR 11 0), some (vI (nI s)), some (vI (nI h + 1))] [] v := fun z => by
      rw [nI_1]
      exact ih (by rw [e, hstep, z]; rfl)
    refine B_X11_markOf_2 (pk_le 7 h (fun q => absurd q (by omega)) (fun _ => ?_))
    refine cP (s_has (by omega) (by omega)) (br_n (fun e1 => ?_) (fun e1 => ?_))
    · exact hno (by unfold gm; rw [e1]; rfl)
    · have hb7 := bs_lt 7 (nAdj N h)
      refine cP (s_besideOf hM hh) ⟨fun q => hno (by
        unfold gm
        rw [decide_eq_false (fun z => q ((andz (by omega) (by omega)).mpr z))]
        simp), fun q => ?_⟩
      have q := (andz (by omega) (by omega)).mp q
      rw [nI_shl (by omega), nI_or]
      have hgt := or_gt e1
      have hlt := or1_lt hs hh
      refine z_ii _ rfl hlt ?_
      rw [n_nI (by omega), hT _ hgt hlt]
      refine br_n (fun z => ?_) (fun z => ?_)
      · refine hno ?_
        unfold gm
        cases hz : T (s ||| 2 ^ h) with
        | none => rw [hz] at z; cases z
        | some x => simp
      · have z2 : gm N T s h = true := by
          unfold gm
          rw [e1, decide_eq_true q]
          cases hz : T (s ||| 2 ^ h) with
          | none => rfl
          | some x => rw [hz] at z; cases z
        rw [hstep, z2] at e
        rw [e] at k
        exact k))
theorem s_markFirst {mk : Nat} (hM : MS v N nu) (hm : mk < 128) : ZI (d + 5) m_X11_markFirst [vR 11 0, vI (nI mk)] v (fun u r => (∃ T, GEq N mk T ∧ r = enc (T mk)) ∧ Fr (sT [1236]) v u) := fun Q k => E_X11_markFirst (B_X11_markFirst_0 (by
  have key : ∀ j m, m = mk + j → m < 128 → ∀ (u : z_V) (T : Nat → Option Nat), Fr (sT [1236]) v u → GEq N (m + 1) T → (∀ s, m < s → s < 128 → gI u 1236 0 s = bI (T s).isSome) → z_Wp (z_C (d + 4)) 1 k_X11_markFirst Q 3 [some (vR 11 0), some (vI (nI mk)), some (vI (nI m))] [] u := by
    intro j
    induction j with
    | zero =>
      intro m hmj hm8 u T f hG hT
      obtain rfl : m = mk := by omega
      refine B_X11_markFirst_3 (pk_le m m (fun _ => ?_) (fun q => absurd q (by omega)))
      refine cP (s_markOf (hM.fr f (fun k => (by decide : ¬ (1200 ∈ [1236])))) hm hT) ?_
      refine k _ _ ⟨⟨_, hG.set hm, ?_⟩, f⟩
      rw [if_pos rfl]
    | succ j ih =>
      intro m hmj hm8 u T f hG hT
      have hMu := hM.fr f (fun k => (by decide : ¬ (1200 ∈ [1236])))
      refine B_X11_markFirst_3 (pk_le m mk (fun q => absurd q (by omega)) (fun _ => ?_))
      refine cP (s_markOf hMu hm8 hT) ?_
      obtain ⟨m, rfl⟩ : ∃ z, m = z + 1 := ⟨m - 1, by omega⟩
      have hzz : ∀ {T : Prop}, T → z_if (z_in (nI (m + 1)) 128 && true) T := fun t => z_if_k (by rw [Bool.and_true]; exact z_inN (m + 1) rfl hm8) t
      have hgo : ∀ b, b = (lo (gm N T (m + 1)) 0 7).isSome → z_Wp (z_C (d + 4)) 1 k_X11_markFirst Q 3 [some (vR 11 0), some (vI (nI mk)), some (vI (nI (m + 1) + (-1)))] [] (pI u 1236 0 (n_ (nI (m + 1))) (bI b)) := by
        intro b hb
        rw [pk_m1, n_nI (by omega)]
        refine ih m (by omega) (by omega) _ _ (f.pI (by decide : (1236 ∈ [1236]))) (hG.set hm8) (fun s h1 h2 => ?_)
        by_cases e : s = m + 1
        · subst e
          rw [gI_pI_s, if_pos rfl, hb]
        · rw [gI_pI_k e, if_neg e]
          exact hT s (by omega) h2
      refine ⟨fun q => hzz (hgo false ?_), fun q => hzz (hgo true ?_)⟩
      · rw [(enc_none enc7).mp q]
        rfl
      · cases hz : lo (gm N T (m + 1)) 0 7 with
        | none => exact absurd ((enc_none enc7).mpr hz) q
        | some x => rfl
  exact key (127 - mk) 127 (by omega) (by decide) v (fun _ => none) Fr.rfl (fun s h1 h2 => by omega) (fun s h1 h2 => by omega)))
theorem s_areHalts {a : Int32} : ZP (d + 2) m_X11_areHalts [vI a] v (bI (inr a 128)) := fun Q h => E_X11_areHalts (B_X11_areHalts_0 (cP s_isIn (z_i01 (bq h (inr_le (n := 128) (by decide)).symm))))
/-- what both sides answer -/
def isMk (N : z_N) (mk : Nat) (r : Int32) : Prop := ∃ T, GEq N mk T ∧ r = enc (T mk)
theorem isMk.u {N : z_N} {mk : Nat} {r r' : Int32} (hm : mk < 128) (h : isMk N mk r) (h' : isMk N mk r') : r = r' := by
  obtain ⟨T, h1, rfl⟩ := h
  obtain ⟨T', h2, rfl⟩ := h'
  rw [h1.u h2 mk (Nat.le_refl _) hm]
theorem le127_nI {a : Int32} {A B C : Prop} (f : inr a 128 = false → A) (g : inr a 128 = false → C) (t : inr a 128 = true → B) : (a < 0 → A) ∧ (¬ a < 0 → (a ≤ 127 → B) ∧ (¬ a ≤ 127 → C)) := by
  refine ⟨fun h => f (decide_eq_false (fun q => ?_)), fun h0 => ⟨fun h => t (decide_eq_true ?_), fun h => g (decide_eq_false (fun q => ?_))⟩⟩
  · rw [Int32.lt_iff_toInt_lt, Int32.toInt_zero] at h
    omega
  · rw [Int32.le_iff_toInt_le, show (127 : Int32).toInt = 127 from rfl] at h
    rw [Int32.lt_iff_toInt_lt, Int32.toInt_zero] at h0
    omega
  · rw [Int32.le_iff_toInt_le, show (127 : Int32).toInt = 127 from rfl] at h
    omega
def sGm : Nat → Nat → Prop := sT [0, 100, 101, 102, 800]
theorem sGm_n {v w : z_V} (h : Fr sNet v w) : Fr sGm v w := h.mono (fun t k (q : t ∈ [0, 100, 101, 102]) => (show t ∈ [0, 100, 101, 102, 800] by simp only [List.mem_cons, List.not_mem_nil, or_false] at q ⊢; omega))
theorem sGm_8 {v w : z_V} (h : Fr (sT [800]) v w) : Fr sGm v w := h.mono (fun t k (q : t ∈ [800]) => (show t ∈ [0, 100, 101, 102, 800] by simp only [List.mem_cons, List.not_mem_nil, or_false] at q ⊢; omega))
theorem s_markC {a : Int32} (hC : CW v 0 N nu) : ZI (d + 3) m_X10_mark [vR 10 0, vI a] v (fun u r => ((inr a 128 = false ∧ r = -1) ∨ ∃ mk, mk < 128 ∧ a = nI mk ∧ isMk N mk r) ∧ Fr sGm v u) := fun Q k => E_X10_mark (B_X10_mark_0 (by
  refine le127_nI (fun e => k _ _ ⟨Or.inl ⟨e, rfl⟩, Fr.rfl⟩) (fun e => k _ _ ⟨Or.inl ⟨e, rfl⟩, Fr.rfl⟩) (fun e => ?_)
  obtain ⟨mk, hm, rfl⟩ := inr_t e
  refine cV (s_look hC) (fun u hu => cI (s_winner hC.1 hu.1 hm) (fun w r hw => k _ _ ⟨Or.inr ⟨mk, hm, rfl, hw.1⟩, (sGm_n hu.2).trans (sGm_8 hw.2)⟩))))
theorem s_gameC {a : Int32} (hC : CW v 0 N nu) : ZI (d + 3) m_X10_game [vR 10 0, vI a] v (fun u r => ((inr a 128 = false ∧ r = -1) ∨ ∃ mk x, mk < 128 ∧ a = nI mk ∧ isMk N mk x ∧ r = bI (decide (x ≠ -1))) ∧ Fr sGm v u) := fun Q k => E_X10_game (B_X10_game_0 (by
  refine le127_nI (fun e => k _ _ ⟨Or.inl ⟨e, rfl⟩, Fr.rfl⟩) (fun e => k _ _ ⟨Or.inl ⟨e, rfl⟩, Fr.rfl⟩) (fun e => ?_)
  obtain ⟨mk, hm, rfl⟩ := inr_t e
  refine cV (s_look hC) (fun u hu => cI (s_winner hC.1 hu.1 hm) (fun w r hw => ⟨fun q => k _ _ ⟨Or.inr ⟨mk, r, hm, rfl, hw.1, ?_⟩, (sGm_n hu.2).trans (sGm_8 hw.2)⟩, fun q => k _ _ ⟨Or.inr ⟨mk, r, hm, rfl, hw.1, ?_⟩, (sGm_n hu.2).trans (sGm_8 hw.2)⟩⟩))
  · rw [decide_eq_true q]; rfl
  · rw [decide_eq_false (fun z => z q)]; rfl))
theorem s_markR {a : Int32} (hM : MS v N nu) : ZI (d + 6) m_X11_mark [vR 11 0, vI a] v (fun u r => ((inr a 128 = false ∧ r = -1) ∨ ∃ mk, mk < 128 ∧ a = nI mk ∧ isMk N mk r) ∧ Fr (sT [1236]) v u) := fun Q k => E_X11_mark (B_X11_mark_0 (by
  refine cP s_areHalts (br_z (fun e => k _ _ ⟨Or.inl ⟨e, rfl⟩, Fr.rfl⟩) (fun e => ?_))
  obtain ⟨mk, hm, rfl⟩ := inr_t e
  exact cI (s_markFirst hM hm) (fun w r hw => k _ _ ⟨Or.inr ⟨mk, hm, rfl, hw.1⟩, hw.2⟩)))
theorem s_gameR {a : Int32} (hM : MS v N nu) : ZI (d + 6) m_X11_game [vR 11 0, vI a] v (fun u r => ((inr a 128 = false ∧ r = -1) ∨ ∃ mk x, mk < 128 ∧ a = nI mk ∧ isMk N mk x ∧ r = bI (decide (x ≠ -1))) ∧ Fr (sT [1236]) v u) := fun Q k => E_X11_game (B_X11_game_0 (by
  refine cP s_areHalts (br_n (fun e => ?_) (fun e => k _ _ ⟨Or.inl ⟨e, rfl⟩, Fr.rfl⟩))
  obtain ⟨mk, hm, rfl⟩ := inr_t e
  refine cI (s_markFirst hM hm) (fun w r hw => ⟨fun q => k _ _ ⟨Or.inr ⟨mk, r, hm, rfl, hw.1, ?_⟩, hw.2⟩, fun q => k _ _ ⟨Or.inr ⟨mk, r, hm, rfl, hw.1, ?_⟩, hw.2⟩⟩)
  · rw [decide_eq_true q]; rfl
  · rw [decide_eq_false (fun z => z q)]; rfl))
end GMS
