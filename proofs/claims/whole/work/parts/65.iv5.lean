/-! dearest, twins, fair, left out: both sides -/
def drs (N : z_N) (nu : Nat → Nat) : Nat → Option Nat
  | 0 => none
  | l + 1 => if nP N l = true then (match drs N nu l with
    | none => some l
    | some b => if fare N nu l ≤ fare N nu b then some b else some l) else drs N nu l
theorem drs_lt {N : z_N} {nu : Nat → Nat} : ∀ {l b : Nat}, drs N nu l = some b → b < l ∧ nP N b = true
  | 0, _, h => by cases h
  | l + 1, b, h => by
    unfold drs at h
    split at h
    · rename_i hp
      split at h
      · cases h
        exact ⟨Nat.lt_succ_self _, hp⟩
      · rename_i b' hb'
        have := drs_lt hb'
        split at h
        · cases h
          exact ⟨by omega, this.2⟩
        · cases h
          exact ⟨Nat.lt_succ_self _, hp⟩
    · have := drs_lt h
      exact ⟨by omega, this.2⟩
theorem nP_hi {N : z_N} (h : nWF N) {l : Nat} (hl : nN N ≤ l) : nP N l = false := by
  cases e : nP N l
  · rfl
  · have := nP_lt h e
    omega
theorem drs_10 {N : z_N} {nu : Nat → Nat} (h : nWF N) : ∀ k, drs N nu (nN N + k) = drs N nu (nN N)
  | 0 => rfl
  | k + 1 => by
    show (if nP N (nN N + k) = true then _ else drs N nu (nN N + k)) = _
    rw [nP_hi h (by omega), drs_10 h k]
    rfl
def lkA (N : z_N) (nu : Nat → Nat) (l : Nat) : Option Nat := lo (fun k => nP N k && decide (fare N nu k = fare N nu l)) (l + 1) (9 - l)
def tw (N : z_N) (nu : Nat → Nat) : Option Nat := lo (fun l => nP N l && (lkA N nu l).isSome) 0 10
theorem lo_nn {f : Nat → Bool} : ∀ {n k : Nat}, (∀ i, k ≤ i → i < k + n → f i = false) → lo f k n = none
  | 0, _, _ => rfl
  | n + 1, k, h => by
    simp only [lo]
    rw [h k (Nat.le_refl _) (by omega)]
    exact lo_nn (fun i h1 h2 => h i (by omega) (by omega))
theorem lo_isN {f : Nat → Bool} : ∀ {n k : Nat}, (lo f k n).isNone = true ↔ ∀ i, k ≤ i → i < k + n → f i = false
  | 0, k => Iff.intro (fun _ i h1 h2 => absurd h2 (Nat.not_lt.mpr h1)) (fun _ => rfl)
  | n + 1, k => by
    simp only [lo]
    by_cases e : f k = true
    · rw [if_pos e]
      refine ⟨fun q => (by cases q), fun q => ?_⟩
      have := q k (Nat.le_refl _) (by omega)
      rw [e] at this
      cases this
    · rw [if_neg e, lo_isN]
      constructor
      · intro q i h1 h2
        by_cases z : i = k
        · subst z
          simpa using e
        · exact q i (by omega) (by omega)
      · intro q i h1 h2
        exact q i (by omega) (by omega)
def fairB (N : z_N) (nu : Nat → Nat) : Bool := !anyL 10 (fun l => nP N l && (decide (fare N nu l = 0) || (lkA N nu l).isSome))
theorem fairB_eq {N : z_N} {nu : Nat → Nat} : fairB N nu = (!anyL 10 (fun l => nP N l && decide (fare N nu l = 0)) && (tw N nu).isNone) := by
  have h : fairB N nu = true ↔ (!anyL 10 (fun l => nP N l && decide (fare N nu l = 0)) && (tw N nu).isNone) = true := by
    unfold fairB
    rw [Bool.and_eq_true, Bool.not_eq_true', Bool.not_eq_true']
    have ha : ∀ {g : Nat → Bool}, anyL 10 g = false ↔ ∀ i, i < 10 → g i = false := by
      intro g
      constructor
      · intro z i hi
        cases e : g i
        · rfl
        · rw [anyL_iff.mpr ⟨i, hi, e⟩] at z
          cases z
      · intro z
        cases e : anyL 10 g
        · rfl
        · obtain ⟨i, hi, h⟩ := anyL_iff.mp e
          rw [z i hi] at h
          cases h
    rw [ha, ha]
    unfold tw
    rw [lo_isN]
    constructor
    · intro z
      constructor
      · intro i hi
        have := z i hi
        cases e : nP N i
        · rfl
        · rw [e] at this
          simp only [Bool.true_and, Bool.or_eq_false_iff] at this
          rw [this.1]
          rfl
      · intro i _ hi
        have := z i (by omega)
        cases e : nP N i
        · rfl
        · rw [e] at this
          simp only [Bool.true_and, Bool.or_eq_false_iff] at this
          rw [this.2]
          rfl
    · rintro ⟨z1, z2⟩ i hi
      have h1 := z1 i hi
      have h2 := z2 i (Nat.zero_le _) (by omega)
      cases e : nP N i
      · rfl
      · rw [e] at h1 h2
        simp only [Bool.true_and] at h1 h2
        rw [h1, h2]
        rfl
  cases e1 : fairB N nu <;> cases e2 : (!anyL 10 (fun l => nP N l && decide (fare N nu l = 0)) && (tw N nu).isNone)
  · rfl
  · rw [e1, e2] at h
    exact absurd (h.mpr rfl) (by decide)
  · rw [e1, e2] at h
    exact absurd (h.mp rfl) (by decide)
  · rfl
def twV (N : z_N) (nu : Nat → Nat) (s : Int32) : Int32 := match tw N nu with
  | none => -1
  | some l => if s = 0 then nI l else enc (lkA N nu l)
def lfS (N : z_N) (nu : Nat → Nat) (m : Nat) : Nat := bs 10 (fun i => decide (i < pc 10 (nO N)) && !anyL m (fun l => nP N l && decide (fare N nu l = i + 1)))
def lfV (N : z_N) (nu : Nat → Nat) : Int32 := if nO N = 0 then -1 else nI (lfS N nu 10)
theorem lfS_10 {N : z_N} {nu : Nat → Nat} (h : nWF N) : ∀ k, lfS N nu (nN N + k) = lfS N nu (nN N)
  | 0 => rfl
  | k + 1 => by
    rw [← lfS_10 h k]
    unfold lfS
    refine bs_cong (fun i _ => ?_)
    show (_ && !(anyL (nN N + k) _ || (nP N (nN N + k) && _))) = _
    rw [nP_hi h (by omega)]
    simp
theorem lfS_0 {N : z_N} {nu : Nat → Nat} : 2 ^ pc 10 (nO N) - 1 = lfS N nu 0 := by
  have hp := pc_le 10 (nO N)
  refine bs_eq ?_ (fun i hi => ?_)
  · have := Nat.pow_le_pow_right (n := 2) (by decide) hp
    have := Nat.two_pow_pos (pc 10 (nO N))
    omega
  · rw [Nat.testBit_two_pow_sub_one]
    simp [anyL]
/-- a fare comes: its bit goes, if it is one of them -/
theorem lfS_s {N : z_N} {nu : Nat → Nat} {l : Nat} (hp : nP N l = true) (h1 : 1 ≤ fare N nu l) : lfS N nu l ^^^ (lfS N nu l &&& 2 ^ (fare N nu l - 1)) = lfS N nu (l + 1) := bs_eq (Nat.xor_lt_two_pow (bs_lt 10 _) (Nat.lt_of_le_of_lt Nat.and_le_left (bs_lt 10 _))) (fun i hi => by
  rw [andn_bit, Nat.testBit_two_pow]
  unfold lfS
  rw [bs_bit]
  simp only [hi, decide_true, Bool.true_and, anyL, hp, Bool.not_or, Bool.and_assoc]
  congr 2
  by_cases e : fare N nu l = i + 1
  · rw [decide_eq_true e, decide_eq_true (by omega)]
  · rw [decide_eq_false e, decide_eq_false (by omega)])
theorem lfS_n {N : z_N} {nu : Nat → Nat} {l : Nat} (h : nP N l = false ∨ fare N nu l = 0 ∨ pc 10 (nO N) < fare N nu l) : lfS N nu l = lfS N nu (l + 1) := bs_cong (fun i hi => by
  simp only [anyL, Bool.not_or]
  by_cases e : i < pc 10 (nO N)
  · have : (nP N l && decide (fare N nu l = i + 1)) = false := by
      rcases h with h | h | h
      · rw [h]; rfl
      · rw [decide_eq_false (by omega)]; simp
      · rw [decide_eq_false (by omega)]; simp
    rw [this]
    simp
  · rw [decide_eq_false e]
    rfl)
section IV5
variable {d : Nat} {v : z_V} {q : z_Q}
theorem fare_99 {W : z_W} (hW : okW W) {l : Nat} (hl : l < wN W) : fare (wNet W) (wnu W) l ≤ 99 := fare_le hW hW.2.1 hl
theorem C_dearest (h : InvC v q) : GC (d + 2) m_X10_dearest [vR 10 0] v (enc (drs (wNet (qW q)) (wnu (qW q)) 10)) q := fun Q k => E_X10_dearest (B_X10_dearest_0 (by
  have hR := h.2.1
  have hC := hR.cw
  have ho := nO_lt hC.1
  have hW := hR.1
  refine cP (s_openBits hC) ?_
  refine z_up0 (P := fun l => z_Wp (z_C (d + 1)) 1 k_X10_dearest Q 12 [some (vR 10 0), some (vI (nI (nO (wNet (qW q))))), some (vI (enc (drs (wNet (qW q)) (wnu (qW q)) l))), some (vI (nI l))] [] v) 10 ?_ ?_
  · exact B_X10_dearest_12 (pk_le 10 10 (fun _ => k _ _ ⟨rfl, h, Fn.rfl, Fn.rfl⟩) (fun q => absurd q (by decide)))
  · intro l hl ih
    refine B_X10_dearest_12 (pk_le 10 l (fun q => absurd q (by omega)) (fun _ => ?_))
    rw [nI_bitb (by omega) (by omega), nI_1]
    unfold drs at ih
    refine br_z (fun e => ?_) (fun e => ?_)
    · rw [if_neg (by unfold nP; rw [e]; decide)] at ih
      exact ih
    · have e : nP (wNet (qW q)) l = true := e
      rw [if_pos e] at ih
      have hln : l < wN (qW q) := nP_lt hC.1 e
      cases hb : drs (wNet (qW q)) (wnu (qW q)) l with
      | none =>
        rw [hb] at ih
        exact br_T rfl ih
      | some b =>
        rw [hb] at ih
        have hbl := drs_lt hb
        have hbn : b < wN (qW q) := nP_lt hC.1 hbl.2
        refine br_F (nI_nm1 (by omega)) (cP (s_fareX hC hln) (cP (s_fareX hC hbn) ?_))
        have f1 := fare_99 hW hln
        have f2 := fare_99 hW hbn
        refine pk_le (fare (wNet (qW q)) (wnu (qW q)) l) (fare (wNet (qW q)) (wnu (qW q)) b) (fun z => ?_) (fun z => ?_)
        · simp only [if_pos z] at ih
          exact ih
        · simp only [if_neg (show ¬ fare (wNet (qW q)) (wnu (qW q)) l ≤ fare (wNet (qW q)) (wnu (qW q)) b by omega)] at ih
          exact ih))
theorem e10 {N : z_N} (h : nWF N) : nN N + (10 - nN N) = 10 := by
  have := h.1
  omega
theorem R_dearest (h : InvR v q) : GR (d + 3) m_X11_dearest [vR 11 0] v (enc (drs (wNet (qW q)) (wnu (qW q)) 10)) q := fun Q k => E_X11_dearest (B_X11_dearest_0 (by
  have hR := h.2.1
  have hM := hR.me.1
  have hW := hR.1
  have hn := hW.n
  refine z_up0 (P := fun l => z_Wp (z_C (d + 2)) 1 k_X11_dearest Q 4 [some (vR 11 0), some (vI (enc (drs (wNet (qW q)) (wnu (qW q)) l))), some (vI (nI l))] [] v) (wN (qW q)) ?_ ?_
  · refine B_X11_dearest_4 (pk_le (wN (qW q)) (wN (qW q)) (fun _ => k _ _ ⟨?_, h, Fn.rfl⟩) (fun q => absurd q (by omega)) hR.2.1)
    have := drs_10 (nu := wnu (qW q)) hW.1 (10 - nN (wNet (qW q)))
    rw [e10 hW.1] at this
    rw [this]
    rfl
  · intro l hl ih
    refine B_X11_dearest_4 (pk_le (wN (qW q)) l (fun q => absurd q (by omega)) (fun _ => ?_) hR.2.1)
    rw [nI_1]
    unfold drs at ih
    refine cP (s_isOpen hM (by omega)) (br_z (fun e => ?_) (fun e => ?_))
    · rw [if_neg (by rw [e]; decide)] at ih
      exact ih
    · rw [if_pos e] at ih
      cases hb : drs (wNet (qW q)) (wnu (qW q)) l with
      | none =>
        rw [hb] at ih
        exact br_T rfl ih
      | some b =>
        rw [hb] at ih
        have hbl := drs_lt hb
        have hbn : b < wN (qW q) := nP_lt hW.1 hbl.2
        refine br_F (nI_nm1 (by omega)) (cP (s_fareOf hM hl) (cP (s_fareOf hM hbn) ?_))
        have f1 := fare_99 hW hl
        have f2 := fare_99 hW hbn
        refine pk_le (fare (wNet (qW q)) (wnu (qW q)) l) (fare (wNet (qW q)) (wnu (qW q)) b) (fun z => ?_) (fun z => ?_)
        · simp only [if_pos z] at ih
          exact ih
        · simp only [if_neg (show ¬ fare (wNet (qW q)) (wnu (qW q)) l ≤ fare (wNet (qW q)) (wnu (qW q)) b by omega)] at ih
          exact ih))
theorem lk_lt {N : z_N} {nu : Nat → Nat} {l i : Nat} (h : lkA N nu l = some i) : l < i ∧ i < 10 ∧ nP N i = true ∧ fare N nu i = fare N nu l := by
  have := lo_lt h
  simp only [Bool.and_eq_true, decide_eq_true_eq] at this
  exact ⟨by omega, by omega, this.2.2.1, this.2.2.2⟩
theorem s_likeAbove {l : Nat} (hR : RC v 0 (qW q)) (hl : nP (wNet (qW q)) l = true) : ZP (d + 2) m_X10_likeAbove [vR 10 0, vI (nI l), vI (nI (nO (wNet (qW q))))] v (enc (lkA (wNet (qW q)) (wnu (qW q)) l)) := fun Q k => E_X10_likeAbove (B_X10_likeAbove_0 (by
  have hC := hR.cw
  have ho := nO_lt hC.1
  have hW := hR.1
  have hn := hW.n
  have hln : l < wN (qW q) := nP_lt hC.1 hl
  refine cP (s_fareX hC hln) ?_
  rw [nI_1]
  refine z_up (P := fun m => lkA (wNet (qW q)) (wnu (qW q)) l = lo (fun k => nP (wNet (qW q)) k && decide (fare (wNet (qW q)) (wnu (qW q)) k = fare (wNet (qW q)) (wnu (qW q)) l)) m (10 - m) → ∀ u1, z_Wp (z_C (d + 1)) 1 k_X10_likeAbove Q 14 [some (vR 10 0), u1, some (vI (nI (nO (wNet (qW q))))), some (vI (nI (fare (wNet (qW q)) (wnu (qW q)) l))), some (vI (nI m))] [] v) 10 ?_ ?_ (l + 1) (by omega) (by unfold lkA; rw [show 10 - (l + 1) = 9 - l by omega]) _
  · intro e u1
    rw [e] at k
    exact B_X10_likeAbove_14 (pk_le 10 10 (fun _ => k) (fun q => absurd q (by decide)))
  · intro m hm ih e u1
    rw [show 10 - m = (10 - (m + 1)) + 1 by omega] at e
    simp only [lo] at e
    refine B_X10_likeAbove_14 (pk_le 10 m (fun q => absurd q (by omega)) (fun _ => ?_))
    rw [nI_bitb (by omega) (by omega), nI_1]
    refine br_z (fun z => ?_) (fun z => ?_)
    · rw [if_neg (by unfold nP; rw [z]; simp)] at e
      exact ih e _
    · have z : nP (wNet (qW q)) m = true := z
      have hmn : m < wN (qW q) := nP_lt hC.1 z
      have f1 := fare_99 hW hmn
      have f2 := fare_99 hW hln
      refine cP (s_fareX hC hmn) (pk_ne (fare (wNet (qW q)) (wnu (qW q)) m) (fare (wNet (qW q)) (wnu (qW q)) l) (fun z2 => ?_) (fun z2 => ?_))
      · rw [if_neg (by rw [z, decide_eq_false z2]; decide)] at e
        exact ih e _
      · rw [if_pos (by rw [z, decide_eq_true z2]; rfl)] at e
        rw [e] at k
        exact k))
theorem enc_s {o : Option Nat} (h : ∀ i, o = some i → i < 2 ^ 31) : enc o ≠ -1 ↔ o.isSome = true := by
  rw [Ne, enc_none h]
  cases o <;> simp
theorem C_twin {a : Int32} (h : InvC v q) : GC (d + 3) m_X10_twin [vR 10 0, vI a] v (twV (wNet (qW q)) (wnu (qW q)) a) q := fun Q k => E_X10_twin (B_X10_twin_0 (by
  have hR := h.2.1
  have hC := hR.cw
  have ho := nO_lt hC.1
  have k0 : ∀ r, r = twV (wNet (qW q)) (wnu (qW q)) a → Q v (some (vI r)) := fun r hr => k _ _ ⟨hr, h, Fn.rfl, Fn.rfl⟩
  unfold twV at k0
  refine cP (s_openBits hC) ?_
  refine z_up0 (P := fun l => tw (wNet (qW q)) (wnu (qW q)) = lo (fun l => nP (wNet (qW q)) l && (lkA (wNet (qW q)) (wnu (qW q)) l).isSome) l (10 - l) → ∀ u4, z_Wp (z_C (d + 2)) 1 k_X10_twin Q 10 [some (vR 10 0), some (vI a), some (vI (nI (nO (wNet (qW q))))), some (vI (nI l)), u4] [] v) 10 ?_ ?_ rfl _
  · intro e u4
    rw [e] at k0
    exact B_X10_twin_10 (pk_le 10 10 (fun _ => k0 _ rfl) (fun q => absurd q (by decide)))
  · intro l hl ih e u4
    rw [show 10 - l = (10 - (l + 1)) + 1 by omega] at e
    simp only [lo] at e
    refine B_X10_twin_10 (pk_le 10 l (fun q => absurd q (by omega)) (fun _ => ?_))
    rw [nI_bitb (by omega) (by omega), nI_1]
    refine br_z (fun z => ?_) (fun z => ?_)
    · rw [if_neg (by unfold nP; rw [z]; simp)] at e
      exact br_T rfl (ih e _)
    · have z : nP (wNet (qW q)) l = true := z
      have hs := enc_s (o := lkA (wNet (qW q)) (wnu (qW q)) l) (fun i hi => by have := lk_lt hi; omega)
      refine cP (s_likeAbove hR z) ⟨fun z2 => ?_, fun z2 => ?_⟩
      · rw [if_neg (by
          rw [z, Bool.true_and]
          intro y
          exact hs.mpr y z2)] at e
        exact ih e _
      · rw [if_pos (by rw [z, hs.mp z2]; rfl)] at e
        rw [e] at k0
        exact ⟨fun y => k0 _ (by dsimp only; rw [if_pos y]), fun y => k0 _ (by dsimp only; rw [if_neg y])⟩))
theorem C_fair (h : InvC v q) : GC (d + 3) m_X10_fair [vR 10 0] v (bI (fairB (wNet (qW q)) (wnu (qW q)))) q := fun Q k => E_X10_fair (B_X10_fair_0 (by
  have hR := h.2.1
  have hC := hR.cw
  have ho := nO_lt hC.1
  have hW := hR.1
  have k0 : ∀ b, b = fairB (wNet (qW q)) (wnu (qW q)) → Q v (some (vI (bI b))) := fun r hr => k _ _ ⟨by rw [hr], h, Fn.rfl, Fn.rfl⟩
  have bad : ∀ l, l < 10 → nP (wNet (qW q)) l = true → (fare (wNet (qW q)) (wnu (qW q)) l = 0 ∨ (lkA (wNet (qW q)) (wnu (qW q)) l).isSome = true) → Q v (some (vI 0)) := fun l hl hp ho => by
    refine k0 false ?_
    unfold fairB
    rw [anyL_iff.mpr ⟨l, hl, by
      rw [hp]
      rcases ho with z | z
      · rw [decide_eq_true z]; rfl
      · rw [z]; simp⟩]
    rfl
  refine cP (s_openBits hC) ?_
  refine z_up0 (P := fun l => anyL l (fun l => nP (wNet (qW q)) l && (decide (fare (wNet (qW q)) (wnu (qW q)) l = 0) || (lkA (wNet (qW q)) (wnu (qW q)) l).isSome)) = false → z_Wp (z_C (d + 2)) 4 k_X10_fair Q 10 [some (vR 10 0), some (vI (nI (nO (wNet (qW q))))), some (vI (nI l))] [] v) 10 ?_ ?_ rfl
  · intro e
    exact B_X10_fair_10 (pk_le 10 10 (fun _ => k0 true (by unfold fairB; rw [e]; rfl)) (fun q => absurd q (by decide)))
  · intro l hl ih e
    refine B_X10_fair_10 (pk_le 10 l (fun q => absurd q (by omega)) (fun _ => ?_))
    rw [nI_bitb (by omega) (by omega), nI_1]
    simp only [anyL, e, Bool.false_or] at ih
    refine br_z (fun z => ?_) (fun z => ?_)
    · exact ih (by unfold nP; rw [z]; rfl)
    · have z : nP (wNet (qW q)) l = true := z
      have hln : l < wN (qW q) := nP_lt hC.1 z
      have f1 := fare_99 hW hln
      have hs := enc_s (o := lkA (wNet (qW q)) (wnu (qW q)) l) (fun i hi => by have := lk_lt hi; omega)
      refine cP (s_fareX hC hln) (pk_eq (fare (wNet (qW q)) (wnu (qW q)) l) 0 (fun z2 => bad l hl z (Or.inl z2)) (fun z2 => ?_))
      refine cP (s_likeAbove hR z) ⟨fun z3 => ?_, fun z3 => bad l hl z (Or.inr (hs.mp z3))⟩
      refine ih ?_
      rw [z, decide_eq_false z2, Bool.true_and, Bool.false_or]
      cases y : (lkA (wNet (qW q)) (wnu (qW q)) l).isSome
      · rfl
      · exact absurd z3 (hs.mpr y)))
def twR (N : z_N) (nu : Nat → Nat) : Int32 := match tw N nu with
  | none => -1
  | some l => match lkA N nu l with
    | none => -1
    | some k => nI (10 * l + k)
theorem s_twins (hR : RRf (gI v 1200 0) (qW q)) : ZP (d + 3) m_X11_twins [vR 11 0] v (twR (wNet (qW q)) (wnu (qW q))) := fun Q k => E_X11_twins (B_X11_twins_0 (by
  have hM := hR.me.1
  have hW := hR.1
  have hn := hW.n
  unfold twR at k
  refine z_up0 (P := fun l => tw (wNet (qW q)) (wnu (qW q)) = lo (fun l => nP (wNet (qW q)) l && (lkA (wNet (qW q)) (wnu (qW q)) l).isSome) l (10 - l) → ∀ u2, z_Wp (z_C (d + 2)) 1 k_X11_twins Q 2 [some (vR 11 0), some (vI (nI l)), u2] [] v) (wN (qW q)) ?_ ?_ rfl _
  · intro e u2
    rw [lo_nn (fun i h1 h2 => by rw [nP_hi hW.1 h1]; rfl)] at e
    rw [e] at k
    exact B_X11_twins_2 (pk_le (wN (qW q)) (wN (qW q)) (fun _ => k) (fun q => absurd q (by omega)) hR.2.1)
  · intro l hl ih e u2
    rw [show 10 - l = (10 - (l + 1)) + 1 by omega] at e
    simp only [lo] at e
    refine B_X11_twins_2 (pk_le (wN (qW q)) l (fun q => absurd q (by omega)) (fun _ => ?_) hR.2.1)
    rw [nI_1]
    have f2 := fare_99 hW hl
    refine z_up (P := fun m => lkA (wNet (qW q)) (wnu (qW q)) l = lo (fun k => nP (wNet (qW q)) k && decide (fare (wNet (qW q)) (wnu (qW q)) k = fare (wNet (qW q)) (wnu (qW q)) l)) m (10 - m) ∨ nP (wNet (qW q)) l = false → z_Wp (z_C (d + 2)) 1 k_X11_twins Q 16 [some (vR 11 0), some (vI (nI l)), some (vI (nI m))] [] v) (wN (qW q)) ?_ ?_ (l + 1) (by omega) (Or.inl (by unfold lkA; rw [show 10 - (l + 1) = 9 - l by omega]))
    · intro z
      refine B_X11_twins_16 (pk_le (wN (qW q)) (wN (qW q)) (fun _ => ?_) (fun q => absurd q (by omega)) hR.2.1)
      rw [nI_1]
      rw [if_neg (by
        rcases z with z | z
        · rw [z, lo_nn (fun i h1 h2 => by rw [nP_hi hW.1 h1]; rfl)]
          simp
        · rw [z]; simp)] at e
      exact ih e _
    · intro m hm ihm z
      refine B_X11_twins_16 (pk_le (wN (qW q)) m (fun q => absurd q (by omega)) (fun _ => ?_) hR.2.1)
      rw [nI_1]
      refine cP (s_isOpen hM (by omega)) (br_z (fun y => ihm (Or.inr y)) (fun y => ?_))
      have z : lkA (wNet (qW q)) (wnu (qW q)) l = lo (fun k => nP (wNet (qW q)) k && decide (fare (wNet (qW q)) (wnu (qW q)) k = fare (wNet (qW q)) (wnu (qW q)) l)) m (10 - m) := by
        rcases z with z | z
        · exact z
        · rw [y] at z
          cases z
      rw [show 10 - m = (10 - (m + 1)) + 1 by omega] at z
      simp only [lo] at z
      refine cP (s_isOpen hM (by omega)) (br_z (fun x => ihm (Or.inl ?_)) (fun x => ?_))
      · rw [if_neg (by rw [x]; simp)] at z
        exact z
      · have f1 := fare_99 hW hm
        refine cP (s_fareOf hM hl) (cP (s_fareOf hM hm) (pk_ne (fare (wNet (qW q)) (wnu (qW q)) l) (fare (wNet (qW q)) (wnu (qW q)) m) (fun w => ihm (Or.inl ?_)) (fun w => ?_)))
        · rw [if_neg (by rw [x, decide_eq_false (Ne.symm w)]; simp)] at z
          exact z
        · rw [if_pos (by rw [x, decide_eq_true w.symm]; rfl)] at z
          rw [if_pos (by rw [y, z]; rfl)] at e
          rw [e] at k
          dsimp only at k
          rw [z] at k
          rw [show (10 : Int32) * nI l = nI (10 * l) from pk_mul 10 l, nI_add]
          exact k))
theorem tw_lt {N : z_N} {nu : Nat → Nat} {l : Nat} (h : tw N nu = some l) : l < 10 ∧ ∃ k, lkA N nu l = some k ∧ k < 10 := by
  have := lo_lt h
  simp only [Bool.and_eq_true] at this
  refine ⟨by omega, ?_⟩
  cases e : lkA N nu l with
  | none =>
    rw [e] at this
    exact absurd this.2.2.2 (by decide)
  | some k => exact ⟨k, rfl, (lk_lt e).2.1⟩
theorem R_twin {a : Int32} (h : InvR v q) : GR (d + 4) m_X11_twin [vR 11 0, vI a] v (twV (wNet (qW q)) (wnu (qW q)) a) q := fun Q k => E_X11_twin (B_X11_twin_0 (by
  have k0 : ∀ r, r = twV (wNet (qW q)) (wnu (qW q)) a → Q v (some (vI r)) := fun r hr => k _ _ ⟨hr, h, Fn.rfl⟩
  unfold twV at k0
  refine cP (s_twins h.2.1) ?_
  unfold twR
  cases e : tw (wNet (qW q)) (wnu (qW q)) with
  | none =>
    rw [e] at k0
    exact br_nF rfl (k0 _ rfl)
  | some l =>
    rw [e] at k0
    obtain ⟨hl, m, hm, hm10⟩ := tw_lt e
    dsimp only
    dsimp only at k0
    rw [hm] at k0 ⊢
    dsimp only
    refine br_nT (nI_nm1 (by omega)) ⟨fun z => k0 _ ?_, fun z => k0 _ ?_⟩
    · rw [if_pos z, show nI (10 * l + m) / 10 = nI ((10 * l + m) / 10) from pk_div (d := 10) (by omega) (by decide) (by decide)]
      congr 1
      omega
    · rw [if_neg z, show i_rem (nI (10 * l + m)) 10 = nI ((10 * l + m) % 10) from i_rem_nI' (by omega) (by decide) (by decide)]
      show nI _ = nI m
      congr 1
      omega))
theorem R_fair (h : InvR v q) : GR (d + 5) m_X11_fair [vR 11 0] v (bI (fairB (wNet (qW q)) (wnu (qW q)))) q := fun Q k => E_X11_fair (B_X11_fair_0 (by
  have hR := h.2.1
  have hM := hR.me.1
  have hW := hR.1
  have hn := hW.n
  have key : ZP (d + 4) m_X11_isFair [vR 11 0] v (bI (fairB (wNet (qW q)) (wnu (qW q)))) := fun Q k => E_X11_isFair (B_X11_isFair_0 (by
    rw [fairB_eq] at k
    refine z_up0 (P := fun l => anyL l (fun l => nP (wNet (qW q)) l && decide (fare (wNet (qW q)) (wnu (qW q)) l = 0)) = false → z_Wp (z_C (d + 3)) 4 k_X11_isFair Q 2 [some (vR 11 0), some (vI (nI l))] [] v) (wN (qW q)) ?_ ?_ rfl
    · intro e
      have e' : anyL 10 (fun l => nP (wNet (qW q)) l && decide (fare (wNet (qW q)) (wnu (qW q)) l = 0)) = false := by
        cases z : anyL 10 (fun l => nP (wNet (qW q)) l && decide (fare (wNet (qW q)) (wnu (qW q)) l = 0))
        · rfl
        · obtain ⟨i, h1, h2⟩ := anyL_iff.mp z
          have h3 := h2
          rw [Bool.and_eq_true] at h3
          rw [← e]
          exact (anyL_iff.mpr ⟨i, nP_lt hW.1 h3.1, h2⟩).symm
      rw [e'] at k
      refine B_X11_isFair_2 (pk_le (wN (qW q)) (wN (qW q)) (fun _ => cP (s_twins hR) ?_) (fun q => absurd q (by omega)) hR.2.1)
      unfold twR
      cases z : tw (wNet (qW q)) (wnu (qW q)) with
      | none =>
        rw [z] at k
        exact br_nF rfl k
      | some l =>
        rw [z] at k
        obtain ⟨hl, m, hm, hm10⟩ := tw_lt z
        dsimp only
        rw [hm]
        exact br_nT (nI_nm1 (by omega)) k
    · intro l hl ih e
      simp only [anyL, e, Bool.false_or] at ih
      refine B_X11_isFair_2 (pk_le (wN (qW q)) l (fun q => absurd q (by omega)) (fun _ => ?_) hR.2.1)
      rw [nI_1]
      refine cP (s_isOpen hM (by omega)) (br_z (fun z => ih (by rw [z]; rfl)) (fun z => ?_))
      have f1 := fare_99 hW hl
      refine cP (s_fareOf hM hl) (pk_ne (fare (wNet (qW q)) (wnu (qW q)) l) 0 (fun z2 => ih (by rw [decide_eq_false z2]; simp)) (fun z2 => ?_))
      rw [anyL_iff.mpr ⟨l, by omega, by rw [z, decide_eq_true z2]; rfl⟩] at k
      exact k))
  exact cP key (z_i01 (k _ _ ⟨rfl, h, Fn.rfl⟩))))
theorem C_left (h : InvC v q) : GC (d + 2) m_X10_left [vR 10 0] v (lfV (wNet (qW q)) (wnu (qW q))) q := fun Q k => E_X10_left (B_X10_left_0 (by
  have hR := h.2.1
  have hC := hR.cw
  have ho := nO_lt hC.1
  have hW := hR.1
  have k0 : ∀ r, r = lfV (wNet (qW q)) (wnu (qW q)) → Q v (some (vI r)) := fun r hr => k _ _ ⟨hr, h, Fn.rfl, Fn.rfl⟩
  unfold lfV at k0
  refine cP (s_openBits hC) (pk_ne (nO (wNet (qW q))) 0 (fun z => ?_) (fun z => k0 _ (by rw [if_pos z])))
  rw [if_neg z] at k0
  have hp := pc_le 10 (nO (wNet (qW q)))
  refine cP (s_bitCount ho) ?_
  rw [nI_shl (by omega), show nI (2 ^ pc 10 (nO (wNet (qW q)))) - 1 = nI (2 ^ pc 10 (nO (wNet (qW q))) - 1) from pk_sub (b := 1) (Nat.two_pow_pos _), lfS_0 (nu := wnu (qW q))]
  refine z_up0 (P := fun l => ∀ u5, z_Wp (z_C (d + 1)) 1 k_X10_left Q 28 [some (vR 10 0), some (vI (nI (nO (wNet (qW q))))), some (vI (nI (pc 10 (nO (wNet (qW q)))))), some (vI (nI (lfS (wNet (qW q)) (wnu (qW q)) l))), some (vI (nI l)), u5] [] v) 10 ?_ ?_ _
  · intro u5
    exact B_X10_left_28 (pk_le 10 10 (fun _ => k0 _ rfl) (fun q => absurd q (by decide)))
  · intro l hl ih u5
    have hb := bs_lt 10 (fun i => decide (i < pc 10 (nO (wNet (qW q)))) && !anyL l (fun l => nP (wNet (qW q)) l && decide (fare (wNet (qW q)) (wnu (qW q)) l = i + 1)))
    refine B_X10_left_28 (pk_le 10 l (fun q => absurd q (by omega)) (fun _ => ?_))
    rw [nI_bitb (by omega) (by omega)]
    refine br_z (fun z => ?_) (fun z => ?_)
    · have z : nP (wNet (qW q)) l = false := z
      refine B_X10_left_57 (br_T (by decide) ?_)
      rw [nI_1, lfS_n (Or.inl z)]
      exact ih _
    · have z : nP (wNet (qW q)) l = true := z
      have hln : l < wN (qW q) := nP_lt hC.1 z
      have f1 := fare_99 hW hln
      refine cP (s_fareX hC hln) (B_X10_left_57 ?_)
      refine pk_lt (fare (wNet (qW q)) (wnu (qW q)) l) 1 (fun y => ?_) (fun y => pk_lt (pc 10 (nO (wNet (qW q)))) (fare (wNet (qW q)) (wnu (qW q)) l) (fun x => ?_) (fun x => ?_))
      · rw [nI_1, lfS_n (Or.inr (Or.inl (by omega)))]
        exact ih _
      · rw [nI_1, lfS_n (Or.inr (Or.inr x))]
        exact ih _
      · rw [nI_1, show nI (fare (wNet (qW q)) (wnu (qW q)) l) - 1 = nI (fare (wNet (qW q)) (wnu (qW q)) l - 1) from pk_sub (b := 1) y, nI_shl (by omega), nI_andn, lfS_s z y]
        exact ih _))
theorem R_left (h : InvR v q) : GR (d + 3) m_X11_left [vR 11 0] v (lfV (wNet (qW q)) (wnu (qW q))) q := fun Q k => E_X11_left (B_X11_left_0 (by
  have hR := h.2.1
  have hM := hR.me.1
  have hW := hR.1
  have hn := hW.n
  have ho := nO_lt hW.1
  have k0 : ∀ r, r = lfV (wNet (qW q)) (wnu (qW q)) → Q v (some (vI r)) := fun r hr => k _ _ ⟨hr, h, Fn.rfl⟩
  unfold lfV at k0
  rw [hM.2.2.1]
  refine pk_ne (nO (wNet (qW q))) 0 (fun z => ?_) (fun z => k0 _ (by rw [if_pos z]))
  rw [if_neg z] at k0
  have hp := pc_le 10 (nO (wNet (qW q)))
  refine cP (s_openMany hM) ?_
  rw [nI_shl (by omega), show nI (2 ^ pc 10 (nO (wNet (qW q)))) - 1 = nI (2 ^ pc 10 (nO (wNet (qW q))) - 1) from pk_sub (b := 1) (Nat.two_pow_pos _), lfS_0 (nu := wnu (qW q))]
  refine z_up0 (P := fun l => z_Wp (z_C (d + 2)) 1 k_X11_left Q 23 [some (vR 11 0), some (vI (nI (lfS (wNet (qW q)) (wnu (qW q)) l))), some (vI (nI l))] [] v) (wN (qW q)) ?_ ?_
  · refine B_X11_left_23 (pk_le (wN (qW q)) (wN (qW q)) (fun _ => k0 _ ?_) (fun q => absurd q (by omega)) hR.2.1)
    have := lfS_10 (nu := wnu (qW q)) hW.1 (10 - nN (wNet (qW q)))
    rw [e10 hW.1] at this
    rw [this]
    rfl
  · intro l hl ih
    have hb := bs_lt 10 (fun i => decide (i < pc 10 (nO (wNet (qW q)))) && !anyL l (fun l => nP (wNet (qW q)) l && decide (fare (wNet (qW q)) (wnu (qW q)) l = i + 1)))
    refine B_X11_left_23 (pk_le (wN (qW q)) l (fun q => absurd q (by omega)) (fun _ => ?_) hR.2.1)
    rw [nI_1]
    refine cP (s_isOpen hM (by omega)) (br_z (fun z => ?_) (fun z => ?_))
    · rw [lfS_n (Or.inl z)]
      exact ih
    · have f1 := fare_99 hW hl
      refine cP (s_fareOf hM hl) (cP s_isIn ?_)
      have e0 : decide ((1 : Int32) ≤ nI (fare (wNet (qW q)) (wnu (qW q)) l) ∧ nI (fare (wNet (qW q)) (wnu (qW q)) l) ≤ 10) = decide (1 ≤ fare (wNet (qW q)) (wnu (qW q)) l ∧ fare (wNet (qW q)) (wnu (qW q)) l ≤ 10) := by
        refine decide_eq_decide.mpr ?_
        rw [show (1 : Int32) = nI 1 from rfl, show (10 : Int32) = nI 10 from rfl, nI_leI (by omega) (by omega), nI_leI (by omega) (by omega)]
      rw [e0]
      refine br_z (fun y => ?_) (fun y => ?_)
      · have y := of_decide_eq_false y
        rw [lfS_n (by
          by_cases x : fare (wNet (qW q)) (wnu (qW q)) l = 0
          · exact Or.inr (Or.inl x)
          · exact Or.inr (Or.inr (by omega)))]
        exact ih
      · have y := of_decide_eq_true y
        refine cP (s_fareOf hM hl) ?_
        rw [show nI (fare (wNet (qW q)) (wnu (qW q)) l) - 1 = nI (fare (wNet (qW q)) (wnu (qW q)) l - 1) from pk_sub (b := 1) y.1, nI_shl (by omega), nI_andn, lfS_s z y.1]
        exact ih))
end IV5
