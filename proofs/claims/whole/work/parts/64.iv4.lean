/-! calls that only look: both sides -/
def abV (q : z_Q) (a : Int32) : Int32 := if a = 0 then nI (wN (qW q)) else if a = 1 then nI (wT (qW q)) else if a = 2 then wR (qW q) else if a = 3 then nI (wC (qW q)) else if a = 4 then nI (wQ (qW q)) else if a = 5 then nI (qL q) else -2
/-- fares of open lines together -/
def opF (N : z_N) (nu : Nat → Nat) : Nat → Nat
  | 0 => 0
  | l + 1 => opF N nu l + (if nP N l = true then fare N nu l else 0)
theorem opF_10 {N : z_N} {nu : Nat → Nat} (h : nWF N) : ∀ k, opF N nu (nN N + k) = opF N nu (nN N)
  | 0 => rfl
  | k + 1 => by
    have : nP N (nN N + k) = false := by
      cases e : nP N (nN N + k)
      · rfl
      · have := nP_lt h e
        omega
    show opF N nu (nN N + k) + (if nP N (nN N + k) = true then _ else 0) = _
    rw [this, opF_10 h k]
    rfl
def isV (q : z_Q) (a : Int32) : Int32 := if a = 0 then nI (wS (qW q) 0) else if a = 1 then nI (wS (qW q) 1) else if a = 2 then nI (wS (qW q) 2) else if a = 3 then nI (nO (wNet (qW q))) else if a = 4 then nI (opF (wNet (qW q)) (wnu (qW q)) 10) else -2
def tdV (p b : Int32) : Int32 := if b = 0 then p / 3000 else if b = 1 then i_rem (p / 1000) 3 else if b = 2 then i_rem (p / 100) 10 else i_rem p 100
def bkV (W : z_W) (a b : Int32) : Int32 := if a = -1 then nI (wS W 3) else if (inr a (wS W 3) && inr b 4) = true then tdV (nI (wS W (12 + n_ a))) b else -2
def lgC (W : z_W) (a : Int32) : Nat → Nat
  | 0 => 0
  | i + 1 => lgC W a i + (if tdV (nI (wS W (12 + i))) 1 = a then 1 else 0)
def lgV (W : z_W) (a : Int32) : Int32 := if inr a 3 = true then nI (lgC W a (wS W 3)) else -2
def hgF (W : z_W) : Nat → Nat
  | 0 => 0
  | h + 1 => if wS W (5 + (h + 1)) ≤ wS W (5 + hgF W h) then hgF W h else h + 1
theorem hgF_le {W : z_W} : ∀ h, hgF W h ≤ h
  | 0 => Nat.le_refl _
  | h + 1 => by
    have := hgF_le (W := W) h
    unfold hgF
    split <;> omega
def ofV (q : z_Q) (a b : Int32) : Int32 := if inr a (wN (qW q)) = true then (if b = 0 then nI (wA (qW q) (n_ a)) else if b = 1 then nI (wB (qW q) (n_ a)) else if b = 2 then nI (fare (wNet (qW q)) (wnu (qW q)) (n_ a)) else if b = 3 then bI (nP (wNet (qW q)) (n_ a)) else if b = 4 then nI (rdV (qW q) (qT q) (n_ a)) else -1) else -1
def ohV (q : z_Q) (a b : Int32) : Int32 := if inr a 7 = true then (if b = 0 then nI (wS (qW q) (5 + n_ a)) else if b = 1 then nI (bs 7 (nAdj (wNet (qW q)) (n_ a))) else -1) else -1
def cvV (q : z_Q) (a b : Int32) : Int32 := if (inr a 7 && inr b 100) = true then nI (csV (qW q) (qT q) (n_ a) (n_ b)) else -100
section IV4
variable {d : Nat} {v : z_V} {q : z_Q}
theorem inr_2 {a : Int32} : inr a 2 = true ↔ a = 0 ∨ a = 1 := by
  constructor
  · intro h
    obtain ⟨k, hk, rfl⟩ := inr_t h
    match k, hk with
    | 0, _ => exact Or.inl rfl
    | 1, _ => exact Or.inr rfl
  · rintro (e | e) <;> subst e <;> decide
theorem C_about {a : Int32} (h : InvC v q) : GC (d + 1) m_X10_about [vR 10 0, vI a] v (abV q a) q := fun Q k => E_X10_about (B_X10_about_0 (by
  have k0 : ∀ r, r = abV q a → Q v (some (vI r)) := fun r hr => k _ _ ⟨hr, h, Fn.rfl, Fn.rfl⟩
  unfold abV at k0
  have hR := h.2.1
  rw [hR.2.1, hR.2.2.1, hR.2.2.2.1, hR.2.2.2.2.1, hR.2.2.2.2.2.1, h.2.2.2.2.2.1]
  refine ⟨fun e => k0 _ (by rw [if_pos e]), fun e0 => ⟨fun e => k0 _ (by rw [if_neg e0, if_pos e]), fun e1 => ⟨fun e => k0 _ (by rw [if_neg e0, if_neg e1, if_pos e]), fun e2 => ⟨fun e => k0 _ (by rw [if_neg e0, if_neg e1, if_neg e2, if_pos e]), fun e3 => ⟨fun e => k0 _ (by rw [if_neg e0, if_neg e1, if_neg e2, if_neg e3, if_pos e]), fun e4 => ⟨fun e => k0 _ (by rw [if_neg e0, if_neg e1, if_neg e2, if_neg e3, if_neg e4, if_pos e]), fun e5 => k0 _ (by rw [if_neg e0, if_neg e1, if_neg e2, if_neg e3, if_neg e4, if_neg e5])⟩⟩⟩⟩⟩⟩))
theorem R_about {a : Int32} (h : InvR v q) : GR (d + 2) m_X11_about [vR 11 0, vI a] v (abV q a) q := fun Q k => E_X11_about (B_X11_about_0 (by
  have k0 : ∀ r, r = abV q a → Q v (some (vI r)) := fun r hr => k _ _ ⟨hr, h, Fn.rfl⟩
  have hR := h.2.1
  refine cP s_isIn ?_
  rw [show decide ((0 : Int32) ≤ a ∧ a ≤ 4) = inr a 5 from inr_le (n := 5) (by decide)]
  unfold abV at k0
  refine br_z (fun e => ?_) (fun e => ?_)
  · have ne : ∀ c, c < 5 → a ≠ nI c := fun c hc z => by
      rw [z, inr_nI (by omega), decide_eq_true hc] at e
      cases e
    rw [h.2.2.2.2.1]
    refine ⟨fun z => k0 _ ?_, fun z => k0 _ ?_⟩
    · rw [if_neg (show ¬ a = 0 from ne 0 (by decide)), if_neg (show ¬ a = 1 from ne 1 (by decide)), if_neg (show ¬ a = 2 from ne 2 (by decide)), if_neg (show ¬ a = 3 from ne 3 (by decide)), if_neg (show ¬ a = 4 from ne 4 (by decide)), if_neg z]
    · rw [if_neg (show ¬ a = 0 from ne 0 (by decide)), if_neg (show ¬ a = 1 from ne 1 (by decide)), if_neg (show ¬ a = 2 from ne 2 (by decide)), if_neg (show ¬ a = 3 from ne 3 (by decide)), if_neg (show ¬ a = 4 from ne 4 (by decide)), if_pos z]
  · obtain ⟨c, hc, rfl, hn⟩ := inr_n (by decide) e
    refine z_ii c rfl (by omega) ?_
    rw [hn]
    refine k0 _ ?_
    match c, hc with
    | 0, _ => exact hR.2.1
    | 1, _ => exact hR.2.2.1
    | 2, _ => exact hR.2.2.2.1
    | 3, _ => exact hR.2.2.2.2.1
    | 4, _ => exact hR.2.2.2.2.2.1))
theorem C_is {a : Int32} (h : InvC v q) : GC (d + 3) m_X10_is [vR 10 0, vI a] v (isV q a) q := fun Q k => E_X10_is (B_X10_is_0 (by
  have k0 : ∀ r, r = isV q a → Q v (some (vI r)) := fun r hr => k _ _ ⟨hr, h, Fn.rfl, Fn.rfl⟩
  unfold isV at k0
  have hR := h.2.1
  have hC := hR.cw
  have ho := nO_lt hC.1
  have hs := hR.2.2.2.2.2.2.2.2.1
  rw [show gI v 4 0 5 = nI (wS (qW q) 0) from hs.1, show gI v 4 0 6 = nI (wS (qW q) 1) from hs.2.1, show gI v 4 0 4 = nI (wS (qW q) 2) from hs.2.2.1]
  refine ⟨fun e => k0 _ (by rw [if_pos e]), fun e0 => ⟨fun e => k0 _ (by rw [if_neg e0, if_pos e]), fun e1 => ⟨fun e => k0 _ (by rw [if_neg e0, if_neg e1, if_pos e]), fun e2 => ⟨fun e => cP (s_openBits hC) (k0 _ (by rw [if_neg e0, if_neg e1, if_neg e2, if_pos e])), fun e3 => ⟨fun e => ?_, fun e4 => k0 _ (by rw [if_neg e0, if_neg e1, if_neg e2, if_neg e3, if_neg e4])⟩⟩⟩⟩⟩
  have key : ZP (d + 2) m_X10_openFares [vR 10 0] v (nI (opF (wNet (qW q)) (wnu (qW q)) 10)) := fun Q k => E_X10_openFares (B_X10_openFares_0 (by
    refine cP (s_openBits hC) ?_
    refine z_up0 (P := fun l => z_Wp (z_C (d + 1)) 1 k_X10_openFares Q 12 [some (vR 10 0), some (vI (nI (nO (wNet (qW q))))), some (vI (nI (opF (wNet (qW q)) (wnu (qW q)) l))), some (vI (nI l))] [] v) 10 ?_ ?_
    · exact B_X10_openFares_12 (pk_le 10 10 (fun _ => k) (fun q => absurd q (by decide)))
    · intro l hl ih
      refine B_X10_openFares_12 (pk_le 10 l (fun q => absurd q (by omega)) (fun _ => ?_))
      rw [nI_bitb (by omega) (by omega)]
      unfold opF at ih
      refine br_z (fun e => ?_) (fun e => ?_)
      · rw [if_neg (by unfold nP; rw [e]; decide), Nat.add_zero] at ih
        rw [nI_1]
        exact ih
      · rw [if_pos (show nP (wNet (qW q)) l = true from e)] at ih
        refine cP (s_fareX hC (nP_lt hC.1 e)) ?_
        rw [nI_add, nI_1]
        exact ih))
  exact cP key (k0 _ (by rw [if_neg e0, if_neg e1, if_neg e2, if_neg e3, if_pos e]))))
theorem R_is {a : Int32} (h : InvR v q) : GR (d + 3) m_X11_is [vR 11 0, vI a] v (isV q a) q := fun Q k => E_X11_is (B_X11_is_0 (by
  have k0 : ∀ r, r = isV q a → Q v (some (vI r)) := fun r hr => k _ _ ⟨hr, h, Fn.rfl⟩
  have hR := h.2.1
  have hM := hR.me.1
  have hn := hR.1.n
  refine cP s_isIn ?_
  rw [show decide ((0 : Int32) ≤ a ∧ a ≤ 2) = inr a 3 from inr_le (n := 3) (by decide)]
  unfold isV at k0
  refine br_z (fun e => ?_) (fun e => ?_)
  · have ne : ∀ c, c < 3 → a ≠ nI c := fun c hc z => by
      rw [z, inr_nI (by omega), decide_eq_true hc] at e
      cases e
    refine z_up0 (P := fun l => z_Wp (z_C (d + 2)) 1 k_X11_is Q 22 [some (vR 11 0), some (vI a), some (vI (nI (opF (wNet (qW q)) (wnu (qW q)) l))), some (vI (nI l))] [] v) (wN (qW q)) ?_ ?_
    · refine B_X11_is_22 (pk_le (wN (qW q)) (wN (qW q)) (fun _ => ?_) (fun q => absurd q (by omega)) hR.2.1)
      have e10 : opF (wNet (qW q)) (wnu (qW q)) 10 = opF (wNet (qW q)) (wnu (qW q)) (wN (qW q)) := by
        have := opF_10 (nu := wnu (qW q)) hR.1.1 (10 - wN (qW q))
        rw [show nN (wNet (qW q)) + (10 - wN (qW q)) = 10 by show wN (qW q) + _ = 10; omega] at this
        exact this
      refine ⟨fun z => ⟨fun z2 => k0 _ ?_, fun z2 => k0 _ ?_⟩, fun z => k0 _ ?_⟩
      · rw [if_neg (show ¬ a = 0 from ne 0 (by decide)), if_neg (show ¬ a = 1 from ne 1 (by decide)), if_neg (show ¬ a = 2 from ne 2 (by decide)), if_neg z, if_neg z2]
      · rw [if_neg (show ¬ a = 0 from ne 0 (by decide)), if_neg (show ¬ a = 1 from ne 1 (by decide)), if_neg (show ¬ a = 2 from ne 2 (by decide)), if_neg z, if_pos z2, e10]
      · rw [if_neg (show ¬ a = 0 from ne 0 (by decide)), if_neg (show ¬ a = 1 from ne 1 (by decide)), if_neg (show ¬ a = 2 from ne 2 (by decide)), if_pos z]
        exact hM.2.2.1
    · intro l hl ih
      unfold opF at ih
      refine B_X11_is_22 (pk_le (wN (qW q)) l (fun q => absurd q (by omega)) (fun _ => ?_) hR.2.1)
      refine cP (s_isOpen hM (by omega)) (br_z (fun e => ?_) (fun e => ?_))
      · rw [if_neg (by rw [e]; decide)] at ih
        rw [show nI (opF (wNet (qW q)) (wnu (qW q)) l) + 0 = nI (opF (wNet (qW q)) (wnu (qW q)) l + 0) from nI_add _ 0, nI_1]
        exact ih
      · rw [if_pos e] at ih
        refine cP (s_fareOf hM hl) ?_
        rw [nI_add, nI_1]
        exact ih
  · obtain ⟨c, hc, rfl, hnc⟩ := inr_n (by decide) e
    rw [show (5 : Int32) + nI c = nI (5 + c) from nI_add 5 c]
    refine z_ii _ rfl (by omega) ?_
    rw [n_nI (by omega)]
    refine k0 _ ?_
    have hT := hR.2.2.2.2.2.2.1
    match c, hc with
    | 0, _ => exact hT.1
    | 1, _ => exact hT.2.1
    | 2, _ => exact hT.2.2.1))
theorem s_told4 {i b : Int32} (hR : RC v 0 (qW q)) : ZP (d + 1) m_X4_told [vR 4 0, vI i, vI b] v (if (inr i (wS (qW q) 3) && inr b 4) = true then tdV (nI (wS (qW q) (12 + n_ i))) b else -2) := fun Q k => E_X4_told (B_X4_told_0 (by
  have hs := hR.2.2.2.2.2.2.2.2.1
  have ho := hR.1.2.1
  have h25 := ho.2.2.2.1
  rw [show gI v 4 0 2 = nI (wS (qW q) 3) from hs.2.2.2.1]
  have no : ¬ ((inr i (wS (qW q) 3) && inr b 4) = true) → Q v (some (vI (-2))) := fun z => by rw [if_neg z] at k; exact k
  refine lt1_nI (n := wS (qW q) 3) (by omega) (fun e => no (by rw [e]; simp)) (fun e => ?_) (fun e => no (by rw [e]; simp))
  obtain ⟨n, hn, rfl, hni⟩ := inr_n (by omega) e
  refine z_ii n rfl (by omega) ?_
  rw [hni] at k ⊢
  rw [show gI v 501 0 n = nI (wS (qW q) (12 + n)) from hs.2.2.2.2.2.2 n (by omega)]
  rw [e, Bool.true_and] at k no
  unfold tdV at k
  refine ⟨fun z => ?_, fun z0 => ⟨fun z => ?_, fun z1 => ⟨fun z => ?_, fun z2 => ⟨fun z => ?_, fun z3 => no ?_⟩⟩⟩⟩
  · rw [if_pos (by subst z; decide), if_pos z] at k
    exact k
  · rw [if_pos (by subst z; decide), if_neg z0, if_pos z] at k
    exact k
  · rw [if_pos (by subst z; decide), if_neg z0, if_neg z1, if_pos z] at k
    exact k
  · rw [if_pos (by subst z; decide), if_neg z0, if_neg z1, if_neg z2] at k
    exact k
  · intro z
    obtain ⟨c, hc, rfl⟩ := inr_t z
    match c, hc with
    | 0, _ => exact z0 rfl
    | 1, _ => exact z1 rfl
    | 2, _ => exact z2 rfl
    | 3, _ => exact z3 rfl))
theorem C_book {a b : Int32} (h : InvC v q) : GC (d + 2) m_X10_book [vR 10 0, vI a, vI b] v (bkV (qW q) a b) q := fun Q k => E_X10_book (B_X10_book_0 (by
  have k0 : ∀ r, r = bkV (qW q) a b → Q v (some (vI r)) := fun r hr => k _ _ ⟨hr, h, Fn.rfl, Fn.rfl⟩
  unfold bkV at k0
  refine ⟨fun e => cP (s_told4 h.2.1) (k0 _ (by rw [if_neg e])), fun e => k0 _ ?_⟩
  rw [if_pos e]
  exact h.2.1.2.2.2.2.2.2.2.2.1.2.2.2.1))
theorem s_lineOf {n : Nat} {b : Int32} (hR : RRf (gI v 1200 0) (qW q)) (hn : n < wS (qW q) 3) : ZP (d + 1) m_X11_lineOf [vR 11 0, vI (nI n), vI b] v (tdV (nI (wS (qW q) (12 + n))) b) := fun Q k => E_X11_lineOf (B_X11_lineOf_0 (by
  have h25 := hR.1.2.1.2.2.2.1
  rw [show (1193 : Int32) + nI n = nI (1193 + n) from nI_add 1193 n]
  refine z_ii _ rfl (by omega) ?_
  rw [n_nI (by omega), show gI v 1200 0 (1193 + n) = nI (wS (qW q) (12 + n)) from hR.2.2.2.2.2.2.1.2.2.2.2.2.2 n (by omega)]
  unfold tdV at k
  refine ⟨fun z0 => ⟨fun z1 => ⟨fun z2 => ?_, fun z => ?_⟩, fun z => ?_⟩, fun z => ?_⟩
  · rw [if_neg z0, if_neg z1, if_neg z2] at k
    exact k
  · rw [if_neg z0, if_neg z1, if_pos z] at k
    exact k
  · rw [if_neg z0, if_pos z] at k
    exact k
  · rw [if_pos z] at k
    exact k))
theorem R_book {a b : Int32} (h : InvR v q) : GR (d + 2) m_X11_book [vR 11 0, vI a, vI b] v (bkV (qW q) a b) q := fun Q k => E_X11_book (B_X11_book_0 (by
  have k0 : ∀ r, r = bkV (qW q) a b → Q v (some (vI r)) := fun r hr => k _ _ ⟨hr, h, Fn.rfl⟩
  have hR := h.2.1
  have h25 := hR.1.2.1.2.2.2.1
  unfold bkV at k0
  have e3 : gI v 1200 0 8 = nI (wS (qW q) 3) := hR.2.2.2.2.2.2.1.2.2.2.1
  rw [e3]
  refine ⟨fun e => ?_, fun e => k0 _ (by rw [if_pos e])⟩
  refine cP s_isIn ?_
  rw [inr_le (n := wS (qW q) 3) (by omega)]
  refine br_z (fun e1 => k0 _ (by rw [if_neg e, e1]; rfl)) (fun e1 => ?_)
  refine cP s_isIn ?_
  rw [show decide ((0 : Int32) ≤ b ∧ b ≤ 3) = inr b 4 from inr_le (n := 4) (by decide)]
  refine br_z (fun e2 => k0 _ (by rw [if_neg e, e2]; simp)) (fun e2 => ?_)
  obtain ⟨n, hn, rfl, hni⟩ := inr_n (by omega) e1
  exact cP (s_lineOf hR hn) (k0 _ (by rw [if_neg e, e1, e2, hni]; rfl))))
theorem C_ledger {a : Int32} (h : InvC v q) : GC (d + 2) m_X10_ledger [vR 10 0, vI a] v (lgV (qW q) a) q := fun Q k => E_X10_ledger (B_X10_ledger_0 (by
  have k0 : ∀ r, r = lgV (qW q) a → Q v (some (vI r)) := fun r hr => k _ _ ⟨hr, h, Fn.rfl, Fn.rfl⟩
  unfold lgV at k0
  have hs := h.2.1.2.2.2.2.2.2.2.2.1
  have h25 := h.2.1.1.2.1.2.2.2.1
  have no : inr a 3 = false → Q v (some (vI (-2))) := fun e => k0 _ (by rw [e]; rfl)
  have yes : inr a 3 = true → z_Wp (z_C (d + 1)) 1 k_X10_ledger Q 16 [some (vR 10 0), some (vI a), some (vI 0), some (vI 0)] [] v := fun e => by
    refine z_up0 (P := fun i => z_Wp (z_C (d + 1)) 1 k_X10_ledger Q 16 [some (vR 10 0), some (vI a), some (vI (nI (lgC (qW q) a i))), some (vI (nI i))] [] v) (wS (qW q) 3) ?_ ?_
    · exact B_X10_ledger_16 (pk_le (wS (qW q) 3) (wS (qW q) 3) (fun _ => k0 _ (by rw [if_pos e])) (fun q => absurd q (by omega)) hs.2.2.2.1)
    · intro i hi ih
      unfold lgC at ih
      refine B_X10_ledger_16 (pk_le (wS (qW q) 3) i (fun q => absurd q (by omega)) (fun _ => ?_) hs.2.2.2.1)
      refine cP (s_told4 h.2.1) ?_
      rw [inr_nI (by omega), decide_eq_true hi, show inr (1 : Int32) 4 = true by decide, n_nI (by omega), if_pos (show (true && true) = true from rfl)]
      refine ⟨fun z => ?_, fun z => ?_⟩
      · rw [if_neg z, Nat.add_zero] at ih
        rw [nI_1]
        exact ih
      · rw [if_pos z] at ih
        rw [nI_1, nI_1]
        exact ih
  have i := lt99_nI (a := a) (n := 2) (by decide) no no yes
  exact ⟨i.1, fun z => ⟨fun z2 => (i.2 z).2 (Int32.not_lt.mpr z2), fun z2 => (i.2 z).1 (Int32.not_le.mp z2)⟩⟩))
theorem R_ledger {a : Int32} (h : InvR v q) : GR (d + 2) m_X11_ledger [vR 11 0, vI a] v (lgV (qW q) a) q := fun Q k => E_X11_ledger (B_X11_ledger_0 (by
  have k0 : ∀ r, r = lgV (qW q) a → Q v (some (vI r)) := fun r hr => k _ _ ⟨hr, h, Fn.rfl⟩
  unfold lgV at k0
  have hR := h.2.1
  have h25 := hR.1.2.1.2.2.2.1
  have e3 : gI v 1200 0 8 = nI (wS (qW q) 3) := hR.2.2.2.2.2.2.1.2.2.2.1
  refine cP s_isIn ?_
  rw [show decide ((0 : Int32) ≤ a ∧ a ≤ 2) = inr a 3 from inr_le (n := 3) (by decide)]
  refine br_n (fun e => ?_) (fun e => k0 _ (by rw [e]; rfl))
  refine z_up0 (P := fun i => z_Wp (z_C (d + 1)) 1 k_X11_ledger Q 16 [some (vR 11 0), some (vI a), some (vI (nI (lgC (qW q) a i))), some (vI (nI i))] [] v) (wS (qW q) 3) ?_ ?_
  · exact B_X11_ledger_16 (pk_le (wS (qW q) 3) (wS (qW q) 3) (fun _ => k0 _ (by rw [if_pos e])) (fun q => absurd q (by omega)) e3)
  · intro i hi ih
    unfold lgC at ih
    refine B_X11_ledger_16 (pk_le (wS (qW q) 3) i (fun q => absurd q (by omega)) (fun _ => ?_) e3)
    refine cP (s_lineOf hR hi) ⟨fun z => ?_, fun z => ?_⟩
    · rw [if_neg z] at ih
      rw [show nI (lgC (qW q) a i) + 0 = nI (lgC (qW q) a i + 0) from nI_add _ 0, nI_1]
      exact ih
    · rw [if_pos z] at ih
      rw [nI_1, nI_1]
      exact ih))
theorem C_highest (h : InvC v q) : GC (d + 1) m_X10_highest [vR 10 0] v (nI (hgF (qW q) 6)) q := fun Q k => E_X10_highest (B_X10_highest_0 (by
  have hs := h.2.1.2.2.2.2.2.2.2.2.1
  have ho := h.2.1.1.2.1.2.2.2.2.2.1
  refine z_up0 (P := fun g => z_Wp (z_C d) 1 k_X10_highest Q 4 [some (vR 10 0), some (vI (nI (hgF (qW q) g))), some (vI (nI (g + 1)))] [] v) 6 ?_ ?_
  · exact B_X10_highest_4 (pk_le 7 7 (fun _ => k _ _ ⟨rfl, h, Fn.rfl, Fn.rfl⟩) (fun q => absurd q (by decide)))
  · intro g hg ih
    have hl := hgF_le (W := qW q) g
    refine B_X10_highest_4 (pk_le 7 (g + 1) (fun q => absurd q (by omega)) (fun _ => z_ii (g + 1) rfl (by omega) (z_ii _ rfl (by omega) ?_)))
    have h1 := ho (g + 1) (by omega)
    have h2 := ho (hgF (qW q) g) (by omega)
    rw [n_nI (by omega), n_nI (by omega), show gI v 500 0 (g + 1) = _ from hs.2.2.2.2.2.1 (g + 1) (by omega), show gI v 500 0 (hgF (qW q) g) = _ from hs.2.2.2.2.2.1 _ (by omega), nI_1]
    unfold hgF at ih
    refine pk_le _ _ (fun z => ?_) (fun z => ?_) rfl rfl (by omega) (by omega)
    · rw [if_pos z] at ih
      exact ih
    · rw [if_neg (by omega)] at ih
      exact ih))
theorem R_highest (h : InvR v q) : GR (d + 1) m_X11_highest [vR 11 0] v (nI (hgF (qW q) 6)) q := fun Q k => E_X11_highest (B_X11_highest_0 (by
  have hT := h.2.1.2.2.2.2.2.2.1.2.2.2.2.2.1
  have ho := h.2.1.1.2.1.2.2.2.2.2.1
  refine z_up0 (P := fun g => z_Wp (z_C d) 1 k_X11_highest Q 4 [some (vR 11 0), some (vI (nI (hgF (qW q) g))), some (vI (nI (g + 1)))] [] v) 6 ?_ ?_
  · exact B_X11_highest_4 (pk_le 7 7 (fun _ => k _ _ ⟨rfl, h, Fn.rfl⟩) (fun q => absurd q (by decide)))
  · intro g hg ih
    have hl := hgF_le (W := qW q) g
    have h1 := ho (g + 1) (by omega)
    have h2 := ho (hgF (qW q) g) (by omega)
    refine B_X11_highest_4 (pk_le 7 (g + 1) (fun q => absurd q (by omega)) (fun _ => ?_))
    rw [show (10 : Int32) + nI (g + 1) = nI (10 + (g + 1)) from nI_add 10 _, show (10 : Int32) + nI (hgF (qW q) g) = nI (10 + hgF (qW q) g) from nI_add 10 _]
    refine z_ii _ rfl (by omega) (z_ii _ rfl (by omega) ?_)
    rw [n_nI (by omega), n_nI (by omega), show gI v 1200 0 (10 + (g + 1)) = _ from hT (g + 1) (by omega), show gI v 1200 0 (10 + hgF (qW q) g) = _ from hT _ (by omega), nI_1]
    unfold hgF at ih
    refine pk_le _ _ (fun z => ?_) (fun z => ?_) rfl rfl (by omega) (by omega)
    · rw [if_pos z] at ih
      exact ih
    · rw [if_neg (by omega)] at ih
      exact ih))
theorem C_of {a b : Int32} (h : InvC v q) : GC (d + 7) m_X10_of [vR 10 0, vI a, vI b] v (ofV q a b) q := fun Q k => E_X10_of (B_X10_of_0 (by
  have k0 : ∀ r, r = ofV q a b → Q v (some (vI r)) := fun r hr => k _ _ ⟨hr, h, Fn.rfl, Fn.rfl⟩
  unfold ofV at k0 k
  have hR := h.2.1
  have hC := hR.cw
  have ho := nO_lt hC.1
  have hn := hR.1.n
  refine cP (s_hasLine hC) (br_n (fun e => ?_) (fun e => k0 _ (by rw [show inr a (wN (qW q)) = false from e]; rfl)))
  have e : inr a (wN (qW q)) = true := e
  obtain ⟨l, hl, rfl, hnl⟩ := inr_n (by omega) e
  rw [if_pos e, hnl] at k0 k
  have hl2 := hR.2.2.2.2.2.2.2.1 l hl
  refine ⟨fun z => z_ii l rfl (by omega) ?_, fun z0 => ⟨fun z => z_ii l rfl (by omega) ?_, fun z1 => ⟨fun z => ?_, fun z2 => ⟨fun z => ?_, fun z3 => ⟨fun z => ?_, fun z4 => ?_⟩⟩⟩⟩⟩
  · rw [hnl, hl2.1]
    exact k0 _ (by rw [if_pos z])
  · rw [hnl, hl2.2]
    exact k0 _ (by rw [if_neg z0, if_pos z])
  · exact cP (s_fareX hC hl) (k0 _ (by rw [if_neg z0, if_neg z1, if_pos z]))
  · refine cP (s_openBits hC) ?_
    rw [nI_bitb (by omega) (by omega)]
    exact k0 _ (by rw [if_neg z0, if_neg z1, if_neg z2, if_pos z]; rfl)
  · refine cI (s_lawR hR h.2.2.2.1 hl) (fun u r hu => ?_)
    rw [if_neg z0, if_neg z1, if_neg z2, if_neg z3, if_pos z] at k
    exact k _ _ ⟨hu.1, h.tl hu.2, FC.tl hu.2, KC.tl hu.2⟩
  · exact k0 _ (by rw [if_neg z0, if_neg z1, if_neg z2, if_neg z3, if_neg z4])))
theorem R_of {a b : Int32} (h : InvR v q) : GR (d + 7) m_X11_of [vR 11 0, vI a, vI b] v (ofV q a b) q := fun Q k => E_X11_of (B_X11_of_0 (by
  have k0 : ∀ r, r = ofV q a b → Q v (some (vI r)) := fun r hr => k _ _ ⟨hr, h, Fn.rfl⟩
  unfold ofV at k0 k
  have hR := h.2.1
  have hM := hR.me.1
  have hn := hR.1.n
  refine cP (s_isLine hM) (br_n (fun e => ?_) (fun e => k0 _ (by rw [show inr a (wN (qW q)) = false from e]; rfl)))
  have e : inr a (wN (qW q)) = true := e
  obtain ⟨l, hl, rfl, hnl⟩ := inr_n (by omega) e
  rw [if_pos e, hnl] at k0 k
  refine ⟨fun z => cP (s_one hM hl) (k0 _ (by rw [if_pos z]; rfl)), fun z0 => ⟨fun z => cP (s_other hM hl) (k0 _ (by rw [if_neg z0, if_pos z]; rfl)), fun z1 => ⟨fun z => cP (s_fareOf hM hl) (k0 _ (by rw [if_neg z0, if_neg z1, if_pos z])), fun z2 => ⟨fun z => cP (s_isOpen hM (by omega)) ?_, fun z3 => ⟨fun z => ?_, fun z4 => ?_⟩⟩⟩⟩⟩
  · exact br_z (fun e2 => k0 _ (by rw [if_neg z0, if_neg z1, if_neg z2, if_pos z, e2]; rfl)) (fun e2 => k0 _ (by rw [if_neg z0, if_neg z1, if_neg z2, if_pos z, e2]; rfl))
  · refine cI (s_ridesW hR h.2.2.2.1 hl hR.2.2.2.1) (fun u r hu => ?_)
    rw [if_neg z0, if_neg z1, if_neg z2, if_neg z3, if_pos z] at k
    exact k _ _ ⟨hu.1, h.tr hu.2, FR.tr hu.2⟩
  · exact k0 _ (by rw [if_neg z0, if_neg z1, if_neg z2, if_neg z3, if_neg z4])))
theorem C_ofHalt {a b : Int32} (h : InvC v q) : GC (d + 2) m_X10_ofHalt [vR 10 0, vI a, vI b] v (ohV q a b) q := fun Q k => E_X10_ofHalt (B_X10_ofHalt_0 (by
  have k0 : ∀ r, r = ohV q a b → Q v (some (vI r)) := fun r hr => k _ _ ⟨hr, h, Fn.rfl, Fn.rfl⟩
  unfold ohV at k0
  have hR := h.2.1
  refine lt0_nI (n := 7) (by decide) (fun e => k0 _ (by rw [e]; rfl)) (fun e => k0 _ (by rw [e]; rfl)) (fun e => ?_)
  obtain ⟨g, hg, rfl, hng⟩ := inr_n (by decide) e
  rw [if_pos e, hng] at k0
  refine ⟨fun z => k0 _ ?_, fun z => ⟨fun z2 => ⟨fun z3 => cP (s_besideX hR.cw hg) (k0 _ ?_), fun z3 => z_ii g rfl hg ?_⟩, fun z2 => k0 _ ?_⟩⟩
  · rw [if_neg (fun y => by subst y; exact absurd z (by decide)), if_neg (fun y => by subst y; exact absurd z (by decide))]
  · have : b = 1 := by
      rw [Int32.le_iff_toInt_le, show (1 : Int32).toInt = 1 by decide] at z2
      rw [Int32.lt_iff_toInt_lt, Int32.toInt_zero] at z
      rw [← Int32.toInt_inj, show (1 : Int32).toInt = 1 by decide]
      have : b.toInt ≠ 0 := fun y => z3 (by rw [← Int32.toInt_inj, y]; rfl)
      omega
    rw [if_neg z3, if_pos this]
  · rw [hng]
    refine k0 _ ?_
    rw [if_pos z3]
    exact hR.2.2.2.2.2.2.2.2.1.2.2.2.2.2.1 g hg
  · rw [if_neg (fun y => by subst y; exact z2 (by decide)), if_neg (fun y => by subst y; exact z2 (by decide))]))
theorem R_ofHalt {a b : Int32} (h : InvR v q) : GR (d + 4) m_X11_ofHalt [vR 11 0, vI a, vI b] v (ohV q a b) q := fun Q k => E_X11_ofHalt (B_X11_ofHalt_0 (by
  have k0 : ∀ r, r = ohV q a b → Q v (some (vI r)) := fun r hr => k _ _ ⟨hr, h, Fn.rfl⟩
  unfold ohV at k0
  have hR := h.2.1
  refine cP s_isHalt (br_n (fun e => ?_) (fun e => k0 _ (by rw [e]; rfl)))
  obtain ⟨g, hg, rfl, hng⟩ := inr_n (by decide) e
  rw [if_pos e, hng] at k0
  refine ⟨fun z => ⟨fun z2 => k0 _ (by rw [if_neg z, if_neg z2]), fun z2 => cP (s_besideOf hR.me.1 hg) (k0 _ (by rw [if_neg z, if_pos z2]))⟩, fun z => ?_⟩
  rw [show (10 : Int32) + nI g = nI (10 + g) from nI_add 10 g]
  refine z_ii _ rfl (by omega) ?_
  rw [n_nI (by omega)]
  refine k0 _ ?_
  rw [if_pos z]
  exact hR.2.2.2.2.2.2.1.2.2.2.2.2.1 g hg))
theorem C_costs {a b : Int32} (h : InvC v q) : GC (d + 7) m_X10_costs [vR 10 0, vI a, vI b] v (cvV q a b) q := fun Q k => E_X10_costs (B_X10_costs_0 (by
  have k0 : ∀ r, r = cvV q a b → Q v (some (vI r)) := fun r hr => k _ _ ⟨hr, h, Fn.rfl, Fn.rfl⟩
  unfold cvV at k0 k
  have hR := h.2.1
  refine lt0_nI (n := 7) (by decide) (fun e => k0 _ (by rw [e]; rfl)) (fun e => k0 _ (by rw [e]; rfl)) (fun e1 => ?_)
  have no : inr b 100 = false → Q v (some (vI (-100))) := fun e => k0 _ (by rw [e]; simp)
  have yes : inr b 100 = true → z_C (d + 6) m_X9_lawSays [vR 9 0, vI 1, vI a, vI b] v (fun w1 o2 => ∃ i3 : Int32, o2 = some (vI i3) ∧ Q w1 (some (vI i3))) := fun e2 => by
    obtain ⟨g, hg, rfl, hng⟩ := inr_n (by decide) e1
    obtain ⟨x, hx, rfl, hnx⟩ := inr_n (by decide) e2
    rw [if_pos (by rw [e1, e2]; rfl), hng, hnx] at k
    exact cI (s_lawC hR h.2.2.2.1 hg (by omega)) (fun u r hu => k _ _ ⟨hu.1, h.tl hu.2, FC.tl hu.2, KC.tl hu.2⟩)
  have i := lt99_nI (a := b) (n := 99) (by decide) no no yes
  exact ⟨i.1, fun z => ⟨fun z2 => (i.2 z).2 (Int32.not_lt.mpr z2), fun z2 => (i.2 z).1 (Int32.not_le.mp z2)⟩⟩))
theorem R_costs {a b : Int32} (h : InvR v q) : GR (d + 7) m_X11_costs [vR 11 0, vI a, vI b] v (cvV q a b) q := fun Q k => E_X11_costs (B_X11_costs_0 (by
  have k0 : ∀ r, r = cvV q a b → Q v (some (vI r)) := fun r hr => k _ _ ⟨hr, h, Fn.rfl⟩
  unfold cvV at k0 k
  have hR := h.2.1
  refine cP s_isHalt (br_z (fun e => k0 _ (by rw [e]; rfl)) (fun e1 => ?_))
  refine cP s_isIn ?_
  rw [show decide ((0 : Int32) ≤ b ∧ b ≤ 99) = inr b 100 from inr_le (n := 100) (by decide)]
  refine br_z (fun e => k0 _ (by rw [e]; simp)) (fun e2 => ?_)
  obtain ⟨g, hg, rfl, hng⟩ := inr_n (by decide) e1
  obtain ⟨x, hx, rfl, hnx⟩ := inr_n (by decide) e2
  rw [if_pos (by rw [e1, e2]; rfl), hng, hnx] at k
  exact cI (s_costsW hR h.2.2.2.1 hg (by omega)) (fun u r hu => k _ _ ⟨hu.1, h.tr hu.2, FR.tr hu.2⟩)))
end IV4
