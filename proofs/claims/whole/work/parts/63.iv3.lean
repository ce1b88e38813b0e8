/-! said, the tape, the latest fault, about: both sides -/
def by4 (x : Int32) (k : Nat) : Nat := (i_shr x (nI k)).toBitVec.toNat % 256
theorem by4_lt {x : Int32} {k : Nat} : by4 x k < 256 := Nat.mod_lt _ (by decide)
theorem by4_and {x : Int32} {k : Nat} : i_shr x (nI k) &&& 255 = nI (by4 x k) := pk_and (i_shr x (nI k)) (m := 255) 8 (by rfl)
theorem by4_b {x : Int32} {k : Nat} : ((i_shr x (nI k)).toInt8.toInt32).toInt8.toInt32 = (nI (by4 x k)).toInt8.toInt32 := by
  have h1 : ∀ y : Int8, y.toInt32.toInt8 = y := fun y => by simp
  rw [h1]
  congr 1
  obtain ⟨n, hn⟩ : ∃ n, i_shr x (nI k) = nI n := nI_all _
  unfold by4
  generalize i_shr x (nI k) = y at hn
  subst hn
  show (Int32.ofNat n).toInt8 = (Int32.ofNat ((Int32.ofNat n).toBitVec.toNat % 256)).toInt8
  rw [Int32.toInt8_ofNat', Int32.toInt8_ofNat']
  apply Int8.toBitVec_inj.mp
  show BitVec.ofNat 8 n = BitVec.ofNat 8 ((BitVec.ofNat 32 n).toNat % 256)
  apply BitVec.eq_of_toNat_eq
  simp only [BitVec.toNat_ofNat]
  omega
def tA (B : Nat → Nat) (L : Nat) (x : Int32) : Nat → Nat := fun j => if j = L then by4 x 24 else if j = L + 1 then by4 x 16 else if j = L + 2 then by4 x 8 else if j = L + 3 then by4 x 0 else B j
def tpC (v : z_V) (L : Nat) (B : Nat → Nat) : Prop := gI v 3 0 1 = nI L ∧ ∀ j, j < L → gI v 400 0 j = (nI (B j)).toInt8.toInt32
def tpR (v : z_V) (L : Nat) (B : Nat → Nat) : Prop := gI v 11 0 4 = nI L ∧ ∀ j, j < L → gI v 1203 0 j = nI (B j)
def fTp : Nat → Nat → Prop := fun t k => (t = 3 ∧ k = 1) ∨ t = 400
def fTr : Nat → Nat → Prop := fun t k => (t = 11 ∧ k = 4) ∨ t = 1203
theorem tA_0 {B : Nat → Nat} {L : Nat} {x : Int32} {j : Nat} (h : j < L) : tA B L x j = B j := by
  unfold tA
  rw [if_neg (by omega), if_neg (by omega), if_neg (by omega), if_neg (by omega)]
section IV3
variable {d : Nat} {v : z_V} {q : z_Q}
theorem s_take {L : Nat} {B : Nat → Nat} {x : Int32} (h : tpC v L B) (hL : L + 4 ≤ 300) : ZV (d + 1) m_X3_take [vR 3 0, vI x] v (fun u => tpC u (L + 4) (tA B L x) ∧ Fr fTp v u) := fun Q k => E_X3_take (B_X3_take_0 (by
  have step : ∀ (m : Nat) (B' : Nat → Nat) (sh : Nat) (s' : Int32) (u : z_V), sh < 32 → nI sh + (-8) = s' → m < 300 → tpC u m B' → (∀ u', tpC u' (m + 1) (fun j => if j = m then by4 x sh else B' j) → Fr fTp u u' → z_Wp (z_C d) 0 k_X3_take Q 3 [some (vR 3 0), some (vI x), some (vI s')] [] u') → z_Wp (z_C d) 0 k_X3_take Q 3 [some (vR 3 0), some (vI x), some (vI (nI sh))] [] u := by
    intro m B' sh s' u hsh hs' hm hu c
    refine B_X3_take_3 (br_F (nI_pos (by omega)) ?_)
    rw [hu.1, hs']
    refine pk_le 300 m (fun q => absurd q (by omega)) (fun _ => z_ii m rfl (by omega) ?_)
    rw [n_nI (by omega), by4_b, nI_1]
    refine c _ ⟨gI_pI_s, fun j hj => ?_⟩ ((Fr.rfl.pI (Or.inr rfl)).pI (Or.inl ⟨rfl, rfl⟩))
    rw [gI_pI_t (by decide)]
    by_cases e : j = m
    · subst e
      rw [gI_pI_s]
      dsimp only
      rw [if_pos rfl]
    · rw [gI_pI_k e]
      dsimp only
      rw [if_neg e]
      exact hu.2 j (by omega)
  refine step L B 24 16 v (by decide) (by decide) (by omega) h (fun u1 h1 f1 => ?_)
  refine step (L + 1) _ 16 8 u1 (by decide) (by decide) (by omega) h1 (fun u2 h2 f2 => ?_)
  refine step (L + 1 + 1) _ 8 0 u2 (by decide) (by decide) (by omega) h2 (fun u3 h3 f3 => ?_)
  refine step (L + 1 + 1 + 1) _ 0 (-8) u3 (by decide) (by decide) (by omega) h3 (fun u4 h4 f4 => ?_)
  refine B_X3_take_3 (br_T (by decide) (k _ ⟨⟨h4.1, fun j hj => ?_⟩, f1.trans (f2.trans (f3.trans f4))⟩))
  have := h4.2 j hj
  rw [this]
  unfold tA
  congr 3
  dsimp only
  by_cases e0 : j = L
  · rw [if_neg (by omega), if_neg (by omega), if_neg (by omega), if_pos e0, if_pos e0]
  · by_cases e1 : j = L + 1
    · rw [if_neg (by omega), if_neg (by omega), if_pos e1, if_neg e0, if_pos e1]
    · by_cases e2 : j = L + 2
      · rw [if_neg (by omega), if_pos (by omega), if_neg e0, if_neg e1, if_pos e2]
      · by_cases e3 : j = L + 3
        · rw [if_pos (by omega), if_neg e0, if_neg e1, if_neg e2, if_pos e3]
        · rw [if_neg (by omega), if_neg (by omega), if_neg (by omega), if_neg e0, if_neg e0, if_neg e1, if_neg e2, if_neg e3]))
theorem s_four {L : Nat} {B : Nat → Nat} {x : Int32} (h : tpR v L B) (hL : L + 4 ≤ 300) : ZV (d + 1) m_X11_four [vR 11 0, vI x] v (fun u => tpR u (L + 4) (tA B L x) ∧ Fr fTr v u) := fun Q k => E_X11_four (B_X11_four_0 (by
  have step : ∀ (m : Nat) (B' : Nat → Nat) (sh : Nat) (s' : Int32) (u : z_V), sh < 32 → nI sh + (-8) = s' → m < 300 → tpR u m B' → (∀ u', tpR u' (m + 1) (fun j => if j = m then by4 x sh else B' j) → Fr fTr u u' → z_Wp (z_C d) 0 k_X11_four Q 3 [some (vR 11 0), some (vI x), some (vI s')] [] u') → z_Wp (z_C d) 0 k_X11_four Q 3 [some (vR 11 0), some (vI x), some (vI (nI sh))] [] u := by
    intro m B' sh s' u hsh hs' hm hu c
    refine B_X11_four_3 (br_F (nI_pos (by omega)) ?_)
    rw [hu.1, hs']
    refine z_ii m rfl (by omega) ?_
    rw [n_nI (by omega), by4_and, nI_1]
    refine c _ ⟨gI_pI_s, fun j hj => ?_⟩ ((Fr.rfl.pI (Or.inr rfl)).pI (Or.inl ⟨rfl, rfl⟩))
    rw [gI_pI_t (by decide)]
    by_cases e : j = m
    · subst e
      rw [gI_pI_s]
      dsimp only
      rw [if_pos rfl]
    · rw [gI_pI_k e]
      dsimp only
      rw [if_neg e]
      exact hu.2 j (by omega)
  refine step L B 24 16 v (by decide) (by decide) (by omega) h (fun u1 h1 f1 => ?_)
  refine step (L + 1) _ 16 8 u1 (by decide) (by decide) (by omega) h1 (fun u2 h2 f2 => ?_)
  refine step (L + 1 + 1) _ 8 0 u2 (by decide) (by decide) (by omega) h2 (fun u3 h3 f3 => ?_)
  refine step (L + 1 + 1 + 1) _ 0 (-8) u3 (by decide) (by decide) (by omega) h3 (fun u4 h4 f4 => ?_)
  refine B_X11_four_3 (br_T (by decide) (k _ ⟨⟨h4.1, fun j hj => ?_⟩, f1.trans (f2.trans (f3.trans f4))⟩))
  have := h4.2 j hj
  rw [this]
  unfold tA
  congr 1
  dsimp only
  by_cases e0 : j = L
  · rw [if_neg (by omega), if_neg (by omega), if_neg (by omega), if_pos e0, if_pos e0]
  · by_cases e1 : j = L + 1
    · rw [if_neg (by omega), if_neg (by omega), if_pos e1, if_neg e0, if_pos e1]
    · by_cases e2 : j = L + 2
      · rw [if_neg (by omega), if_pos (by omega), if_neg e0, if_neg e1, if_pos e2]
      · by_cases e3 : j = L + 3
        · rw [if_pos (by omega), if_neg e0, if_neg e1, if_neg e2, if_pos e3]
        · rw [if_neg (by omega), if_neg (by omega), if_neg (by omega), if_neg e0, if_neg e0, if_neg e1, if_neg e2, if_neg e3]))
def qTp (q : z_Q) (L : Nat) (B : Nat → Nat) : z_Q := (q.1, q.2.1, q.2.2.1, L, B, q.2.2.2.2.2)
theorem InvC.tp {u : z_V} {L : Nat} {B : Nat → Nat} (h : InvC v q) (f : Fr fTp v u) (hL : L ≤ 300) (hB : ∀ j, j < L → B j < 256) (ht : tpC u L B) : InvC u (qTp q L B) := by
  obtain ⟨a0, a1, a2, a3, a4, a5, a6, a7⟩ := h
  have fn : Fn (fun t n => t = 3 ∨ t = 400) v u := Fn.ofT f (fun t n k q => by unfold fTp at q; omega)
  refine ⟨⟨a0.1, hL, hB⟩, a1.fn fn (fun t m q => by unfold inW at q; omega), a2.fn fn (fun t m q => by unfold inW at q; omega), fun k hk => (a3 k hk).fn fn (by omega) (by omega) (by omega) (by omega) (by omega), fun k hk => (a4 k hk).fn fn (by omega) (by omega) (by omega) (by omega) (by omega), ht.1, ht.2, ?_⟩
  have g : ∀ k, k ≠ 1 → gI u 3 0 k = gI v 3 0 k := fun k hk => f.i (by unfold fTp; omega)
  rcases a7 with ⟨b1, b2, b3⟩ | ⟨b1, b2, b3⟩
  · exact Or.inl ⟨(g _ (by decide)).trans b1, b2, b3⟩
  · exact Or.inr ⟨(g _ (by decide)).trans b1, (g _ (by decide)).trans b2, (g _ (by decide)).trans b3⟩
theorem FC.tp {u : z_V} (f : Fr fTp v u) : FC v u := Fn.ofT f (fun t n k q => by unfold fTp at q; unfold tCl; omega)
theorem KC.tp {u : z_V} (f : Fr fTp v u) : KC v u := Fn.ofT f (fun t n k q => by unfold fTp at q; unfold tCa; omega)
theorem FR.tp {u : z_V} (f : Fr fTr v u) : FR v u := Fn.ofT f (fun t n k q => by unfold fTr at q; unfold tRf; omega)
theorem InvR.tp {u : z_V} {L : Nat} {B : Nat → Nat} (h : InvR v q) (f : Fr fTr v u) (hL : L ≤ 300) (hB : ∀ j, j < L → B j < 256) (ht : tpR u L B) : InvR u (qTp q L B) := by
  obtain ⟨a0, a1, a2, a3, a4, a5, a6, a7, a8⟩ := h
  have n : ∀ t k, ¬ (t = 11 ∧ k = 4) ∧ t ≠ 1203 → ¬ fTr t k := fun t k z q => by unfold fTr at q; omega
  exact ⟨⟨a0.1, hL, hB⟩, a1.cg (fun j _ => f.i (n _ _ (by omega))), a2.cg (fun j _ => f.i (n _ _ (by omega))), a3.fr f (fun _ => n _ _ (by omega)), ht.1, ht.2, (f.i (n _ _ (by omega))).trans a6, (f.i (n _ _ (by omega))).trans a7, (f.i (n _ _ (by omega))).trans a8⟩
theorem tA_lt {B : Nat → Nat} {L : Nat} {x : Int32} (h : ∀ j, j < L → B j < 256) : ∀ j, j < L + 4 → tA B L x j < 256 := by
  intro j hj
  unfold tA
  split
  · exact by4_lt
  · split
    · exact by4_lt
    · split
      · exact by4_lt
      · split
        · exact by4_lt
        · exact h j (by omega)
def fd5 (q : z_Q) (a b c d e : Int32) : Nat → Nat := tA (tA (tA (tA (tA (qB q) (qL q) a) (qL q + 4) b) (qL q + 4 + 4) c) (qL q + 4 + 4 + 4) d) (qL q + 4 + 4 + 4 + 4) e
def qFd (q : z_Q) (a b c d e : Int32) : z_Q × Int32 := if qL q + 20 ≤ 300 then (qTp q (qL q + 4 + 4 + 4 + 4 + 4) (fd5 q a b c d e), nI (qL q + 4 + 4 + 4 + 4 + 4)) else (q, -1)
theorem C_feed {a b c e g : Int32} (h : InvC v q) : GC (d + 2) m_X10_feed [vR 10 0, vI a, vI b, vI c, vI e, vI g] v (qFd q a b c e g).2 (qFd q a b c e g).1 := fun Q k => E_X10_feed (B_X10_feed_0 (by
  have hL := h.1.2.1
  have hB := h.1.2.2
  unfold qFd at k
  rw [h.2.2.2.2.2.1, show nI (qL q) + 20 = nI (qL q + 20) from nI_add _ 20]
  refine pk_le (qL q + 20) 300 (fun z => ?_) (fun z => ?_)
  · rw [if_pos z] at k
    have h0 : tpC v (qL q) (qB q) := ⟨h.2.2.2.2.2.1, h.2.2.2.2.2.2.1⟩
    refine cV (s_take h0 (by omega)) (fun u1 hu1 => cV (s_take hu1.1 (by omega)) (fun u2 hu2 => cV (s_take hu2.1 (by omega)) (fun u3 hu3 => cV (s_take hu3.1 (by omega)) (fun u4 hu4 => cV (s_take hu4.1 (by omega)) (fun u5 hu5 => ?_)))))
    have f := hu1.2.trans (hu2.2.trans (hu3.2.trans (hu4.2.trans hu5.2)))
    rw [hu5.1.1]
    exact k _ _ ⟨rfl, h.tp f (by omega) (tA_lt (tA_lt (tA_lt (tA_lt (tA_lt hB))))) hu5.1, FC.tp f, KC.tp f⟩
  · rw [if_neg (by omega)] at k
    exact k _ _ ⟨rfl, h, Fn.rfl, Fn.rfl⟩))
theorem R_feed {a b c e g : Int32} (h : InvR v q) : GR (d + 2) m_X11_feed [vR 11 0, vI a, vI b, vI c, vI e, vI g] v (qFd q a b c e g).2 (qFd q a b c e g).1 := fun Q k => E_X11_feed (B_X11_feed_0 (by
  have hL := h.1.2.1
  have hB := h.1.2.2
  unfold qFd at k
  rw [h.2.2.2.2.1, show nI (qL q) + 20 = nI (qL q + 20) from nI_add _ 20]
  refine pk_le (qL q + 20) 300 (fun z => ?_) (fun z => ?_)
  · rw [if_pos z] at k
    have h0 : tpR v (qL q) (qB q) := ⟨h.2.2.2.2.1, h.2.2.2.2.2.1⟩
    refine cV (s_four h0 (by omega)) (fun u1 hu1 => cV (s_four hu1.1 (by omega)) (fun u2 hu2 => cV (s_four hu2.1 (by omega)) (fun u3 hu3 => cV (s_four hu3.1 (by omega)) (fun u4 hu4 => cV (s_four hu4.1 (by omega)) (fun u5 hu5 => ?_)))))
    have f := hu1.2.trans (hu2.2.trans (hu3.2.trans (hu4.2.trans hu5.2)))
    rw [hu5.1.1]
    exact k _ _ ⟨rfl, h.tp f (by omega) (tA_lt (tA_lt (tA_lt (tA_lt (tA_lt hB))))) hu5.1, FR.tp f⟩
  · rw [if_neg (by omega)] at k
    exact k _ _ ⟨rfl, h, Fn.rfl⟩))
def qEn (q : z_Q) (a : Int32) : z_Q × Int32 := if inr a (qL q + 1) = true then (qTp q (n_ a) (qB q), a) else (q, -1)
theorem C_end {a : Int32} (h : InvC v q) : GC (d + 1) m_X10_end [vR 10 0, vI a] v (qEn q a).2 (qEn q a).1 := fun Q k => E_X10_end (B_X10_end_0 (by
  have hL := h.1.2.1
  unfold qEn at k
  rw [h.2.2.2.2.2.1]
  have no : inr a (qL q + 1) = false → Q v (some (vI (-1))) := fun e => by
    rw [if_neg (by rw [e]; decide)] at k
    exact k _ _ ⟨rfl, h, Fn.rfl, Fn.rfl⟩
  have yes : inr a (qL q + 1) = true → Q (pI v 3 0 1 a) (some (vI a)) := fun e => by
    rw [if_pos e] at k
    obtain ⟨n, hn, rfl, hna⟩ := inr_n (by omega) e
    rw [hna] at k
    have f : Fr fTp v (pI v 3 0 1 (nI n)) := Fr.rfl.pI (Or.inl ⟨rfl, rfl⟩)
    exact k _ _ ⟨rfl, h.tp f (by omega) (fun j hj => h.1.2.2 j (by omega)) ⟨gI_pI_s, fun j hj => by rw [gI_pI_t (by decide)]; exact h.2.2.2.2.2.2.1 j (by omega)⟩, FC.tp f, KC.tp f⟩
  have i := lt99_nI (a := a) (n := qL q) (by omega) no no yes
  exact ⟨i.1, fun z => ⟨fun z2 => (i.2 z).2 (Int32.not_lt.mpr z2), fun z2 => (i.2 z).1 (Int32.not_le.mp z2)⟩⟩))
theorem R_end {a : Int32} (h : InvR v q) : GR (d + 2) m_X11_end [vR 11 0, vI a] v (qEn q a).2 (qEn q a).1 := fun Q k => E_X11_end (B_X11_end_0 (by
  have hL := h.1.2.1
  unfold qEn at k
  rw [h.2.2.2.2.1]
  refine cP s_isIn ?_
  have e0 : decide ((0 : Int32) ≤ a ∧ a ≤ nI (qL q)) = inr a (qL q + 1) := by
    have := inr_le (a := a) (n := qL q + 1) (by omega)
    rw [nI_pred] at this
    exact this
  rw [e0]
  refine br_n (fun e => ?_) (fun e => ?_)
  · rw [if_pos e] at k
    obtain ⟨n, hn, rfl, hna⟩ := inr_n (by omega) e
    rw [hna] at k
    have f : Fr fTr v (pI v 11 0 4 (nI n)) := Fr.rfl.pI (Or.inl ⟨rfl, rfl⟩)
    exact k _ _ ⟨rfl, h.tp f (by omega) (fun j hj => h.1.2.2 j (by omega)) ⟨gI_pI_s, fun j hj => by rw [gI_pI_t (by decide)]; exact h.2.2.2.2.2.1 j (by omega)⟩, FR.tp f⟩
  · rw [if_neg (by rw [e]; decide)] at k
    exact k _ _ ⟨rfl, h, Fn.rfl⟩))
def fltV (q : z_Q) (a : Int32) : Int32 := if a = 0 then qF q else if a = 1 then qP q else -1
theorem C_fault {a : Int32} (h : InvC v q) : GC (d + 1) m_X10_fault [vR 10 0, vI a] v (fltV q a) q := fun Q k => E_X10_fault (B_X10_fault_0 (by
  have k0 : ∀ r, r = fltV q a → Q v (some (vI r)) := fun r hr => k _ _ ⟨hr, h, Fn.rfl, Fn.rfl⟩
  unfold fltV at k0
  rcases h.2.2.2.2.2.2.2 with ⟨b1, b2, b3⟩ | ⟨b1, b2, b3⟩
  · rw [b1]
    refine br_T rfl (k0 _ ?_)
    rw [b2, b3]
    split
    · rfl
    · split <;> rfl
  · rw [b1]
    refine br_F (by decide) ⟨fun z => k0 _ ?_, fun z => ⟨fun z2 => ⟨fun z3 => k0 _ ?_, fun z3 => k0 _ ?_⟩, fun z2 => k0 _ ?_⟩⟩
    · rw [if_neg (fun y => by subst y; exact absurd z (by decide)), if_neg (fun y => by subst y; exact absurd z (by decide))]
    · have : a = 1 := by
        rw [Int32.le_iff_toInt_le, show (1 : Int32).toInt = 1 by decide] at z2
        rw [Int32.lt_iff_toInt_lt, Int32.toInt_zero] at z
        rw [← Int32.toInt_inj, show (1 : Int32).toInt = 1 by decide]
        have : a.toInt ≠ 0 := fun y => z3 (by rw [← Int32.toInt_inj, y]; rfl)
        omega
      rw [if_neg z3, if_pos this, b3]
    · rw [if_pos z3, b2]
    · rw [if_neg (fun y => by subst y; exact z2 (by decide)), if_neg (fun y => by subst y; exact z2 (by decide))]))
theorem R_fault {a : Int32} (h : InvR v q) : GR (d + 1) m_X11_fault [vR 11 0, vI a] v (fltV q a) q := fun Q k => E_X11_fault (B_X11_fault_0 (by
  have k0 : ∀ r, r = fltV q a → Q v (some (vI r)) := fun r hr => k _ _ ⟨hr, h, Fn.rfl⟩
  unfold fltV at k0
  refine ⟨fun z => ⟨fun z2 => k0 _ ?_, fun z2 => k0 _ ?_⟩, fun z => k0 _ ?_⟩
  · rw [if_neg z, if_neg z2]
  · rw [if_neg z, if_pos z2]
    exact h.2.2.2.2.2.2.2.1
  · rw [if_pos z]
    exact h.2.2.2.2.2.2.1))
/-- said -/
def wSd (W : z_W) (a b : Int32) : z_W × Int32 := if a = -1 then ((W.1, W.2.1, W.2.2.1, W.2.2.2.1, W.2.2.2.2.1, W.2.2.2.2.2.1, W.2.2.2.2.2.2.1, W.2.2.2.2.2.2.2.1, 0, W.2.2.2.2.2.2.2.2.2), 0)
  else if (inr a (wN W) && (inr b 11 && decide (wQ W < 8))) = true then ((W.1, W.2.1, W.2.2.1, W.2.2.2.1, W.2.2.2.2.1, W.2.2.2.2.2.1, W.2.2.2.2.2.2.1, W.2.2.2.2.2.2.2.1, wQ W + 1, (fun i => if i = wQ W then n_ a else wL W i), (fun i => if i = wQ W then n_ b else wM W i)), nI (wQ W + 1))
  else (W, -2)
theorem wSd_ok {W : z_W} {a b : Int32} (h : okW W) : okW (wSd W a b).1 := by
  unfold wSd
  split
  · exact ⟨h.1, h.2.1, h.2.2.1, h.2.2.2.1, h.2.2.2.2.1, h.2.2.2.2.2.1, Nat.zero_le _, fun i hi => absurd hi (Nat.not_lt_zero _)⟩
  · split
    · rename_i e
      simp only [Bool.and_eq_true, decide_eq_true_eq] at e
      obtain ⟨l, hl, rfl, hnl⟩ := inr_n (by have := h.n; omega) e.1
      obtain ⟨r, hr, rfl, hnr⟩ := inr_n (by decide) e.2.1
      refine ⟨h.1, h.2.1, h.2.2.1, h.2.2.2.1, h.2.2.2.2.1, h.2.2.2.2.2.1, by show wQ W + 1 ≤ 8; omega, fun i hi => ?_⟩
      have hi : i < wQ W + 1 := hi
      show (if i = wQ W then n_ (nI l) else wL W i) < wN W ∧ (if i = wQ W then n_ (nI r) else wM W i) ≤ 10
      by_cases z : i = wQ W
      · rw [if_pos z, if_pos z, hnl, hnr]
        exact ⟨hl, by omega⟩
      · rw [if_neg z, if_neg z]
        exact h.2.2.2.2.2.2.2 i (by omega)
    · exact h
theorem wSd_T {W : z_W} {a b : Int32} : wT (wSd W a b).1 = wT W := by
  unfold wSd
  split
  · rfl
  · split <;> rfl
theorem C_said {a b : Int32} (h : InvC v q) : GC (d + 2) m_X10_said [vR 10 0, vI a, vI b] v (wSd (qW q) a b).2 (qSet q (wSd (qW q) a b).1) := fun Q k => E_X10_said (B_X10_said_0 (by
  have hR := h.2.1
  have hok := wSd_ok (a := a) (b := b) hR.1
  have hT := wSd_T (W := qW q) (a := a) (b := b)
  have hn := hR.1.n
  have hq8 := hR.1.2.2.2.2.2.2.1
  obtain ⟨a0, a1, a2, a3, a4, a5, ⟨g, b1, b2, b3⟩, a7, a8, a9⟩ := hR
  unfold wSd at k hok hT
  refine ⟨fun e => ?_, fun e => ?_⟩
  · rw [if_neg e] at k hok hT
    have no : ¬ ((inr a (wN (qW q)) && (inr b 11 && decide (wQ (qW q) < 8))) = true) → Q v (some (vI (-2))) := fun z => by
      rw [if_neg z] at k
      exact k _ _ ⟨rfl, h, Fn.rfl, Fn.rfl⟩
    refine cP (s_hasLine h.2.1.cw) (br_z (fun e1 => no (by rw [show inr a (wN (qW q)) = false from e1]; simp)) (fun e1 => ?_))
    have e1 : inr a (wN (qW q)) = true := e1
    refine lt99_nI (n := 10) (by decide) (fun e => no (by rw [e]; simp)) (fun e => no (by rw [e]; simp)) (fun e2 => ?_)
    refine pk_lt (wQ (qW q)) 8 (fun e3 => ?_) (fun e3 => no (by rw [decide_eq_false (by omega)]; simp)) a4 rfl
    rw [if_pos (by rw [e1, e2, decide_eq_true e3]; rfl)] at k hok hT
    obtain ⟨l, hl, rfl, hnl⟩ := inr_n (by omega) e1
    obtain ⟨r, hr, rfl, hnr⟩ := inr_n (by decide) e2
    rw [hnl, hnr] at k hok hT
    rw [a4, nI_1]
    refine z_ii (wQ (qW q)) rfl e3 (z_ii (wQ (qW q)) rfl e3 ?_)
    rw [n_nI (by omega)]
    have f : Fn (fun t n => (t = 9 ∨ t = 1004 ∨ t = 1005) ∧ n = 0) v (pI (pI (pI v 1004 0 (wQ (qW q)) (nI l)) 1005 0 (wQ (qW q)) (nI r)) 9 0 11 (nI (wQ (qW q) + 1))) := ((Fn.rfl.pI ⟨by decide, rfl⟩).pI ⟨by decide, rfl⟩).pI ⟨by decide, rfl⟩
    have f' := f.mono (S' := sWo 0) (fun t n q => Or.inl (Or.inl ⟨by omega, q.2⟩))
    refine k _ _ ⟨rfl, h.w0 f' ⟨hok, ?_, ?_, ?_, gI_pI_s, ?_, ⟨g, b1, ?_, fun i hi => (b3 i hi).fn f (by omega) (by omega) (by omega)⟩, fun l hl => ⟨(f.i (by omega)).trans (a7 l hl).1, (f.i (by omega)).trans (a7 l hl).2⟩, a8.fn f (by omega) (by omega) (by omega), fun i hi => ?_⟩ hT, FC.w0 f', KC.w0 f'⟩
    · rw [gI_pI_k (by decide), gI_pI_t (by decide), gI_pI_t (by decide)]; exact a1
    · rw [gI_pI_k (by decide), gI_pI_t (by decide), gI_pI_t (by decide)]; exact a2
    · rw [gI_pI_k (by decide), gI_pI_t (by decide), gI_pI_t (by decide)]; exact a3
    · rw [gI_pI_k (by decide), gI_pI_t (by decide), gI_pI_t (by decide)]; exact a5
    · rw [gI_pI_k (by decide), gI_pI_t (by decide), gI_pI_t (by decide)]; exact b2
    · have hi : i < wQ (qW q) + 1 := hi
      have l1 := gI_pI_t (v := pI (pI v 1004 0 (wQ (qW q)) (nI l)) 1005 0 (wQ (qW q)) (nI r)) (t := 9) (n := 0) (k := 11) (x := nI (wQ (qW q) + 1)) (t' := 1004) (n' := 0) (k' := i) (by decide)
      have l2 := gI_pI_t (v := pI (pI v 1004 0 (wQ (qW q)) (nI l)) 1005 0 (wQ (qW q)) (nI r)) (t := 9) (n := 0) (k := 11) (x := nI (wQ (qW q) + 1)) (t' := 1005) (n' := 0) (k' := i) (by decide)
      have l3 := gI_pI_t (v := pI v 1004 0 (wQ (qW q)) (nI l)) (t := 1005) (n := 0) (k := wQ (qW q)) (x := nI r) (t' := 1004) (n' := 0) (k' := i) (by decide)
      rw [l1, l2, l3]
      show _ = nI (if i = wQ (qW q) then l else wL (qW q) i) ∧ _ = nI (if i = wQ (qW q) then r else wM (qW q) i)
      by_cases e : i = wQ (qW q)
      · subst e
        rw [gI_pI_s, gI_pI_s, if_pos rfl, if_pos rfl]
        exact ⟨rfl, rfl⟩
      · have l4 := gI_pI_k (v := v) (t := 1004) (n := 0) (x := nI l) (t' := 1004) (n' := 0) e
        have l5 := gI_pI_k (v := pI v 1004 0 (wQ (qW q)) (nI l)) (t := 1005) (n := 0) (x := nI r) (t' := 1005) (n' := 0) e
        rw [l4, l5, gI_pI_t (by decide), if_neg e, if_neg e]
        exact a9 i (by omega)
  · rw [if_pos e] at k hok hT
    have f : Fn (fun t n => t = 9 ∧ n = 0) v (pI v 9 0 11 0) := Fn.rfl.pI ⟨rfl, rfl⟩
    have f' := f.mono (S' := sWo 0) (fun t n q => Or.inl (Or.inl ⟨Or.inl q.1, q.2⟩))
    refine k _ _ ⟨rfl, h.w0 f' ⟨hok, ?_, ?_, ?_, gI_pI_s, ?_, ⟨g, b1, ?_, fun i hi => (b3 i hi).fn f (by omega) (by omega) (by omega)⟩, fun l hl => ⟨(f.i (by omega)).trans (a7 l hl).1, (f.i (by omega)).trans (a7 l hl).2⟩, a8.fn f (by omega) (by omega) (by omega), fun i hi => absurd hi (Nat.not_lt_zero _)⟩ hT, FC.w0 f', KC.w0 f'⟩
    · rw [gI_pI_k (by decide)]; exact a1
    · rw [gI_pI_k (by decide)]; exact a2
    · rw [gI_pI_k (by decide)]; exact a3
    · rw [gI_pI_k (by decide)]; exact a5
    · rw [gI_pI_k (by decide)]; exact b2))
theorem R_said {a b : Int32} (h : InvR v q) : GR (d + 3) m_X11_said [vR 11 0, vI a, vI b] v (wSd (qW q) a b).2 (qSet q (wSd (qW q) a b).1) := fun Q k => E_X11_said (B_X11_said_0 (by
  have hR := h.2.1
  have hok := wSd_ok (a := a) (b := b) hR.1
  have hT := wSd_T (W := qW q) (a := a) (b := b)
  have hn := hR.1.n
  have hq8 := hR.1.2.2.2.2.2.2.1
  have hc := hR.1.2.2.1
  obtain ⟨a0, a1, a2, a3, a4, a5, a6, a7, a8, a9⟩ := hR
  unfold wSd at k hok hT
  refine ⟨fun e => ?_, fun e => ?_⟩
  · rw [if_neg e] at k hok hT
    have no : ¬ ((inr a (wN (qW q)) && (inr b 11 && decide (wQ (qW q) < 8))) = true) → Q v (some (vI (-2))) := fun z => by
      rw [if_neg z] at k
      exact k _ _ ⟨rfl, h, Fn.rfl⟩
    refine cP (s_isLine h.2.1.me.1) (br_z (fun e1 => no (by rw [show inr a (wN (qW q)) = false from e1]; simp)) (fun e1 => ?_))
    have e1 : inr a (wN (qW q)) = true := e1
    refine cP s_isIn ?_
    rw [show decide ((0 : Int32) ≤ b ∧ b ≤ 10) = inr b 11 from inr_le (n := 11) (by decide)]
    refine br_z (fun e => no (by rw [e]; simp)) (fun e2 => ?_)
    refine pk_ne (wQ (qW q)) 8 (fun e3 => ?_) (fun e3 => no (by rw [decide_eq_false (by omega)]; simp)) a5 rfl
    have e3 : wQ (qW q) < 8 := by omega
    rw [if_pos (by rw [e1, e2, decide_eq_true e3]; rfl)] at k hok hT
    obtain ⟨l, hl, rfl, hnl⟩ := inr_n (by omega) e1
    obtain ⟨r, hr, rfl, hnr⟩ := inr_n (by decide) e2
    rw [hnl, hnr] at k hok hT
    have ea : (37 : Int32) + 2 * nI (wQ (qW q)) = nI (37 + 2 * wQ (qW q)) := by rw [show (37 : Int32) = nI 37 from rfl, show (2 : Int32) = nI 2 from rfl, pk_mul, nI_add]
    rw [a5, ea, n_nI (by omega), gI_pI_k (by omega), a5, ea, nI_1]
    refine z_ii _ rfl (by omega) (z_ii _ rfl (by omega) ?_)
    rw [n_nI (by omega), gI_pI_k (by omega), gI_pI_k (by omega), a5, nI_1]
    refine B_X11_said_92 ?_
    rw [gI_pI_s]
    generalize hu : pI (pI (pI v 1200 0 (37 + 2 * wQ (qW q)) (nI l)) 1200 0 (37 + 2 * wQ (qW q) + 1) (nI r)) 1200 0 4 (nI (wQ (qW q) + 1)) = u
    have f : Fr (sT [1200]) v u := by
      rw [← hu]
      exact Fr_A.trans (Fr_A.trans Fr_A)
    have g4 : gI u 1200 0 4 = nI (wQ (qW q) + 1) := by rw [← hu, gI_pI_s]
    have gx : gI u 1200 0 (37 + 2 * wQ (qW q)) = nI l := by rw [← hu, gI_pI_k (by omega), gI_pI_k (by omega), gI_pI_s]
    have gy : gI u 1200 0 (38 + 2 * wQ (qW q)) = nI r := by rw [← hu, gI_pI_k (by omega), show 38 + 2 * wQ (qW q) = 37 + 2 * wQ (qW q) + 1 by omega, gI_pI_s]
    have ge : ∀ j, j ≠ 4 → j ≠ 37 + 2 * wQ (qW q) → j ≠ 37 + 2 * wQ (qW q) + 1 → gI u 1200 0 j = gI v 1200 0 j := fun j h1 h2 h3 => by rw [← hu, gI_pI_k h1, gI_pI_k h3, gI_pI_k h2]
    refine k _ _ ⟨rfl, h.ps (sPs_a f) ⟨hok, (ge _ (by omega) (by omega) (by omega)).trans a1, (ge _ (by omega) (by omega) (by omega)).trans a2, (ge _ (by omega) (by omega) (by omega)).trans a3, (ge _ (by omega) (by omega) (by omega)).trans a4, g4, a6.cg (fun j _ => ge _ (by omega) (by omega) (by omega)) (fun j _ => ge _ (by omega) (by omega) (by omega)) (fun _ _ => rfl), fun i hi => ?_, fun i hi => ?_, fun i hi => ?_⟩ hT, FR.ps (sPs_a f)⟩
    · obtain ⟨m, m1, m2, m3, m4⟩ := a7 i hi
      exact ⟨m, m1, (ge _ (by omega) (by omega) (by omega)).trans m2, m3, m4.cg (fun j _ => ge _ (by omega) (by omega) (by omega)) (fun j _ => ge _ (by omega) (by omega) (by omega)) (fun _ _ => rfl)⟩
    · have hi : i < wN (qW q) := hi
      exact ⟨(ge _ (by omega) (by omega) (by omega)).trans (a8 i hi).1, (ge _ (by omega) (by omega) (by omega)).trans (a8 i hi).2⟩
    · have hi : i < wQ (qW q) + 1 := hi
      show _ = nI (if i = wQ (qW q) then l else wL (qW q) i) ∧ _ = nI (if i = wQ (qW q) then r else wM (qW q) i)
      by_cases e : i = wQ (qW q)
      · subst e
        rw [if_pos rfl, if_pos rfl]
        exact ⟨gx, gy⟩
      · rw [if_neg e, if_neg e]
        exact ⟨(ge _ (by omega) (by omega) (by omega)).trans (a9 i (by omega)).1, (ge _ (by omega) (by omega) (by omega)).trans (a9 i (by omega)).2⟩
  · rw [if_pos e] at k hok hT
    have g : ∀ j, j ≠ 4 → gI (pI v 1200 0 4 0) 1200 0 j = gI v 1200 0 j := fun j hj => gI_pI_k hj
    refine k _ _ ⟨rfl, h.ps (sPs_a Fr_A) ⟨hok, (g _ (by omega)).trans a1, (g _ (by omega)).trans a2, (g _ (by omega)).trans a3, (g _ (by omega)).trans a4, gI_pI_s, a6.cg (fun j _ => g _ (by omega)) (fun j _ => g _ (by omega)) (fun _ _ => rfl), fun i hi => ?_, fun l hl => ⟨(g _ (by omega)).trans (a8 l hl).1, (g _ (by omega)).trans (a8 l hl).2⟩, fun i hi => absurd hi (Nat.not_lt_zero _)⟩ hT, FR.ps (sPs_a Fr_A)⟩
    obtain ⟨m, m1, m2, m3, m4⟩ := a7 i hi
    exact ⟨m, m1, (g _ (by omega)).trans m2, m3, m4.cg (fun j _ => g _ (by omega)) (fun j _ => g _ (by omega)) (fun _ _ => rfl)⟩))
end IV3
