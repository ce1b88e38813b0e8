/-! worlds as numbers: a standing (0 day, 1 x, 2 fund, 3 written, 4 shut, 5 .. 11 numbers, 12 .. 36 pages), a world; frames by rows -/
abbrev z_St : Type := Nat → Nat
abbrev z_W : Type := Nat × ((Nat → Nat) × ((Nat → Nat) × (z_St × (Nat × ((Nat → z_St) × (Int32 × (Nat × (Nat × ((Nat → Nat) × (Nat → Nat))))))))))
def wN (W : z_W) : Nat := W.1
def wA (W : z_W) : Nat → Nat := W.2.1
def wB (W : z_W) : Nat → Nat := W.2.2.1
def wS (W : z_W) : z_St := W.2.2.2.1
def wC (W : z_W) : Nat := W.2.2.2.2.1
def wH (W : z_W) : Nat → z_St := W.2.2.2.2.2.1
def wR (W : z_W) : Int32 := W.2.2.2.2.2.2.1
def wT (W : z_W) : Nat := W.2.2.2.2.2.2.2.1
def wQ (W : z_W) : Nat := W.2.2.2.2.2.2.2.2.1
def wL (W : z_W) : Nat → Nat := W.2.2.2.2.2.2.2.2.2.1
def wM (W : z_W) : Nat → Nat := W.2.2.2.2.2.2.2.2.2.2
def sU (s : z_St) (k x : Nat) : z_St := fun j => if j = k then x else s j
theorem sU_s {s : z_St} {k x : Nat} : sU s k x k = x := if_pos rfl
theorem sU_n {s : z_St} {k x j : Nat} (h : j ≠ k) : sU s k x j = s j := if_neg h
def wS' (W : z_W) (s : z_St) : z_W := (W.1, W.2.1, W.2.2.1, s, W.2.2.2.2)
def okS (n : Nat) (s : z_St) : Prop := s 0 ≤ 9999 ∧ s 1 < 31013 ∧ s 2 ≤ 99999 ∧ s 3 ≤ 25 ∧ s 4 < 2 ^ n ∧ (∀ h, h < 7 → s (5 + h) ≤ 99) ∧ ∀ k, k < 25 → s (12 + k) < 30000000
theorem okS.up {n m : Nat} {s : z_St} (h : okS n s) (hm : n ≤ m) : okS m s := ⟨h.1, h.2.1, h.2.2.1, h.2.2.2.1, Nat.lt_of_lt_of_le h.2.2.2.2.1 (Nat.pow_le_pow_right (by decide) hm), h.2.2.2.2.2⟩
def wNet (W : z_W) : z_N := (wN W, (2 ^ wN W - 1 - wS W 4, (wA W, wB W)))
def wnu (W : z_W) : Nat → Nat := fun h => wS W (5 + h)
def okW (W : z_W) : Prop := nWF (wNet W) ∧ okS (wN W) (wS W) ∧ wC W ≤ 30 ∧ (∀ i, i < wC W → okS (wN W) (wH W i)) ∧ wT W ≤ 4 ∧ (wR W = -1 ∨ ∃ k, k < wT W ∧ wR W = nI k) ∧ wQ W ≤ 8 ∧ ∀ i, i < wQ W → wL W i < wN W ∧ wM W i ≤ 10
theorem okW.n {W : z_W} (h : okW W) : wN W ≤ 10 := h.1.1
/-- the same net, whatever is shut -/
theorem nWF_o {n o o' : Nat} {A B : Nat → Nat} (h : nWF (n, (o, (A, B)))) (ho : o' < 2 ^ n) : nWF (n, (o', (A, B))) := ⟨h.1, ho, h.2.2⟩
theorem okW.set {W : z_W} {s : z_St} (h : okW W) (hs : okS (wN W) s) : okW (wS' W s) := ⟨nWF_o h.1 (by have := Nat.two_pow_pos (wN W); show 2 ^ wN W - 1 - s 4 < 2 ^ wN W; omega), hs, h.2.2⟩
/-- rows that may change -/
def Fn (S : Nat → Nat → Prop) (v u : z_V) : Prop := (∀ t n k, ¬ S t n → gI u t n k = gI v t n k ∧ gL u t n k = gL v t n k) ∧ gJ u = gJ v
theorem Fn.rfl {S : Nat → Nat → Prop} {v : z_V} : Fn S v v := ⟨fun _ _ _ _ => ⟨Eq.refl _, Eq.refl _⟩, Eq.refl _⟩
theorem Fn.trans {S : Nat → Nat → Prop} {u v w : z_V} (h1 : Fn S u v) (h2 : Fn S v w) : Fn S u w := ⟨fun t n k h => ⟨((h2.1 t n k h).1).trans (h1.1 t n k h).1, ((h2.1 t n k h).2).trans (h1.1 t n k h).2⟩, h2.2.trans h1.2⟩
theorem Fn.mono {S S' : Nat → Nat → Prop} {v w : z_V} (h : Fn S v w) (hs : ∀ t n, S t n → S' t n) : Fn S' v w := ⟨fun t n k q => h.1 t n k (fun z => q (hs t n z)), h.2⟩
theorem Fn.pI {S : Nat → Nat → Prop} {u v : z_V} {t n k : Nat} {x : Int32} (h : Fn S u v) (hs : S t n) : Fn S u (pI v t n k x) := h.trans ⟨fun t' n' k' q => ⟨if_neg (fun e => q (by rw [e.1, e.2.2]; exact hs)), Eq.refl _⟩, Eq.refl _⟩
theorem Fn.pL {S : Nat → Nat → Prop} {u v : z_V} {t n k : Nat} {x : Int64} (h : Fn S u v) (hs : S t n) : Fn S u (pL v t n k x) := h.trans ⟨fun t' n' k' q => ⟨Eq.refl _, if_neg (fun e => q (by rw [e.1, e.2.2]; exact hs))⟩, Eq.refl _⟩
theorem Fn.pC {S : Nat → Nat → Prop} {u v : z_V} {t n sp t2 n2 dp len : Nat} (h : Fn S u v) (hs : S t2 n2) : Fn S u (pC v t n sp t2 n2 dp len) := h.trans ⟨fun t' n' k' q => ⟨if_neg (fun e => q (by rw [e.1, e.2]; exact hs)), Eq.refl _⟩, Eq.refl _⟩
theorem Fn.i {S : Nat → Nat → Prop} {v w : z_V} (h : Fn S v w) {t n k : Nat} (hs : ¬ S t n) : gI w t n k = gI v t n k := (h.1 t n k hs).1
theorem Fn.l {S : Nat → Nat → Prop} {v w : z_V} (h : Fn S v w) {t n k : Nat} (hs : ¬ S t n) : gL w t n k = gL v t n k := (h.1 t n k hs).2
theorem Fn.ofT {S : Nat → Nat → Prop} {S' : Nat → Nat → Prop} {v w : z_V} (h : Fr S' v w) (hs : ∀ t n k, S' t k → S t n) : Fn S v w := ⟨fun t n k q => h.1 t n k (fun z => q (hs t n k z)), h.2⟩
theorem Fn.ofL {S : Nat → Nat → Prop} {L : List Nat} {v w : z_V} (h : Fr (sT L) v w) (hs : ∀ t, t ∈ L → ∀ n, S t n) : Fn S v w := h.1 |> fun _ => Fn.ofT h (fun t n _ q => hs t q n)
theorem gI_pI_n {v : z_V} {t n k : Nat} {x : Int32} {t' n' k' : Nat} (h : n' ≠ n) : gI (pI v t n k x) t' n' k' = gI v t' n' k' := if_neg (fun e => h e.2.2)
theorem gI_pC_s {v : z_V} {t n sp t2 n2 dp len k : Nat} : gI (pC v t n sp t2 n2 dp len) t2 n2 k = va_cpy (gI v t n) (gI v t2 n2) sp dp len k := if_pos ⟨Eq.refl _, Eq.refl _⟩
theorem gI_pC_t {v : z_V} {t n sp t2 n2 dp len t' n' k : Nat} (h : t' ≠ t2) : gI (pC v t n sp t2 n2 dp len) t' n' k = gI v t' n' k := if_neg (fun e => h e.1)
theorem gI_pC_n {v : z_V} {t n sp t2 n2 dp len t' n' k : Nat} (h : n' ≠ n2) : gI (pC v t n sp t2 n2 dp len) t' n' k = gI v t' n' k := if_neg (fun e => h e.2)
/-- the class's standing number n -/
def RS (v : z_V) (n : Nat) (s : z_St) : Prop := gI v 4 n 5 = nI (s 0) ∧ gI v 4 n 6 = nI (s 1) ∧ gI v 4 n 4 = nI (s 2) ∧ gI v 4 n 2 = nI (s 3) ∧ gI v 4 n 3 = nI (s 4) ∧ (∀ h, h < 7 → gI v 500 n h = nI (s (5 + h))) ∧ ∀ k, k < 25 → gI v 501 n k = nI (s (12 + k))
def sSt (a : Nat) : Nat → Nat → Prop := fun t n => (t = 4 ∨ t = 500 ∨ t = 501) ∧ n = a
theorem RS.fn {v u : z_V} {n : Nat} {s : z_St} {S : Nat → Nat → Prop} (h : RS v n s) (f : Fn S v u) (h4 : ¬ S 4 n) (h5 : ¬ S 500 n) (h6 : ¬ S 501 n) : RS u n s := ⟨(f.i h4).trans h.1, (f.i h4).trans h.2.1, (f.i h4).trans h.2.2.1, (f.i h4).trans h.2.2.2.1, (f.i h4).trans h.2.2.2.2.1, fun k hk => (f.i h5).trans (h.2.2.2.2.2.1 k hk), fun k hk => (f.i h6).trans (h.2.2.2.2.2.2 k hk)⟩
theorem RS.cg {v : z_V} {n : Nat} {s s' : z_St} (h : RS v n s) (e : ∀ k, k < 37 → s' k = s k) : RS v n s' := ⟨by rw [e 0 (by decide)]; exact h.1, by rw [e 1 (by decide)]; exact h.2.1, by rw [e 2 (by decide)]; exact h.2.2.1, by rw [e 3 (by decide)]; exact h.2.2.2.1, by rw [e 4 (by decide)]; exact h.2.2.2.2.1, fun k hk => by rw [e _ (by omega)]; exact h.2.2.2.2.2.1 k hk, fun k hk => by rw [e _ (by omega)]; exact h.2.2.2.2.2.2 k hk⟩
theorem RS.d {v : z_V} {n x : Nat} {s : z_St} (h : RS v n s) : RS (pI v 4 n 5 (nI x)) n (sU s 0 x) := by
  refine ⟨by rw [gI_pI_s, sU_s], ?_, ?_, ?_, ?_, fun k hk => ?_, fun k hk => ?_⟩
  · rw [gI_pI_k (by decide), sU_n (by decide)]; exact h.2.1
  · rw [gI_pI_k (by decide), sU_n (by decide)]; exact h.2.2.1
  · rw [gI_pI_k (by decide), sU_n (by decide)]; exact h.2.2.2.1
  · rw [gI_pI_k (by decide), sU_n (by decide)]; exact h.2.2.2.2.1
  · rw [gI_pI_t (by decide), sU_n (by omega)]; exact h.2.2.2.2.2.1 k hk
  · rw [gI_pI_t (by decide), sU_n (by omega)]; exact h.2.2.2.2.2.2 k hk
theorem RS.x {v : z_V} {n x : Nat} {s : z_St} (h : RS v n s) : RS (pI v 4 n 6 (nI x)) n (sU s 1 x) := by
  refine ⟨?_, by rw [gI_pI_s, sU_s], ?_, ?_, ?_, fun k hk => ?_, fun k hk => ?_⟩
  · rw [gI_pI_k (by decide), sU_n (by decide)]; exact h.1
  · rw [gI_pI_k (by decide), sU_n (by decide)]; exact h.2.2.1
  · rw [gI_pI_k (by decide), sU_n (by decide)]; exact h.2.2.2.1
  · rw [gI_pI_k (by decide), sU_n (by decide)]; exact h.2.2.2.2.1
  · rw [gI_pI_t (by decide), sU_n (by omega)]; exact h.2.2.2.2.2.1 k hk
  · rw [gI_pI_t (by decide), sU_n (by omega)]; exact h.2.2.2.2.2.2 k hk
theorem RS.f {v : z_V} {n x : Nat} {s : z_St} (h : RS v n s) : RS (pI v 4 n 4 (nI x)) n (sU s 2 x) := by
  refine ⟨?_, ?_, by rw [gI_pI_s, sU_s], ?_, ?_, fun k hk => ?_, fun k hk => ?_⟩
  · rw [gI_pI_k (by decide), sU_n (by decide)]; exact h.1
  · rw [gI_pI_k (by decide), sU_n (by decide)]; exact h.2.1
  · rw [gI_pI_k (by decide), sU_n (by decide)]; exact h.2.2.2.1
  · rw [gI_pI_k (by decide), sU_n (by decide)]; exact h.2.2.2.2.1
  · rw [gI_pI_t (by decide), sU_n (by omega)]; exact h.2.2.2.2.2.1 k hk
  · rw [gI_pI_t (by decide), sU_n (by omega)]; exact h.2.2.2.2.2.2 k hk
theorem RS.w {v : z_V} {n x : Nat} {s : z_St} (h : RS v n s) : RS (pI v 4 n 2 (nI x)) n (sU s 3 x) := by
  refine ⟨?_, ?_, ?_, by rw [gI_pI_s, sU_s], ?_, fun k hk => ?_, fun k hk => ?_⟩
  · rw [gI_pI_k (by decide), sU_n (by decide)]; exact h.1
  · rw [gI_pI_k (by decide), sU_n (by decide)]; exact h.2.1
  · rw [gI_pI_k (by decide), sU_n (by decide)]; exact h.2.2.1
  · rw [gI_pI_k (by decide), sU_n (by decide)]; exact h.2.2.2.2.1
  · rw [gI_pI_t (by decide), sU_n (by omega)]; exact h.2.2.2.2.2.1 k hk
  · rw [gI_pI_t (by decide), sU_n (by omega)]; exact h.2.2.2.2.2.2 k hk
theorem RS.s {v : z_V} {n x : Nat} {s : z_St} (h : RS v n s) : RS (pI v 4 n 3 (nI x)) n (sU s 4 x) := by
  refine ⟨?_, ?_, ?_, ?_, by rw [gI_pI_s, sU_s], fun k hk => ?_, fun k hk => ?_⟩
  · rw [gI_pI_k (by decide), sU_n (by decide)]; exact h.1
  · rw [gI_pI_k (by decide), sU_n (by decide)]; exact h.2.1
  · rw [gI_pI_k (by decide), sU_n (by decide)]; exact h.2.2.1
  · rw [gI_pI_k (by decide), sU_n (by decide)]; exact h.2.2.2.1
  · rw [gI_pI_t (by decide), sU_n (by omega)]; exact h.2.2.2.2.2.1 k hk
  · rw [gI_pI_t (by decide), sU_n (by omega)]; exact h.2.2.2.2.2.2 k hk
theorem RS.h {v : z_V} {n x g : Nat} {s : z_St} (h : RS v n s) (hg : g < 7) : RS (pI v 500 n g (nI x)) n (sU s (5 + g) x) := by
  refine ⟨?_, ?_, ?_, ?_, ?_, fun k hk => ?_, fun k hk => ?_⟩
  · rw [gI_pI_t (by decide), sU_n (by omega)]; exact h.1
  · rw [gI_pI_t (by decide), sU_n (by omega)]; exact h.2.1
  · rw [gI_pI_t (by decide), sU_n (by omega)]; exact h.2.2.1
  · rw [gI_pI_t (by decide), sU_n (by omega)]; exact h.2.2.2.1
  · rw [gI_pI_t (by decide), sU_n (by omega)]; exact h.2.2.2.2.1
  · by_cases e : k = g
    · subst e
      rw [gI_pI_s, sU_s]
    · rw [gI_pI_k e, sU_n (by omega)]; exact h.2.2.2.2.2.1 k hk
  · rw [gI_pI_t (by decide), sU_n (by omega)]; exact h.2.2.2.2.2.2 k hk
theorem RS.p {v : z_V} {n x g : Nat} {s : z_St} (h : RS v n s) (hg : g < 25) : RS (pI v 501 n g (nI x)) n (sU s (12 + g) x) := by
  refine ⟨?_, ?_, ?_, ?_, ?_, fun k hk => ?_, fun k hk => ?_⟩
  · rw [gI_pI_t (by decide), sU_n (by omega)]; exact h.1
  · rw [gI_pI_t (by decide), sU_n (by omega)]; exact h.2.1
  · rw [gI_pI_t (by decide), sU_n (by omega)]; exact h.2.2.1
  · rw [gI_pI_t (by decide), sU_n (by omega)]; exact h.2.2.2.1
  · rw [gI_pI_t (by decide), sU_n (by omega)]; exact h.2.2.2.2.1
  · rw [gI_pI_t (by decide), sU_n (by omega)]; exact h.2.2.2.2.2.1 k hk
  · by_cases e : k = g
    · subst e
      rw [gI_pI_s, sU_s]
    · rw [gI_pI_k e, sU_n (by omega)]; exact h.2.2.2.2.2.2 k hk
/-- a line comes into the book -/
def sPg (s : z_St) (what which num : Nat) : Nat := ((s 0 * 3 + what) * 10 + which) * 100 + num
def sSh (s : z_St) : z_St := fun k => if 12 ≤ k ∧ k < 36 then s (k + 1) else s k
theorem sSh_i {s : z_St} {k : Nat} (h : 12 ≤ k ∧ k < 36) : sSh s k = s (k + 1) := if_pos h
theorem sSh_o {s : z_St} {k : Nat} (h : ¬ (12 ≤ k ∧ k < 36)) : sSh s k = s k := if_neg h
def sWr (s : z_St) (what which num : Nat) : z_St := if s 3 < 25 then sU (sU s (12 + s 3) (sPg s what which num)) 3 (s 3 + 1)
  else sU (sU (sSh s) 36 (sPg s what which num)) 3 25
def sDr (s : z_St) : z_St := sU s 1 ((s 1 * 691 + 569) % 31013)
theorem sDr_ok {n : Nat} {s : z_St} (h : okS n s) : okS n (sDr s) := by
  unfold sDr
  refine ⟨?_, ?_, ?_, ?_, ?_, fun k hk => ?_, fun k hk => ?_⟩
  · rw [sU_n (by decide)]; exact h.1
  · rw [sU_s]; exact Nat.mod_lt _ (by decide)
  · rw [sU_n (by decide)]; exact h.2.2.1
  · rw [sU_n (by decide)]; exact h.2.2.2.1
  · rw [sU_n (by decide)]; exact h.2.2.2.2.1
  · rw [sU_n (by omega)]; exact h.2.2.2.2.2.1 k hk
  · rw [sU_n (by omega)]; exact h.2.2.2.2.2.2 k hk
theorem sWr_ok {n what which num : Nat} {s : z_St} (h : okS n s) (h1 : what ≤ 2) (h2 : which ≤ 9) (h3 : num ≤ 99) : okS n (sWr s what which num) := by
  have hp : sPg s what which num < 30000000 := by
    have := h.1
    unfold sPg
    omega
  unfold sWr
  by_cases e : s 3 < 25
  · rw [if_pos e]
    refine ⟨?_, ?_, ?_, ?_, ?_, fun k hk => ?_, fun k hk => ?_⟩
    · rw [sU_n (by omega), sU_n (by omega)]; exact h.1
    · rw [sU_n (by omega), sU_n (by omega)]; exact h.2.1
    · rw [sU_n (by omega), sU_n (by omega)]; exact h.2.2.1
    · rw [sU_s]; omega
    · rw [sU_n (by omega), sU_n (by omega)]; exact h.2.2.2.2.1
    · rw [sU_n (by omega), sU_n (by omega)]; exact h.2.2.2.2.2.1 k hk
    · rw [sU_n (by omega)]
      by_cases q : 12 + k = 12 + s 3
      · rw [q, sU_s]; exact hp
      · rw [sU_n q]; exact h.2.2.2.2.2.2 k hk
  · rw [if_neg e]
    refine ⟨?_, ?_, ?_, ?_, ?_, fun k hk => ?_, fun k hk => ?_⟩
    · rw [sU_n (by omega), sU_n (by omega), sSh_o (by omega)]; exact h.1
    · rw [sU_n (by omega), sU_n (by omega), sSh_o (by omega)]; exact h.2.1
    · rw [sU_n (by omega), sU_n (by omega), sSh_o (by omega)]; exact h.2.2.1
    · rw [sU_s]; omega
    · rw [sU_n (by omega), sU_n (by omega), sSh_o (by omega)]; exact h.2.2.2.2.1
    · rw [sU_n (by omega), sU_n (by omega), sSh_o (by omega)]; exact h.2.2.2.2.2.1 k hk
    · rw [sU_n (by omega)]
      by_cases q : 12 + k = 36
      · rw [q, sU_s]; exact hp
      · rw [sU_n q, sSh_i (by omega)]
        have := h.2.2.2.2.2.2 (k + 1) (by omega)
        rw [show 12 + k + 1 = 12 + (k + 1) by omega]
        exact this
section WD0
variable {d : Nat} {v : z_V}
theorem s_become4 {a b : Nat} {s : z_St} (h : RS v b s) (e : b ≠ a) : ZV (d + 1) m_X4_become [vR 4 a, vR 4 b] v (fun u => RS u a s ∧ Fn (sSt a) v u) := fun Q k => E_X4_become (B_X4_become_0 (by
  have f : Fn (sSt a) v (pC (pC v 500 b 0 500 a 0 7) 501 b 0 501 a 0 25) := (Fn.rfl.pC ⟨Or.inr (Or.inl rfl), rfl⟩).pC ⟨Or.inr (Or.inr rfl), rfl⟩
  have i4 : ∀ {u : z_V}, Fn (sSt a) v u → ∀ k, Fn (sSt a) v (pI u 4 a k (gI u 4 b k)) := fun h k => h.pI ⟨Or.inl rfl, rfl⟩
  refine k _ ⟨?_, i4 (i4 (i4 (i4 (i4 f 2) 3) 4) 5) 6⟩
  have hb : ∀ {u : z_V}, Fn (sSt a) v u → RS u b s := fun f => h.fn f (fun q => e q.2) (fun q => e q.2) (fun q => e q.2)
  refine ⟨?_, ?_, ?_, ?_, ?_, fun k hk => ?_, fun k hk => ?_⟩
  · rw [gI_pI_k (by decide), gI_pI_s]; exact (hb (i4 (i4 (i4 f 2) 3) 4)).1
  · rw [gI_pI_s]; exact (hb (i4 (i4 (i4 (i4 f 2) 3) 4) 5)).2.1
  · rw [gI_pI_k (by decide), gI_pI_k (by decide), gI_pI_s]; exact (hb (i4 (i4 f 2) 3)).2.2.1
  · rw [gI_pI_k (by decide), gI_pI_k (by decide), gI_pI_k (by decide), gI_pI_k (by decide), gI_pI_s]; exact (hb f).2.2.2.1
  · rw [gI_pI_k (by decide), gI_pI_k (by decide), gI_pI_k (by decide), gI_pI_s]; exact (hb (i4 f 2)).2.2.2.2.1
  · rw [gI_pI_t (by decide), gI_pI_t (by decide), gI_pI_t (by decide), gI_pI_t (by decide), gI_pI_t (by decide), gI_pC_t (by decide), gI_pC_s, pk_cpy_in (by omega) (by omega)]
    rw [show 0 + (k - 0) = k by omega]
    exact h.2.2.2.2.2.1 k hk
  · rw [gI_pI_t (by decide), gI_pI_t (by decide), gI_pI_t (by decide), gI_pI_t (by decide), gI_pI_t (by decide), gI_pC_s, pk_cpy_in (by omega) (by omega), gI_pC_t (by decide)]
    rw [show 0 + (k - 0) = k by omega]
    exact h.2.2.2.2.2.2 k hk))
theorem i_rem_nI' {a w : Nat} (ha : a < 2 ^ 31) (h0 : 0 < w) (hw : w < 2 ^ 31) : i_rem (nI a) (nI w) = nI (a % w) := pk_rem ha h0 hw
theorem s_draw4 {a n : Nat} {s : z_St} (h : RS v a s) (ho : okS n s) : ZI (d + 1) m_X4_draw [vR 4 a] v (fun u x => x = nI (s 1) ∧ RS u a (sDr s) ∧ Fn (sSt a) v u) := fun Q k => E_X4_draw (B_X4_draw_0 (by
  have hx := ho.2.1
  have e : i_rem (nI (s 1) * 691 + 569) 31013 = nI ((s 1 * 691 + 569) % 31013) := by
    rw [show (691 : Int32) = nI 691 from rfl, show (569 : Int32) = nI 569 from rfl, show (31013 : Int32) = nI 31013 from rfl, pk_mul, nI_add]
    exact i_rem_nI' (by omega) (by decide) (by decide)
  rw [h.2.1, e]
  exact k _ _ ⟨rfl, h.x, Fn.rfl.pI ⟨Or.inl rfl, rfl⟩⟩))
theorem s_write4 {a n what which num : Nat} {s : z_St} (h : RS v a s) (ho : okS n s) (h1 : what ≤ 2) (h2 : which ≤ 9) (h3 : num ≤ 99) : ZV (d + 1) m_X4_write [vR 4 a, vI (nI what), vI (nI which), vI (nI num)] v (fun u => RS u a (sWr s what which num) ∧ Fn (sSt a) v u) := fun Q k => E_X4_write (B_X4_write_0 (by
  have hd := ho.1
  have hw := ho.2.2.2.1
  have page : ∀ {u : z_V} {s' : z_St}, RS u a s' → s' 0 = s 0 → s' 3 < 25 → (∀ u', RS u' a (sU (sU s' (12 + s' 3) (sPg s what which num)) 3 (s' 3 + 1)) → Fn (sSt a) u u' → Q u' none) → z_Wp (z_C d) 0 k_X4_write Q 30 [some (vR 4 a), some (vI (nI what)), some (vI (nI which)), some (vI (nI num))] [] u := by
    intro u s' hu e0 e3 c
    refine B_X4_write_30 ?_
    rw [hu.1, hu.2.2.2.1, e0, nI_1]
    refine z_ii (s' 3) rfl e3 ?_
    rw [n_nI (by omega), show (3 : Int32) = nI 3 from rfl, show (10 : Int32) = nI 10 from rfl, show (100 : Int32) = nI 100 from rfl, pk_mul, nI_add, pk_mul, nI_add, pk_mul, nI_add]
    exact c _ ((hu.p e3).w) ((Fn.rfl.pI ⟨Or.inr (Or.inr rfl), rfl⟩).pI ⟨Or.inl rfl, rfl⟩)
  rw [h.2.2.2.1]
  refine pk_lt (s 3) 25 (fun e => page h rfl e (fun u' hu' fu' => k _ ⟨?_, fu'⟩)) (fun e => ?_)
  · unfold sWr
    rw [if_pos e]
    exact hu'
  · have hm : RS (pI (pC v 501 a 1 501 a 0 24) 4 a 2 (nI 24)) a (sU (sSh s) 3 24) := by
      refine RS.w ⟨?_, ?_, ?_, ?_, ?_, fun k hk => ?_, fun k hk => ?_⟩
      · rw [gI_pC_t (by decide), sSh_o (by omega)]; exact h.1
      · rw [gI_pC_t (by decide), sSh_o (by omega)]; exact h.2.1
      · rw [gI_pC_t (by decide), sSh_o (by omega)]; exact h.2.2.1
      · rw [gI_pC_t (by decide), sSh_o (by omega)]; exact h.2.2.2.1
      · rw [gI_pC_t (by decide), sSh_o (by omega)]; exact h.2.2.2.2.1
      · rw [gI_pC_t (by decide), sSh_o (by omega)]; exact h.2.2.2.2.2.1 k hk
      · rw [gI_pC_s]
        by_cases q : k < 24
        · rw [pk_cpy_in (by omega) (by omega), sSh_i (by omega), show 1 + (k - 0) = k + 1 by omega]
          exact h.2.2.2.2.2.2 (k + 1) (by omega)
        · rw [pk_cpy_out (by omega), sSh_o (by omega)]
          exact h.2.2.2.2.2.2 k hk
    refine page hm (by rw [sU_n (by decide), sSh_o (by omega)]) (by rw [sU_s]; decide) (fun u' hu' fu' => k _ ⟨?_, (Fn.pI (Fn.pC Fn.rfl ⟨Or.inr (Or.inr rfl), rfl⟩) ⟨Or.inl rfl, rfl⟩).trans fu'⟩)
    unfold sWr
    rw [if_neg (by omega)]
    refine hu'.cg (fun j hj => ?_)
    rw [sU_s]
    by_cases q : j = 3
    · subst q
      rw [sU_s, sU_s]
    · rw [sU_n q, sU_n q]
      by_cases q2 : j = 36
      · subst q2
        rw [sU_s, sU_s]
      · rw [sU_n q2, sU_n (by omega), sU_n q]))
end WD0
