/-! the class's world: laws asked, steps kept and taken back -/
theorem inr_m1 {n : Nat} : inr (-1) n = false := decide_eq_false (fun q => absurd q.1 (by decide))
theorem nI_nm1 {k : Nat} (h : k < 2 ^ 31) : ¬ nI k = -1 := fun q => by
  have := congrArg Int32.toInt q
  rw [nI_toInt h] at this
  have e : (-1 : Int32).toInt = -1 := by decide
  rw [e] at this
  omega
theorem wTx_k {W : z_W} {T : Nat → z_T} {k : Nat} (hk : k < 4) (h : wR W = nI k) : wTx W T = some (T k) := by
  unfold wTx
  rw [h, if_neg (nI_nm1 (by omega)), n_nI (by omega)]
def isQ (W : z_W) (w : Nat) (q : Option (Nat × Nat)) : Prop := (wR W = -1 ∧ q = none) ∨ ∃ k, k < wT W ∧ wR W = nI k ∧ q = some (6, 4 * w + k)
theorem lt99_nI {a : Int32} {n : Nat} {A B C : Prop} (hn : n + 1 < 2 ^ 31) (f : inr a (n + 1) = false → A) (g : inr a (n + 1) = false → B) (t : inr a (n + 1) = true → C) : (a < 0 → A) ∧ (¬ a < 0 → (nI n < a → B) ∧ (¬ nI n < a → C)) := by
  have e := nI_toInt (show n < 2 ^ 31 by omega)
  refine ⟨fun h => f (decide_eq_false (fun q => ?_)), fun h0 => ⟨fun h => g (decide_eq_false (fun q => ?_)), fun h => t (decide_eq_true ?_)⟩⟩
  · rw [Int32.lt_iff_toInt_lt, Int32.toInt_zero] at h
    omega
  · rw [Int32.lt_iff_toInt_lt, e] at h
    omega
  · rw [Int32.lt_iff_toInt_lt, e] at h
    rw [Int32.lt_iff_toInt_lt, Int32.toInt_zero] at h0
    omega
section WD2
variable {d : Nat} {v : z_V} {w : Nat} {W : z_W} {T : Nat → z_T}
theorem s_hasTextX {a : Int32} (hR : RC v w W) : ZP (d + 1) m_X9_hasText [vR 9 w, vI a] v (bI (inr a (wT W))) := fun Q h => E_X9_hasText (B_X9_hasText_0 (by
  have := hR.1.2.2.2.2.1
  rw [hR.2.2.1]
  exact lt0_nI (by omega) (fun e => bq (b' := false) h e) (fun e => bq (b' := false) h e) (fun e => bq (b' := true) h e)))
theorem s_theText (hR : RC v w W) {K : z_V → Option (Nat × Nat) → Prop} (h : ∀ q, isQ W w q → K v q) : z_C (d + 2) m_X9_theText [vR 9 w] v (fun w1 o2 => ∃ p3 : Option (Nat × Nat), o2 = some (vQ p3) ∧ K w1 p3) := E_X9_theText (B_X9_theText_0 (by
  have ht := hR.1.2.2.2.2.1
  rw [hR.2.2.2.1]
  refine cP (s_hasTextX hR) ?_
  rcases hR.1.2.2.2.2.2.1 with e | ⟨k, hk, e⟩
  · rw [e, inr_m1]
    exact br_T (by rfl) ⟨none, rfl, h _ (Or.inl ⟨e, rfl⟩)⟩
  · rw [hR.2.2.2.1, e, inr_nI (by omega), decide_eq_true hk, n_nI (by omega)]
    exact br_F (by decide) (z_ii k rfl (by omega) ⟨some (6, 4 * w + k), rfl, h _ (Or.inr ⟨k, hk, e, rfl⟩)⟩)))
theorem s_tellQR {q : Option (Nat × Nat)} {l : Nat} (hR : RC v w W) (hX : TX v w W T) (hq : isQ W w q) (hl : l < wN W) : ZI (d + 5) m_X5_tell [vR 5 w, vR 9 w, vQ q, vI 0, vI (nI l), vI 0] v (fun u x => x = nI (rdV W T l) ∧ Fr sTl v u) := by
  have ht := hR.1.2.2.2.2.1
  unfold rdV
  rcases hq with ⟨e, rfl⟩ | ⟨k, hk, e, rfl⟩
  · unfold wTx
    rw [if_pos e]
    exact s_tellR0.i.m (fun u x hx => ⟨hx.2, by rw [hx.1]; exact Fr.rfl⟩)
  · rw [wTx_k (by omega) e]
    exact s_tellR hR.ce (hX k hk).1 hl
theorem s_tellQC {q : Option (Nat × Nat)} {h x : Nat} (hR : RC v w W) (hX : TX v w W T) (hq : isQ W w q) (hh : h < 7) (hx : x ≤ 99) : ZI (d + 5) m_X5_tell [vR 5 w, vR 9 w, vQ q, vI 1, vI (nI h), vI (nI x)] v (fun u r => r = nI (csV W T h x) ∧ Fr sTl v u) := by
  have ht := hR.1.2.2.2.2.1
  unfold csV
  rcases hq with ⟨e, rfl⟩ | ⟨k, hk, e, rfl⟩
  · unfold wTx
    rw [if_pos e]
    exact s_tellC0.i.m (fun u x hx => ⟨hx.2, by rw [hx.1]; exact Fr.rfl⟩)
  · rw [wTx_k (by omega) e]
    exact s_tellC hR.ce (hX k hk).2.1 hh hx
theorem s_lawR {l : Nat} (hR : RC v w W) (hX : TX v w W T) (hl : l < wN W) : ZI (d + 6) m_X9_lawSays [vR 9 w, vI 0, vI (nI l), vI 0] v (fun u x => x = nI (rdV W T l) ∧ Fr sTl v u) := fun Q k => E_X9_lawSays (B_X9_lawSays_0 (s_theText hR (fun q hq => cI (s_tellQR hR hX hq hl) (fun u x hx => k _ _ hx))))
theorem s_lawC {h x : Nat} (hR : RC v w W) (hX : TX v w W T) (hh : h < 7) (hx : x ≤ 99) : ZI (d + 6) m_X9_lawSays [vR 9 w, vI 1, vI (nI h), vI (nI x)] v (fun u r => r = nI (csV W T h x) ∧ Fr sTl v u) := fun Q k => E_X9_lawSays (B_X9_lawSays_0 (s_theText hR (fun q hq => cI (s_tellQC hR hX hq hh hx) (fun u r hr => k _ _ hr))))
def s9 (w a : Nat) : Nat → Nat → Prop := fun t n => (t = 9 ∧ n = w) ∨ sSt a t n
theorem s9_n {w a t n : Nat} (h : (t ≠ 9 ∨ n ≠ w) ∧ (n ≠ a ∨ (t ≠ 4 ∧ t ≠ 500 ∧ t ≠ 501))) : ¬ s9 w a t n := by
  intro q
  unfold s9 sSt at q
  omega
theorem s9_wo {w a : Nat} (h1 : 31 * w ≤ a) (h2 : a < 31 * w + 31) {v u : z_V} (f : Fn (s9 w a) v u) : Fn (sWo w) v u := f.mono (fun t n q => by
  unfold s9 sSt at q
  unfold sWo inW
  omega)
theorem s_keepStep (hR : RC v w W) : ZV (d + 2) m_X9_keepStep [vR 9 w] v (fun u => RC u w (wKp W) ∧ Fn (sWo w) v u) := fun Q k => E_X9_keepStep (B_X9_keepStep_0 (by
  have hR0 := hR
  obtain ⟨a0, a1, a2, a3, a4, a5, ⟨g, b1, b2, b3⟩, a7, a8, a9⟩ := hR
  have hc := a0.2.2.1
  rw [a5, b2]
  refine pk_lt (wC W) 30 (fun e => ?_) (fun e => ?_)
  · have er : i_rem (nI g + nI (wC W)) 30 = nI ((g + wC W) % 30) := by
      rw [nI_add]
      exact i_rem_nI' (by omega) (by decide) (by decide)
    rw [er]
    refine z_ii _ rfl (Nat.mod_lt _ (by decide)) ?_
    rw [n_nI (by omega)]
    refine cV (s_become4 a8 (by omega)) (fun u hu => ?_)
    have f9 : Fn (s9 w (31 * w + 1 + (g + wC W) % 30)) v u := hu.2.mono (fun t n q => Or.inr q)
    rw [f9.1 9 w 12 |> fun _ => (hu.2.i (show ¬ sSt (31 * w + 1 + (g + wC W) % 30) 9 w from fun q => by have := q.1; omega)).trans a5, nI_1]
    have f := f9.pI (t := 9) (n := w) (k := 12) (x := nI (wC W + 1)) (Or.inl ⟨rfl, rfl⟩)
    refine k _ ⟨⟨a0.kp, ?_, ?_, ?_, ?_, ?_, ⟨g, b1, ?_, fun i hi => ?_⟩, fun l hl => ?_, ?_, fun i hi => ?_⟩, s9_wo (by omega) (by omega) f⟩
    · rw [gI_pI_k (by decide)]
      exact (hu.2.i (fun q => by have := q.1; omega)).trans a1
    · rw [gI_pI_k (by decide)]
      exact (hu.2.i (fun q => by have := q.1; omega)).trans a2
    · rw [gI_pI_k (by decide)]
      exact (hu.2.i (fun q => by have := q.1; omega)).trans a3
    · rw [gI_pI_k (by decide)]
      exact (hu.2.i (fun q => by have := q.1; omega)).trans a4
    · rw [gI_pI_s]
      show _ = nI (if wC W < 30 then _ else _)
      rw [if_pos e]
    · rw [gI_pI_k (by decide)]
      exact (hu.2.i (fun q => by have := q.1; omega)).trans b2
    · have hi : i < (if wC W < 30 then wC W + 1 else 30) := hi
      rw [if_pos e] at hi
      show RS _ _ (if wC W < 30 then (if i = wC W then wS W else wH W i) else _)
      rw [if_pos e]
      have fp : Fn (fun t _ => t = 9) u (pI u 9 w 12 (nI (wC W + 1))) := Fn.rfl.pI rfl
      by_cases q : i = wC W
      · subst q
        rw [if_pos rfl]
        exact hu.1.fn fp (by decide) (by decide) (by decide)
      · rw [if_neg q]
        refine (b3 i (by omega)).fn f (s9_n ?_) (s9_n ?_) (s9_n ?_) <;> omega
    · exact ⟨(f.i (s9_n (by omega))).trans (a7 l hl).1, (f.i (s9_n (by omega))).trans (a7 l hl).2⟩
    · exact a8.fn f (s9_n (by omega)) (s9_n (by omega)) (s9_n (by omega))
    · exact ⟨(f.i (s9_n (by omega))).trans (a9 i hi).1, (f.i (s9_n (by omega))).trans (a9 i hi).2⟩
  · have er : i_rem (nI g + 1) 30 = nI ((g + 1) % 30) := by
      rw [nI_1]
      exact i_rem_nI' (by omega) (by decide) (by decide)
    have er2 : i_rem (nI ((g + 1) % 30) + 29) 30 = nI (((g + 1) % 30 + 29) % 30) := by
      rw [show (29 : Int32) = nI 29 from rfl, nI_add]
      exact i_rem_nI' (by omega) (by decide) (by decide)
    rw [gI_pI_s, gI_pI_s, er, er2]
    refine z_ii _ rfl (Nat.mod_lt _ (by decide)) ?_
    rw [n_nI (by omega)]
    have f0 : Fn (s9 w (31 * w + 1 + ((g + 1) % 30 + 29) % 30)) v (pI (pI v 9 w 13 (nI ((g + 1) % 30))) 9 w 12 29) := (Fn.rfl.pI (Or.inl ⟨rfl, rfl⟩)).pI (Or.inl ⟨rfl, rfl⟩)
    refine cV (s_become4 (a8.fn f0 (s9_n (by omega)) (s9_n (by omega)) (s9_n (by omega))) (by omega)) (fun u hu => ?_)
    have n9 : ∀ k, gI u 9 w k = gI (pI (pI v 9 w 13 (nI ((g + 1) % 30))) 9 w 12 29) 9 w k := fun k => hu.2.i (fun q => by have := q.1; omega)
    have f9 : Fn (s9 w (31 * w + 1 + ((g + 1) % 30 + 29) % 30)) v u := f0.trans (hu.2.mono (fun t n q => Or.inr q))
    rw [n9, gI_pI_s]
    have f := f9.pI (t := 9) (n := w) (k := 12) (x := 29 + 1) (Or.inl ⟨rfl, rfl⟩)
    refine k _ ⟨⟨a0.kp, ?_, ?_, ?_, ?_, ?_, ⟨(g + 1) % 30, by omega, ?_, fun i hi => ?_⟩, fun l hl => ?_, ?_, fun i hi => ?_⟩, s9_wo (by omega) (by omega) f⟩
    · rw [gI_pI_k (by decide), n9, gI_pI_k (by decide), gI_pI_k (by decide)]
      exact a1
    · rw [gI_pI_k (by decide), n9, gI_pI_k (by decide), gI_pI_k (by decide)]
      exact a2
    · rw [gI_pI_k (by decide), n9, gI_pI_k (by decide), gI_pI_k (by decide)]
      exact a3
    · rw [gI_pI_k (by decide), n9, gI_pI_k (by decide), gI_pI_k (by decide)]
      exact a4
    · rw [gI_pI_s]
      show _ = nI (if wC W < 30 then _ else _)
      rw [if_neg (by omega)]
      rfl
    · rw [gI_pI_k (by decide), n9, gI_pI_k (by decide), gI_pI_s]
    · have hi : i < (if wC W < 30 then wC W + 1 else 30) := hi
      rw [if_neg (by omega)] at hi
      show RS _ _ (if wC W < 30 then _ else (if i = 29 then wS W else wH W (i + 1)))
      rw [if_neg (by omega)]
      have fp : Fn (fun t _ => t = 9) u (pI u 9 w 12 (29 + 1)) := Fn.rfl.pI rfl
      by_cases q : i = 29
      · subst q
        rw [if_pos rfl]
        exact hu.1.fn fp (by decide) (by decide) (by decide)
      · rw [if_neg q, show ((g + 1) % 30 + i) % 30 = (g + (i + 1)) % 30 by omega]
        refine (b3 (i + 1) (by omega)).fn f (s9_n ?_) (s9_n ?_) (s9_n ?_) <;> omega
    · exact ⟨(f.i (s9_n (by omega))).trans (a7 l hl).1, (f.i (s9_n (by omega))).trans (a7 l hl).2⟩
    · exact a8.fn f (s9_n (by omega)) (s9_n (by omega)) (s9_n (by omega))
    · exact ⟨(f.i (s9_n (by omega))).trans (a9 i hi).1, (f.i (s9_n (by omega))).trans (a9 i hi).2⟩))
theorem okW.un {W : z_W} (h : okW W) : okW (wUn W).1 := by
  unfold wUn
  by_cases e : wC W = 0
  · rw [if_pos e]
    exact h
  · rw [if_neg e]
    have hs := h.2.2.2.1 (wC W - 1) (by omega)
    exact ⟨nWF_o h.1 (by have := Nat.two_pow_pos (wN W); show 2 ^ wN W - 1 - wH W (wC W - 1) 4 < 2 ^ wN W; omega), hs, by have := h.2.2.1; show wC W - 1 ≤ 30; omega, fun i hi => h.2.2.2.1 i (by have hi : i < wC W - 1 := hi; omega), h.2.2.2.2⟩
theorem s_takeBack (hR : RC v w W) : ZI (d + 2) m_X9_takeBack [vR 9 w] v (fun u r => r = (wUn W).2 ∧ RC u w (wUn W).1 ∧ Fn (sWo w) v u) := fun Q k => E_X9_takeBack (B_X9_takeBack_0 (by
  have hok := hR.1.un
  have hR0 := hR
  obtain ⟨a0, a1, a2, a3, a4, a5, ⟨g, b1, b2, b3⟩, a7, a8, a9⟩ := hR
  have hc := a0.2.2.1
  unfold wUn at k hok
  rw [a5, b2]
  refine pk_lt 0 (wC W) (fun e => ?_) (fun e => ?_)
  · rw [if_neg (by omega)] at k hok
    obtain ⟨c, hce⟩ : ∃ c, wC W = c + 1 := ⟨wC W - 1, by omega⟩
    rw [show wC W - 1 = c by omega] at k hok
    rw [hce, nI_pred, gI_pI_s]
    have er : i_rem (nI g + nI c) 30 = nI ((g + c) % 30) := by
      rw [nI_add]
      exact i_rem_nI' (by omega) (by decide) (by decide)
    rw [er]
    refine z_ii _ rfl (Nat.mod_lt _ (by decide)) ?_
    rw [n_nI (by omega)]
    have fp : Fn (fun t _ => t = 9) v (pI v 9 w 12 (nI c)) := Fn.rfl.pI rfl
    refine cV (s_become4 ((b3 c (by omega)).fn fp (by decide) (by decide) (by decide)) (by omega)) (fun u hu => ?_)
    have n9 : ∀ k, gI u 9 w k = gI (pI v 9 w 12 (nI c)) 9 w k := fun k => hu.2.i (fun q => by have := q.1; omega)
    have f : Fn (s9 w (31 * w)) v u := (Fn.rfl.pI (Or.inl ⟨rfl, rfl⟩) : Fn (s9 w (31 * w)) v (pI v 9 w 12 (nI c))).trans (hu.2.mono (fun t n q => Or.inr q))
    rw [n9, gI_pI_s]
    refine k _ _ ⟨rfl, ⟨hok, ?_, ?_, ?_, ?_, ?_, ⟨g, b1, ?_, fun i hi => ?_⟩, fun l hl => ?_, hu.1, fun i hi => ?_⟩, s9_wo (by omega) (by omega) f⟩
    · rw [n9, gI_pI_k (by decide)]
      exact a1
    · rw [n9, gI_pI_k (by decide)]
      exact a2
    · rw [n9, gI_pI_k (by decide)]
      exact a3
    · rw [n9, gI_pI_k (by decide)]
      exact a4
    · rw [n9, gI_pI_s]
      rfl
    · rw [n9, gI_pI_k (by decide)]
      exact b2
    · have hi : i < c := hi
      exact (b3 i (by omega)).fn f (s9_n (by omega)) (s9_n (by omega)) (s9_n (by omega))
    · exact ⟨(f.i (s9_n (by omega))).trans (a7 l hl).1, (f.i (s9_n (by omega))).trans (a7 l hl).2⟩
    · exact ⟨(f.i (s9_n (by omega))).trans (a9 i hi).1, (f.i (s9_n (by omega))).trans (a9 i hi).2⟩
  · rw [if_pos (by omega)] at k
    exact k _ _ ⟨rfl, hR0, Fn.rfl⟩))
end WD2
