/-! the reference reads sums and asks: words, what the next token is -/
section RR0
variable {d : Nat} {v : z_V}
theorem s_w2 {a b : Nat} (ha : a < 256) (hb : b < 256) (hd : 1 ≤ d) : ZPL d m_X11_w2 [vI (nI a), vI (nI b)] v (lN (a * 256 + b)) := by
  obtain ⟨e, rfl⟩ : ∃ e, d = e + 1 := ⟨d - 1, by omega⟩
  intro Q k
  refine E_X11_w2 (B_X11_w2_0 ?_)
  rw [w_step0 ha hb]
  exact k
theorem s_w3 {a b c : Nat} (ha : a < 256) (hb : b < 256) (hc : c < 256) (hd : 2 ≤ d) : ZPL d m_X11_w3 [vI (nI a), vI (nI b), vI (nI c)] v (lN ((a * 256 + b) * 256 + c)) := by
  obtain ⟨y, rfl⟩ : ∃ y, d = y + 1 := ⟨d - 1, by omega⟩
  intro Q k
  refine E_X11_w3 (B_X11_w3_0 (cPL (s_w2 ha hb (d := y) (by omega)) ?_))
  rw [w_step hc]
  exact k
theorem s_w4 {a b c e : Nat} (ha : a < 256) (hb : b < 256) (hc : c < 256) (he : e < 256) (hd : 3 ≤ d) : ZPL d m_X11_w4 [vI (nI a), vI (nI b), vI (nI c), vI (nI e)] v (lN (((a * 256 + b) * 256 + c) * 256 + e)) := by
  obtain ⟨y, rfl⟩ : ∃ y, d = y + 1 := ⟨d - 1, by omega⟩
  intro Q k
  refine E_X11_w4 (B_X11_w4_0 (cPL (s_w3 ha hb hc (d := y) (by omega)) ?_))
  rw [w_step he]
  exact k
theorem s_w5 {a b c e g : Nat} (ha : a < 256) (hb : b < 256) (hc : c < 256) (he : e < 256) (hg : g < 256) (hd : 4 ≤ d) : ZPL d m_X11_w5 [vI (nI a), vI (nI b), vI (nI c), vI (nI e), vI (nI g)] v (lN ((((a * 256 + b) * 256 + c) * 256 + e) * 256 + g)) := by
  obtain ⟨y, rfl⟩ : ∃ y, d = y + 1 := ⟨d - 1, by omega⟩
  intro Q k
  refine E_X11_w5 (B_X11_w5_0 (cPL (s_w4 ha hb hc he (d := y) (by omega)) ?_))
  rw [w_step hg]
  exact k
theorem s_w6 {a b c e g h : Nat} (ha : a < 256) (hb : b < 256) (hc : c < 256) (he : e < 256) (hg : g < 256) (hh : h < 256) (hd : 5 ≤ d) : ZPL d m_X11_w6 [vI (nI a), vI (nI b), vI (nI c), vI (nI e), vI (nI g), vI (nI h)] v (lN (((((a * 256 + b) * 256 + c) * 256 + e) * 256 + g) * 256 + h)) := by
  obtain ⟨y, rfl⟩ : ∃ y, d = y + 1 := ⟨d - 1, by omega⟩
  intro Q k
  refine E_X11_w6 (B_X11_w6_0 (cPL (s_w5 ha hb hc he hg (d := y) (by omega)) ?_))
  rw [w_step hh]
  exact k
theorem s_wq0 (hd : 4 ≤ d) : ZPL d m_X11_w5 [vI 114, vI 105, vI 100, vI 101, vI 115] v (WQ 0) := by
  rw [show WQ 0 = lN ((((114 * 256 + 105) * 256 + 100) * 256 + 101) * 256 + 115) from by decide +kernel]
  exact s_w5 (a := 114) (b := 105) (c := 100) (e := 101) (g := 115) (by decide) (by decide) (by decide) (by decide) (by decide) hd
theorem s_wq1 (hd : 4 ≤ d) : ZPL d m_X11_w5 [vI 99, vI 111, vI 115, vI 116, vI 115] v (WQ 1) := by
  rw [show WQ 1 = lN ((((99 * 256 + 111) * 256 + 115) * 256 + 116) * 256 + 115) from by decide +kernel]
  exact s_w5 (a := 99) (b := 111) (c := 115) (e := 116) (g := 115) (by decide) (by decide) (by decide) (by decide) (by decide) hd
theorem s_wq2 (hd : 2 ≤ d) : ZPL d m_X11_w3 [vI 108, vI 97, vI 121] v (WQ 2) := by
  rw [show WQ 2 = lN ((108 * 256 + 97) * 256 + 121) from by decide +kernel]
  exact s_w3 (a := 108) (b := 97) (c := 121) (by decide) (by decide) (by decide) hd
theorem s_wq3 (hd : 1 ≤ d) : ZPL d m_X11_w2 [vI 116, vI 111] v (WQ 3) := by
  rw [show WQ 3 = lN (116 * 256 + 111) from by decide +kernel]
  exact s_w2 (a := 116) (b := 111) (by decide) (by decide) hd
theorem s_wq4 (hd : 4 ≤ d) : ZPL d m_X11_w5 [vI 112, vI 108, vI 97, vI 116, vI 101] v (WQ 4) := by
  rw [show WQ 4 = lN ((((112 * 256 + 108) * 256 + 97) * 256 + 116) * 256 + 101) from by decide +kernel]
  exact s_w5 (a := 112) (b := 108) (c := 97) (e := 116) (g := 101) (by decide) (by decide) (by decide) (by decide) (by decide) hd
theorem s_wq5 (hd : 1 ≤ d) : ZPL d m_X11_w2 [vI 97, vI 116] v (WQ 5) := by
  rw [show WQ 5 = lN (97 * 256 + 116) from by decide +kernel]
  exact s_w2 (a := 97) (b := 116) (by decide) (by decide) hd
theorem s_wq6 (hd : 3 ≤ d) : ZPL d m_X11_w4 [vI 116, vI 117, vI 114, vI 110] v (WQ 6) := by
  rw [show WQ 6 = lN (((116 * 256 + 117) * 256 + 114) * 256 + 110) from by decide +kernel]
  exact s_w4 (a := 116) (b := 117) (c := 114) (e := 110) (by decide) (by decide) (by decide) (by decide) hd
theorem s_wq7 (hd : 4 ≤ d) : ZPL d m_X11_w5 [vI 103, vI 114, vI 97, vI 110, vI 116] v (WQ 7) := by
  rw [show WQ 7 = lN ((((103 * 256 + 114) * 256 + 97) * 256 + 110) * 256 + 116) from by decide +kernel]
  exact s_w5 (a := 103) (b := 114) (c := 97) (e := 110) (g := 116) (by decide) (by decide) (by decide) (by decide) (by decide) hd
theorem s_wq8 (hd : 2 ≤ d) : ZPL d m_X11_w3 [vI 100, vI 97, vI 121] v (WQ 8) := by
  rw [show WQ 8 = lN ((100 * 256 + 97) * 256 + 121) from by decide +kernel]
  exact s_w3 (a := 100) (b := 97) (c := 121) (by decide) (by decide) (by decide) hd
theorem s_wq9 (hd : 4 ≤ d) : ZPL d m_X11_w5 [vI 119, vI 104, vI 105, vI 99, vI 104] v (WQ 9) := by
  rw [show WQ 9 = lN ((((119 * 256 + 104) * 256 + 105) * 256 + 99) * 256 + 104) from by decide +kernel]
  exact s_w5 (a := 119) (b := 104) (c := 105) (e := 99) (g := 104) (by decide) (by decide) (by decide) (by decide) (by decide) hd
theorem s_wq10 (hd : 3 ≤ d) : ZPL d m_X11_w4 [vI 102, vI 117, vI 110, vI 100] v (WQ 10) := by
  rw [show WQ 10 = lN (((102 * 256 + 117) * 256 + 110) * 256 + 100) from by decide +kernel]
  exact s_w4 (a := 102) (b := 117) (c := 110) (e := 100) (by decide) (by decide) (by decide) (by decide) hd
theorem s_wq11 (hd : 3 ≤ d) : ZPL d m_X11_w4 [vI 111, vI 112, vI 101, vI 110] v (WQ 11) := by
  rw [show WQ 11 = lN (((111 * 256 + 112) * 256 + 101) * 256 + 110) from by decide +kernel]
  exact s_w4 (a := 111) (b := 112) (c := 101) (e := 110) (by decide) (by decide) (by decide) (by decide) hd
theorem s_wq12 (hd : 3 ≤ d) : ZPL d m_X11_w4 [vI 100, vI 105, vI 102, vI 102] v (WQ 12) := by
  rw [show WQ 12 = lN (((100 * 256 + 105) * 256 + 102) * 256 + 102) from by decide +kernel]
  exact s_w4 (a := 100) (b := 105) (c := 102) (e := 102) (by decide) (by decide) (by decide) (by decide) hd
theorem s_wq13 (hd : 2 ≤ d) : ZPL d m_X11_w3 [vI 108, vI 111, vI 119] v (WQ 13) := by
  rw [show WQ 13 = lN ((108 * 256 + 111) * 256 + 119) from by decide +kernel]
  exact s_w3 (a := 108) (b := 111) (c := 119) (by decide) (by decide) (by decide) hd
theorem s_wq14 (hd : 3 ≤ d) : ZPL d m_X11_w4 [vI 104, vI 105, vI 103, vI 104] v (WQ 14) := by
  rw [show WQ 14 = lN (((104 * 256 + 105) * 256 + 103) * 256 + 104) from by decide +kernel]
  exact s_w4 (a := 104) (b := 105) (c := 103) (e := 104) (by decide) (by decide) (by decide) (by decide) hd
theorem s_wq15 (hd : 2 ≤ d) : ZPL d m_X11_w3 [vI 111, vI 108, vI 100] v (WQ 15) := by
  rw [show WQ 15 = lN ((111 * 256 + 108) * 256 + 100) from by decide +kernel]
  exact s_w3 (a := 111) (b := 108) (c := 100) (by decide) (by decide) (by decide) hd
theorem s_wq16 (hd : 2 ≤ d) : ZPL d m_X11_w3 [vI 110, vI 101, vI 119] v (WQ 16) := by
  rw [show WQ 16 = lN ((110 * 256 + 101) * 256 + 119) from by decide +kernel]
  exact s_w3 (a := 110) (b := 101) (c := 119) (by decide) (by decide) (by decide) hd
theorem s_wq17 (hd : 5 ≤ d) : ZPL d m_X11_w6 [vI 98, vI 101, vI 115, vI 105, vI 100, vI 101] v (WQ 17) := by
  rw [show WQ 17 = lN (((((98 * 256 + 101) * 256 + 115) * 256 + 105) * 256 + 100) * 256 + 101) from by decide +kernel]
  exact s_w6 (a := 98) (b := 101) (c := 115) (e := 105) (g := 100) (h := 101) (by decide) (by decide) (by decide) (by decide) (by decide) (by decide) hd
theorem s_wq18 (hd : 3 ≤ d) : ZPL d m_X11_w4 [vI 102, vI 97, vI 114, vI 101] v (WQ 18) := by
  rw [show WQ 18 = lN (((102 * 256 + 97) * 256 + 114) * 256 + 101) from by decide +kernel]
  exact s_w4 (a := 102) (b := 97) (c := 114) (e := 101) (by decide) (by decide) (by decide) (by decide) hd
theorem s_wq19 (hd : 3 ≤ d) : ZPL d m_X11_w4 [vI 115, vI 105, vI 103, vI 110] v (WQ 19) := by
  rw [show WQ 19 = lN (((115 * 256 + 105) * 256 + 103) * 256 + 110) from by decide +kernel]
  exact s_w4 (a := 115) (b := 105) (c := 103) (e := 110) (by decide) (by decide) (by decide) (by decide) hd
theorem s_wq20 (hd : 1 ≤ d) : ZPL d m_X11_w2 [vI 105, vI 102] v (WQ 20) := by
  rw [show WQ 20 = lN (105 * 256 + 102) from by decide +kernel]
  exact s_w2 (a := 105) (b := 102) (by decide) (by decide) hd
theorem s_wq21 (hd : 3 ≤ d) : ZPL d m_X11_w4 [vI 116, vI 104, vI 101, vI 110] v (WQ 21) := by
  rw [show WQ 21 = lN (((116 * 256 + 104) * 256 + 101) * 256 + 110) from by decide +kernel]
  exact s_w4 (a := 116) (b := 104) (c := 101) (e := 110) (by decide) (by decide) (by decide) (by decide) hd
theorem s_wq22 (hd : 3 ≤ d) : ZPL d m_X11_w4 [vI 101, vI 108, vI 115, vI 101] v (WQ 22) := by
  rw [show WQ 22 = lN (((101 * 256 + 108) * 256 + 115) * 256 + 101) from by decide +kernel]
  exact s_w4 (a := 101) (b := 108) (c := 115) (e := 101) (by decide) (by decide) (by decide) (by decide) hd
theorem s_wq23 (hd : 2 ≤ d) : ZPL d m_X11_w3 [vI 101, vI 110, vI 100] v (WQ 23) := by
  rw [show WQ 23 = lN ((101 * 256 + 110) * 256 + 100) from by decide +kernel]
  exact s_w3 (a := 101) (b := 110) (c := 100) (by decide) (by decide) (by decide) hd
theorem s_wq24 (hd : 1 ≤ d) : ZPL d m_X11_w2 [vI 111, vI 114] v (WQ 24) := by
  rw [show WQ 24 = lN (111 * 256 + 114) from by decide +kernel]
  exact s_w2 (a := 111) (b := 114) (by decide) (by decide) hd
theorem s_wq25 (hd : 2 ≤ d) : ZPL d m_X11_w3 [vI 97, vI 110, vI 100] v (WQ 25) := by
  rw [show WQ 25 = lN ((97 * 256 + 110) * 256 + 100) from by decide +kernel]
  exact s_w3 (a := 97) (b := 110) (c := 100) (by decide) (by decide) (by decide) hd
theorem s_wq26 (hd : 2 ≤ d) : ZPL d m_X11_w3 [vI 110, vI 111, vI 116] v (WQ 26) := by
  rw [show WQ 26 = lN ((110 * 256 + 111) * 256 + 116) from by decide +kernel]
  exact s_w3 (a := 110) (b := 111) (c := 116) (by decide) (by decide) (by decide) hd
/-- the mark of the token that is come to -/
def Tk9 (v : z_V) (c t : Nat) : Prop := gI v 11 0 9 = nI t ∧ t < 64 ∧ (t = 1 ↔ c = 27) ∧ (t = 2 → c < 27 ∨ c = 42) ∧ (t = 0 ↔ c = 41) ∧ ∀ s, 28 ≤ s → s ≤ 40 → (t = sgR s ↔ c = s)
theorem sgR_ne : ∀ s, s < 41 → 28 ≤ s → sgR s < 64 ∧ sgR s ≠ 0 ∧ sgR s ≠ 1 ∧ sgR s ≠ 2 ∧ sgR s ≠ 3 ∧ sgR s ≠ 58 := by decide
theorem sgR_inj : ∀ s, s < 41 → ∀ t, t < 41 → 28 ≤ s → 28 ≤ t → sgR s = sgR t → s = t := by decide
theorem RTok.t9 {c x : Nat} (h : RTok v c x) (hc : c ≤ 42) : ∃ t, Tk9 v c t := by
  obtain ⟨h1, h2, h3, h4, h5⟩ := h
  have ne := fun s (a : 28 ≤ s) (b : s ≤ 40) => sgR_ne s (by omega) a
  by_cases e1 : c = 41
  · exact ⟨0, h1 e1, by decide, by omega, by omega, by omega, fun s a b => by have := ne s a b; omega⟩
  by_cases e2 : c = 27
  · exact ⟨1, (h2 e2).1, by decide, by omega, by omega, by omega, fun s a b => by have := ne s a b; omega⟩
  by_cases e3 : c < 27
  · exact ⟨2, (h3 e3).1, by decide, by omega, by omega, by omega, fun s a b => by have := ne s a b; omega⟩
  by_cases e4 : c = 42
  · rcases h4 e4 with z | z | z
    · exact ⟨2, z.1, by decide, by omega, by omega, by omega, fun s a b => by have := ne s a b; omega⟩
    · exact ⟨3, z, by decide, by omega, by omega, by omega, fun s a b => by have := ne s a b; omega⟩
    · exact ⟨58, z, by decide, by omega, by omega, by omega, fun s a b => by have := ne s a b; omega⟩
  · have := ne c (by omega) (by omega)
    refine ⟨sgR c, h5 (by omega) (by omega), this.1, by omega, by omega, by omega, fun s a b => ⟨fun z => sgR_inj c (by omega) s (by omega) (by omega) a z, fun z => by rw [z]⟩⟩
theorem s_isWord {c x k : Nat} (h : RTok v c x) (hc : c ≤ 42) (hk : k < 27) (hd : 1 ≤ d) : ZP d m_X11_isWord [vR 11 0, vL (WQ k)] v (bI (decide (c = k))) := by
  obtain ⟨e, rfl⟩ : ∃ e, d = e + 1 := ⟨d - 1, by omega⟩
  intro Q q
  obtain ⟨t, t1, t2, t3, t4, t5, t6⟩ := h.t9 hc
  have no : c ≠ k → Q v (some (vI 0)) := fun z => by rw [decide_eq_false z] at q; exact q
  have ne := fun (a : 28 ≤ c) (b : c ≤ 40) => sgR_ne c (by omega) a
  refine E_X11_isWord (B_X11_isWord_0 (pk_ne t 2 (fun z => no (fun z2 => ?_)) (fun z => ?_) t1 rfl))
  · subst z2
    have := (h.2.2.1 hk).1
    rw [t1] at this
    exact z ((nI_eq (by omega) (by decide)).mp this)
  · refine ⟨fun y => no (fun z2 => ?_), fun y => ?_⟩
    · subst z2
      rw [(h.2.2.1 hk).2] at y
      exact y (lg_eq0.mpr rfl)
    · have y := lg_eq0.mp y
      have : c = k := by
        rcases t4 z with z2 | z2
        · rw [(h.2.2.1 z2).2] at y
          exact WQ_ne z2 hk y
        · rcases h.2.2.2.1 z2 with z3 | z3 | z3
          · exact absurd y (z3.2 k hk)
          · rw [t1] at z3
            have := (nI_eq (by omega) (by decide)).mp z3
            omega
          · rw [t1] at z3
            have := (nI_eq (by omega) (by decide)).mp z3
            omega
      rw [decide_eq_true this] at q
      exact q
/-- which name the token is -/
def nmR (c : Nat) : Int32 := if 8 ≤ c ∧ c ≤ 17 then nI (c - 8) else -1
theorem lw_k {c x k : Nat} (h : RTok v c x) (hw : c < 27 ∨ c = 42) (h9 : gI v 11 0 9 = nI 2) (hk : k < 27) : lg_cmp (gL v 11 0 11) (WQ k) = 0 ↔ c = k := by
  rw [lg_eq0]
  rcases hw with z | z
  · rw [(h.2.2.1 z).2]
    exact ⟨fun y => WQ_ne z hk y, fun y => by rw [y]⟩
  · rcases h.2.2.2.1 z with z3 | z3 | z3
    · exact ⟨fun y => absurd y (z3.2 k hk), fun y => by omega⟩
    · rw [h9] at z3
      exact absurd ((nI_eq (by decide) (by decide)).mp z3) (by decide)
    · rw [h9] at z3
      exact absurd ((nI_eq (by decide) (by decide)).mp z3) (by decide)
theorem s_nameOfT {c x : Nat} (h : RTok v c x) (hc : c ≤ 42) (hd : 7 ≤ d) : ZP d m_X11_nameOf [vR 11 0] v (nmR c) := by
  obtain ⟨e, rfl⟩ : ∃ e, d = e + 1 := ⟨d - 1, by omega⟩
  intro Q q
  obtain ⟨t, t1, t2, t3, t4, t5, t6⟩ := h.t9 hc
  have no : ¬ (8 ≤ c ∧ c ≤ 17) → Q v (some (vI (-1))) := fun z => by unfold nmR at q; rw [if_neg z] at q; exact q
  have yes : ∀ k, c = k + 8 → k < 10 → Q v (some (vI (nI k))) := fun k z hk => by unfold nmR at q; rw [if_pos (by omega), z, Nat.add_sub_cancel] at q; exact q
  refine E_X11_nameOf (B_X11_nameOf_0 (pk_eq t 2 (fun z => ?_) (fun z => ?_) t1 rfl))
  · have h9 : gI v 11 0 9 = nI 2 := by rw [t1, z]
    have hw := t4 z
    refine cPL (s_wq8 (d := e) (by omega)) (pickN (lw_k h hw h9 (k := 8) (by decide)) (fun n8 => ?_) (fun e8 => yes 0 e8 (by decide)))
    refine cPL (s_wq9 (d := e) (by omega)) (pickN (lw_k h hw h9 (k := 9) (by decide)) (fun n9 => ?_) (fun e9 => yes 1 e9 (by decide)))
    refine cPL (s_wq10 (d := e) (by omega)) (pickN (lw_k h hw h9 (k := 10) (by decide)) (fun n10 => ?_) (fun e10 => yes 2 e10 (by decide)))
    refine cPL (s_wq11 (d := e) (by omega)) (pickN (lw_k h hw h9 (k := 11) (by decide)) (fun n11 => ?_) (fun e11 => yes 3 e11 (by decide)))
    refine cPL (s_wq12 (d := e) (by omega)) (pickN (lw_k h hw h9 (k := 12) (by decide)) (fun n12 => ?_) (fun e12 => yes 4 e12 (by decide)))
    refine cPL (s_wq13 (d := e) (by omega)) (pickN (lw_k h hw h9 (k := 13) (by decide)) (fun n13 => ?_) (fun e13 => yes 5 e13 (by decide)))
    refine cPL (s_wq14 (d := e) (by omega)) (pickN (lw_k h hw h9 (k := 14) (by decide)) (fun n14 => ?_) (fun e14 => yes 6 e14 (by decide)))
    refine cPL (s_wq15 (d := e) (by omega)) (pickN (lw_k h hw h9 (k := 15) (by decide)) (fun n15 => ?_) (fun e15 => yes 7 e15 (by decide)))
    refine cPL (s_wq16 (d := e) (by omega)) (pickN (lw_k h hw h9 (k := 16) (by decide)) (fun n16 => ?_) (fun e16 => yes 8 e16 (by decide)))
    refine cPL (s_wq17 (d := e) (by omega)) (pickN (lw_k h hw h9 (k := 17) (by decide)) (fun n17 => ?_) (fun e17 => yes 9 e17 (by decide)))
    exact no (by omega)
  · exact no (fun y => by
      have := (h.2.2.1 (by omega)).1
      rw [t1] at this
      exact z ((nI_eq (by omega) (by decide)).mp this))
end RR0
