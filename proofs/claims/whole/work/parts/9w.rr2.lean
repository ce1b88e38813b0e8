/-! the reference reads sums and asks: writing, settling, what stands between operands -/
def fSu (kk f : Nat) : Nat → Nat → Prop := fun t k => (t = 11 ∧ (k = 7 ∨ k = 8 ∨ k = 9 ∨ k = 10 ∨ k = 11 ∨ k = 13 ∨ k = 16 ∨ k = 17 ∨ k = 18)) ∨ t = 1215 ∨ (t = 1202 ∧ 681 * kk + 73 + 2 * f ≤ k)
def fEr (kk w : Nat) : Nat → Nat → Prop := fun t k => (t = 11 ∧ k = 13) ∨ (t = 1202 ∧ (k = 681 * kk + 73 + 2 * w ∨ k = 681 * kk + 73 + 2 * w + 1))
def fStl (kk w : Nat) : Nat → Nat → Prop := fun t k => (t = 11 ∧ (k = 13 ∨ k = 16 ∨ k = 17)) ∨ (t = 1202 ∧ 681 * kk + 73 + 2 * w ≤ k)
def gC (kk : Nat) (u : z_V) : Nat → Int32 × Int32 := gT u (681 * kk + 73)
def StR (B : Nat → Nat) (n kk : Nat) (r : Bool) (u : z_V) (p iw : Nat) (X : List Nat) (w : Nat) : Prop := TPr u B n ∧ TkR u B n p ∧ gI u 11 0 12 = nI (681 * kk) ∧ gI u 11 0 14 = nI (if r = true then 0 else 1) ∧ gI u 11 0 13 = nI w ∧ gI u 11 0 18 = nI iw ∧ Pil u X ∧ gI u 11 0 17 = nI (opN X) ∧ opN X ≤ 8 ∧ kk ≤ 3
def btw (c : Nat) (X : List Nat) : Nat := if c = 34 then 6 else if c = 35 then 7 else if c = 36 then 8 else if c = 37 then 9 else if opT X = 41 then (if cmpR X = true then (if c = 25 then 21 else if c = 24 then 22 else 0) else (if 28 ≤ c ∧ c ≤ 33 then c - 18 else 0)) else 0
def m1 (x : Nat) : Int32 := if x = 0 then -1 else nI x
theorem gC_eq {kk i : Nat} {u w : z_V} {S : Nat → Nat → Prop} (h : Fr S u w) (h1 : ¬ S 1202 (681 * kk + 73 + 2 * i)) (h2 : ¬ S 1202 (681 * kk + 73 + 2 * i + 1)) : gC kk w i = gC kk u i := by
  show (gI w 1202 0 _, gI w 1202 0 _) = (gI u 1202 0 _, gI u 1202 0 _)
  rw [h.i h1, h.i h2]
theorem gC_su {kk i f : Nat} {u w : z_V} (h : Fr (fSu kk f) u w) (hi : i < f) : gC kk w i = gC kk u i := gC_eq h (by unfold fSu; omega) (by unfold fSu; omega)
theorem gC_st {kk i f : Nat} {u w : z_V} (h : Fr (fStl kk f) u w) (hi : i < f) : gC kk w i = gC kk u i := gC_eq h (by unfold fStl; omega) (by unfold fStl; omega)
theorem gC_no {kk i : Nat} {u w : z_V} {S : Nat → Nat → Prop} (h : Fr S u w) (hs : ∀ k, ¬ S 1202 k) : gC kk w i = gC kk u i := gC_eq h (hs _) (hs _)
theorem fSt_su {kk f g : Nat} {u w : z_V} (h : Fr (fStl kk g) u w) (hg : f ≤ g) : Fr (fSu kk f) u w := h.mono (fun t k q => by unfold fStl at q; unfold fSu; omega)
theorem fSu_up {kk f g : Nat} {u w : z_V} (h : Fr (fSu kk g) u w) (hg : f ≤ g) : Fr (fSu kk f) u w := h.mono (fun t k q => by unfold fSu at q ⊢; omega)
theorem fTq_su {kk f : Nat} {u w : z_V} (h : Fr fTq u w) : Fr (fSu kk f) u w := h.mono (fun t k q => by unfold fTq at q; unfold fSu; omega)
theorem fEr_su {kk f g : Nat} {u w : z_V} (h : Fr (fEr kk g) u w) (hg : f ≤ g) : Fr (fSu kk f) u w := h.mono (fun t k q => by unfold fEr at q; unfold fSu; omega)
theorem rk_O {x : Nat} (hx : x < 40) : isO x = if rkR x = 7 ∨ x = 20 then 1 else 0 := by
  have : ∀ x, x < 40 → isO x = if rkR x = 7 ∨ x = 20 then 1 else 0 := by decide
  exact this x hx
theorem rk_40 {x : Nat} (h : 1 ≤ rkR x) : x < 40 := by
  unfold rkR at h
  split at h
  · omega
  · omega
section RR2
variable {d : Nat} {B : Nat → Nat} {n kk : Nat} {r : Bool} {p iw w : Nat} {X : List Nat} {u : z_V}
theorem StR.re {u' : z_V} {S : Nat → Nat → Prop} {iw' w' : Nat} {X' : List Nat} (h : StR B n kk r u p iw X w) (f : Fr S u u') (h1 : ∀ k, S 11 k → k = 13 ∨ k = 16 ∨ k = 17 ∨ k = 18) (h2 : ∀ k, ¬ S 1203 k) (h13 : gI u' 11 0 13 = nI w') (h18 : gI u' 11 0 18 = nI iw') (hp : Pil u' X') (h17 : gI u' 11 0 17 = nI (opN X')) (h8 : opN X' ≤ 8) : StR B n kk r u' p iw' X' w' := by
  obtain ⟨a1, a2, a3, a4, a5, a6, a7, a8, a9, a10⟩ := h
  have no : ∀ k, ¬ (k = 13 ∨ k = 16 ∨ k = 17 ∨ k = 18) → ¬ S 11 k := fun k z y => z (h1 k y)
  exact ⟨a1.fr f (no _ (by decide)) h2, a2.fr f (no _ (by decide)) (no _ (by decide)) (no _ (by decide)) (no _ (by decide)) (no _ (by decide)), (f.i (no _ (by decide))).trans a3, (f.i (no _ (by decide))).trans a4, h13, h18, hp, h17, h8, a10⟩
theorem s_emitR {o x : Int32} (hk : kk ≤ 3) (h12 : gI u 11 0 12 = nI (681 * kk)) (h13 : gI u 11 0 13 = nI w) (hw : w < 300) (hd : 1 ≤ d) : ZV d m_X11_emit [vR 11 0, vI o, vI x] u (fun u' => gI u' 11 0 13 = nI (w + 1) ∧ gC kk u' w = (o, x) ∧ Fr (fEr kk w) u u') := by
  obtain ⟨e, rfl⟩ : ∃ e, d = e + 1 := ⟨d - 1, by omega⟩
  intro Q k
  refine E_X11_emit (B_X11_emit_0 ?_)
  have e1 : nI (681 * kk) + 73 + 2 * nI w = nI (681 * kk + 73 + 2 * w) := by
    rw [show (73 : Int32) = nI 73 from rfl, show (2 : Int32) = nI 2 from rfl, pk_mul, nI_add, nI_add]
  rw [h12, h13, e1, nI_1, nI_1]
  refine z_ii _ rfl (by omega) (z_ii _ rfl (by omega) ?_)
  rw [n_nI (by omega), n_nI (by omega)]
  refine k _ ⟨gI_pI_s, ?_, ((Fr.rfl.pI (Or.inr ⟨rfl, Or.inl rfl⟩)).pI (Or.inr ⟨rfl, Or.inr rfl⟩)).pI (Or.inl ⟨rfl, rfl⟩)⟩
  have hA : ∀ {y : z_V}, gI (pI (pI (pI y 1202 0 (681 * kk + 73 + 2 * w) o) 1202 0 (681 * kk + 73 + 2 * w + 1) x) 11 0 13 (nI (w + 1))) 1202 0 (681 * kk + 73 + 2 * w) = o := by
    intro y
    rw [gI_pI_ne (fun z => absurd z.1 (by decide)), gI_pI_k (by omega), gI_pI_s]
  have hB : ∀ {y : z_V}, gI (pI (pI (pI y 1202 0 (681 * kk + 73 + 2 * w) o) 1202 0 (681 * kk + 73 + 2 * w + 1) x) 11 0 13 (nI (w + 1))) 1202 0 (681 * kk + 73 + 2 * w + 1) = x := by
    intro y
    rw [gI_pI_ne (fun z => absurd z.1 (by decide)), gI_pI_s]
  exact Prod.ext hA hB
theorem settle0 {s : Nat} {Q : z_RT} (hs : 1 ≤ s) (hs7 : s ≤ 7) (hd : 1 ≤ d) : ∀ (us X : List Nat) (u : z_V) (w : Nat), StR B n kk r u p iw (us ++ X) w → (∀ x, x ∈ us → s ≤ rkR x) → tpP X < s → w + us.length ≤ 300 → (∀ u', StR B n kk r u' p iw X (w + us.length) → (∀ i, i < us.length → (gC kk u' (w + i)).1 = nI (us.getD i 0)) → Fr (fStl kk w) u u' → Q u' none) → z_Wp (z_C d) 0 k_X11_settle Q 0 [some (vR 11 0), some (vI (nI s))] [] u
  | [], X, u, w, h, _, ht, _, k => by
    have fin : Q u none := k u h (fun i hi => absurd hi (Nat.not_lt_zero _)) Fr.rfl
    obtain ⟨a1, a2, a3, a4, a5, a6, a7, a8, a9, a10⟩ := h
    have a7 : Pil u X := a7
    refine B_X11_settle_0 ?_
    cases X with
    | nil =>
      rw [a7.1]
      exact ⟨fun _ => fin, fun z => absurd (show nI 0 ≤ 0 by decide) z⟩
    | cons x X =>
      have hl : X.length + 1 ≤ 100 := a7.2.2
      have hx := a7.2.1.2.1
      have hr := rk_le (x := x)
      rw [a7.1, show (x :: X).length = X.length + 1 from rfl, nI_s1]
      refine ⟨fun _ => fin, fun _ => z_ii X.length rfl (by omega) ?_⟩
      rw [n_nI (by omega), a7.2.1.1]
      exact cP (s_rank (by omega) hd) (pk_lt (rkR x) s (fun _ => fin) (fun z => absurd ht (by show ¬ rkR x < s; omega)))
  | x :: us, X, u, w, h, hus, ht, hw, k => by
    have hS := h
    obtain ⟨a1, a2, a3, a4, a5, a6, a7, a8, a9, a10⟩ := h
    have a7 : Pil u (x :: (us ++ X)) := a7
    have a8 : gI u 11 0 17 = nI (isO x + opN (us ++ X)) := a8
    have a9 : isO x + opN (us ++ X) ≤ 8 := a9
    have hl : (us ++ X).length + 1 ≤ 100 := a7.2.2
    have hw : w + (us.length + 1) ≤ 300 := hw
    have hx := a7.2.1.2.1
    have hr := rk_le (x := x)
    have hsx := hus x (List.mem_cons_self)
    have x40 := rk_40 (x := x) (by omega)
    have hO := rk_O x40
    have np : ¬ nI ((us ++ X).length + 1) ≤ 0 := fun z => by
      have := (nI_leI (a := (us ++ X).length + 1) (b := 0) (by omega) (by decide)).mp z
      omega
    refine B_X11_settle_0 ?_
    rw [a7.1, show (x :: (us ++ X)).length = (us ++ X).length + 1 from rfl, nI_s1]
    refine ⟨fun z => absurd z np, fun _ => z_ii (us ++ X).length rfl (by omega) ?_⟩
    rw [n_nI (by omega), a7.2.1.1]
    refine cP (s_rank (by omega) hd) (pk_lt (rkR x) s (fun z => absurd hsx (by omega)) (fun _ => ?_))
    rw [a7.1, show (x :: (us ++ X)).length = (us ++ X).length + 1 from rfl, nI_s1, n_nI (by omega), a7.2.1.1]
    refine z_ii (us ++ X).length rfl (by omega) ?_
    refine cV (s_emitR (d := d) (kk := kk) (w := w) a10 ((gI_pI_k (by decide)).trans a3) ((gI_pI_k (by decide)).trans a5) (by omega) hd) (fun w4 h4 => ?_)
    obtain ⟨e1, e2, e3⟩ := h4
    have g16 : gI w4 11 0 16 = nI (us ++ X).length := (e3.i (by unfold fEr; omega)).trans gI_pI_s
    have g1215 : gI w4 1215 0 (us ++ X).length = nI x := (e3.i (by unfold fEr; omega)).trans ((gI_pI_ne (fun z => absurd z.1 (by decide))).trans a7.2.1.1)
    have F4 : Fr (fStl kk w) u w4 := (Fr.rfl.pI (Or.inl ⟨rfl, Or.inr (Or.inl rfl)⟩)).trans (e3.mono (fun t k q => by unfold fEr at q; unfold fStl; omega))
    have g17 : gI w4 11 0 17 = nI (isO x + opN (us ++ X)) := (e3.i (by unfold fEr; omega)).trans ((gI_pI_k (by decide)).trans a8)
    rw [g16, n_nI (by omega), g1215]
    refine z_ii (us ++ X).length rfl (by omega) (cP (s_rank (by omega) hd) ?_)
    have next : ∀ u3, gI u3 11 0 17 = nI (opN (us ++ X)) → Fr (fun t k => t = 11 ∧ k = 17) w4 u3 → z_Wp (z_C d) 0 k_X11_settle Q 0 [some (vR 11 0), some (vI (nI s))] [] u3 := fun u3 h17 f3 => by
      have F3 : Fr (fStl kk w) u u3 := F4.trans (f3.mono (fun t k q => Or.inl ⟨q.1, Or.inr (Or.inr q.2)⟩))
      have S3 : StR B n kk r u3 p iw (us ++ X) (w + 1) := hS.re F3 (fun k q => by unfold fStl at q; omega) (fun k q => by unfold fStl at q; omega) ((f3.i (by omega)).trans e1) ((F3.i (by unfold fStl; omega)).trans a6) ⟨(f3.i (by omega)).trans g16, a7.2.1.2.2.fr (fun i hi => F3.i (by unfold fStl; omega)), by omega⟩ h17 (by omega)
      refine settle0 hs hs7 hd us X u3 (w + 1) S3 (fun y hy => hus y (List.mem_cons_of_mem _ hy)) ht (by omega) (fun u' b1 b2 b3 => ?_)
      refine k u' ?_ (fun i hi => ?_) (F3.trans (b3.mono (fun t k q => by unfold fStl at q ⊢; omega)))
      · rw [show w + (x :: us).length = w + 1 + us.length by show w + (us.length + 1) = _; omega]
        exact b1
      · cases i with
        | zero =>
          rw [Nat.add_zero, gC_st b3 (Nat.lt_succ_self _), gC_no f3 (fun k => by omega), e2]
          rfl
        | succ i =>
          have hi : i + 1 < us.length + 1 := hi
          rw [show w + (i + 1) = w + 1 + i by omega, b2 i (by omega)]
          rfl
    have dec : ∀ {o}, isO x = 1 → Fr (fun t k => t = 11 ∧ k = 17) w4 (pI w4 11 0 17 (gI w4 11 0 17 - 1)) ∧ gI (pI w4 11 0 17 (gI w4 11 0 17 - 1)) 11 0 17 = nI (opN (us ++ X)) ∧ o = o := fun {o : Nat} z => ⟨Fr.rfl.pI ⟨rfl, rfl⟩, by rw [gI_pI_s, g17, z, Nat.add_comm, nI_s1], rfl⟩
    refine pk_eq (rkR x) 7 (fun z => ?_) (fun z => ?_)
    · have hd := dec (o := 0) (by rw [hO, if_pos (Or.inl z)])
      exact next _ hd.2.1 hd.1
    · rw [g16, n_nI (by omega), g1215]
      refine z_ii (us ++ X).length rfl (by omega) (pk_ne x 20 (fun y => ?_) (fun y => ?_))
      · refine next _ ?_ Fr.rfl
        rw [g17, hO, if_neg (by omega), Nat.zero_add]
      · have hd := dec (o := 0) (by rw [hO, if_pos (Or.inr y)])
        exact next _ hd.2.1 hd.1
theorem s_settle {s : Nat} {us : List Nat} (hs : 1 ≤ s) (hs7 : s ≤ 7) (hd : 2 ≤ d) (h : StR B n kk r u p iw (us ++ X) w) (hus : ∀ x, x ∈ us → s ≤ rkR x) (ht : tpP X < s) (hw : w + us.length ≤ 300) : ZV d m_X11_settle [vR 11 0, vI (nI s)] u (fun u' => StR B n kk r u' p iw X (w + us.length) ∧ (∀ i, i < us.length → (gC kk u' (w + i)).1 = nI (us.getD i 0)) ∧ Fr (fStl kk w) u u') := by
  obtain ⟨e, rfl⟩ : ∃ e, d = e + 1 := ⟨d - 1, by omega⟩
  intro Q k
  exact E_X11_settle (settle0 hs hs7 (by omega) us X u w h hus ht hw (fun u' a b c => k u' ⟨a, b, c⟩))
theorem s_nextR (hp : p ≤ n) (hd : 2 ≤ d) (h : StR B n kk r u p iw X w) : ZV d m_X11_nextToken [vR 11 0] u (fun u' => StR B n kk r u' (nxT B n p) iw X w ∧ Fr fTq u u') := by
  obtain ⟨e, rfl⟩ : ∃ e, d = e + 2 := ⟨d - 2, by omega⟩
  intro Q k
  obtain ⟨a1, a2, a3, a4, a5, a6, a7, a8, a9, a10⟩ := h
  refine s_nextToken (d := e) a1 (nx_le hp) a2.2.2 Q (fun u' h => k u' ⟨?_, h.2⟩)
  have f := h.2
  exact ⟨a1.tr f, h.1, (f.i (by unfold fTq; omega)).trans a3, (f.i (by unfold fTq; omega)).trans a4, (f.i (by unfold fTq; omega)).trans a5, (f.i (by unfold fTq; omega)).trans a6, ⟨(f.i (by unfold fTq; omega)).trans a7.1, a7.2.1.fr (fun i _ => f.i (by unfold fTq; omega)), a7.2.2⟩, (f.i (by unfold fTq; omega)).trans a8, a9, a10⟩
end RR2
