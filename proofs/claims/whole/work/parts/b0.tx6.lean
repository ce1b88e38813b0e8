/-! a text: clause after clause, both sides -/
abbrev z_Rf : Type := (Nat × Nat) ⊕ z_T
def fClT (j : Nat) : Nat → Nat → Nat → Prop := fun t m k => fCy j t m k ∨ (t = 3 ∧ k = 1)
def CT (j : Nat) (v : z_V) (R : z_Rf) (u : z_V) (x : Int32) : Prop := match R with
  | .inl g => x = 0 ∧ gI u 3 0 1 = nI 0 ∧ gI u 3 0 3 = nI g.1 ∧ gI u 3 0 4 = nI g.2 ∧ Fa (fClT j) v u
  | .inr T => x = 1 ∧ gI u 3 0 1 = nI 0 ∧ TC u j T ∧ gI u 3 0 3 = gI v 3 0 3 ∧ gI u 3 0 4 = gI v 3 0 4 ∧ Fa (fClT j) v u
def RT' (kk : Nat) (v : z_V) (R : z_Rf) (u : z_V) (x : Int32) : Prop := match R with
  | .inl g => x = nI g.1 ∧ 1 ≤ g.1 ∧ g.1 ≤ 6 ∧ gI u 11 0 8 = nI g.2 ∧ Fr (fRt kk) v u
  | .inr T => x = 0 ∧ TR u kk T ∧ Fr (fRt kk) v u
theorem TRb.done {v : z_V} {k w : Nat} {T : z_T} (h : TRb v k T w T.2.2.1) (hw : w ≤ 300) : TR v k T := by
  have hl : ∀ {s r law}, LRf v k s r T.2.2.1 T.2.2.2.1 law w → LR1 v k s r T.2.2.1 T.2.2.2.1 law := fun {s r law} l => by
    cases law with
    | none => exact l
    | some e =>
      obtain ⟨j, f, a1, a2, a3, a4, a5, a6, a7, a8⟩ := l
      exact ⟨j, f, a1, a2, a3, a4, a5, by omega, a7, a8⟩
  exact ⟨h.1, h.2.1, h.2.2.1, hl h.2.2.2.1, hl h.2.2.2.2⟩
section TX6
variable {d : Nat} {u v : z_V} {B : Nat → Nat} {n j kk : Nat} {p q w : Nat} {T : z_T}
theorem stopR_inr {X : z_Rc} {T' : z_T} {q0 : Nat} (h : stopR B n X = .inr (T', q0)) : ∃ q', X = .inr (T', q') ∧ tkC B n q' = 40 ∧ q0 = nxT B n q' := by
  cases X with
  | inl g => cases h
  | inr y =>
    obtain ⟨T2, q'⟩ := y
    have h : expR B n 40 q' (.inr (T2, nxT B n q')) = .inr (T', q0) := h
    have h1 := expR_inr h
    have h2 := h1.2
    cases h2
    exact ⟨q', rfl, h1.1, rfl⟩
theorem stopR_inl {X : z_Rc} {g : Nat × Nat} (h : stopR B n X = .inl g) : X = .inl g ∨ g.1 = 1 := by
  cases X with
  | inl g' =>
    have h : (Sum.inl g' : z_Rc) = .inl g := h
    cases h
    exact Or.inl rfl
  | inr y =>
    obtain ⟨T2, q'⟩ := y
    have h : expR B n 40 q' (.inr (T2, nxT B n q')) = .inl g := h
    unfold expR at h
    split at h
    · cases h
    · cases h
      exact Or.inr rfl
theorem clR_ok {R : z_Rs} {r : Bool} {T' : z_T} {q0 : Nat} (hp : p ≤ n) (hpq : PQ B n r 3 0 (nxT B n p) zZ R) (h : clR B n T p R = .inr (T', q0)) : p < q0 ∧ q0 ≤ n := by
  have gn := nx_le (B := B) hp
  unfold clR at h
  split at h
  · rename_i hst
    have k0 := nx_gt (B := B) hp (by
      intro z
      rw [z] at hst
      cases hst)
    split at h
    · cases h
    · split at h
      · cases h
      · obtain ⟨q', h1, h2, h3⟩ := stopR_inr h
        have : nxT B n p ≤ q' ∧ q' ≤ n := by
          split at h1
          · obtain ⟨e, he, _⟩ := lawX_inr h1
            subst he
            have := hpq.st rfl gn
            omega
          · exact ⟨doR_ge gn h1, doR_le gn h1⟩
        have k1 := nx_gt (B := B) this.2 (by omega)
        have n1 := nx_le (B := B) this.2
        rw [h3]
        omega
  · cases h
theorem clR_fl {R : z_Rs} {r : Bool} {g : Nat × Nat} (hp : p ≤ n) (hpq : PQ B n r 3 0 (nxT B n p) zZ R) (h : clR B n T p R = .inl g) : 1 ≤ g.1 ∧ g.1 ≤ 6 := by
  have gn := nx_le (B := B) hp
  unfold clR at h
  split at h
  · split at h
    · cases h
      exact ⟨show 1 ≤ 4 by decide, show 4 ≤ 6 by decide⟩
    · split at h
      · cases h
        exact ⟨show 1 ≤ 6 by decide, show 6 ≤ 6 by decide⟩
      · rcases stopR_inl h with h1 | h1
        · split at h1
          · cases R with
            | inl g' =>
              have h1 : (Sum.inl g' : z_Rc) = .inl g := h1
              cases h1
              have := hpq.fl gn
              omega
            | inr y => cases h1
          · have := doR_fl gn h1
            omega
        · omega
  · cases h
    exact ⟨show 1 ≤ 1 by decide, show 1 ≤ 6 by decide⟩
theorem Fa_cl {u : z_V} (h : Fa (fCt j) v u) : Fa (fClT j) v u := h.mono (fun t m k q => Or.inl (Or.inl q))
theorem loopB (hkk : kk ≤ 3) (hn : n ≤ 300) : ∀ m p T, n - p < m → p ≤ n → ∃ Rt : z_Rf, (∀ d v f i (Q : z_RT) u1, 74 ≤ d → TCc B n j v p T f → f ≤ p → i ≤ p → (∀ u x, CT j v Rt u x → Q u (some (vI x))) → z_Wp (z_C d) 4 k_X3_read Q 40 [some (vR 3 0), u1, some (vI 1), some (vI (nI i))] [] v) ∧ (∀ d u w (Q : z_RT) u1, 17 ≤ d → TRc B n kk u p T w → w ≤ p → (∀ u' x, RT' kk u Rt u' x → Q u' (some (vI x))) → z_Wp (z_C d) 1 k_X11_readText Q 43 [some (vR 11 0), u1] [] u) := by
  intro m
  induction m with
  | zero => exact fun p T h => absurd h (Nat.not_lt_zero _)
  | succ m IH =>
    intro p T hm hp
    have t42 := tk_42 (B := B) (n := n) (p := p)
    by_cases h41 : tkC B n p = 41
    · refine ⟨.inr T, fun d v f i Q u1 hd h hf hi k => ?_, fun d u w Q u1 hd h hw k => ?_⟩
      · refine B_X3_read_40 (pk_lt 300 i (fun z => absurd z (by omega)) (fun _ => ⟨fun z => absurd z (by decide), fun _ => ?_⟩))
        rw [h.2.1.1, h41]
        have f1 : Fa (fun t m k => t = 3 ∧ k = 1) v (pI v 3 0 1 0) := Fa.rfl.pI ⟨rfl, rfl⟩
        refine ⟨fun _ => z01_1 rfl (k _ 1 ⟨rfl, gI_pI_s, ?_, f1.i (by omega), f1.i (by omega), f1.mono (fun t m k z => Or.inr z)⟩), fun z => absurd rfl z⟩
        exact (h.2.2.2.2.fr f1 (fun k _ => by omega) (fun k _ => by omega) (fun k => by omega)).done (by omega)
      · refine B_X11_readText_43 ?_
        rw [h.2.1.1.1 h41]
        exact ⟨fun _ => k u 0 ⟨rfl, h.2.2.2.2.2.1.done (by omega), Fr.rfl⟩, fun z => absurd rfl z⟩
    · have gn := nx_le (B := B) hp
      obtain ⟨R, hpq, hcs, hrn⟩ := sumsB (B := B) (n := n) (r := (tkC B n p == 0)) (p := nxT B n p) j kk gn
      have tokC : ∀ {v f d i u1} {Q : z_RT}, TCc B n j v p T f → f ≤ p → i ≤ p → 74 ≤ d → (∀ w x, CO B n j v (clR B n T p R) w x → z_Wp (z_C d) 4 k_X3_read Q 40 [some (vR 3 0), none, some (vI x), some (vI (nI (i + 1)))] [] w) → z_Wp (z_C d) 4 k_X3_read Q 40 [some (vR 3 0), u1, some (vI 1), some (vI (nI i))] [] v := fun {v f d i u1 Q} h hf hi hd c => by
        refine B_X3_read_40 (pk_lt 300 i (fun z => absurd z (by omega)) (fun _ => ⟨fun z => absurd z (by decide), fun _ => ?_⟩))
        rw [h.2.1.1, nI_1]
        exact pk_eq (tkC B n p) 41 (fun z => absurd z h41) (fun _ => cI (s_clauseC (d := d) (by omega) hp hf h hpq hcs) c)
      have tokR : ∀ {u w d u1} {Q : z_RT}, TRc B n kk u p T w → w ≤ p → 17 ≤ d → (∀ w1 x, RO B n kk u (clR B n T p R) w1 x → (x = 0 → z_Wp (z_C d) 1 k_X11_readText Q 43 [some (vR 11 0), some (vI x)] [] w1) ∧ (¬ x = 0 → Q w1 (some (vI x)))) → z_Wp (z_C d) 1 k_X11_readText Q 43 [some (vR 11 0), u1] [] u := fun {u w d u1 Q} h hw hd c => by
        obtain ⟨t, t1, t2, t3, t4, t5, t6⟩ := h.2.1.1.t9 t42
        refine B_X11_readText_43 ?_
        rw [t1]
        exact pk_eq t 0 (fun z => absurd (t5.mp z) h41) (fun _ => cI (s_clauseR (d := d) (by omega) hp hw h hpq hrn) c)
      cases hX : clR B n T p R with
      | inl g =>
        have g6 := clR_fl hp hpq hX
        rw [hX] at tokC tokR
        refine ⟨.inl g, fun d v f i Q u1 hd h hf hi k => tokC h hf hi hd (fun w x hx => ?_), fun d u w Q u1 hd h hw k => tokR h hw hd (fun w1 x hx => ?_)⟩
        · obtain ⟨x0, x1, x2, x3⟩ := hx
          subst x0
          have f1 : Fa (fun t m k => t = 3 ∧ k = 1) w (pI w 3 0 1 0) := Fa.rfl.pI ⟨rfl, rfl⟩
          have fin : z_if (z_01 0) (Q (pI w 3 0 1 0) (some (vI 0))) := z01_0 rfl (k _ 0 ⟨rfl, gI_pI_s, (f1.i (by omega)).trans x1, (f1.i (by omega)).trans x2, (x3.mono (fun t m k z => Or.inl z)).trans (f1.mono (fun t m k z => Or.inr z))⟩)
          exact B_X3_read_40 ⟨fun _ => fin, fun _ => ⟨fun _ => fin, fun z => absurd rfl z⟩⟩
        · obtain ⟨x0, x1, x2⟩ := hx
          refine ⟨fun z => ?_, fun _ => k _ _ ⟨x0, g6.1, g6.2, x1, x2⟩⟩
          rw [x0] at z
          have := (nI_eq (a := g.1) (b := 0) (by omega) (by decide)).mp z
          omega
      | inr y =>
        obtain ⟨T', q0⟩ := y
        have ok := clR_ok hp hpq hX
        rw [hX] at tokC tokR
        obtain ⟨Rt, hC, hR⟩ := IH q0 T' (by omega) ok.2
        refine ⟨Rt, fun d v f i Q u1 hd h hf hi k => tokC h hf hi hd (fun w x hx => ?_), fun d u w Q u1 hd h hw k => tokR h hw hd (fun w1 x hx => ?_)⟩
        · obtain ⟨x0, ⟨f', hf', S'⟩, x3⟩ := hx
          subst x0
          refine hC d w f' (i + 1) Q none hd S' hf' (by show i + 1 ≤ q0; omega) (fun u x hx => k u x ?_)
          have e3 : gI w 3 0 3 = gI v 3 0 3 := x3.i (by unfold fCt; omega)
          have e4 : gI w 3 0 4 = gI v 3 0 4 := x3.i (by unfold fCt; omega)
          cases Rt with
          | inl g => exact ⟨hx.1, hx.2.1, hx.2.2.1, hx.2.2.2.1, (Fa_cl x3).trans hx.2.2.2.2⟩
          | inr T2 => exact ⟨hx.1, hx.2.1, hx.2.2.1, hx.2.2.2.1.trans e3, hx.2.2.2.2.1.trans e4, (Fa_cl x3).trans hx.2.2.2.2.2⟩
        · obtain ⟨x0, ⟨w', hw', S'⟩, x3⟩ := hx
          refine ⟨fun _ => hR d w1 w' Q _ hd S' hw' (fun u' x hx => k u' x ?_), fun z => absurd x0 z⟩
          cases Rt with
          | inl g => exact ⟨hx.1, hx.2.1, hx.2.2.1, hx.2.2.2.1, x3.trans hx.2.2.2.2⟩
          | inr T2 => exact ⟨hx.1, hx.2.1, x3.trans hx.2.2⟩
end TX6
