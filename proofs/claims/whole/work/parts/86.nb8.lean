/-! the class counts rows of numbers -/
def fGc : Nat → Nat → Prop := fun t k => t = 202 ∨ (t = 1 ∧ (k = 5 ∨ k = 6 ∨ k = 11 ∨ k = 12 ∨ k = 13 ∨ k = 14))
section NB8
variable {N : z_N} {S Lf F G : Nat → Bool} {L : Nat → Nat} {top : Nat}
theorem ptN_m7 {uq : Bool} {T : Nat → Bool} {L' : Nat → Nat} (hW : nWF N) (h : ptN N uq T L') (hs : ∀ g, g < 7 → S g = true → T g = true) (e : ∀ g, g < 7 → S g = true → L' g = L g) : ptN N uq S L := by
  have hp : ptN N uq S L' := ptN_cg hW hs h
  have en : ∀ l, nP N l = true → nA N l < 7 ∧ nB N l < 7 := fun l hl => by
    have := hW.2.2.1 l (nP_lt hW hl)
    exact ⟨this.1, this.2.1⟩
  refine ⟨fun hu g k hg hk hne h1 h2 => ?_, fun l hl h1 h2 => ?_, fun l l' hne hl hl' a1 a2 b1 b2 => ?_⟩
  · rw [← e g hg h1, ← e k hk h2]
    exact hp.1 hu g k hg hk hne h1 h2
  · rw [← e _ (en l hl).1 h1, ← e _ (en l hl).2 h2]
    exact hp.2.1 l hl h1 h2
  · have := hp.2.2 l l' hne hl hl' a1 a2 b1 b2
    unfold fL at this ⊢
    rw [← e _ (en l hl).1 a1, ← e _ (en l hl).2 a2, ← e _ (en l' hl').1 b1, ← e _ (en l' hl').2 b2]
    exact this
theorem CtN.kc {uq io : Bool} {v u : z_V} (hc : CtN N uq io top v S Lf L F G) (f : Fr fGc v u) (k : kpN v u S F uq) : CtN N uq io top u S Lf L F G := by
  obtain ⟨c1, c2, c3, c4, c5, c6, c7, c8, c9, c10⟩ := hc
  obtain ⟨k1, k2, k3⟩ := k
  exact ⟨c1.fr f (fun k => by unfold fGc; omega) (fun k => by unfold fGc; omega) (fun k => by unfold fGc; omega) (fun k => by unfold fGc; omega), k1, (f.i (by unfold fGc; omega)).trans c3, (f.i (by unfold fGc; omega)).trans c4, (f.i (by unfold fGc; omega)).trans c5, fun hu => ⟨(k2 hu).trans (c6 hu).1, (c6 hu).2⟩, c7, fun g hg hS => ⟨(k3 g hg hS).trans (c8 g hg hS).1, (c8 g hg hS).2⟩, c9, c10⟩
/-- none with a number that doesn't fit -/
theorem cnt_no {h x : Nat} {vs : List Nat} (hW : nWF N) (hh : h < 7) (hl : Lf h = true) (hSh : S h = false) (hU : ∀ g, g < 7 → (S g || Lf g) = nW N g) (hvs : ∀ g, g ∈ vs ↔ g < 7 ∧ lsF Lf h g = true) (hdj : ∀ h, Lf h = true → S h = false) (c9 : ptN N true S L) (c10 : faN N S L F) (c6 : gaN S L G) (e : fitN N F G true S L h 7 x = false) : ctV 0 (top + 1) (Pc N) vs (sU L h x) = 0 := ctV_0 (fun L' h' => by
  cases z : Pc N L'
  · rfl
  · have hp := (Pc_iff hW).mp z
    have : ptN N true (addF S h) (sU L h x) := ptN_m7 hW hp (fun g hg y => by
      rw [← hU g hg]
      by_cases q : g = h
      · subst q
        rw [hl, Bool.or_true]
      · rw [addF_n q] at y
        rw [y, Bool.true_or]) (fun g hg y => h' g (fun m => by
        have hm := (hvs g).mp m
        unfold lsF at hm
        rw [Bool.and_eq_true, Bool.not_eq_true', decide_eq_false_iff_not] at hm
        rw [addF_n hm.2.2, hdj g hm.2.1] at y
        cases y))
    rw [(fitN_iff hW hh hSh c9 c10 (fun _ => c6)).mpr this] at e
    cases e)
theorem s_lvl {D h tp c : Nat} {v : z_V} {Q : z_RT} {vs : List Nat} {W : Nat → Nat} {sE : Bool} (hW : nWF N) (ht : top ≤ 10) (hc : CtN N true false top v S Lf L F G) (h10 : gI v 1 0 10 = bI true) (hh : h < 7) (hl : Lf h = true) (hU : ∀ g, g < 7 → (S g || Lf g) = nW N g) (hvs : ∀ g, g ∈ vs ↔ g < 7 ∧ lsF Lf h g = true) (htp : tp ≤ top) (hsE : nI (bs 7 S) = 0 ↔ sE = true) (hW0 : sE = false → gI v 1 0 6 = nI c ∧ ∀ y, W y = c) (hW1 : sE = true → W = wHf top)
    (inner : ∀ x u', x ≤ top → fitN N F G true S L h 7 x = true → CtN N true false top u' S Lf L F G → gI u' 1 0 10 = bI true → gI u' 1 0 6 = nI (W x) → ∀ w0, stN N S L F h x 7 u' w0 → ZI (D + 1) m_X1_goOn [vR 1 0, vR 0 0, vI (nI (bs 7 (lsF Lf h))), vI (nI (bs 7 (addF S h)))] w0 (fun w1 r => r = 0 ∧ gL w1 1 0 5 = gL w0 1 0 5 + lN (W x * ctV 0 (top + 1) (Pc N) vs (sU L h x)) ∧ kpN w0 w1 (addF S h) (addN N S L h x 7 F) true ∧ gI w1 1 0 6 = gI w0 1 0 6 ∧ Fr fGc w0 w1))
    (q : ∀ u, gL u 1 0 5 = gL v 1 0 5 + lN (smF (tp + 1) 0 (fun y => W y * ctV 0 (top + 1) (Pc N) vs (sU L h y))) → kpN v u S F true → (sE = false → gI u 1 0 6 = gI v 1 0 6) → Fr fGc v u → Q u (some (vI 0))) :
    ∀ u2, z_Wp (z_C (D + 2)) 4 k_X1_goOn Q 101 [some (vR 1 0), some (vR 0 0), u2, some (vI (nI (bs 7 S))), some (vI (nI h)), some (vL (lW (fun x => fitN N F G true S L h 7 x && decide (x ≤ top)))), none, some (vI (nI (bs 7 (lsF Lf h)))), some (vI (nI tp)), some (vI 0)] [] v := by
  have hc' := hc
  obtain ⟨c1, c2, c3, c4, c5, c6, c7, c8, c9, c10⟩ := hc'
  have hSh := c7 h hl
  have loop : ∀ x, x ≤ tp + 1 → ∀ u, Fr fGc v u → kpN v u S F true → (sE = false → gI u 1 0 6 = gI v 1 0 6) → gL u 1 0 5 = gL v 1 0 5 + lN (smF x 0 (fun y => W y * ctV 0 (top + 1) (Pc N) vs (sU L h y))) → ∀ u2, z_Wp (z_C (D + 2)) 4 k_X1_goOn Q 101 [some (vR 1 0), some (vR 0 0), u2, some (vI (nI (bs 7 S))), some (vI (nI h)), some (vL (lW (fun x => fitN N F G true S L h 7 x && decide (x ≤ top)))), none, some (vI (nI (bs 7 (lsF Lf h)))), some (vI (nI tp)), some (vI (nI x))] [] u := by
    refine z_up (tp + 1) (fun u f kp k6 k5 u2 => ?_) (fun x hx ihx u f kp k6 k5 u2 => ?_)
    · exact B_X1_goOn_101 (pk_lt tp (tp + 1) (fun _ => q u k5 kp k6 f) (fun z => absurd z (by omega)))
    · refine B_X1_goOn_101 (pk_lt tp x (fun z => absurd z (by omega)) (fun _ => ?_))
      rw [nI_1]
      have go : fitN N F G true S L h 7 x = true → ∀ u', Fr fGc v u' → kpN v u' S F true → (sE = false → gI u' 1 0 6 = gI v 1 0 6) → gI u' 1 0 6 = nI (W x) → gL u' 1 0 5 = gL u 1 0 5 → z_C (D + 2) m_X1_goOnWith [vR 1 0, vR 0 0, vI (nI h), vI (nI x), vI (nI (bs 7 (lsF Lf h))), vI (nI (bs 7 S))] u' (fun w1 o2 => ∃ i3 : Int32, o2 = some (vI i3) ∧ ((i3 = 0 → z_Wp (z_C (D + 2)) 4 k_X1_goOn Q 101 [some (vR 1 0), some (vR 0 0), none, some (vI (nI (bs 7 S))), some (vI (nI h)), some (vL (lW (fun x => fitN N F G true S L h 7 x && decide (x ≤ top)))), none, some (vI (nI (bs 7 (lsF Lf h)))), some (vI (nI tp)), some (vI (nI (x + 1)))] [] w1) ∧ (¬ i3 = 0 → Q w1 (some (vI 1))))) := by
        intro hfit u' f' kp' k6' hWx h5
        have hcu := hc.kc f' kp'
        refine cI (s_goOnWithN (d := D) hcu.1 hcu.2.1 hcu.2.2.2.2.2.2.2.1 hh hSh (by omega) (inner x u' (by omega) hfit hcu ((f'.i (by unfold fGc; omega)).trans h10) hWx)) (fun u1 r hr => ?_)
        obtain ⟨w0, w1, r', hst, ⟨rfl, g5, gk, g6, gf⟩, hcase⟩ := hr
        rcases hcase with ⟨_, rfl, rfl⟩ | ⟨hne, _, _⟩
        · refine br_T rfl ?_
          have f1 : Fr fGc v w1 := (f'.trans (hst.2.2.2.2.mono (fun t k z => by unfold fSt at z; unfold fGc; omega))).trans gf
          have fb : Fr fGc v (rsN u' w1 x) := (((f1.pL (Or.inr ⟨rfl, by decide⟩)).pL (Or.inr ⟨rfl, by decide⟩)).pL (Or.inr ⟨rfl, by decide⟩)).pL (Or.inr ⟨rfl, by decide⟩)
          have e5 : gL (rsN u' w1 x) 1 0 5 = gL w1 1 0 5 := (gL_pL_k (by decide)).trans ((gL_pL_k (by decide)).trans ((gL_pL_k (by decide)).trans (gL_pL_k (by decide))))
          refine ihx (rsN u' w1 x) fb (kp'.back hc hh hl (by omega) hfit hst gk) (fun z => ?_) ?_ none
          · show gI w1 1 0 6 = _
            rw [g6, hst.2.2.2.2.i (by unfold fSt; omega)]
            exact k6' z
          · rw [e5, g5, hst.2.2.2.2.l (by unfold fSt; omega), h5, k5, Int64.add_assoc, lN_add, smF_end, Nat.zero_add]
        · exact absurd rfl hne
      refine br_w' (by omega) (fun e => ?_) (fun e => ?_)
      · rw [Bool.and_eq_true] at e
        refine ⟨fun z => ?_, fun z => ?_⟩
        · have hs : sE = false := by
            cases y : sE
            · rfl
            · exact absurd (hsE.mpr y) z
          exact go e.1 u f kp k6 ((k6 hs).trans (by rw [(hW0 hs).2]; exact (hW0 hs).1)) rfl
        · have hs := hsE.mp z
          have e7 : gI u 1 0 7 = nI top := (f.i (by unfold fGc; omega)).trans c5
          rw [e7, show (2 : Int32) = nI 2 from rfl, pk_mul]
          have nos : ∀ {a b : Int32}, sE = false → a = b := fun y => by
            rw [hs] at y
            cases y
          refine pk_ne (x * 2) top (fun y => ?_) (fun y => ?_)
          · refine go e.1 _ (f.pI (Or.inr ⟨rfl, by decide⟩)) kp.sh nos ?_ rfl
            rw [gI_pI_s, hW1 hs]
            unfold wHf
            rw [if_neg y]
          · refine go e.1 _ (f.pI (Or.inr ⟨rfl, by decide⟩)) kp.sh nos ?_ rfl
            rw [gI_pI_s, hW1 hs]
            unfold wHf
            rw [if_pos y]
            rfl
      · refine ihx u f kp k6 ?_ none
        have ef : fitN N F G true S L h 7 x = false := by
          cases y : fitN N F G true S L h 7 x
          · rfl
          · rw [y, decide_eq_true (by omega)] at e
            cases e
        rw [k5, smF_end, Nat.zero_add, cnt_no hW hh hl hSh hU hvs c7 c9 c10 (c6 rfl).2 ef, Nat.mul_zero]
        rfl
  intro u2
  refine loop 0 (by omega) v Fr.rfl ⟨c2, fun _ => rfl, fun _ _ _ => rfl⟩ (fun _ => rfl) ?_ u2
  show gL v 1 0 5 = gL v 1 0 5 + lN 0
  exact (Int64.add_zero _).symm
end NB8
