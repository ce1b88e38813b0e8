/-! the class's search for numbers, not counting -/
def extN (S : Nat → Bool) (L L' : Nat → Nat) : Prop := ∀ g, g < 7 → S g = true → L' g = L g
def solN (N : z_N) (uq : Bool) (top : Nat) (S Lf : Nat → Bool) (L : Nat → Nat) : Prop := ptN N uq (fun g => S g || Lf g) L ∧ ∀ h, h < 7 → Lf h = true → L h ≤ top
def resN (N : z_N) (uq io : Bool) (top : Nat) (S Lf : Nat → Bool) (L : Nat → Nat) (u : z_V) (r : Int32) : Prop := (r = 0 ∧ ∀ L', extN S L L' → ¬ solN N uq top S Lf L') ∨ (r = 1 ∧ ∃ L', extN S L L' ∧ solN N uq top S Lf L' ∧ (io = true → (∀ g h, g < 7 → h < 7 → S g = true → Lf h = true → g < h) → ∀ L'', extN S L L'' → solN N uq top S Lf L'' → ∀ k, k < 7 → Lf k = true → (∀ g, g < k → Lf g = true → L'' g = L' g) → L' k ≤ L'' k) ∧ ∀ g, g < 7 → (S g || Lf g) = true → gI u 202 0 g = nI (L' g))
def kpN (v u : z_V) (S F : Nat → Bool) (uq : Bool) : Prop := FS u F ∧ (uq = true → gL u 1 0 11 = gL v 1 0 11) ∧ ∀ g, g < 7 → S g = true → gI u 202 0 g = gI v 202 0 g
def fGo : Nat → Nat → Prop := fun t k => t = 202 ∨ (t = 1 ∧ (k = 6 ∨ k = 11 ∨ k = 12 ∨ k = 13 ∨ k = 14))
section NB4
variable {N : z_N} {uq io : Bool} {S Lf F G : Nat → Bool} {L : Nat → Nat} {top : Nat}
theorem ptN_cg {T : Nat → Bool} (hW : nWF N) (e : ∀ g, g < 7 → T g = true → S g = true) (h : ptN N uq S L) : ptN N uq T L := by
  have en : ∀ l, nP N l = true → nA N l < 7 ∧ nB N l < 7 := fun l hl => by
    have := hW.2.2.1 l (nP_lt hW hl)
    exact ⟨this.1, this.2.1⟩
  exact ⟨fun hu g k hg hk hne h1 h2 => h.1 hu g k hg hk hne (e g hg h1) (e k hk h2), fun l hl h1 h2 => h.2.1 l hl (e _ (en l hl).1 h1) (e _ (en l hl).2 h2), fun l l' hne hl hl' a1 a2 b1 b2 => h.2.2 l l' hne hl hl' (e _ (en l hl).1 a1) (e _ (en l hl).2 a2) (e _ (en l' hl').1 b1) (e _ (en l' hl').2 b2)⟩
theorem CtN.kp {v u : z_V} (hc : CtN N uq io top v S Lf L F G) (f : Fr fGo v u) (k : kpN v u S F uq) : CtN N uq io top u S Lf L F G := by
  obtain ⟨c1, c2, c3, c4, c5, c6, c7, c8, c9, c10⟩ := hc
  obtain ⟨k1, k2, k3⟩ := k
  exact ⟨c1.fr f (fun k => by unfold fGo; omega) (fun k => by unfold fGo; omega) (fun k => by unfold fGo; omega) (fun k => by unfold fGo; omega), k1, (f.i (by unfold fGo; omega)).trans c3, (f.i (by unfold fGo; omega)).trans c4, (f.i (by unfold fGo; omega)).trans c5, fun hu => ⟨(k2 hu).trans (c6 hu).1, (c6 hu).2⟩, c7, fun g hg hS => ⟨(k3 g hg hS).trans (c8 g hg hS).1, (c8 g hg hS).2⟩, c9, c10⟩
theorem kpN.sh {v u : z_V} {c : Int32} (k : kpN v u S F uq) : kpN v (pI u 1 0 6 c) S F uq := ⟨k.1, k.2.1, fun g hg hS => (gI_pI_t (by decide)).trans (k.2.2 g hg hS)⟩
/-- given up: as it was -/
theorem kpN.back {v u w w1 : z_V} {h x : Nat} (hc : CtN N uq io top v S Lf L F G) (k : kpN v u S F uq) (hh : h < 7) (hl : Lf h = true) (hx : x ≤ 63) (hfit : fitN N F G uq S L h 7 x = true) (hw : stN N S L F h x 7 u w) (kw : kpN w w1 (addF S h) (addN N S L h x 7 F) uq) : kpN v (rsN u w1 x) S F uq := by
  obtain ⟨c1, c2, c3, c4, c5, c6, c7, c8, c9, c10⟩ := hc
  have hSh := c7 h hl
  have hne : ∀ g, S g = true → g ≠ h := fun g z e => by
    rw [e, hSh] at z
    cases z
  refine ⟨⟨?_, ?_, ?_⟩, fun hu => ?_, fun g hg hS => ?_⟩
  · exact ((gL_pL_k (by decide)).trans ((gL_pL_k (by decide)).trans gL_pL_s)).trans k.1.1
  · exact ((gL_pL_k (by decide)).trans gL_pL_s).trans k.1.2.1
  · exact gL_pL_s.trans k.1.2.2
  · have e0 : gL (rsN u w1 x) 1 0 11 = gL w1 1 0 11 &&& (l_shl 1 (nI x) ^^^ (-1)) := (gL_pL_k (by decide)).trans ((gL_pL_k (by decide)).trans ((gL_pL_k (by decide)).trans gL_pL_s))
    rw [e0, kw.2.1 hu, hw.2.1, k.2.1 hu, (c6 hu).1, lW_one x (by omega), lW_or, lW_not, lW_and]
    have hG : G x = false := by
      unfold fitN at hfit
      rw [hu, Bool.and_eq_true] at hfit
      simpa using hfit.1
    refine lW_cg (fun i _ => ?_)
    by_cases z : i = x
    · subst z
      simp [hG]
    · simp [z]
  · have hg' := hne g hS
    show gI w1 202 0 g = _
    rw [kw.2.2 g hg (by rw [addF_n hg']; exact hS), hw.2.2.2.1 g hg', k.2.2 g hg hS]
theorem s_goOnN (hW : nWF N) (ht : top ≤ 63) : ∀ (j d : Nat) (v : z_V) (S Lf : Nat → Bool) (L : Nat → Nat) (F G : Nat → Bool), cntL 7 Lf = j → CtN N uq io top v S Lf L F G → gI v 1 0 10 = 0 → ZI (d + 2 * j + 3) m_X1_goOn [vR 1 0, vR 0 0, vI (nI (bs 7 Lf)), vI (nI (bs 7 S))] v (fun u r => resN N uq io top S Lf L u r ∧ (r = 0 → kpN v u S F uq) ∧ Fr fGo v u) := by
  intro j
  induction j using Nat.strongRecOn with
  | ind j ih =>
    intro d v S Lf L F G hj hc h10 Q q
    have hc' := hc
    obtain ⟨c1, c2, c3, c4, c5, c6, c7, c8, c9, c10⟩ := hc'
    refine E_X1_goOn (B_X1_goOn_0 (cI (s_nextOf (d := d + 2 * j) (Lf := Lf) (S := S) c1 c4) (fun w r hr => ?_)))
    obtain ⟨rfl, hr⟩ := hr
    rcases hr with ⟨rfl, hno⟩ | ⟨h, hh, hl, rfl, hlow⟩
    · refine br_nF rfl (q w 1 ⟨Or.inr ⟨rfl, L, fun _ _ _ => rfl, ⟨ptN_cg hW (fun g hg z => ?_) c9, fun g hg z => ?_⟩, fun _ _ L'' _ _ k hk z => ?_, fun g hg z => ?_⟩, fun z => absurd z (by decide), Fr.rfl⟩)
      · simpa [hno g hg] using z
      · rw [hno g hg] at z
        cases z
      · rw [hno k hk] at z
        cases z
      · rw [hno g hg, Bool.or_false] at z
        exact (c8 g hg z).1
    · refine br_nT (nI_nm1 (by omega)) (cPL (s_fittingN (d := d + 2 * j) c1 c2 c3 c5 ht (fun hu => (c6 hu).1) c8 hh) (br_T h10 ?_))
      rw [ls_bits hh]
      have hSh := c7 h hl
      have hlt := lsF_lt hh hl
      obtain ⟨d', hd'⟩ : ∃ d', d + 2 * j + 1 = d' + 2 * cntL 7 (lsF Lf h) + 3 := ⟨d + 2 * j + 1 - (2 * cntL 7 (lsF Lf h) + 3), by omega⟩
      have ptUp : ∀ L', solN N uq top S Lf L' → extN S L L' → fitN N F G uq S L h 7 (L' h) = true := fun L' hs he => (fitN_iff hW hh hSh c9 c10 (fun hu => (c6 hu).2)).mpr (by
        have hp : ptN N uq (addF S h) L' := ptN_cg hW (fun g hg z => by
          by_cases y : g = h
          · subst y
            show (S g || Lf g) = true
            rw [hl, Bool.or_true]
          · rw [addF_n y] at z
            show (S g || Lf g) = true
            rw [z, Bool.true_or]) hs.1
        have en : ∀ l, nP N l = true → nA N l < 7 ∧ nB N l < 7 := fun l hl => by
          have := hW.2.2.1 l (nP_lt hW hl)
          exact ⟨this.1, this.2.1⟩
        have ev : ∀ g, g < 7 → addF S h g = true → sU L h (L' h) g = L' g := fun g hg z => by
          by_cases y : g = h
          · subst y
            exact sU_s
          · rw [addF_n y] at z
            rw [sU_n y, he g hg z]
        refine ⟨fun hu g k hg hk hne h1 h2 => ?_, fun l hl h1 h2 => ?_, fun l l' hne hl hl' a1 a2 b1 b2 => ?_⟩
        · rw [ev g hg h1, ev k hk h2]
          exact hp.1 hu g k hg hk hne h1 h2
        · rw [ev _ (en l hl).1 h1, ev _ (en l hl).2 h2]
          exact hp.2.1 l hl h1 h2
        · have := hp.2.2 l l' hne hl hl' a1 a2 b1 b2
          unfold fL at this ⊢
          rw [ev _ (en l hl).1 a1, ev _ (en l hl).2 a2, ev _ (en l' hl').1 b1, ev _ (en l' hl').2 b2]
          exact this)
      have solD : ∀ L', solN N uq top S Lf L' ↔ (solN N uq top (addF S h) (lsF Lf h) L' ∧ L' h ≤ top) := by
        intro L'
        have eU : (fun g => S g || Lf g) = (fun g => addF S h g || lsF Lf h g) := funext (fun g => (lsF_U hl g).symm)
        unfold solN
        rw [eU]
        constructor
        · rintro ⟨z1, z2⟩
          refine ⟨⟨z1, fun g hg hg2 => z2 g hg ?_⟩, z2 h hh hl⟩
          unfold lsF at hg2
          rw [Bool.and_eq_true] at hg2
          exact hg2.1
        · rintro ⟨⟨z1, z2⟩, z3⟩
          refine ⟨z1, fun g hg hg2 => ?_⟩
          by_cases y : g = h
          · subst y
            exact z3
          · exact z2 g hg (by simp [lsF, hg2, y])
      have loop : ∀ x, x ≤ top + 1 → ∀ u, Fr fGo w u → kpN w u S F uq → (∀ y, y < x → ∀ L', extN S L L' → L' h = y → ¬ solN N uq top S Lf L') → ∀ u2, z_Wp (z_C (d + 2 * j + 2)) 4 k_X1_goOn Q 101 [some (vR 1 0), some (vR 0 0), u2, some (vI (nI (bs 7 S))), some (vI (nI h)), some (vL (lW (fun x => fitN N F G uq S L h 7 x && decide (x ≤ top)))), none, some (vI (nI (bs 7 (lsF Lf h)))), some (vI (nI top)), some (vI (nI x))] [] u := by
        refine z_up (top + 1) (fun u f kp hno u2 => ?_) (fun x hx ihx u f kp hno u2 => ?_)
        · exact B_X1_goOn_101 (pk_lt top (top + 1) (fun _ => q u 0 ⟨Or.inl ⟨rfl, fun L' he hs => hno (L' h) (by have := hs.2 h hh hl; omega) L' he rfl hs⟩, fun _ => kp, f⟩) (fun z => absurd z (by omega)))
        · refine B_X1_goOn_101 (pk_lt top x (fun z => absurd z (by omega)) (fun _ => ?_))
          rw [nI_1]
          have go : fitN N F G uq S L h 7 x = true → ∀ u', Fr fGo w u' → kpN w u' S F uq → z_C (d + 2 * j + 2) m_X1_goOnWith [vR 1 0, vR 0 0, vI (nI h), vI (nI x), vI (nI (bs 7 (lsF Lf h))), vI (nI (bs 7 S))] u' (fun w1 o2 => ∃ i3 : Int32, o2 = some (vI i3) ∧ ((i3 = 0 → z_Wp (z_C (d + 2 * j + 2)) 4 k_X1_goOn Q 101 [some (vR 1 0), some (vR 0 0), none, some (vI (nI (bs 7 S))), some (vI (nI h)), some (vL (lW (fun x => fitN N F G uq S L h 7 x && decide (x ≤ top)))), none, some (vI (nI (bs 7 (lsF Lf h)))), some (vI (nI top)), some (vI (nI (x + 1)))] [] w1) ∧ (¬ i3 = 0 → Q w1 (some (vI 1))))) := by
            intro hfit u' f' kp'
            have hcu := hc.kp f' kp'
            have hIH : ∀ w0, stN N S L F h x 7 u' w0 → ZI (d + 2 * j + 1) m_X1_goOn [vR 1 0, vR 0 0, vI (nI (bs 7 (lsF Lf h))), vI (nI (bs 7 (addF S h)))] w0 (fun w1 r => resN N uq io top (addF S h) (lsF Lf h) (sU L h x) w1 r ∧ (r = 0 → kpN w0 w1 (addF S h) (addN N S L h x 7 F) uq) ∧ Fr fGo w0 w1) := fun w0 hst => by
              rw [hd']
              exact ih _ (by omega) d' w0 _ _ _ _ _ rfl (hcu.step hW hh hl (by omega) hfit hst) (((hst.2.2.2.2.i (by unfold fSt; omega)).trans (f'.i (by unfold fGo; omega))).trans h10)
            refine cI (s_goOnWithN (d := d + 2 * j) hcu.1 hcu.2.1 hcu.2.2.2.2.2.2.2.1 hh hSh (by omega) hIH) (fun u1 r hr => ?_)
            obtain ⟨w0, w1, r', hst, ⟨hres, hkp, hfr⟩, hcase⟩ := hr
            have f1 : Fr fGo w w1 := (f'.trans (hst.2.2.2.2.mono (fun t k z => by unfold fSt at z; unfold fGo; omega))).trans hfr
            have extUp : ∀ L', extN S L L' → L' h = x → extN (addF S h) (sU L h x) L' := fun L' he hx' g hg z => by
              by_cases y : g = h
              · subst y
                rw [sU_s, hx']
              · rw [addF_n y] at z
                rw [sU_n y, he g hg z]
            rcases hcase with ⟨rfl, rfl, rfl⟩ | ⟨hne, rfl, rfl⟩
            · rcases hres with ⟨_, hn⟩ | ⟨z, _⟩
              · have fb : Fr fGo w (rsN u' w1 x) := (((f1.pL (Or.inr ⟨rfl, by decide⟩)).pL (Or.inr ⟨rfl, by decide⟩)).pL (Or.inr ⟨rfl, by decide⟩)).pL (Or.inr ⟨rfl, by decide⟩)
                refine ⟨fun _ => ihx (rsN u' w1 x) fb (kp'.back hc hh hl (by omega) hfit hst (hkp rfl)) (fun y hy => ?_) none, fun z => absurd rfl z⟩
                rcases Nat.lt_succ_iff_lt_or_eq.mp hy with z | z
                · exact hno y z
                · subst z
                  exact fun L' he hx' hs => hn L' (extUp L' he hx') ((solD L').mp hs).1
              · exact absurd z (by decide)
            · rcases hres with ⟨z, _⟩ | ⟨rfl, L', e1, e2, e3, e4⟩
              · exact absurd z hne
              · have hxL : L' h = x := (e1 h hh addF_s).trans sU_s
                have hSne : ∀ g, S g = true → g ≠ h := fun g z e => by
                  rw [e, hSh] at z
                  cases z
                refine ⟨fun z => absurd z (by decide), fun _ => q _ 1 ⟨Or.inr ⟨rfl, L', fun g hg z => ?_, (solD L').mpr ⟨e2, by omega⟩, fun hio hdcl L'' he'' hs'' k hk hlk hpre => ?_, fun g hg z => e4 g hg (by rw [lsF_U hl]; exact z)⟩, fun z => absurd z (by decide), f1⟩⟩
                · rw [e1 g hg (by rw [addF_n (hSne g z)]; exact z), sU_n (hSne g z)]
                · have hlow' := hlow hio
                  by_cases y : k = h
                  · subst y
                    rw [hxL]
                    rcases Nat.lt_or_ge (L'' k) x with y | y
                    · exact absurd hs'' (hno _ y L'' he'' rfl)
                    · exact y
                  · have hhk : h < k := by
                      rcases Nat.lt_trichotomy k h with z | z | z
                      · rw [hlow' k z] at hlk
                        cases hlk
                      · exact absurd z y
                      · exact z
                    refine e3 hio (fun g k hg hk z1 z2 => ?_) L'' (extUp L'' he'' ((hpre h hhk hl).trans hxL)) ((solD L'').mp hs'').1 k hk (by simp [lsF, hlk, y]) (fun g hg z => hpre g hg ?_)
                    · unfold lsF at z2
                      rw [Bool.and_eq_true, Bool.not_eq_true', decide_eq_false_iff_not] at z2
                      by_cases yg : g = h
                      · subst yg
                        rcases Nat.lt_trichotomy k g with z | z | z
                        · have := hlow' k z
                          rw [z2.1] at this
                          cases this
                        · exact absurd z z2.2
                        · exact z
                      · rw [addF_n yg] at z1
                        exact hdcl g k hg hk z1 z2.1
                    · unfold lsF at z
                      rw [Bool.and_eq_true] at z
                      exact z.1
          refine br_w' (by omega) (fun e => ?_) (fun e => ?_)
          · rw [Bool.and_eq_true] at e
            exact ⟨fun _ => go e.1 u f kp, fun _ => ⟨fun _ => go e.1 _ (f.pI (Or.inr ⟨rfl, by decide⟩)) kp.sh, fun _ => go e.1 _ (f.pI (Or.inr ⟨rfl, by decide⟩)) kp.sh⟩⟩
          · refine ihx u f kp (fun y hy => ?_) none
            rcases Nat.lt_succ_iff_lt_or_eq.mp hy with z | z
            · exact hno y z
            · subst z
              intro L' he hx' hs
              have := ptUp L' hs he
              rw [hx'] at this
              rw [this, decide_eq_true (by omega)] at e
              cases e
      refine B_X1_goOn_72 (br_T h10 ?_)
      rw [c5]
      exact loop 0 (by omega) w Fr.rfl ⟨c2, fun _ => rfl, fun _ _ _ => rfl⟩ (fun y hy => absurd hy (by omega)) _
end NB4
