/-! the reference's walk over labels -/
section DF1
variable {D : Nat} {v : z_V} {N : z_N} {Q : z_RT} {kind top : Nat} {b : Bool} {Cb : Nat → (Nat → Nat) → Bool}
def GL (D : Nat) (Q : z_RT) (kind top : Nat) (b : Bool) (x6 : Int32) (y : Nat) (u : z_V) : Prop := z_Wp (z_C D) 2 k_X11_labelled Q 31 [some (vR 11 0), some (vI (nI kind)), some (vI (nI top)), some (vI (bI b)), some (vL (lN y)), none, some (vI x6)] [] u
def solL (N : z_N) (Cb : Nat → (Nat → Nat) → Bool) (top : Nat) (L : Nat → Nat) : Prop := ∀ k, k < nM N → Cb k L = true ∧ L (nK N k) ≤ top
def PbL (N : z_N) (Cb : Nat → (Nat → Nat) → Bool) (L : Nat → Nat) : Bool := allL (nM N) (fun k => Cb k L)
def locL (N : z_N) (Cb : Nat → (Nat → Nat) → Bool) : Prop := ∀ k L L', k < nM N → (∀ h, h < 7 → nW N h = true → rkW N h ≤ k → L h = L' h) → Cb k L = Cb k L'
def NBp (N : z_N) (Cb : Nat → (Nat → Nat) → Bool) (top k : Nat) (L : Nat → Nat) : Prop := ∀ p, p < k → ∀ L', solL N Cb top L' → (∀ p', p' < p → L' (nK N p') = L (nK N p')) → L (nK N p) ≤ L' (nK N p)
def NBc (N : z_N) (Cb : Nat → (Nat → Nat) → Bool) (top k c : Nat) (L : Nat → Nat) : Prop := ∀ L', solL N Cb top L' → (∀ p', p' < k → L' (nK N p') = L (nK N p')) → c ≤ L' (nK N k)
theorem LB.upd {u : z_V} {L : Nat → Nat} {k c : Nat} (h : LB u N L k) (hk : k < nM N) : LB (pI u 1226 0 (nK N k) (nI c)) N (sU L (nK N k) c) (k + 1) := by
  intro g hg hr
  have hw := nK_ok hk
  by_cases e : g = nK N k
  · subst e
    rw [gI_pI_s, if_pos hw.2.1, sU_s]
  · rw [gI_pI_k e, sU_n e]
    refine h g hg (fun z => ?_)
    have := hr z
    have : rkW N g ≠ k := fun y => e (by rw [← y, nK_rk hg z])
    omega
theorem LB.low {u : z_V} {L L' : Nat → Nat} {k : Nat} (h : LB u N L (k + 1)) (e : ∀ g, g < 7 → nW N g = true → rkW N g < k → L g = L' g) : LB u N L' k := by
  intro g hg hr
  rw [h g hg (fun z => by have := hr z; omega)]
  cases z : nW N g
  · rfl
  · rw [if_pos rfl, if_pos rfl, e g hg z (hr z)]
theorem LB.low0 {u : z_V} {L : Nat → Nat} {k : Nat} {x : Int32} (h : LB u N L k) (hk : k < nM N) : LB (pI u 1226 0 (nK N k) x) N L k := by
  intro g hg hr
  have hw := nK_ok hk
  rw [gI_pI_k (fun e => by
    subst e
    have := hr hw.2.1
    rw [hw.2.2] at this
    omega)]
  exact h g hg hr
theorem WH.upd {u : z_V} {k : Nat} {x : Int32} (h : WH u N) : WH (pI u 1226 0 k x) N := ⟨by rw [gI_pI_t (by decide)]; exact h.1, fun p hp => by rw [gI_pI_t (by decide)]; exact h.2 p hp⟩
theorem sU_nK {L : Nat → Nat} {p k c : Nat} (hp : p < nM N) (hk : k < nM N) (h : p ≠ k) : sU L (nK N k) c (nK N p) = L (nK N p) := sU_n (fun e => h (by
  have h1 := (nK_ok hp).2.2
  have h2 := (nK_ok hk).2.2
  rw [e, h2] at h1
  exact h1.symm))
/-- the halts one by one: of a labelling only what it says of them counts -/
theorem locK (hl : locL N Cb) {k : Nat} {L L' : Nat → Nat} (hk : k < nM N) (e : ∀ p, p ≤ k → L (nK N p) = L' (nK N p)) : Cb k L = Cb k L' := hl k L L' hk (fun h hh hw hr => by
  have := e _ hr
  rw [nK_rk hh hw] at this
  exact this)
theorem s_vstep {k c y : Nat} {L : Nat → Nat} {u : z_V} (hcan : ∀ (u : z_V) (L : Nat → Nat) (k : Nat), Fr fWh v u → k < nM N → WH u N → LB u N L (k + 1) → (∀ p, p ≤ k → L (nK N p) ≤ top) → ZP D m_X11_canLabel [vR 11 0, vI (nI kind), vI (nI (k + 1))] u (bI (Cb k L))) (htop : top < 100) (hk : k < nM N) (hc : c ≤ top + 1) (hWH : WH u N) (hLB : LB u N L k) (hlab : gI u 1226 0 (nK N k) = nI c + (-1)) (f : Fr fWh v u) (hpb : ∀ p, p < k → L (nK N p) ≤ top)
    (g1 : top < c → GL D Q kind top b (nI k + (-1)) y (pI u 1226 0 (nK N k) (nI c)))
    (g2 : c ≤ top → Cb k (sU L (nK N k) c) = false → GL D Q kind top b (nI k) y (pI u 1226 0 (nK N k) (nI c)))
    (g3 : c ≤ top → Cb k (sU L (nK N k) c) = true → k + 1 = nM N → b = true → GL D Q kind top b (nI k) (y + 1) (pI u 1226 0 (nK N k) (nI c)))
    (g4 : c ≤ top → Cb k (sU L (nK N k) c) = true → k + 1 = nM N → b = false → Q (pI u 1226 0 (nK N k) (nI c)) (some (vL (lN (y + 1)))))
    (g5 : c ≤ top → Cb k (sU L (nK N k) c) = true → k + 1 < nM N → GL D Q kind top b (nI (k + 1)) y (pI (pI u 1226 0 (nK N k) (nI c)) 1226 0 (nK N (k + 1)) (nI 0 + (-1)))) : GL D Q kind top b (nI k) y u := by
  have hm7 := nM_le (N := N)
  have hw := nK_ok hk
  refine B_X11_labelled_31 (br_F (nI_pos (by omega)) ?_)
  rw [n_nI (n := k) (by omega), hWH.2 k hk, n_nI (n := nK N k) (by omega), hlab, Int32.add_assoc, show (-1 : Int32) + 1 = 0 by decide, Int32.add_zero, gI_pI_s, nI_1]
  refine z_ii k rfl (by omega) (z_ii _ rfl hw.1 (z_ii _ rfl hw.1 (z_ii k rfl (by omega) (z_ii _ rfl hw.1 ?_))))
  have hWH1 := hWH.upd (k := nK N k) (x := nI c)
  have hLB1 := hLB.upd (c := c) hk
  refine pk_le c top (fun q => ?_) (fun q => g1 q)
  refine cP (hcan _ _ k (f.pI (Or.inl rfl)) hk hWH1 hLB1 (fun p hp => by
    by_cases z : p = k
    · subst z
      rw [sU_s]
      exact q
    · rw [sU_nK (by omega) hk z]
      exact hpb p (by omega))) (br_n (fun e => ?_) (fun e => g2 q e))
  rw [hWH1.1, lN_1]
  have em : nI (nM N) - 1 = nI (nM N - 1) := pk_sub (b := 1) (by omega)
  rw [em]
  refine pk_ne k (nM N - 1) (fun z => ?_) (fun z => ?_)
  · have hk1 : k + 1 < nM N := by omega
    have hw1 := nK_ok hk1
    rw [n_nI (n := k + 1) (by omega), hWH1.2 (k + 1) hk1, n_nI (n := nK N (k + 1)) (by omega)]
    exact z_ii (k + 1) rfl (by omega) (z_ii _ rfl hw1.1 (g5 q e hk1))
  · exact br_n (fun y => g3 q e (by omega) y) (fun y => g4 q e (by omega) y)
/-- below a labelling that can't be none is counted -/
theorem ct_bad (hl : locL N Cb) {k j : Nat} {L : Nat → Nat} {n : Nat} (hk : k + 1 + j = nM N) (e : Cb k L = false) : ctV 0 n (PbL N Cb) (vLs (nK N) (k + 1) j) L = 0 := ctV_0 (fun L' h => allL_f (show k < nM N by omega) (by
  rw [← e]
  refine locK hl (by omega) (fun p hp => h _ (fun z => ?_))
  obtain ⟨p', h1, h2, h3⟩ := vLs_mem.mp z
  have r1 := (nK_ok (show p' < nM N by omega)).2.2
  have r2 := (nK_ok (show p < nM N by omega)).2.2
  rw [h3, r2] at r1
  omega))
theorem s_vis (hl : locL N Cb) (hcan : ∀ (u : z_V) (L : Nat → Nat) (k : Nat), Fr fWh v u → k < nM N → WH u N → LB u N L (k + 1) → (∀ p, p ≤ k → L (nK N p) ≤ top) → ZP D m_X11_canLabel [vR 11 0, vI (nI kind), vI (nI (k + 1))] u (bI (Cb k L))) (htop : top < 100) :
    ∀ (j k : Nat), k + j + 1 = nM N → ∀ (r c : Nat), c + r = top + 1 → ∀ (L : Nat → Nat) (u : z_V) (y : Nat), WH u N → LB u N L k → gI u 1226 0 (nK N k) = nI c + (-1) → Fr fWh v u → (∀ p, p < k → Cb p L = true ∧ L (nK N p) ≤ top) → (b = false → NBp N Cb top k L ∧ NBc N Cb top k c L) →
      (∀ (u' : z_V) (y' : Nat), WH u' N → LB u' N L k → Fr fWh v u' → (b = true → y' = y + smF r c (fun x => ctV 0 (top + 1) (PbL N Cb) (vLs (nK N) (k + 1) j) (sU L (nK N k) x))) → (b = false → y' = y ∧ ∀ L', solL N Cb top L' → (∀ p, p < k → L' (nK N p) = L (nK N p)) → False) → GL D Q kind top b (nI k + (-1)) y' u') →
      (∀ (u' : z_V) (L' : Nat → Nat), b = false → WH u' N → LB u' N L' (nM N) → Fr fWh v u' → solL N Cb top L' → NBp N Cb top (nM N) L' → Q u' (some (vL (lN (y + 1))))) → GL D Q kind top b (nI k) y u := by
  intro j
  induction j with
  | zero =>
    intro k hk r
    have hkm : k < nM N := by omega
    have hw := nK_ok hkm
    induction r with
    | zero =>
      intro c hc L u y hWH hLB hlab f hpre hnb kb kf
      refine s_vstep (N := N) (Cb := Cb) (v := v) (L := L) (c := c) hcan htop hkm (by omega) hWH hLB hlab f (fun p hp => (hpre p hp).2) (fun q => ?_) (fun q => absurd q (by omega)) (fun q => absurd q (by omega)) (fun q => absurd q (by omega)) (fun q => absurd q (by omega))
      refine kb _ y hWH.upd (hLB.low0 hkm) (f.pI (Or.inl rfl)) (fun _ => rfl) (fun e => ⟨rfl, fun L' h1 h2 => ?_⟩)
      have := (hnb e).2 L' h1 h2
      have := (h1 k hkm).2
      omega
    | succ r ihr =>
      intro c hc L u y hWH hLB hlab f hpre hnb kb kf
      have hWH1 := hWH.upd (k := nK N k) (x := nI c)
      have hLB1 := hLB.upd (c := c) hkm
      have f1 : Fr fWh v (pI u 1226 0 (nK N k) (nI c)) := f.pI (Or.inl rfl)
      have hlab1 : gI (pI u 1226 0 (nK N k) (nI c)) 1226 0 (nK N k) = nI (c + 1) + (-1) := by rw [gI_pI_s, pk_m1]
      have hlocc : ∀ L' : Nat → Nat, (∀ p, p < k → L' (nK N p) = L (nK N p)) → L' (nK N k) = c → Cb k L' = Cb k (sU L (nK N k) c) := fun L' h1 h2 => locK hl hkm (fun p hp => by
        by_cases z : p = k
        · subst z
          rw [h2, sU_s]
        · rw [h1 p (by omega), sU_nK (by omega) hkm z])
      refine s_vstep (N := N) (Cb := Cb) (v := v) (L := L) (c := c) hcan htop hkm (by omega) hWH hLB hlab f (fun p hp => (hpre p hp).2) (fun q => absurd q (by omega)) (fun q e => ?_) (fun q e hm hb => ?_) (fun q e hm hb => ?_) (fun q e hm => absurd hm (by omega))
      · refine ihr (c + 1) (by omega) L _ y hWH1 (hLB.low0 hkm) hlab1 f1 hpre (fun hb => ⟨(hnb hb).1, fun L' h1 h2 => ?_⟩) (fun u' y' g1 g2 g3 g4 g5 => kb u' y' g1 g2 g3 (fun hb => ?_) g5) kf
        · have h3 := (hnb hb).2 L' h1 h2
          have h4 : L' (nK N k) ≠ c := fun z => by
            have := (h1 k hkm).1
            rw [hlocc L' h2 z, e] at this
            cases this
          omega
        · rw [g4 hb]
          simp only [smF]
          rw [ct_bad hl (by omega) e]
          omega
      · refine ihr (c + 1) (by omega) L _ (y + 1) hWH1 (hLB.low0 hkm) hlab1 f1 hpre (fun z => by rw [hb] at z; cases z) (fun u' y' g1 g2 g3 g4 g5 => kb u' y' g1 g2 g3 (fun _ => ?_) (fun z => by rw [hb] at z; cases z)) (fun u' L' z => by rw [hb] at z; cases z)
        rw [g4 hb]
        simp only [smF]
        have hP : PbL N Cb (sU L (nK N k) c) = true := allL_iff.mpr (fun p hp => by
          by_cases z : p = k
          · subst z
            exact e
          · rw [← (hpre p (by omega)).1]
            exact locK hl hp (fun p' hp' => sU_nK (by omega) hkm (by omega)))
        have h1 : ctV 0 (top + 1) (PbL N Cb) (vLs (nK N) (k + 1) 0) (sU L (nK N k) c) = 1 := by
          simp only [vLs, ctV]
          rw [hP]
          rfl
        rw [h1]
        omega
      · have hnb := hnb hb
        refine kf _ (sU L (nK N k) c) hb hWH1 (by rw [← hm]; exact hLB1) f1 (fun p hp => ?_) (fun p hp L' h1 h2 => ?_)
        · by_cases z : p = k
          · subst z
            exact ⟨e, by rw [sU_s]; exact q⟩
          · refine ⟨?_, by rw [sU_nK hp hkm z]; exact (hpre p (by omega)).2⟩
            rw [← (hpre p (by omega)).1]
            exact locK hl hp (fun p' hp' => sU_nK (by omega) hkm (by omega))
        · by_cases z : p = k
          · subst z
            rw [sU_s]
            exact hnb.2 L' h1 (fun p' hp' => by rw [h2 p' hp', sU_nK (by omega) hkm (by omega)])
          · rw [sU_nK hp hkm z]
            exact hnb.1 p (by omega) L' h1 (fun p' hp' => by rw [h2 p' hp', sU_nK (by omega) hkm (by omega)])
  | succ j ihj =>
    intro k hk r
    have hkm : k < nM N := by omega
    have hw := nK_ok hkm
    induction r with
    | zero =>
      intro c hc L u y hWH hLB hlab f hpre hnb kb kf
      refine s_vstep (N := N) (Cb := Cb) (v := v) (L := L) (c := c) hcan htop hkm (by omega) hWH hLB hlab f (fun p hp => (hpre p hp).2) (fun q => ?_) (fun q => absurd q (by omega)) (fun q => absurd q (by omega)) (fun q => absurd q (by omega)) (fun q => absurd q (by omega))
      refine kb _ y hWH.upd (hLB.low0 hkm) (f.pI (Or.inl rfl)) (fun _ => rfl) (fun e => ⟨rfl, fun L' h1 h2 => ?_⟩)
      have := (hnb e).2 L' h1 h2
      have := (h1 k hkm).2
      omega
    | succ r ihr =>
      intro c hc L u y hWH hLB hlab f hpre hnb kb kf
      have hWH1 := hWH.upd (k := nK N k) (x := nI c)
      have hLB1 := hLB.upd (c := c) hkm
      have f1 : Fr fWh v (pI u 1226 0 (nK N k) (nI c)) := f.pI (Or.inl rfl)
      have hlab1 : gI (pI u 1226 0 (nK N k) (nI c)) 1226 0 (nK N k) = nI (c + 1) + (-1) := by rw [gI_pI_s, pk_m1]
      have hlocc : ∀ L' : Nat → Nat, (∀ p, p < k → L' (nK N p) = L (nK N p)) → L' (nK N k) = c → Cb k L' = Cb k (sU L (nK N k) c) := fun L' h1 h2 => locK hl hkm (fun p hp => by
        by_cases z : p = k
        · subst z
          rw [h2, sU_s]
        · rw [h1 p (by omega), sU_nK (by omega) hkm z])
      refine s_vstep (N := N) (Cb := Cb) (v := v) (L := L) (c := c) hcan htop hkm (by omega) hWH hLB hlab f (fun p hp => (hpre p hp).2) (fun q => absurd q (by omega)) (fun q e => ?_) (fun q e hm hb => absurd hm (by omega)) (fun q e hm hb => absurd hm (by omega)) (fun q e hm => ?_)
      · refine ihr (c + 1) (by omega) L _ y hWH1 (hLB.low0 hkm) hlab1 f1 hpre (fun hb => ⟨(hnb hb).1, fun L' h1 h2 => ?_⟩) (fun u' y' g1 g2 g3 g4 g5 => kb u' y' g1 g2 g3 (fun hb => ?_) g5) kf
        · have h3 := (hnb hb).2 L' h1 h2
          have h4 : L' (nK N k) ≠ c := fun z => by
            have := (h1 k hkm).1
            rw [hlocc L' h2 z, e] at this
            cases this
          omega
        · rw [g4 hb]
          simp only [smF]
          rw [ct_bad hl (by omega) e]
          omega
      · -- one deeper, and back
        refine ihj (k + 1) (by omega) (top + 1) 0 (by omega) (sU L (nK N k) c) _ y hWH1.upd (hLB1.low0 hm) gI_pI_s (f1.pI (Or.inl rfl)) (fun p hp => ?_) (fun hb => ⟨fun p hp L' h1 h2 => ?_, fun L' h1 h2 => Nat.zero_le _⟩) (fun u' y' g1 g2 g3 g4 g5 => ?_) kf
        · by_cases z : p = k
          · subst z
            exact ⟨e, by rw [sU_s]; exact q⟩
          · refine ⟨?_, by rw [sU_nK (by omega) hkm z]; exact (hpre p (by omega)).2⟩
            rw [← (hpre p (by omega)).1]
            exact locK hl (by omega) (fun p' hp' => sU_nK (by omega) hkm (by omega))
        · by_cases z : p = k
          · subst z
            rw [sU_s]
            exact (hnb hb).2 L' h1 (fun p' hp' => by rw [h2 p' hp', sU_nK (by omega) hkm (by omega)])
          · rw [sU_nK (by omega) hkm z]
            exact (hnb hb).1 p (by omega) L' h1 (fun p' hp' => by rw [h2 p' hp', sU_nK (by omega) hkm (by omega)])
        · rw [pk_m1]
          have hl2 : gI u' 1226 0 (nK N k) = nI (c + 1) + (-1) := by
            have := g2 (nK N k) hw.1 (fun _ => by rw [hw.2.2]; omega)
            rw [this, if_pos hw.2.1, sU_s, pk_m1]
          refine ihr (c + 1) (by omega) L u' y' g1 (g2.low (fun g hg hwg hr => sU_n (fun z => by
            rw [z, hw.2.2] at hr
            omega))) hl2 g3 hpre (fun hb => ⟨(hnb hb).1, fun L' h1 h2 => ?_⟩) (fun u2 y2 q1 q2 q3 q4 q5 => kb u2 y2 q1 q2 q3 (fun hb => ?_) (fun hb => ?_)) (fun u2 L' hb q1 q2 q3 q4 q5 => ?_)
          · have h3 := (hnb hb).2 L' h1 h2
            have h4 : L' (nK N k) ≠ c := fun z => (g5 hb).2 L' h1 (fun p hp => by
              by_cases zz : p = k
              · subst zz
                rw [z, sU_s]
              · rw [h2 p (by omega), sU_nK (by omega) hkm zz])
            omega
          · rw [q4 hb, g4 hb]
            have e2 : ctV 0 (top + 1) (PbL N Cb) (vLs (nK N) (k + 1) (j + 1)) (sU L (nK N k) c) = smF (top + 1) 0 (fun x => ctV 0 (top + 1) (PbL N Cb) (vLs (nK N) (k + 1 + 1) j) (sU (sU L (nK N k) c) (nK N (k + 1)) x)) := rfl
            simp only [smF] at e2 ⊢
            rw [e2]
            omega
          · rw [(q5 hb).1, (g5 hb).1]
            exact ⟨rfl, (q5 hb).2⟩
          · have := kf u2 L' hb q1 q2 q3 q4 q5
            rw [(g5 hb).1]
            exact this
theorem s_labelled {nu : Nat → Nat} (hM : MS v N nu) (hl : locL N Cb) (hcan : ∀ (u : z_V) (L : Nat → Nat) (k : Nat), Fr fWh v u → k < nM N → WH u N → LB u N L (k + 1) → (∀ p, p ≤ k → L (nK N p) ≤ top) → ZP (D + 7) m_X11_canLabel [vR 11 0, vI (nI kind), vI (nI (k + 1))] u (bI (Cb k L))) (htop : top < 100) :
    ZL (D + 8) m_X11_labelled [vR 11 0, vI (nI kind), vI (nI top), vI (bI b)] v (fun u x => Fr fWh v u ∧ (b = true → x = lN (ctV 0 (top + 1) (PbL N Cb) (vLs (nK N) 0 (nM N)) (fun _ => 0))) ∧ (b = false → (x = lN 0 ∧ ∀ L, ¬ solL N Cb top L) ∨ (x = lN 1 ∧ ∃ L, LB u N L (nM N) ∧ solL N Cb top L ∧ NBp N Cb top (nM N) L))) := fun Q k => E_X11_labelled (B_X11_labelled_0 (by
  refine cV (s_layWho (d := D + 3) hM) (fun u hu => ?_)
  obtain ⟨hWH, hLB, f⟩ := hu
  have hm7 := nM_le (N := N)
  rw [hWH.1]
  refine pk_ne (nM N) 0 (fun e => ?_) (fun e => ?_)
  · have h0 := hWH.2 0 (by omega)
    have hw := nK_ok (N := N) (k := 0) (by omega)
    refine z_ii (nK N 0) h0 hw.1 ?_
    rw [h0, n_nI (by omega)]
    refine s_vis (v := v) (Cb := Cb) hl hcan htop (nM N - 1) 0 (by omega) (top + 1) 0 (by omega) (fun _ => 0) _ 0 hWH.upd ((hLB _).low0 (by omega)) (by rw [gI_pI_s]; decide) (f.pI (Or.inl rfl)) (fun p hp => absurd hp (Nat.not_lt_zero _)) (fun _ => ⟨fun p hp => absurd hp (Nat.not_lt_zero _), fun _ _ _ => Nat.zero_le _⟩) (fun u' y' g1 g2 g3 g4 g5 => ?_) (fun u' L' hb g1 g2 g3 g4 g5 => ?_)
    · refine B_X11_labelled_31 (br_T (by decide) (k _ _ ⟨g3, fun hb => ?_, fun hb => Or.inl ⟨?_, fun L h => (g5 hb).2 L h (fun p hp => absurd hp (Nat.not_lt_zero _))⟩⟩))
      · rw [g4 hb, Nat.zero_add]
        congr 1
        obtain ⟨m, hm⟩ : ∃ m, nM N = m + 1 := ⟨nM N - 1, by omega⟩
        rw [hm]
        rfl
      · rw [(g5 hb).1]
    · exact k _ _ ⟨g3, fun z => (by rw [hb] at z; cases z), fun _ => Or.inr ⟨rfl, L', g2, g4, g5⟩⟩
  · refine k _ _ ⟨f, fun _ => ?_, fun _ => Or.inr ⟨rfl, fun _ => 0, by rw [e]; exact hLB _, fun p hp => by omega, fun p hp => by omega⟩⟩
    rw [e]
    simp only [vLs, ctV]
    have : PbL N Cb (fun _ => 0) = true := allL_iff.mpr (fun p hp => by omega)
    rw [this]
    rfl))
end DF1
