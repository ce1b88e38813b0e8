/-! NAMES by the reference -/
def Cn (N : z_N) (k : Nat) (L : Nat → Nat) : Bool := allL k (fun g => decide (L g ≠ L k) && (nAdj N g k == nAdj N (L g) (L k)))
def PN (N : z_N) (L : Nat → Nat) : Bool := allL 7 (fun k => Cn N k L)
def TN (N : z_N) (k : Nat) (L : Nat → Nat) : Nat := ctV 0 7 (PN N) (vLs (fun i => i) (k + 1) (7 - (k + 1))) L
def nmC (N : z_N) : Nat := ctV 0 7 (PN N) (vLs (fun i => i) 0 7) (fun _ => 0)
def LN (v : z_V) (L : Nat → Nat) (k : Nat) : Prop := ∀ h, h < k → gI v 1226 0 h = nI (L h)
def fNm : Nat → Nat → Prop := fun t _ => t = 1226
def GN (D : Nat) (Q : z_RT) (x2 : Int32) (y : Nat) (u : z_V) : Prop := z_Wp (z_C D) 1 k_X11_names Q 11 [some (vR 11 0), some (vI (nI y)), some (vI x2)] [] u
section NM0
variable {d : Nat} {v : z_V} {N : z_N} {nu : Nat → Nat} {L : Nat → Nat} {Q : z_RT}
theorem Cn_loc {k : Nat} {L' : Nat → Nat} (e : ∀ p, p ≤ k → L p = L' p) : Cn N k L = Cn N k L' := allL_cg (fun g hg => by rw [e g (by omega), e k (Nat.le_refl _)])
theorem TN_s {k : Nat} (hk : k + 1 < 7) : TN N k L = smF 7 0 (fun x => TN N (k + 1) (sU L (k + 1) x)) := by
  unfold TN
  rw [show 7 - (k + 1) = (7 - (k + 1 + 1)) + 1 by omega]
  rfl
theorem TN_e {k : Nat} (hk : k + 1 = 7) : TN N k L = if PN N L = true then 1 else 0 := by
  unfold TN
  rw [show 7 - (k + 1) = 0 by omega]
  rfl
theorem TN_0 {k : Nat} (hk : k < 7) (e : Cn N k L = false) : TN N k L = 0 := ctV_0 (fun L' h => allL_f (show k < 7 from hk) (by
  rw [← e]
  refine Cn_loc (fun p hp => h _ (fun z => ?_))
  obtain ⟨p', h1, h2, h3⟩ := vLs_mem.mp z
  have h3 : p' = p := h3
  omega))
theorem s_isNamed {k : Nat} (hM : MS v N nu) (hL : LN v L (k + 1)) (hk : k < 7) (hb : ∀ p, p ≤ k → L p < 7) : ZP (d + 5) m_X11_isNamed [vR 11 0, vI (nI k)] v (bI (Cn N k L)) := fun Q q => E_X11_isNamed (B_X11_isNamed_0 (by
  have bad : ∀ g, g < k → (decide (L g ≠ L k) && (nAdj N g k == nAdj N (L g) (L k))) = false → Q v (some (vI 0)) := fun g hg e => by
    have : Cn N k L = false := allL_f hg e
    rw [this] at q
    exact q
  refine z_up0 (P := fun g => (∀ i, i < g → (decide (L i ≠ L k) && (nAdj N i k == nAdj N (L i) (L k))) = true) → z_Wp (z_C (d + 4)) 4 k_X11_isNamed Q 2 [some (vR 11 0), some (vI (nI k)), some (vI (nI g))] [] v) k ?_ ?_ (fun i h => absurd h (by omega))
  · intro hall
    have : Cn N k L = true := allL_iff.mpr hall
    rw [this] at q
    exact B_X11_isNamed_2 (pk_le k k (fun _ => q) (fun z => absurd z (by omega)))
  · intro g hg ih hall
    have bg := hb g (by omega)
    have bk := hb k (Nat.le_refl _)
    refine B_X11_isNamed_2 (pk_le k g (fun z => absurd z (by omega)) (fun _ => ?_))
    rw [n_nI (n := g) (by omega), n_nI (n := k) (by omega), hL g (by omega), hL k (by omega), nI_1]
    refine z_ii g rfl (by omega) (z_ii k rfl hk (pk_eq (L g) (L k) (fun e => bad g hg (by rw [decide_eq_false (fun z => z e)]; rfl)) (fun ne => ?_)))
    refine cP (s_areBeside (d := d) hM (by omega) hk) (z_ii g rfl (by omega) (z_ii k rfl hk ?_))
    rw [hL g (by omega), hL k (by omega)]
    refine cP (s_areBeside (d := d) hM bg bk) ?_
    have next : (nAdj N g k == nAdj N (L g) (L k)) = true → z_Wp (z_C (d + 4)) 4 k_X11_isNamed Q 2 [some (vR 11 0), some (vI (nI k)), some (vI (nI (g + 1)))] [] v := fun e => ih (fun i hi => by
      by_cases z : i = g
      · subst z
        rw [decide_eq_true ne, e]
        rfl
      · exact hall i (by omega))
    have nbad : (nAdj N g k == nAdj N (L g) (L k)) = false → Q v (some (vI 0)) := fun e => bad g hg (by rw [e, Bool.and_false])
    cases e1 : nAdj N g k <;> cases e2 : nAdj N (L g) (L k) <;> rw [e1, e2] at next nbad
    · exact ⟨fun _ => next rfl, fun z => absurd rfl z⟩
    · exact ⟨fun z => absurd z (by decide), fun _ => nbad rfl⟩
    · exact ⟨fun z => absurd z (by decide), fun _ => nbad rfl⟩
    · exact ⟨fun _ => next rfl, fun z => absurd rfl z⟩))
theorem LN.upd {u : z_V} {k c : Nat} (h : LN u L k) : LN (pI u 1226 0 k (nI c)) (sU L k c) (k + 1) := fun g hg => by
  by_cases e : g = k
  · subst e
    rw [gI_pI_s, sU_s]
  · rw [gI_pI_k e, sU_n e]
    exact h g (by omega)
theorem LN.low0 {u : z_V} {k : Nat} {x : Int32} (h : LN u L k) : LN (pI u 1226 0 k x) L k := fun g hg => by
  rw [gI_pI_k (by omega)]
  exact h g hg
theorem LN.low {u : z_V} {k : Nat} {L' : Nat → Nat} (h : LN u L' (k + 1)) (e : ∀ g, g < k → L' g = L g) : LN u L k := fun g hg => by
  rw [h g (by omega), e g hg]
theorem s_nstep {k c y : Nat} {u : z_V} (hM : MS v N nu) (f : Fr fNm v u) (hk : k < 7) (hc : c ≤ 7) (hL : LN u L k) (hlab : gI u 1226 0 k = nI c + (-1)) (hpb : ∀ p, p < k → L p < 7)
    (g1 : c = 7 → GN (d + 5) Q (nI k + (-1)) y (pI u 1226 0 k (nI c)))
    (g2 : c < 7 → Cn N k (sU L k c) = false → GN (d + 5) Q (nI k) y (pI u 1226 0 k (nI c)))
    (g3 : c < 7 → Cn N k (sU L k c) = true → k + 1 = 7 → GN (d + 5) Q (nI k) (y + 1) (pI u 1226 0 k (nI c)))
    (g4 : c < 7 → Cn N k (sU L k c) = true → k + 1 < 7 → GN (d + 5) Q (nI (k + 1)) y (pI (pI u 1226 0 k (nI c)) 1226 0 (k + 1) (-1))) : GN (d + 5) Q (nI k) y u := by
  have f1 : Fr fNm v (pI u 1226 0 k (nI c)) := f.pI rfl
  refine B_X11_names_11 (br_F (nI_pos (by omega)) ?_)
  rw [n_nI (n := k) (by omega), hlab, Int32.add_assoc, show (-1 : Int32) + 1 = 0 by decide, Int32.add_zero, gI_pI_s, nI_1, nI_1]
  refine z_ii k rfl hk (z_ii k rfl hk (z_ii k rfl hk ?_))
  refine pk_lt c 7 (fun q => ?_) (fun q => g1 (by omega))
  refine cP (s_isNamed (d := d) (hM.fr f1 (fun k z => by unfold fNm at z; omega)) hL.upd hk (fun p hp => ?_)) (br_z (fun e => g2 q e) (fun e => ?_))
  · by_cases z : p = k
    · subst z
      rw [sU_s]
      exact q
    · rw [sU_n z]
      exact hpb p (by omega)
  · refine pk_ne k 6 (fun z => z_ii (k + 1) rfl (by omega) ?_) (fun z => g3 q e (by omega))
    rw [n_nI (n := k + 1) (by omega)]
    exact g4 q e (by omega)
theorem s_visN (hM : MS v N nu) : ∀ (j k : Nat), k + j = 7 → k < 7 → ∀ (r c : Nat), c + r = 7 → ∀ (L : Nat → Nat) (u : z_V) (y : Nat), LN u L k → gI u 1226 0 k = nI c + (-1) → Fr fNm v u → (∀ p, p < k → Cn N p L = true ∧ L p < 7) →
      (∀ (u' : z_V) (y' : Nat), LN u' L k → Fr fNm v u' → y' = y + smF r c (fun x => TN N k (sU L k x)) → GN (d + 5) Q (nI k + (-1)) y' u') → GN (d + 5) Q (nI k) y u := by
  intro j
  induction j with
  | zero => intro k hk hk2; omega
  | succ j ihj =>
    intro k hk hk7 r
    induction r with
    | zero =>
      intro c hc L u y hL hlab f hpre kb
      exact s_nstep (L := L) (c := c) hM f hk7 (by omega) hL hlab (fun p hp => (hpre p hp).2) (fun _ => kb _ y hL.low0 (f.pI rfl) rfl) (fun q => absurd q (by omega)) (fun q => absurd q (by omega)) (fun q => absurd q (by omega))
    | succ r ihr =>
      intro c hc L u y hL hlab f hpre kb
      have f1 : Fr fNm v (pI u 1226 0 k (nI c)) := f.pI rfl
      have hlab1 : gI (pI u 1226 0 k (nI c)) 1226 0 k = nI (c + 1) + (-1) := by rw [gI_pI_s, pk_m1]
      have pre1 : c < 7 → Cn N k (sU L k c) = true → ∀ p, p < k + 1 → Cn N p (sU L k c) = true ∧ sU L k c p < 7 := fun q e p hp => by
        by_cases z : p = k
        · subst z
          rw [sU_s]
          exact ⟨e, q⟩
        · rw [sU_n z]
          refine ⟨?_, (hpre p (by omega)).2⟩
          rw [← (hpre p (by omega)).1]
          exact Cn_loc (fun p' hp' => sU_n (by omega))
      refine s_nstep (L := L) (c := c) hM f hk7 (by omega) hL hlab (fun p hp => (hpre p hp).2) (fun q => absurd q (by omega)) (fun q e => ?_) (fun q e hm => ?_) (fun q e hm => ?_)
      · refine ihr (c + 1) (by omega) L _ y hL.low0 hlab1 f1 hpre (fun u' y' g1 g2 g3 => kb u' y' g1 g2 ?_)
        rw [g3]
        simp only [smF]
        rw [TN_0 hk7 e]
        omega
      · refine ihr (c + 1) (by omega) L _ (y + 1) hL.low0 hlab1 f1 hpre (fun u' y' g1 g2 g3 => kb u' y' g1 g2 ?_)
        rw [g3]
        simp only [smF]
        have hP : PN N (sU L k c) = true := allL_iff.mpr (fun p hp => (pre1 q e p (by omega)).1)
        have h1 : TN N k (sU L k c) = 1 := by
          rw [TN_e hm, hP]
          rfl
        rw [h1]
        omega
      · refine ihj (k + 1) (by omega) hm 7 0 (by omega) (sU L k c) _ y hL.upd.low0 (by rw [gI_pI_s]; decide) (f1.pI rfl) (pre1 q e) (fun u' y' g1 g2 g3 => ?_)
        rw [pk_m1]
        have hl2 : gI u' 1226 0 k = nI (c + 1) + (-1) := by
          rw [g1 k (by omega), sU_s, pk_m1]
        refine ihr (c + 1) (by omega) L u' y' (g1.low (fun g hg => sU_n (by omega))) hl2 g2 hpre (fun u2 y2 q1 q2 q3 => kb u2 y2 q1 q2 ?_)
        rw [q3, g3]
        have e2 := TN_s (N := N) (L := sU L k c) hm
        simp only [smF] at e2 ⊢
        omega
theorem s_namesR (hM : MS v N nu) : ZI (d + 6) m_X11_names [vR 11 0] v (fun u r => r = nI (nmC N) ∧ Fr fNm v u) := fun Q q => E_X11_names (B_X11_names_0 (by
  refine s_visN (v := v) (d := d) hM 7 0 (by omega) (by omega) 7 0 (by omega) (fun _ => 0) _ 0 (fun h hh => absurd hh (by omega)) (by rw [gI_pI_s]; decide) (Fr.rfl.pI rfl) (fun p hp => absurd hp (by omega)) (fun u' y' g1 g2 g3 => ?_)
  refine B_X11_names_11 (br_T (by decide) (q _ _ ⟨?_, g2⟩))
  rw [g3, Nat.zero_add]
  rfl))
end NM0
