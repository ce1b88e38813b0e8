/-! ranks, sums, counts of labels; the reference's labels, halt by halt -/
theorem cntL_le2 {f : Nat → Bool} {g : Nat} : ∀ {h : Nat}, g ≤ h → cntL g f ≤ cntL h f
  | 0, hg => by
    obtain rfl : g = 0 := by omega
    exact Nat.le_refl _
  | h + 1, hg => by
    by_cases e : g = h + 1
    · rw [e]
      exact Nat.le_refl _
    · have := cntL_le2 (f := f) (g := g) (h := h) (by omega)
      simp only [cntL]
      omega
theorem cntL_lt2 {f : Nat → Bool} {g h : Nat} (hg : g < h) (hf : f g = true) : cntL g f < cntL h f := by
  have := cntL_le2 (f := f) (show g + 1 ≤ h from hg)
  simp only [cntL, hf, if_true] at this
  omega
def sel (f : Nat → Bool) (n k : Nat) : Nat := match lo (fun h => f h && decide (cntL h f = k)) 0 n with
  | some h => h
  | none => 0
theorem sel_ex {f : Nat → Bool} {k : Nat} : ∀ {n : Nat}, k < cntL n f → ∃ h, h < n ∧ f h = true ∧ cntL h f = k
  | 0, h => absurd h (Nat.not_lt_zero _)
  | n + 1, h => by
    simp only [cntL] at h
    by_cases e : k < cntL n f
    · obtain ⟨i, h1, h2, h3⟩ := sel_ex e
      exact ⟨i, by omega, h2, h3⟩
    · cases hf : f n
      · rw [hf] at h
        simp only [Bool.false_eq_true, if_false, Nat.add_zero] at h
        exact absurd h e
      · rw [hf] at h
        simp only [if_true] at h
        exact ⟨n, Nat.lt_succ_self _, hf, by omega⟩
theorem sel_ok {f : Nat → Bool} {n k : Nat} (h : k < cntL n f) : sel f n k < n ∧ f (sel f n k) = true ∧ cntL (sel f n k) f = k := by
  unfold sel
  cases e : lo (fun h => f h && decide (cntL h f = k)) 0 n with
  | none =>
    obtain ⟨i, h1, h2, h3⟩ := sel_ex h
    have := lo_none e i (Nat.zero_le _) (by omega)
    rw [h2, decide_eq_true h3] at this
    cases this
  | some i =>
    have := lo_lt e
    simp only [Bool.and_eq_true, decide_eq_true_eq] at this
    show i < n ∧ f i = true ∧ cntL i f = k
    exact ⟨by omega, this.2.2.1, this.2.2.2⟩
theorem sel_rk {f : Nat → Bool} {n h : Nat} (hh : h < n) (hf : f h = true) : sel f n (cntL h f) = h := by
  have hs := sel_ok (cntL_lt2 hh hf)
  rcases Nat.lt_trichotomy (sel f n (cntL h f)) h with z | z | z
  · have := cntL_lt2 z hs.2.1
    omega
  · exact z
  · have := cntL_lt2 z hf
    omega
def smF : Nat → Nat → (Nat → Nat) → Nat
  | 0, _, _ => 0
  | r + 1, c, f => f c + smF r (c + 1) f
theorem smF_cg : ∀ {r c : Nat} {f g : Nat → Nat}, (∀ x, c ≤ x → x < c + r → f x = g x) → smF r c f = smF r c g
  | 0, _, _, _, _ => rfl
  | r + 1, c, f, g, h => by
    simp only [smF]
    rw [h c (Nat.le_refl _) (by omega), smF_cg (fun x h1 h2 => h x (by omega) (by omega))]
theorem smF_0 : ∀ {r c : Nat} {f : Nat → Nat}, (∀ x, c ≤ x → x < c + r → f x = 0) → smF r c f = 0
  | 0, _, _, _ => rfl
  | r + 1, c, f, h => by
    simp only [smF]
    rw [h c (Nat.le_refl _) (by omega), smF_0 (fun x h1 h2 => h x (by omega) (by omega))]
theorem smF_add : ∀ {r c : Nat} {f g : Nat → Nat}, smF r c (fun x => f x + g x) = smF r c f + smF r c g
  | 0, _, _, _ => rfl
  | r + 1, c, f, g => by
    simp only [smF]
    rw [smF_add]
    omega
theorem smF_sw {f : Nat → Nat → Nat} {s e : Nat} : ∀ {r c : Nat}, smF r c (fun x => smF s e (fun y => f x y)) = smF s e (fun y => smF r c (fun x => f x y))
  | 0, c => by
    show 0 = smF s e (fun y => 0)
    rw [smF_0 (fun x _ _ => rfl)]
  | r + 1, c => by
    show smF s e (fun y => f c y) + smF r (c + 1) (fun x => smF s e (fun y => f x y)) = smF s e (fun y => f c y + smF r (c + 1) (fun x => f x y))
    rw [smF_sw, smF_add]
/-- how many labels of these with numbers from e on, n of them, are as wanted -/
def ctV (e n : Nat) (P : (Nat → Nat) → Bool) : List Nat → (Nat → Nat) → Nat
  | [], L => if P L = true then 1 else 0
  | h :: vs, L => smF n e (fun x => ctV e n P vs (sU L h x))
theorem sU_cm {L : Nat → Nat} {h g x y : Nat} (hg : h ≠ g) : sU (sU L h x) g y = sU (sU L g y) h x := by
  funext j
  by_cases e : j = g
  · subst e
    rw [sU_s, sU_n (Ne.symm hg), sU_s]
  · rw [sU_n e]
    by_cases e2 : j = h
    · subst e2
      rw [sU_s, sU_s]
    · rw [sU_n e2, sU_n e2, sU_n e]
theorem ctV_0 {e n : Nat} {P : (Nat → Nat) → Bool} : ∀ {vs : List Nat} {L : Nat → Nat}, (∀ L', (∀ h, h ∉ vs → L' h = L h) → P L' = false) → ctV e n P vs L = 0
  | [], L, h => by
    simp only [ctV]
    rw [h L (fun _ _ => rfl)]
    rfl
  | g :: vs, L, h => by
    simp only [ctV]
    refine smF_0 (fun x _ _ => ctV_0 (fun L' h' => h L' (fun k hk => ?_)))
    rw [h' k (fun z => hk (List.mem_cons_of_mem _ z)), sU_n (fun z => hk (by rw [z]; exact List.mem_cons_self))]
theorem ctV_pm {e n : Nat} {P : (Nat → Nat) → Bool} {vs ws : List Nat} (h : vs.Perm ws) : vs.Nodup → ∀ L, ctV e n P vs L = ctV e n P ws L := by
  induction h with
  | nil => intro _ L; rfl
  | cons x h ih =>
    intro hn L
    simp only [ctV]
    exact smF_cg (fun y _ _ => ih (List.nodup_cons.mp hn).2 _)
  | swap x y l =>
    intro hn L
    simp only [ctV]
    rw [smF_sw]
    have hxy : y ≠ x := fun z => (List.nodup_cons.mp hn).1 (by rw [z]; exact List.mem_cons_self)
    refine smF_cg (fun a _ _ => smF_cg (fun b _ _ => ?_))
    rw [sU_cm hxy]
  | trans h1 h2 ih1 ih2 =>
    intro hn L
    rw [ih1 hn, ih2 (h1.nodup_iff.mp hn)]
def vLs (w : Nat → Nat) : Nat → Nat → List Nat
  | _, 0 => []
  | k, j + 1 => w k :: vLs w (k + 1) j
theorem vLs_mem {w : Nat → Nat} {h : Nat} : ∀ {j k : Nat}, h ∈ vLs w k j ↔ ∃ p, k ≤ p ∧ p < k + j ∧ w p = h
  | 0, k => by
    constructor
    · intro z; cases z
    · rintro ⟨p, h1, h2, _⟩; omega
  | j + 1, k => by
    simp only [vLs, List.mem_cons, vLs_mem]
    constructor
    · rintro (z | ⟨p, h1, h2, h3⟩)
      · exact ⟨k, Nat.le_refl _, by omega, z.symm⟩
      · exact ⟨p, by omega, by omega, h3⟩
    · rintro ⟨p, h1, h2, h3⟩
      by_cases e : p = k
      · subst e
        exact Or.inl h3.symm
      · exact Or.inr ⟨p, by omega, by omega, h3⟩
def allL (m : Nat) (f : Nat → Bool) : Bool := !anyL m (fun k => !f k)
theorem allL_iff {m : Nat} {f : Nat → Bool} : allL m f = true ↔ ∀ k, k < m → f k = true := by
  unfold allL
  rw [Bool.not_eq_true']
  constructor
  · intro z k hk
    cases e : f k
    · rw [anyL_iff.mpr ⟨k, hk, by rw [e]; rfl⟩] at z
      cases z
    · rfl
  · intro z
    cases e : anyL m (fun k => !f k)
    · rfl
    · obtain ⟨k, hk, h⟩ := anyL_iff.mp e
      rw [z k hk] at h
      cases h
theorem allL_f {m k : Nat} {f : Nat → Bool} (hk : k < m) (h : f k = false) : allL m f = false := by
  cases e : allL m f
  · rfl
  · rw [allL_iff.mp e k hk] at h
    cases h
/-- of like rows the lowest -/
def isLF (Wd : Nat → Bool) (P : (Nat → Nat) → Prop) (L : Nat → Nat) : Prop := P L ∧ ∀ L', P L' → ∀ h, h < 7 → Wd h = true → (∀ g, g < h → Wd g = true → L' g = L g) → L h ≤ L' h
theorem isLF.u {Wd : Nat → Bool} {P : (Nat → Nat) → Prop} {L L' : Nat → Nat} (h : isLF Wd P L) (h' : isLF Wd P L') : ∀ g, g < 7 → Wd g = true → L g = L' g := by
  intro g
  induction g using Nat.strongRecOn with
  | ind g ih =>
    intro hg hw
    have e : ∀ j, j < g → Wd j = true → L' j = L j := fun j hj hwj => (ih j hj (by omega) hwj).symm
    have h1 := h.2 L' h'.1 g hg hw e
    have h2 := h'.2 L h.1 g hg hw (fun j hj hwj => (e j hj hwj).symm)
    omega
/-- the halts beside any, one by one -/
def nM (N : z_N) : Nat := cntL 7 (nW N)
def nK (N : z_N) : Nat → Nat := sel (nW N) 7
def rkW (N : z_N) (h : Nat) : Nat := cntL h (nW N)
theorem nK_ok {N : z_N} {k : Nat} (h : k < nM N) : nK N k < 7 ∧ nW N (nK N k) = true ∧ rkW N (nK N k) = k := sel_ok h
theorem nK_rk {N : z_N} {h : Nat} (hh : h < 7) (hw : nW N h = true) : nK N (rkW N h) = h := sel_rk hh hw
theorem rkW_lt {N : z_N} {h : Nat} (hh : h < 7) (hw : nW N h = true) : rkW N h < nM N := cntL_lt2 hh hw
theorem nM_le {N : z_N} : nM N ≤ 7 := cntL_le 7 _
/-- who is laid -/
def WH (v : z_V) (N : z_N) : Prop := gI v 11 0 28 = nI (nM N) ∧ ∀ p, p < nM N → gI v 1227 0 p = nI (nK N p)
/-- labels of the first so many, and 0 of those beside none -/
def LB (v : z_V) (N : z_N) (L : Nat → Nat) (k : Nat) : Prop := ∀ h, h < 7 → (nW N h = true → rkW N h < k) → gI v 1226 0 h = nI (if nW N h = true then L h else 0)
def fWh : Nat → Nat → Prop := fun t k => t = 1226 ∨ t = 1227 ∨ (t = 11 ∧ k = 28)
section DF0
variable {d : Nat} {v : z_V} {N : z_N} {nu : Nat → Nat}
theorem s_layWho (hM : MS v N nu) : ZV (d + 4) m_X11_layWho [vR 11 0] v (fun u => WH u N ∧ (∀ L, LB u N L 0) ∧ Fr fWh v u) := fun Q k => E_X11_layWho (B_X11_layWho_0 (by
  have key : ∀ j h (u : z_V), h + j = 7 → Fr fWh v u → gI u 11 0 28 = nI (rkW N h) → (∀ g, g < h → nW N g = true → gI u 1227 0 (rkW N g) = nI g) → (∀ g, g < h → gI u 1226 0 g = 0) → z_Wp (z_C (d + 3)) 0 k_X11_layWho Q 7 [some (vR 11 0), some (vI (nI h))] [] u := by
    intro j
    induction j with
    | zero =>
      intro h u hj f h1 h2 h3
      obtain rfl : h = 7 := by omega
      refine B_X11_layWho_7 (pk_le 7 7 (fun _ => k _ ⟨⟨h1, fun p hp => ?_⟩, fun L g hg hr => ?_, f⟩) (fun q => absurd q (by decide)))
      · have hk := nK_ok hp
        have := h2 _ hk.1 hk.2.1
        rw [hk.2.2] at this
        exact this
      · rw [h3 g hg]
        cases e : nW N g
        · rfl
        · exact absurd (hr e) (Nat.not_lt_zero _)
    | succ j ih =>
      intro h u hj f h1 h2 h3
      have hr7 : rkW N h ≤ h := cntL_le h _
      refine B_X11_layWho_7 (pk_le 7 h (fun q => absurd q (by omega)) (fun _ => z_ii h rfl (by omega) ?_))
      rw [n_nI (by omega)]
      have f0 : Fr fWh v (pI u 1226 0 h 0) := f.pI (Or.inl rfl)
      have hb := bs_lt 7 (nAdj N h)
      refine cP (s_besideOf (hM.fr f0 (fun k z => by unfold fWh at z; omega)) (by omega)) ?_
      refine pk_ne (bs 7 (nAdj N h)) 0 (fun e => ?_) (fun e => ?_)
      · have hw : nW N h = true := by rw [nW_bs]; exact decide_eq_true e
        have e28 : gI (pI u 1226 0 h 0) 11 0 28 = nI (rkW N h) := by rw [gI_pI_t (by decide)]; exact h1
        refine z_ii (rkW N h) e28 (by omega) ?_
        rw [e28, n_nI (by omega), nI_1, nI_1]
        refine ih (h + 1) _ (by omega) ((f0.pI (Or.inr (Or.inl rfl))).pI (Or.inr (Or.inr ⟨rfl, rfl⟩))) ?_ (fun g hg hwg => ?_) (fun g hg => ?_)
        · rw [gI_pI_s]
          show nI (rkW N h + 1) = nI (cntL h (nW N) + (if nW N h = true then 1 else 0))
          rw [if_pos hw]
          rfl
        · rw [gI_pI_t (by decide)]
          by_cases z : g = h
          · subst z
            rw [gI_pI_s]
          · have := cntL_lt2 (show g < h by omega) hwg
            rw [gI_pI_k (show rkW N g ≠ rkW N h by unfold rkW; omega), gI_pI_t (by decide)]
            exact h2 g (by omega) hwg
        · rw [gI_pI_t (by decide), gI_pI_t (by decide)]
          by_cases z : g = h
          · subst z
            rw [gI_pI_s]
          · rw [gI_pI_k z]
            exact h3 g (by omega)
      · have hw : nW N h = false := by rw [nW_bs]; exact decide_eq_false (fun z => z e)
        rw [nI_1]
        refine ih (h + 1) _ (by omega) f0 ?_ (fun g hg hwg => ?_) (fun g hg => ?_)
        · rw [gI_pI_t (by decide), h1]
          show nI (rkW N h) = nI (cntL h (nW N) + (if nW N h = true then 1 else 0))
          rw [hw]
          rfl
        · rw [gI_pI_t (by decide)]
          by_cases z : g = h
          · subst z
            rw [hw] at hwg
            cases hwg
          · exact h2 g (by omega) hwg
        · by_cases z : g = h
          · subst z
            rw [gI_pI_s]
          · rw [gI_pI_k z]
            exact h3 g (by omega)
  exact key 7 0 _ (by omega) (Fr.rfl.pI (Or.inr (Or.inr ⟨rfl, rfl⟩))) gI_pI_s (fun g hg => absurd hg (by omega)) (fun g hg => absurd hg (by omega))))
end DF0
