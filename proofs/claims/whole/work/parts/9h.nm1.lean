/-! NAMES: those beside any, and the others -/
def fac : Nat → Nat
  | 0 => 1
  | n + 1 => (n + 1) * fac n
def QW (N : z_N) (L : Nat → Nat) : Bool := allL 7 (fun k => !nW N k || ((decide (L k < 7) && nW N (L k)) && allL k (fun g => !nW N g || (decide (L g ≠ L k) && (nAdj N g k == nAdj N (L g) (L k))))))
def ctF (e n : Nat) (F : (Nat → Nat) → Nat) : List Nat → (Nat → Nat) → Nat
  | [], L => F L
  | h :: vs, L => smF n e (fun x => ctF e n F vs (sU L h x))
theorem ctV_F {e n : Nat} {P : (Nat → Nat) → Bool} : ∀ {vs : List Nat} {L : Nat → Nat}, ctV e n P vs L = ctF e n (fun L => if P L = true then 1 else 0) vs L
  | [], _ => rfl
  | h :: vs, L => smF_cg (fun x _ _ => ctV_F)
theorem ctF_app {e n : Nat} {F : (Nat → Nat) → Nat} {ws : List Nat} : ∀ {vs : List Nat} {L : Nat → Nat}, ctF e n F (vs ++ ws) L = ctF e n (fun L' => ctF e n F ws L') vs L
  | [], _ => rfl
  | h :: vs, L => smF_cg (fun x _ _ => ctF_app)
theorem ctF_cg {e n : Nat} {F G : (Nat → Nat) → Nat} : ∀ {vs : List Nat} {L : Nat → Nat}, (∀ L', (∀ h, h ∉ vs → L' h = L h) → (∀ h, h ∈ vs → e ≤ L' h ∧ L' h < e + n) → F L' = G L') → ctF e n F vs L = ctF e n G vs L
  | [], L, h => h L (fun _ _ => rfl) (fun _ z => by cases z)
  | g :: vs, L, h => smF_cg (fun x h1 h2 => ctF_cg (fun L' h' hb => h L' (fun k hk => by
      rw [h' k (fun z => hk (List.mem_cons_of_mem _ z)), sU_n (fun z => hk (by rw [z]; exact List.mem_cons_self))]) (fun k hk => by
      by_cases z : k ∈ vs
      · exact hb k z
      · have e1 : k = g := by
          rcases List.mem_cons.mp hk with y | y
          · exact y
          · exact absurd y z
        rw [h' k z, e1, sU_s]
        omega)))
theorem ctF_mul {e n c : Nat} {F : (Nat → Nat) → Nat} : ∀ {vs : List Nat} {L : Nat → Nat}, ctF e n (fun L => c * F L) vs L = c * ctF e n F vs L
  | [], _ => rfl
  | h :: vs, L => by
    simp only [ctF]
    rw [← smF_mul]
    exact smF_cg (fun x _ _ => ctF_mul)
theorem ctF_0 {e n : Nat} {F : (Nat → Nat) → Nat} {vs : List Nat} {L : Nat → Nat} (h : ∀ L', (∀ h, h ∉ vs → L' h = L h) → F L' = 0) : ctF e n F vs L = 0 := by
  have e1 : ctF e n F vs L = ctF e n (fun L => 0 * F L) vs L := ctF_cg (fun L' h' _ => by rw [h L' h', Nat.zero_mul])
  rw [e1, ctF_mul, Nat.zero_mul]
theorem smF_cnt {f : Nat → Bool} {c : Nat} : ∀ {n : Nat}, smF n 0 (fun x => if f x = true then c else 0) = cntL n f * c
  | 0 => (Nat.zero_mul c).symm
  | n + 1 => by
    rw [smF_end, smF_cnt (n := n), Nat.zero_add]
    simp only [cntL]
    rw [Nat.add_mul]
    cases f n
    · rw [if_neg (by decide), if_neg (by decide), Nat.zero_mul]
    · rw [if_pos rfl, if_pos rfl, Nat.one_mul]
theorem pm_ext : ∀ {l l' : List Nat}, l.Nodup → l'.Nodup → (∀ a, a ∈ l ↔ a ∈ l') → l.Perm l'
  | [], l', _, _, h => by
    cases l' with
    | nil => exact List.Perm.refl _
    | cons a t =>
      have := (h a).mpr List.mem_cons_self
      cases this
  | a :: l, l', hn, hn', h => by
    have ha : a ∈ l' := (h a).mp List.mem_cons_self
    have hc := List.nodup_cons.mp hn
    refine (List.Perm.cons a (pm_ext hc.2 (hn'.erase a) (fun x => ?_))).trans (List.perm_cons_erase ha).symm
    rw [hn'.mem_erase_iff]
    constructor
    · intro z
      exact ⟨fun y => hc.1 (by rw [← y]; exact z), (h x).mp (List.mem_cons_of_mem _ z)⟩
    · rintro ⟨y, z⟩
      rcases List.mem_cons.mp ((h x).mpr z) with w | w
      · exact absurd w y
      · exact w
section NM1
variable {N : z_N} {L : Nat → Nat}
theorem QW_iff : QW N L = true ↔ (∀ k, k < 7 → nW N k = true → L k < 7 ∧ nW N (L k) = true) ∧ ∀ g k, g < k → k < 7 → nW N g = true → nW N k = true → L g ≠ L k ∧ nAdj N g k = nAdj N (L g) (L k) := by
  unfold QW
  rw [allL_iff]
  constructor
  · intro h
    refine ⟨fun k hk hw => ?_, fun g k hgk hk hwg hwk => ?_⟩
    · have := h k hk
      rw [hw, Bool.not_true, Bool.false_or, Bool.and_eq_true, Bool.and_eq_true, decide_eq_true_eq] at this
      exact this.1
    · have := h k hk
      rw [hwk, Bool.not_true, Bool.false_or, Bool.and_eq_true] at this
      have := allL_iff.mp this.2 g hgk
      rw [hwg, Bool.not_true, Bool.false_or, Bool.and_eq_true, decide_eq_true_eq, beq_iff_eq] at this
      exact this
  · rintro ⟨h1, h2⟩ k hk
    cases hw : nW N k
    · rfl
    · have a := h1 k hk hw
      rw [Bool.not_true, Bool.false_or, decide_eq_true a.1, a.2, Bool.true_and, Bool.true_and]
      refine allL_iff.mpr (fun g hg => ?_)
      cases hwg : nW N g
      · rfl
      · have b := h2 g k hg hk hwg hw
        rw [Bool.not_true, Bool.false_or, decide_eq_true b.1, b.2]
        exact beq_self_eq_true _
theorem PN_iff : PN N L = true ↔ ∀ g k, g < k → k < 7 → L g ≠ L k ∧ nAdj N g k = nAdj N (L g) (L k) := by
  unfold PN
  rw [allL_iff]
  constructor
  · intro h g k hgk hk
    have := allL_iff.mp (h k hk) g hgk
    rw [Bool.and_eq_true, decide_eq_true_eq, beq_iff_eq] at this
    exact this
  · intro h k hk
    exact allL_iff.mpr (fun g hg => by
      have := h g k hg hk
      rw [decide_eq_true this.1, this.2]
      exact beq_self_eq_true _)
theorem nW_adj {h g : Nat} (hg : g < 7) (h1 : nAdj N h g = true) : nW N h = true := anyL_iff.mpr ⟨g, hg, h1⟩
theorem nW_no {h g : Nat} (hg : g < 7) (h1 : nW N h = false) : nAdj N h g = false := by
  cases e : nAdj N h g
  · rfl
  · rw [nW_adj hg e] at h1
    cases h1
theorem nAdj_irr {h : Nat} (hW : nWF N) : nAdj N h h = false := by
  cases e : nAdj N h h
  · rfl
  · obtain ⟨l, h1, _, h3⟩ := nAdj_iff.mp e
    have := hW.2.2.1 l h1
    rcases nEd_iff.mp h3 with z | z <;> omega
/-- what keeps all keeps those beside any -/
theorem PN_QW (hW : nWF N) (hb : ∀ k, k < 7 → nW N k = true → L k < 7) (h : PN N L = true) : QW N L = true := by
  have h := PN_iff.mp h
  have both : ∀ g k, g < 7 → k < 7 → g ≠ k → nAdj N g k = nAdj N (L g) (L k) := fun g k hg hk hne => by
    rcases Nat.lt_or_gt_of_ne hne with z | z
    · exact (h g k z hk).2
    · rw [nAdj_comm, (h k g z hg).2, nAdj_comm]
  refine QW_iff.mpr ⟨fun k hk hw => ⟨hb k hk hw, ?_⟩, fun g k hgk hk _ _ => h g k hgk hk⟩
  obtain ⟨g, hg, hA⟩ := anyL_iff.mp hw
  have ne : k ≠ g := fun e => by
    rw [e, nAdj_irr hW] at hA
    cases hA
  have hwg : nW N g = true := nW_adj hk (by rw [nAdj_comm]; exact hA)
  have := both k g hk hg ne
  rw [hA] at this
  exact nW_adj (hb g hg hwg) this.symm
theorem QW_loc {L' : Nat → Nat} (e : ∀ h, h < 7 → nW N h = true → L h = L' h) (h : QW N L = true) : QW N L' = true := by
  have h := QW_iff.mp h
  refine QW_iff.mpr ⟨fun k hk hw => ?_, fun g k hgk hk hwg hwk => ?_⟩
  · rw [← e k hk hw]
    exact h.1 k hk hw
  · rw [← e k hk hwk, ← e g (by omega) hwg]
    exact h.2 g k hgk hk hwg hwk
theorem QW_inj (h : QW N L = true) {g k : Nat} (hg : g < 7) (hk : k < 7) (hwg : nW N g = true) (hwk : nW N k = true) (e : L g = L k) : g = k := by
  have h := QW_iff.mp h
  rcases Nat.lt_trichotomy g k with z | z | z
  · exact absurd e (h.2 g k z hk hwg hwk).1
  · exact z
  · exact absurd e.symm (h.2 k g z hg hwk hwg).1
theorem QW_onto (h : QW N L = true) {x : Nat} (hx : x < 7) (hw : nW N x = true) : ∃ g, g < 7 ∧ nW N g = true ∧ L g = x := cnt_onto (n := 7) (f := nW N) L (fun i hi hwi => (QW_iff.mp h).1 i hi hwi) (fun i j hi hj hwi hwj e => QW_inj h hi hj hwi hwj e) hx hw
/-- the others change places as they like -/
theorem iso_cnt (hW : nWF N) : ∀ (ws : List Nat) (L : Nat → Nat) (U : Nat → Bool), ws.Nodup → (∀ h, h ∈ ws → h < 7 ∧ nW N h = false) → QW N L = true → (∀ h, h < 7 → nW N h = false → h ∉ ws → L h < 7 ∧ nW N (L h) = false ∧ U (L h) = true) → (∀ g h, g < 7 → h < 7 → nW N g = false → nW N h = false → g ∉ ws → h ∉ ws → L g = L h → g = h) → (∀ x, x < 7 → U x = true → ∃ h, h < 7 ∧ nW N h = false ∧ h ∉ ws ∧ L h = x) → cntL 7 (fun x => !nW N x && !U x) = ws.length → ctF 0 7 (fun L => if PN N L = true then 1 else 0) ws L = fac ws.length
  | [], L, U, _, _, hQ, h1, h2, _, _ => by
    have q := QW_iff.mp hQ
    have : PN N L = true := PN_iff.mpr (fun g k hgk hk => by
      have hg : g < 7 := by omega
      cases wg : nW N g <;> cases wk : nW N k
      · have a := h1 g hg wg (by simp)
        have b := h1 k hk wk (by simp)
        exact ⟨fun e => by have := h2 g k hg hk wg wk (by simp) (by simp) e; omega, by rw [nW_no hk wg, nW_no b.1 a.2.1]⟩
      · have a := h1 g hg wg (by simp)
        have b := q.1 k hk wk
        exact ⟨fun e => by rw [e, b.2] at a; exact absurd a.2.1 (by decide), by rw [nW_no hk wg, nW_no b.1 a.2.1]⟩
      · have a := q.1 g hg wg
        have b := h1 k hk wk (by simp)
        exact ⟨fun e => by rw [← e, a.2] at b; exact absurd b.2.1 (by decide), by rw [nAdj_comm, nW_no hg wk, nAdj_comm, nW_no a.1 b.2.1]⟩
      · exact q.2 g k hgk hk wg wk)
    show (if PN N L = true then 1 else 0) = 1
    rw [if_pos this]
  | h :: ws, L, U, hn, hm, hQ, h1, h2, h3, hc => by
    have hn2 := List.nodup_cons.mp hn
    have hh := hm h List.mem_cons_self
    have Qx : ∀ x, QW N (sU L h x) = true := fun x => QW_loc (fun g _ hw => (sU_n (fun e => by rw [e, hh.2] at hw; cases hw)).symm) hQ
    have clash : ∀ x g, g < 7 → g ≠ h → g ∉ ws → L g = x → ctF 0 7 (fun L => if PN N L = true then 1 else 0) ws (sU L h x) = 0 := fun x g hg hne hgw e => ctF_0 (fun L' h' => by
      cases y : PN N L'
      · rfl
      · exfalso
        have p := PN_iff.mp y
        have eh : L' h = x := by rw [h' h hn2.1, sU_s]
        have eg : L' g = x := by rw [h' g hgw, sU_n hne, e]
        rcases Nat.lt_or_gt_of_ne hne with z | z
        · exact (p g h z hh.1).1 (eg.trans eh.symm)
        · exact (p h g z hg).1 (eh.trans eg.symm))
    have val : ∀ x, x < 7 → ctF 0 7 (fun L => if PN N L = true then 1 else 0) ws (sU L h x) = if (!nW N x && !U x) = true then fac ws.length else 0 := fun x hx => by
      cases wx : nW N x
      · cases ux : U x
        · rw [Bool.not_false, Bool.true_and, if_pos rfl]
          refine iso_cnt hW ws (sU L h x) (fun y => U y || decide (y = x)) hn2.2 (fun g hg => hm g (List.mem_cons_of_mem _ hg)) (Qx x) (fun g hg wg hgw => ?_) (fun g k hg hk wg wk hgw hkw e => ?_) (fun y hy uy => ?_) ?_
          · by_cases z : g = h
            · subst z
              rw [sU_s, decide_eq_true (show x = x from rfl), Bool.or_true]
              exact ⟨hx, wx, rfl⟩
            · have a := h1 g hg wg (fun y => by
                rcases List.mem_cons.mp y with w | w
                · exact z w
                · exact hgw w)
              rw [sU_n z, a.2.2]
              exact ⟨a.1, a.2.1, rfl⟩
          · have mem : ∀ g, g ≠ h → g ∉ ws → g ∉ h :: ws := fun g z hgw y => by
              rcases List.mem_cons.mp y with w | w
              · exact z w
              · exact hgw w
            by_cases z : g = h
            · by_cases z2 : k = h
              · rw [z, z2]
              · rw [z, sU_s, sU_n z2] at e
                have := (h1 k hk wk (mem k z2 hkw)).2.2
                rw [← e, ux] at this
                cases this
            · by_cases z2 : k = h
              · rw [z2, sU_s, sU_n z] at e
                have := (h1 g hg wg (mem g z hgw)).2.2
                rw [e, ux] at this
                cases this
              · rw [sU_n z, sU_n z2] at e
                exact h2 g k hg hk wg wk (mem g z hgw) (mem k z2 hkw) e
          · have uy : (U y || decide (y = x)) = true := uy
            by_cases z : y = x
            · exact ⟨h, hh.1, hh.2, hn2.1, by rw [sU_s, z]⟩
            · rw [decide_eq_false z, Bool.or_false] at uy
              obtain ⟨g, a, b, c, e⟩ := h3 y hy uy
              have ne : g ≠ h := fun w => c (by rw [w]; exact List.mem_cons_self)
              exact ⟨g, a, b, fun w => c (List.mem_cons_of_mem _ w), by rw [sU_n ne]; exact e⟩
          · have r := cnt_rm (f := fun y => !nW N y && !U y) (i := x) (by show (!nW N x && !U x) = true; rw [wx, ux]; rfl) 7
            rw [if_pos hx, hc, List.length_cons] at r
            have : cntL 7 (fun y => !nW N y && !(U y || decide (y = x))) = cntL 7 (fun j => (!nW N j && !U j) && !decide (j = x)) := cntL_cong 7 (fun y _ => by
              cases nW N y <;> cases U y <;> cases decide (y = x) <;> rfl)
            rw [this]
            omega
        · rw [Bool.not_true, Bool.and_false, if_neg (by decide)]
          obtain ⟨g, a, b, c, e⟩ := h3 x hx ux
          exact clash x g a (fun w => c (by rw [w]; exact List.mem_cons_self)) (fun w => c (List.mem_cons_of_mem _ w)) e
      · rw [Bool.not_true, Bool.false_and, if_neg (by decide)]
        obtain ⟨g, a, b, c⟩ := QW_onto hQ hx wx
        exact clash x g a (fun w => by rw [w, hh.2] at b; cases b) (fun w => by
          have := (hm g (List.mem_cons_of_mem _ w)).2
          rw [b] at this
          cases this) c
    show smF 7 0 (fun x => ctF 0 7 (fun L => if PN N L = true then 1 else 0) ws (sU L h x)) = fac (ws.length + 1)
    rw [smF_cg (fun x _ hx => val x (by omega)), smF_cnt, hc]
    rfl
def vI7 (N : z_N) : List Nat := vLs (sel (fun h => !nW N h) 7) 0 (7 - nM N)
theorem nI_cnt : cntL 7 (fun h => !nW N h) = 7 - nM N := by
  have := cnt_not (f := nW N) (n := 7)
  have e : nM N = cntL 7 (nW N) := rfl
  omega
theorem vI7_mem : ∀ g, g ∈ vI7 N ↔ g < 7 ∧ nW N g = false := fun g => by
  unfold vI7
  rw [vLs_mem]
  constructor
  · rintro ⟨p, _, h2, rfl⟩
    have := sel_ok (f := fun h => !nW N h) (n := 7) (k := p) (by rw [nI_cnt]; omega)
    have e := this.2.1
    rw [Bool.not_eq_true'] at e
    exact ⟨this.1, e⟩
  · rintro ⟨h1, h2⟩
    have hf : (fun h => !nW N h) g = true := by show (!nW N g) = true; rw [h2]; rfl
    have := cntL_lt2 (f := fun h => !nW N h) h1 hf
    rw [nI_cnt] at this
    exact ⟨cntL g (fun h => !nW N h), Nat.zero_le _, by omega, sel_rk h1 hf⟩
theorem vI7_nd : (vI7 N).Nodup := vLs_nd (fun p q _ h2 h3 e => by
  have a := sel_ok (f := fun h => !nW N h) (n := 7) (k := p) (by rw [nI_cnt]; omega)
  have b := sel_ok (f := fun h => !nW N h) (n := 7) (k := q) (by rw [nI_cnt]; omega)
  rw [e] at a
  have := a.2.2.symm.trans b.2.2
  omega)
theorem nmC_eq (hW : nWF N) : nmC N = fac (7 - nM N) * ctV 0 7 (QW N) (vLs (nK N) 0 (nM N)) (fun _ => 0) := by
  have hnd : (vLs (nK N) 0 (nM N) ++ vI7 N).Nodup := List.nodup_append.mpr ⟨vW_nd, vI7_nd, fun a ha b hb e => by
    subst e
    have x := ((vW_mem a).mp ha).2
    have y := ((vI7_mem a).mp hb).2
    rw [x] at y
    cases y⟩
  have hnd7 : (vLs (fun i => i) 0 7).Nodup := vLs_nd (fun p q _ h2 _ e => by
    have e : p = q := e
    omega)
  have hpm : (vLs (fun i => i) 0 7).Perm (vLs (nK N) 0 (nM N) ++ vI7 N) := pm_ext hnd7 hnd (fun a => by
    rw [List.mem_append, vW_mem, vI7_mem, vLs_mem]
    constructor
    · rintro ⟨p, _, h2, h3⟩
      have h3 : p = a := h3
      cases e : nW N a
      · exact Or.inr ⟨by omega, rfl⟩
      · exact Or.inl ⟨by omega, rfl⟩
    · rintro (z | z)
      · exact ⟨a, Nat.zero_le _, by have := z.1; omega, rfl⟩
      · exact ⟨a, Nat.zero_le _, by have := z.1; omega, rfl⟩)
  have len : (vI7 N).length = 7 - nM N := vLs_len
  unfold nmC
  rw [ctV_pm hpm hnd7, ctV_F, ctF_app, ctV_F, ← ctF_mul]
  refine ctF_cg (fun L' _ hb => ?_)
  have bd : ∀ k, k < 7 → nW N k = true → L' k < 7 := fun k hk hw => by
    have := hb k ((vW_mem k).mpr ⟨hk, hw⟩)
    omega
  cases hq : QW N L'
  · rw [if_neg (by decide), Nat.mul_zero]
    refine ctF_0 (fun L2 h2 => ?_)
    cases y : PN N L2
    · rfl
    · exfalso
      have same : ∀ h, h < 7 → nW N h = true → L2 h = L' h := fun h hh hw => h2 h (fun z => by
        have := ((vI7_mem h).mp z).2
        rw [hw] at this
        cases this)
      have := QW_loc same (PN_QW hW (fun k hk hw => by rw [same k hk hw]; exact bd k hk hw) y)
      rw [hq] at this
      cases this
  · rw [if_pos rfl, Nat.mul_one, ← len]
    have none_ : ∀ h, h < 7 → nW N h = false → h ∉ vI7 N → False := fun h hh hw z => z ((vI7_mem h).mpr ⟨hh, hw⟩)
    refine iso_cnt hW (vI7 N) L' (fun _ => false) vI7_nd (fun h z => (vI7_mem h).mp z) hq (fun h hh hw z => (none_ h hh hw z).elim) (fun g h hg _ wg _ z => (none_ g hg wg z).elim) (fun x _ z => absurd z (by decide)) ?_
    rw [len, ← nI_cnt]
    exact cntL_cong 7 (fun x _ => by rw [Bool.not_false, Bool.and_true])
end NM1
