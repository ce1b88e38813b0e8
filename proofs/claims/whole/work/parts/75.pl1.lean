/-! lowest rows are there; nets with the same key -/
theorem min_ex {P : (Nat → Nat) → Prop} {k : Nat} : ∀ (x : Nat) (L : Nat → Nat), P L → L k = x → ∃ L1, P L1 ∧ ∀ L2, P L2 → L1 k ≤ L2 k := by
  intro x
  induction x using Nat.strongRecOn with
  | ind x ih =>
    intro L h e
    by_cases z : ∃ L2, P L2 ∧ L2 k < x
    · obtain ⟨L2, h2, h3⟩ := z
      exact ih _ h3 L2 h2 rfl
    · refine ⟨L, h, fun L2 h2 => ?_⟩
      rcases Nat.lt_or_ge (L2 k) (L k) with y | y
      · exact absurd ⟨L2, h2, by omega⟩ z
      · exact y
theorem lf_ex {Wd : Nat → Bool} {P : (Nat → Nat) → Prop} (h : ∃ L, P L) : ∃ L, isLF Wd P L := by
  have key : ∀ k, ∃ L, P L ∧ ∀ L', P L' → ∀ h, h < k → Wd h = true → (∀ g, g < h → Wd g = true → L' g = L g) → L h ≤ L' h := by
    intro k
    induction k with
    | zero =>
      obtain ⟨L, hL⟩ := h
      exact ⟨L, hL, fun _ _ h hh => absurd hh (by omega)⟩
    | succ k ih =>
      obtain ⟨L, hL, h2⟩ := ih
      obtain ⟨L1, ⟨g1, g2⟩, g3⟩ := min_ex (P := fun L' => P L' ∧ ∀ g, g < k → Wd g = true → L' g = L g) (k := k) _ L ⟨hL, fun _ _ _ => rfl⟩ rfl
      refine ⟨L1, g1, fun L' hL' h hh hw hpre => ?_⟩
      by_cases z : h = k
      · subst z
        exact g3 L' ⟨hL', fun g hg hwg => (hpre g hg hwg).trans (g2 g hg hwg)⟩
      · rw [g2 h (by omega) hw]
        exact h2 L' hL' h (by omega) hw (fun g hg hwg => (hpre g hg hwg).trans (g2 g (by omega) hwg))
  obtain ⟨L, h1, h2⟩ := key 7
  exact ⟨L, h1, h2⟩
theorem isLF_cg {Wd : Nat → Bool} {P P' : (Nat → Nat) → Prop} {L : Nat → Nat} (h : ∀ L, P L ↔ P' L) : isLF Wd P L ↔ isLF Wd P' L := by
  unfold isLF
  rw [h L]
  exact and_congr_right (fun _ => ⟨fun z L' hL' => z L' ((h L').mpr hL'), fun z L' hL' => z L' ((h L').mp hL')⟩)
/-- the same open lines -/
def smN (N M : z_N) : Prop := ∀ l, l < 10 → nP N l = nP M l ∧ (nP N l = true → nA N l = nA M l ∧ nB N l = nB M l)
theorem kN_inj {N M : z_N} (hN : nWF N) (hM : nWF M) : ∀ l, kN N l = kN M l → ∀ i, i < l → nP N i = nP M i ∧ (nP N i = true → nA N i = nA M i ∧ nB N i = nB M i)
  | 0, _ => fun i hi => absurd hi (by omega)
  | l + 1, e => by
    have d1 : ∀ {K : z_N}, nWF K → (if nP K l = true then 1 + nA K l * 7 + nB K l else 0) < 64 := fun hK => by
      split
      · rename_i z
        have := hK.2.2.1 l (nP_lt hK z)
        omega
      · omega
    have dN := d1 hN
    have dM := d1 hM
    simp only [kN] at e
    have e1 : kN N l = kN M l := by omega
    have e2 : (if nP N l = true then 1 + nA N l * 7 + nB N l else 0) = (if nP M l = true then 1 + nA M l * 7 + nB M l else 0) := by omega
    intro i hi
    rcases Nat.lt_succ_iff_lt_or_eq.mp hi with z | z
    · exact kN_inj hN hM l e1 i z
    · subst z
      cases a : nP N i
      · cases b : nP M i
        · exact ⟨rfl, fun z => absurd z (by decide)⟩
        · rw [a, b, if_neg (by decide), if_pos rfl] at e2
          omega
      · cases b : nP M i
        · rw [a, b, if_pos rfl, if_neg (by decide)] at e2
          omega
        · rw [a, b, if_pos rfl, if_pos rfl] at e2
          have h1 := hN.2.2.1 i (nP_lt hN a)
          have h2 := hM.2.2.1 i (nP_lt hM b)
          exact ⟨rfl, fun _ => by omega⟩
theorem lN_inj {a b : Nat} (ha : a < 2 ^ 63) (hb : b < 2 ^ 63) (h : lN a = lN b) : a = b := by
  have := congrArg (fun x : Int64 => x.toBitVec.toNat) h
  simp only [lN_tb, BitVec.toNat_ofNat] at this
  rwa [Nat.mod_eq_of_lt (by omega), Nat.mod_eq_of_lt (by omega)] at this
theorem kN63 {N : z_N} (h : nWF N) : kN N 10 < 2 ^ 63 := Nat.lt_of_lt_of_le (kN_lt h 10) (by decide)
theorem smN_k {N M : z_N} (hN : nWF N) (hM : nWF M) (h : lN (kN N 10) = lN (kN M 10)) : smN N M := kN_inj hN hM 10 (lN_inj (kN63 hN) (kN63 hM) h)
theorem smN.s {N M : z_N} (h : smN N M) : smN M N := fun l hl => ⟨(h l hl).1.symm, fun z => by
  have := (h l hl).2 ((h l hl).1.trans z)
  exact ⟨this.1.symm, this.2.symm⟩⟩
section SMN
variable {N M : z_N}
theorem nAdj_cg (hN : nWF N) (hM : nWF M) (h : smN N M) {g k : Nat} : nAdj N g k = nAdj M g k := by
  rw [← nAdL_10 hN, ← nAdL_10 hM]
  refine anyL_cg (fun l hl => ?_)
  rw [(h l hl).1]
  cases e : nP M l
  · rfl
  · have := (h l hl).2 ((h l hl).1.trans e)
    unfold nEd
    rw [this.1, this.2]
theorem nW_cg (hN : nWF N) (hM : nWF M) (h : smN N M) : nW N = nW M := funext (fun g => anyL_cg (fun k _ => nAdj_cg hN hM h))
theorem ov_cg (hN : nWF N) (hM : nWF M) (h : smN N M) {g k : Nat} : ov N g k = ov M g k := by
  unfold ov
  rw [nAdj_cg hN hM h, anyL_cg (fun x _ => by rw [nAdj_cg hN hM h, nAdj_cg (g := k) hN hM h])]
theorem nM_cg (hN : nWF N) (hM : nWF M) (h : smN N M) : nM N = nM M := by
  unfold nM
  rw [nW_cg hN hM h]
theorem fitK_cg (hN : nWF N) (hM : nWF M) (h : smN N M) {kind pa pb g k : Nat} {L : Nat → Nat} : fitK kind pa pb N g k L = fitK kind pa pb M g k L := by
  unfold fitK
  rw [nAdj_cg hN hM h, ov_cg hN hM h]
theorem niceL_cg1 (hN : nWF N) (hM : nWF M) (h : smN N M) {kind pa pb top : Nat} {L : Nat → Nat} (z : niceL kind pa pb N top L) : niceL kind pa pb M top L := by
  refine ⟨fun g k hgk hk h1 h2 => ?_, fun hk l' l hll h1 h2 => ?_, fun k hk hw => ?_⟩
  · rw [← fitK_cg hN hM h]
    rw [← nW_cg hN hM h] at h1 h2
    exact z.1 g k hgk hk h1 h2
  · have hl10 := Nat.lt_of_lt_of_le (nP_lt hM h2) hM.1
    have s1 := h l' (by omega)
    have s2 := h l hl10
    have a1 := s1.2 (s1.1.trans h1)
    have a2 := s2.2 (s2.1.trans h2)
    have := z.2.1 hk l' l hll (s1.1.trans h1) (s2.1.trans h2)
    unfold fL at this ⊢
    rw [← a1.1, ← a1.2, ← a2.1, ← a2.2]
    exact this
  · rw [← nW_cg hN hM h] at hw
    exact z.2.2 k hk hw
theorem niceL_cg (hN : nWF N) (hM : nWF M) (h : smN N M) {kind pa pb top : Nat} {L : Nat → Nat} : niceL kind pa pb N top L ↔ niceL kind pa pb M top L := ⟨niceL_cg1 hN hM h, niceL_cg1 hM hN h.s⟩
theorem isOp_cg (hN : nWF N) (hM : nWF M) (h : smN N M) {kind pa pb t : Nat} {L : Nat → Nat} (z : isOp kind pa pb N t L) : isOp kind pa pb M t L := by
  refine ⟨?_, fun t' ht' L' q => z.2 t' ht' L' ((niceL_cg hN hM h).mpr q)⟩
  rw [← nW_cg hN hM h]
  exact (isLF_cg (fun L => niceL_cg hN hM h)).mp z.1
end SMN
/-- near and far -/
def LoF (near far : Nat) (N : z_N) (g h : Nat) : Nat := if nAdj N g h = true then near else if (ov N g h && decide (h ≠ g)) = true then far else 0
theorem ov_comm {N : z_N} {g h : Nat} : ov N g h = ov N h g := by
  unfold ov
  rw [nAdj_comm, anyL_cg (fun x _ => Bool.and_comm _ _)]
theorem LoF_comm {near far : Nat} {N : z_N} {g h : Nat} : LoF near far N g h = LoF near far N h g := by
  unfold LoF
  rw [nAdj_comm, ov_comm, show decide (h ≠ g) = decide (g ≠ h) from by rw [decide_eq_decide]; exact ne_comm]
theorem fit2 {near far : Nat} {N : z_N} {g h : Nat} {L : Nat → Nat} (hgh : g < h) : fitK 2 near far N g h L = true ↔ LoF near far N g h ≤ dst (L g) (L h) := by
  unfold fitK LoF
  rw [if_pos rfl]
  cases a : nAdj N g h
  · cases b : ov N g h
    · simp
    · simp [show h ≠ g by omega]
  · have : ov N g h = false := by
      unfold ov
      rw [a]
      rfl
    simp [this]
theorem nice2 {near far top : Nat} {N : z_N} {L : Nat → Nat} : niceL 2 near far N top L ↔ (∀ g h, g < 7 → h < 7 → g ≠ h → nW N g = true → nW N h = true → LoF near far N g h ≤ dst (L g) (L h)) ∧ ∀ h, h < 7 → nW N h = true → L h ≤ top := by
  constructor
  · rintro ⟨h1, _, h3⟩
    refine ⟨fun g h hg hh hne hwg hwh => ?_, h3⟩
    rcases Nat.lt_or_gt_of_ne hne with z | z
    · exact (fit2 z).mp (h1 g h z hh hwg hwh)
    · rw [LoF_comm, dst_comm]
      exact (fit2 z).mp (h1 h g z hg hwh hwg)
  · rintro ⟨h1, h3⟩
    exact ⟨fun g h hgh hh hwg hwh => (fit2 hgh).mpr (h1 g h (by omega) hh (by omega) hwg hwh), fun z => absurd z (by decide), h3⟩
def smS (near far : Nat) : Nat → Nat
  | 0 => 1
  | x + 1 => smS near far x ||| (if ((decide (0 < near) && (decide (near ≤ x + 1) && (smS near far x).testBit (x + 1 - near))) || (decide (0 < far) && (decide (far ≤ x + 1) && (smS near far x).testBit (x + 1 - far)))) = true then 2 ^ (x + 1) else 0)
theorem smS_lt : ∀ near, near < 4 → ∀ far, far < 4 → ∀ x, x < 31 → smS near far x < 2 ^ (x + 1) := by decide +kernel
theorem smS_cl : ∀ near, near < 4 → ∀ far, far < 4 → ∀ x, x < 31 → ∀ c, c < 4 → (!(decide (c = near) || decide (c = far)) || (decide (c = 0) || (!decide (c ≤ x) || (!(smS near far 30).testBit (x - c) || (smS near far 30).testBit x)))) = true := by decide +kernel
theorem smS_0 : ∀ near, near < 4 → ∀ far, far < 4 → (smS near far 30).testBit 0 = true := by decide +kernel
theorem low_sm {near far top : Nat} {N : z_N} {L : Nat → Nat} (hn : near < 4) (hf : far < 4) (ht : top ≤ 30) (h : isLF (nW N) (niceL 2 near far N top) L) : ∀ x g, g < 7 → nW N g = true → L g = x → (smS near far 30).testBit x = true := by
  have hq := nice2.mp h.1
  intro x
  induction x using Nat.strongRecOn with
  | ind x ih =>
    intro g hg hw hx
    by_cases x0 : x = 0
    · subst x0
      exact smS_0 near hn far hf
    · have hxt := hq.2 g hg hw
      by_cases z : ∃ k, k < 7 ∧ nW N k = true ∧ k ≠ g ∧ L k + LoF near far N g k = x ∧ 0 < LoF near far N g k
      · obtain ⟨k, hk, hwk, hne, e, hpos⟩ := z
        have hb := ih (L k) (by omega) k hk hwk rfl
        have hc : LoF near far N g k = near ∨ LoF near far N g k = far := by
          unfold LoF at hpos ⊢
          split
          · exact Or.inl rfl
          · split
            · exact Or.inr rfl
            · rename_i z1 z2
              rw [if_neg z1, if_neg z2] at hpos
              omega
        have hb2 : (smS near far 30).testBit (x - LoF near far N g k) = true := by
          rw [show x - LoF near far N g k = L k by omega]
          exact hb
        have hcl := smS_cl near hn far hf x (by omega) (LoF near far N g k) (by omega)
        rw [hb2] at hcl
        simp only [Bool.not_true, Bool.false_or] at hcl
        rw [show (decide (LoF near far N g k = near) || decide (LoF near far N g k = far)) = true by simpa using hc, show decide (LoF near far N g k = 0) = false from decide_eq_false (by omega), show decide (LoF near far N g k ≤ x) = true from decide_eq_true (by omega)] at hcl
        simpa using hcl
      · exfalso
        have hl : niceL 2 near far N top (sU L g (x - 1)) := by
          have one : ∀ k, k < 7 → k ≠ g → nW N k = true → LoF near far N g k ≤ dst (x - 1) (L k) := by
            intro k hk hne hwk
            have h1 := hq.1 g k hg hk (fun e => hne e.symm) hw hwk
            rw [hx] at h1
            by_cases y : L k + LoF near far N g k = x ∧ 0 < LoF near far N g k
            · exact absurd ⟨k, hk, hwk, hne, y.1, y.2⟩ z
            · unfold dst at h1 ⊢
              split at h1 <;> split <;> omega
          refine nice2.mpr ⟨fun a b ha hb hne hwa hwb => ?_, fun a ha hwa => ?_⟩
          · by_cases za : a = g
            · subst za
              rw [sU_s, sU_n (fun e => hne e.symm)]
              exact one b hb (fun e => hne e.symm) hwb
            · by_cases zb : b = g
              · subst zb
                rw [sU_s, sU_n za, LoF_comm, dst_comm]
                exact one a ha za hwa
              · rw [sU_n za, sU_n zb]
                exact hq.1 a b ha hb hne hwa hwb
          · by_cases za : a = g
            · subst za
              rw [sU_s]
              omega
            · rw [sU_n za]
              exact hq.2 a ha hwa
        have := h.2 _ hl g hg hw (fun k hk _ => sU_n (by omega))
        rw [sU_s, hx] at this
        omega
/-- the search for rows finds the lowest -/
theorem sol2 {near far top : Nat} {N : z_N} {L : Nat → Nat} (ht : top ≤ 30) : solP N (LoF near far N) (fun _ _ => 30) (fun x => (smS near far 30).testBit x && decide (x < top + 1)) L ↔ niceL 2 near far N top L ∧ ∀ h, h < 7 → nW N h = true → (smS near far 30).testBit (L h) = true := by
  rw [nice2]
  unfold solP okP
  constructor
  · intro z
    refine ⟨⟨fun g h hg hh hne hwg hwh => ?_, fun h hh hw => ?_⟩, fun h hh hw => ?_⟩
    · rcases Nat.lt_or_gt_of_ne hne with y | y
      · have := (z h hh hwh).2.2 g y hwg
        simp only [Bool.and_eq_true, Bool.not_eq_true', decide_eq_false_iff_not] at this
        rw [LoF_comm, dst_comm]
        omega
      · have := (z g hg hwg).2.2 h y hwh
        simp only [Bool.and_eq_true, Bool.not_eq_true', decide_eq_false_iff_not] at this
        omega
    · have := (z h hh hw).2.1
      simp only [Bool.and_eq_true, decide_eq_true_eq] at this
      omega
    · have := (z h hh hw).2.1
      simp only [Bool.and_eq_true, decide_eq_true_eq] at this
      exact this.1
  · rintro ⟨⟨z1, z2⟩, z3⟩ h hh hw
    have b := z2 h hh hw
    refine ⟨by omega, ?_, fun g hg hwg => ?_⟩
    · show ((smS near far 30).testBit (L h) && decide (L h < top + 1)) = true
      rw [z3 h hh hw, decide_eq_true (by omega)]
      rfl
    · have b2 := z2 g (by omega) hwg
      have := z1 h g hh (by omega) (by omega) hw hwg
      have hd : dst (L h) (L g) ≤ 30 := by
        unfold dst
        split <;> omega
      simp only [Bool.and_eq_true, Bool.not_eq_true', decide_eq_false_iff_not, decide_eq_true_eq]
      exact ⟨hd, by omega⟩
theorem lf2 {near far top : Nat} {N : z_N} {L : Nat → Nat} (hn : near < 4) (hf : far < 4) (ht : top ≤ 30) (h : isLF (nW N) (solP N (LoF near far N) (fun _ _ => 30) (fun x => (smS near far 30).testBit x && decide (x < top + 1))) L) : isLF (nW N) (niceL 2 near far N top) L := by
  have h1 := (sol2 ht).mp h.1
  obtain ⟨M, hM⟩ := lf_ex (Wd := nW N) ⟨L, h1.1⟩
  have hMs : isLF (nW N) (solP N (LoF near far N) (fun _ _ => 30) (fun x => (smS near far 30).testBit x && decide (x < top + 1))) M := ⟨(sol2 ht).mpr ⟨hM.1, fun g hg hw => low_sm hn hf ht hM _ g hg hw rfl⟩, fun L' hL' => hM.2 L' ((sol2 ht).mp hL').1⟩
  have e := h.u hMs
  refine ⟨h1.1, fun L' hL' g hg hw hpre => ?_⟩
  rw [e g hg hw]
  exact hM.2 L' hL' g hg hw (fun k hk hwk => (hpre k hk hwk).trans (e k (by omega) hwk))
theorem no2 {near far top : Nat} {N : z_N} (hn : near < 4) (hf : far < 4) (ht : top ≤ 30) (h : ∀ L, ¬ solP N (LoF near far N) (fun _ _ => 30) (fun x => (smS near far 30).testBit x && decide (x < top + 1)) L) : ∀ L, ¬ niceL 2 near far N top L := fun L hL => by
  obtain ⟨M, hM⟩ := lf_ex (Wd := nW N) ⟨L, hL⟩
  exact h M ((sol2 ht).mpr ⟨hM.1, fun g hg hw => low_sm hn hf ht hM _ g hg hw rfl⟩)
def HiB (t : Nat) (N : z_N) (g h : Nat) : Nat := if nAdj N g h = true then t else 30
theorem sol3 {t : Nat} {N : z_N} {L : Nat → Nat} : solP N (fun _ _ => 1) (HiB t N) (fun x => decide (x < nM N)) L ↔ niceL 3 t 0 N (nM N - 1) L := by
  have hm := nM_le (N := N)
  unfold solP niceL okP fitK HiB
  constructor
  · intro z
    refine ⟨fun g h hgh hh hwg hwh => ?_, fun y => absurd y (by decide), fun h hh hw => ?_⟩
    · have := (z h hh hwh).2.2 g hgh hwg
      simp only [Bool.and_eq_true, Bool.not_eq_true', decide_eq_false_iff_not, decide_eq_true_eq] at this
      rw [if_neg (by decide), decide_eq_true (by rw [dst_comm]; omega), Bool.true_and]
      rw [nAdj_comm]
      cases e : nAdj N h g
      · simp
      · rw [e, if_pos rfl] at this
        rw [dst_comm]
        simp [this.1]
    · have := (z h hh hw).2.1
      have := of_decide_eq_true this
      omega
  · rintro ⟨z1, _, z3⟩ h hh hw
    have b := z3 h hh hw
    have hr := rkW_lt hh hw
    refine ⟨by omega, decide_eq_true (by omega), fun g hg hwg => ?_⟩
    have b2 := z3 g (by omega) hwg
    have := z1 g h hg hh hwg hw
    rw [if_neg (by decide)] at this
    simp only [Bool.and_eq_true, decide_eq_true_eq] at this
    have hd : dst (L h) (L g) ≤ 30 := by
      unfold dst
      split <;> omega
    have hp := this.1
    rw [dst_comm] at hp
    simp only [Bool.and_eq_true, Bool.not_eq_true', decide_eq_false_iff_not, decide_eq_true_eq]
    refine ⟨?_, by omega⟩
    rw [nAdj_comm]
    cases e : nAdj N g h
    · simpa using hd
    · have h2 := this.2
      rw [e, dst_comm] at h2
      simpa using h2
