/-! the reference's row as a world -/
def RT (f : Nat → Int32) (b p n : Nat) (s : z_St) : Prop := f b = nI (s 0) ∧ f (b + 1) = nI (s 1) ∧ f (b + 2) = nI (s 2) ∧ f (b + 3) = nI (s 3) ∧ f (b + 4) = nI (2 ^ n - 1 - s 4) ∧ (∀ h, h < 7 → f (b + 5 + h) = nI (s (5 + h))) ∧ ∀ k, k < 25 → f (p + k) = nI (s (12 + k))
def RRf (f : Nat → Int32) (W : z_W) : Prop := okW W ∧ f 0 = nI (wN W) ∧ f 1 = nI (wT W) ∧ f 2 = wR W ∧ f 3 = nI (wC W) ∧ f 4 = nI (wQ W) ∧ RT f 5 1193 (wN W) (wS W) ∧ (∀ i, i < wC W → ∃ m, m ≤ wN W ∧ f (53 + 38 * i) = nI m ∧ wH W i 4 < 2 ^ m ∧ RT f (53 + 38 * i + 1) (53 + 38 * i + 13) m (wH W i)) ∧ (∀ l, l < wN W → f (17 + 2 * l) = nI (wA W l) ∧ f (18 + 2 * l) = nI (wB W l)) ∧ ∀ i, i < wQ W → f (37 + 2 * i) = nI (wL W i) ∧ f (38 + 2 * i) = nI (wM W i)
theorem RT.cg {f f' : Nat → Int32} {b p b' p' n : Nat} {s s' : z_St} (h : RT f b p n s) (h1 : ∀ k, k < 12 → f' (b' + k) = f (b + k)) (h2 : ∀ k, k < 25 → f' (p' + k) = f (p + k)) (e : ∀ k, k < 37 → s' k = s k) : RT f' b' p' n s' := by
  obtain ⟨a0, a1, a2, a3, a4, a5, a6⟩ := h
  refine ⟨by rw [e 0 (by decide)]; exact (h1 0 (by decide)).trans a0, by rw [e 1 (by decide)]; exact (h1 1 (by decide)).trans a1, by rw [e 2 (by decide)]; exact (h1 2 (by decide)).trans a2, by rw [e 3 (by decide)]; exact (h1 3 (by decide)).trans a3, by rw [e 4 (by decide)]; exact (h1 4 (by decide)).trans a4, fun k hk => ?_, fun k hk => ?_⟩
  · rw [e _ (by omega)]
    have := h1 (5 + k) (by omega)
    rw [← Nat.add_assoc, ← Nat.add_assoc] at this
    exact this.trans (a5 k hk)
  · rw [e _ (by omega)]
    exact (h2 k hk).trans (a6 k hk)
theorem RRf.cg {f f' : Nat → Int32} {W : z_W} (h : RRf f W) (e : ∀ j, j < 1218 → f' j = f j) : RRf f' W := by
  obtain ⟨a0, a1, a2, a3, a4, a5, a6, a7, a8, a9⟩ := h
  have hn := a0.n
  have hc := a0.2.2.1
  have hq := a0.2.2.2.2.2.2.1
  refine ⟨a0, (e _ (by decide)).trans a1, (e _ (by decide)).trans a2, (e _ (by decide)).trans a3, (e _ (by decide)).trans a4, (e _ (by decide)).trans a5, a6.cg (fun k hk => e _ (by omega)) (fun k hk => e _ (by omega)) (fun _ _ => rfl), fun i hi => ?_, fun l hl => ⟨(e _ (by omega)).trans (a8 l hl).1, (e _ (by omega)).trans (a8 l hl).2⟩, fun i hi => ⟨(e _ (by omega)).trans (a9 i hi).1, (e _ (by omega)).trans (a9 i hi).2⟩⟩
  obtain ⟨m, m1, m2, m3, m4⟩ := a7 i hi
  exact ⟨m, m1, (e _ (by omega)).trans m2, m3, m4.cg (fun k hk => e _ (by omega)) (fun k hk => e _ (by omega)) (fun _ _ => rfl)⟩
theorem RRf.set {f f' : Nat → Int32} {W : z_W} {s : z_St} (h : RRf f W) (e : ∀ j, j < 1193 → (j < 5 ∨ 17 ≤ j) → f' j = f j) (hs : okS (wN W) s) (ht : RT f' 5 1193 (wN W) s) : RRf f' (wS' W s) := by
  obtain ⟨a0, a1, a2, a3, a4, a5, a6, a7, a8, a9⟩ := h
  have hn := a0.n
  have hc := a0.2.2.1
  have hq := a0.2.2.2.2.2.2.1
  refine ⟨a0.set hs, (e _ (by decide) (by decide)).trans a1, (e _ (by decide) (by decide)).trans a2, (e _ (by decide) (by decide)).trans a3, (e _ (by decide) (by decide)).trans a4, (e _ (by decide) (by decide)).trans a5, ht, fun i hi => ?_, fun l hl => ?_, fun i hi => ?_⟩
  · have hi : i < wC W := hi
    obtain ⟨m, m1, m2, m3, m4⟩ := a7 i hi
    exact ⟨m, m1, (e _ (by omega) (by omega)).trans m2, m3, m4.cg (fun k hk => e _ (by omega) (by omega)) (fun k hk => e _ (by omega) (by omega)) (fun _ _ => rfl)⟩
  · have hl : l < wN W := hl
    exact ⟨(e _ (by omega) (by omega)).trans (a8 l hl).1, (e _ (by omega) (by omega)).trans (a8 l hl).2⟩
  · have hi : i < wQ W := hi
    exact ⟨(e _ (by omega) (by omega)).trans (a9 i hi).1, (e _ (by omega) (by omega)).trans (a9 i hi).2⟩
theorem upd_s {f : Nat → Int32} {k : Nat} {x : Int32} : upd f k x k = x := if_pos rfl
theorem upd_n {f : Nat → Int32} {k j : Nat} {x : Int32} (h : j ≠ k) : upd f k x j = f j := if_neg h
/-- one cell of the standing now -/
theorem RT.u {f : Nat → Int32} {n k x : Nat} {s : z_St} (h : RT f 5 1193 n s) (hk : k < 12) (h4 : k ≠ 4) : RT (upd f (5 + k) (nI x)) 5 1193 n (sU s k x) := by
  obtain ⟨a0, a1, a2, a3, a4, a5, a6⟩ := h
  have g : ∀ j, j < 12 → j ≠ 4 → f (5 + j) = nI (s j) → upd f (5 + k) (nI x) (5 + j) = nI (sU s k x j) := fun j hj hj4 e => by
    by_cases q : j = k
    · subst q
      rw [upd_s, sU_s]
    · rw [upd_n (by omega), sU_n q]
      exact e
  refine ⟨g 0 (by decide) (by decide) a0, g 1 (by decide) (by decide) a1, g 2 (by decide) (by decide) a2, g 3 (by decide) (by decide) a3, ?_, fun j hj => ?_, fun j hj => ?_⟩
  · rw [upd_n (by omega), sU_n (by omega)]
    exact a4
  · have := g (5 + j) (by omega) (by omega) (by rw [← Nat.add_assoc]; exact a5 j hj)
    rw [← Nat.add_assoc] at this
    exact this
  · rw [upd_n (by omega), sU_n (by omega)]
    exact a6 j hj
theorem RT.u4 {f : Nat → Int32} {n x : Nat} {s : z_St} (h : RT f 5 1193 n s) : RT (upd f 9 (nI (2 ^ n - 1 - x))) 5 1193 n (sU s 4 x) := by
  obtain ⟨a0, a1, a2, a3, a4, a5, a6⟩ := h
  refine ⟨?_, ?_, ?_, ?_, ?_, fun j hj => ?_, fun j hj => ?_⟩
  · rw [upd_n (by decide), sU_n (by decide)]; exact a0
  · rw [upd_n (by decide), sU_n (by decide)]; exact a1
  · rw [upd_n (by decide), sU_n (by decide)]; exact a2
  · rw [upd_n (by decide), sU_n (by decide)]; exact a3
  · rw [upd_s, sU_s]
  · rw [upd_n (by omega), sU_n (by omega)]; exact a5 j hj
  · rw [upd_n (by omega), sU_n (by omega)]; exact a6 j hj
theorem RT.up {f : Nat → Int32} {n k x : Nat} {s : z_St} (h : RT f 5 1193 n s) (hk : k < 25) : RT (upd f (1193 + k) (nI x)) 5 1193 n (sU s (12 + k) x) := by
  obtain ⟨a0, a1, a2, a3, a4, a5, a6⟩ := h
  refine ⟨?_, ?_, ?_, ?_, ?_, fun j hj => ?_, fun j hj => ?_⟩
  · rw [upd_n (by omega), sU_n (by omega)]; exact a0
  · rw [upd_n (by omega), sU_n (by omega)]; exact a1
  · rw [upd_n (by omega), sU_n (by omega)]; exact a2
  · rw [upd_n (by omega), sU_n (by omega)]; exact a3
  · rw [upd_n (by omega), sU_n (by omega)]; exact a4
  · rw [upd_n (by omega), sU_n (by omega)]; exact a5 j hj
  · by_cases q : j = k
    · subst q
      rw [upd_s, sU_s]
    · rw [upd_n (by omega), sU_n (by omega)]; exact a6 j hj
/-- the state with another row -/
def pR (v : z_V) (t : Nat) (f : Nat → Int32) : z_V := (fun t' n k => if t' = t ∧ n = 0 then f k else v.1 t' n k, v.2)
theorem gI_pR {v : z_V} {t : Nat} {f : Nat → Int32} {k : Nat} : gI (pR v t f) t 0 k = f k := if_pos ⟨rfl, rfl⟩
theorem gI_pR_t {v : z_V} {t : Nat} {f : Nat → Int32} {t' n k : Nat} (h : t' ≠ t) : gI (pR v t f) t' n k = gI v t' n k := if_neg (fun e => h e.1)
theorem pR_pI {v : z_V} {t : Nat} {f : Nat → Int32} {k : Nat} {x : Int32} : pI (pR v t f) t 0 k x = pR v t (upd f k x) := by
  refine Prod.ext ?_ rfl
  funext t' n k'
  show (if t' = t ∧ k' = k ∧ n = 0 then x else if t' = t ∧ n = 0 then f k' else v.1 t' n k') = if t' = t ∧ n = 0 then (if k' = k then x else f k') else v.1 t' n k'
  by_cases h1 : t' = t ∧ n = 0
  · rw [if_pos h1, if_pos h1]
    by_cases h2 : k' = k
    · rw [if_pos ⟨h1.1, h2, h1.2⟩, if_pos h2]
    · rw [if_neg (fun z => h2 z.2.1), if_neg h2]
  · rw [if_neg h1, if_neg h1, if_neg (fun z => h1 ⟨z.1, z.2.2⟩)]
theorem pR_id {v : z_V} {t : Nat} : pR v t (gI v t 0) = v := by
  refine Prod.ext ?_ rfl
  funext t' n k'
  show (if t' = t ∧ n = 0 then v.1 t 0 k' else v.1 t' n k') = v.1 t' n k'
  by_cases h : t' = t ∧ n = 0
  · rw [if_pos h, h.1, h.2]
  · rw [if_neg h]
theorem gI_pR_f {v : z_V} {t : Nat} {f : Nat → Int32} : gI (pR v t f) t 0 = f := funext fun _ => gI_pR
theorem pR_pR {v : z_V} {t : Nat} {f g : Nat → Int32} : pR (pR v t f) t g = pR v t g := by
  refine Prod.ext ?_ rfl
  funext t' n k'
  show (if t' = t ∧ n = 0 then g k' else if t' = t ∧ n = 0 then f k' else v.1 t' n k') = if t' = t ∧ n = 0 then g k' else v.1 t' n k'
  by_cases h : t' = t ∧ n = 0
  · rw [if_pos h, if_pos h]
  · rw [if_neg h, if_neg h, if_neg h]
theorem Fr_pR {v : z_V} {t : Nat} {f : Nat → Int32} : Fr (sT [t]) v (pR v t f) := ⟨fun t' n k h => ⟨if_neg (fun e => h (by rw [e.1]; show t ∈ [t]; simp)), rfl⟩, rfl⟩
/-- a row that shifts, a block copied -/
def shF (f : Nat → Int32) (k : Nat) : Nat → Int32 := fun j => if 53 ≤ j ∧ j < 53 + k then f (j + 38) else f j
def cpF (f : Nat → Int32) (src dst k : Nat) : Nat → Int32 := fun j => if dst ≤ j ∧ j < dst + k then f (src + (j - dst)) else f j
def sh1 (f : Nat → Int32) (k : Nat) : Nat → Int32 := fun j => if 1193 ≤ j ∧ j + 1 < 1193 + k then f (j + 1) else f j
theorem shF_s {f : Nat → Int32} {k : Nat} : upd (shF f k) (53 + k) (shF f k (91 + k)) = shF f (k + 1) := by
  funext j
  unfold upd shF
  by_cases e : j = 53 + k
  · subst e
    rw [if_pos rfl, if_neg (by omega), if_pos (by omega), show 53 + k + 38 = 91 + k by omega]
  · rw [if_neg e]
    by_cases q : 53 ≤ j ∧ j < 53 + k
    · rw [if_pos q, if_pos (by omega)]
    · rw [if_neg q, if_neg (by omega)]
theorem cpF_s {f : Nat → Int32} {src dst k : Nat} (h : src + k < dst ∨ dst + k ≤ src) : upd (cpF f src dst k) (dst + k) (cpF f src dst k (src + k)) = cpF f src dst (k + 1) := by
  funext j
  unfold upd cpF
  by_cases e : j = dst + k
  · subst e
    rw [if_pos rfl, if_neg (by omega), if_pos (by omega), show src + (dst + k - dst) = src + k by omega]
  · rw [if_neg e]
    by_cases q : dst ≤ j ∧ j < dst + k
    · rw [if_pos q, if_pos (by omega)]
    · rw [if_neg q, if_neg (by omega)]
theorem cpF_0 {f : Nat → Int32} {src dst : Nat} : cpF f src dst 0 = f := by
  funext j
  exact if_neg (by omega)
theorem shF_0 {f : Nat → Int32} : shF f 0 = f := by
  funext j
  exact if_neg (by omega)
theorem cpF_i {f : Nat → Int32} {src dst k j : Nat} (h1 : dst ≤ j) (h2 : j < dst + k) : cpF f src dst k j = f (src + (j - dst)) := if_pos ⟨h1, h2⟩
theorem cpF_o {f : Nat → Int32} {src dst k j : Nat} (h : j < dst ∨ dst + k ≤ j) : cpF f src dst k j = f j := if_neg (by omega)
theorem shF_i {f : Nat → Int32} {k j : Nat} (h1 : 53 ≤ j) (h2 : j < 53 + k) : shF f k j = f (j + 38) := if_pos ⟨h1, h2⟩
theorem shF_o {f : Nat → Int32} {k j : Nat} (h : j < 53 ∨ 53 + k ≤ j) : shF f k j = f j := if_neg (by omega)
/-- what keep leaves, behind the shift -/
def kpF (f : Nat → Int32) (c n : Nat) : Nat → Int32 := upd (cpF (cpF (upd f (53 + 38 * c) (nI n)) 5 (53 + 38 * c + 1) 12) 1193 (53 + 38 * c + 1 + 12) 25) 3 (nI (c + 1))
theorem kpF_lo {f : Nat → Int32} {c n j : Nat} (h : j < 53 + 38 * c) (h3 : j ≠ 3) : kpF f c n j = f j := by
  unfold kpF
  rw [upd_n h3, cpF_o (by omega), cpF_o (by omega), upd_n (by omega)]
theorem kpF_hi {f : Nat → Int32} {c n j : Nat} (h : 53 + 38 * c + 38 ≤ j) : kpF f c n j = f j := by
  unfold kpF
  rw [upd_n (by omega), cpF_o (by omega), cpF_o (by omega), upd_n (by omega)]
theorem kpF_a {f : Nat → Int32} {c n k : Nat} (hk : k < 12) : kpF f c n (53 + 38 * c + 1 + k) = f (5 + k) := by
  unfold kpF
  rw [upd_n (by omega), cpF_o (by omega), cpF_i (by omega) (by omega), show 53 + 38 * c + 1 + k - (53 + 38 * c + 1) = k by omega, upd_n (by omega)]
theorem kpF_b {f : Nat → Int32} {c n k : Nat} (hc : c < 30) (hk : k < 25) : kpF f c n (53 + 38 * c + 13 + k) = f (1193 + k) := by
  unfold kpF
  rw [upd_n (by omega), cpF_i (by omega) (by omega), show 1193 + (53 + 38 * c + 13 + k - (53 + 38 * c + 1 + 12)) = 1193 + k by omega, cpF_o (by omega), upd_n (by omega)]
theorem kpF_x {f : Nat → Int32} {c n : Nat} : kpF f c n (53 + 38 * c) = nI n := by
  unfold kpF
  rw [upd_n (by omega), cpF_o (by omega), cpF_o (by omega), upd_s]
theorem kpF_3 {f : Nat → Int32} {c n : Nat} : kpF f c n 3 = nI (c + 1) := upd_s
theorem RRf.kp {f : Nat → Int32} {W : z_W} (h : RRf f W) : RRf (kpF (if wC W < 30 then f else upd (shF f 1102) 3 (nI 29)) (if wC W < 30 then wC W else 29) (wN W)) (wKp W) := by
  have hok := h.1.kp
  obtain ⟨a0, a1, a2, a3, a4, a5, a6, a7, a8, a9⟩ := h
  have hn := a0.n
  have hc := a0.2.2.1
  have hq := a0.2.2.2.2.2.2.1
  by_cases e : wC W < 30
  · rw [if_pos e, if_pos e]
    have hb : ∀ b k, b + k < 53 + 38 * wC W → b + k ≠ 3 → kpF f (wC W) (wN W) (b + k) = f (b + k) := fun b k h1 h2 => kpF_lo h1 h2
    refine ⟨hok, (kpF_lo (by omega) (by omega)).trans a1, (kpF_lo (by omega) (by omega)).trans a2, (kpF_lo (by omega) (by omega)).trans a3, ?_, (kpF_lo (by omega) (by omega)).trans a5, a6.cg (fun k hk => kpF_lo (by omega) (by omega)) (fun k hk => kpF_hi (by omega)) (fun _ _ => rfl), fun i hi => ?_, fun l hl => ?_, fun i hi => ?_⟩
    · show _ = nI (if wC W < 30 then _ else _)
      rw [if_pos e]
      exact kpF_3
    · have hi : i < (if wC W < 30 then wC W + 1 else 30) := hi
      rw [if_pos e] at hi
      show ∃ m, m ≤ wN W ∧ _ ∧ (if wC W < 30 then (if i = wC W then wS W else wH W i) else _) 4 < 2 ^ m ∧ RT _ _ _ m (if wC W < 30 then (if i = wC W then wS W else wH W i) else _)
      rw [if_pos e]
      by_cases q : i = wC W
      · subst q
        rw [if_pos rfl]
        exact ⟨wN W, Nat.le_refl _, kpF_x, a0.2.1.2.2.2.2.1, a6.cg (fun k hk => kpF_a hk) (fun k hk => kpF_b e hk) (fun _ _ => rfl)⟩
      · rw [if_neg q]
        obtain ⟨m, m1, m2, m3, m4⟩ := a7 i (by omega)
        exact ⟨m, m1, (kpF_lo (by omega) (by omega)).trans m2, m3, m4.cg (fun k hk => kpF_lo (by omega) (by omega)) (fun k hk => kpF_lo (by omega) (by omega)) (fun _ _ => rfl)⟩
    · have hl : l < wN W := hl
      exact ⟨(kpF_lo (by omega) (by omega)).trans (a8 l hl).1, (kpF_lo (by omega) (by omega)).trans (a8 l hl).2⟩
    · have hi : i < wQ W := hi
      exact ⟨(kpF_lo (by omega) (by omega)).trans (a9 i hi).1, (kpF_lo (by omega) (by omega)).trans (a9 i hi).2⟩
  · rw [if_neg e, if_neg e]
    have lo : ∀ j, j < 53 → j ≠ 3 → kpF (upd (shF f 1102) 3 (nI 29)) 29 (wN W) j = f j := fun j h1 h2 => by
      rw [kpF_lo (by omega) h2, upd_n h2, shF_o (by omega)]
    have hi : ∀ j, 1193 ≤ j → kpF (upd (shF f 1102) 3 (nI 29)) 29 (wN W) j = f j := fun j h1 => by
      rw [kpF_hi (by omega), upd_n (by omega), shF_o (by omega)]
    have mid : ∀ j, 53 ≤ j → j < 1155 → kpF (upd (shF f 1102) 3 (nI 29)) 29 (wN W) j = f (j + 38) := fun j h1 h2 => by
      rw [kpF_lo (by omega) (by omega), upd_n (by omega), shF_i (by omega) (by omega)]
    refine ⟨hok, (lo _ (by omega) (by omega)).trans a1, (lo _ (by omega) (by omega)).trans a2, (lo _ (by omega) (by omega)).trans a3, ?_, (lo _ (by omega) (by omega)).trans a5, a6.cg (fun k hk => lo _ (by omega) (by omega)) (fun k hk => hi _ (by omega)) (fun _ _ => rfl), fun i hi2 => ?_, fun l hl => ?_, fun i hi2 => ?_⟩
    · show _ = nI (if wC W < 30 then _ else _)
      rw [if_neg e]
      exact kpF_3
    · have hi2 : i < (if wC W < 30 then wC W + 1 else 30) := hi2
      rw [if_neg e] at hi2
      show ∃ m, m ≤ wN W ∧ _ ∧ (if wC W < 30 then _ else (if i = 29 then wS W else wH W (i + 1))) 4 < 2 ^ m ∧ RT _ _ _ m (if wC W < 30 then _ else (if i = 29 then wS W else wH W (i + 1)))
      rw [if_neg e]
      by_cases q : i = 29
      · subst q
        rw [if_pos rfl]
        refine ⟨wN W, Nat.le_refl _, kpF_x, a0.2.1.2.2.2.2.1, a6.cg (fun k hk => ?_) (fun k hk => ?_) (fun _ _ => rfl)⟩
        · rw [kpF_a hk, upd_n (by omega), shF_o (by omega)]
        · rw [kpF_b (by decide) hk, upd_n (by omega), shF_o (by omega)]
      · rw [if_neg q]
        obtain ⟨m, m1, m2, m3, m4⟩ := a7 (i + 1) (by omega)
        refine ⟨m, m1, ?_, m3, m4.cg (fun k hk => ?_) (fun k hk => ?_) (fun _ _ => rfl)⟩
        · rw [mid _ (by omega) (by omega), show 53 + 38 * i + 38 = 53 + 38 * (i + 1) by omega]
          exact m2
        · rw [mid _ (by omega) (by omega), show 53 + 38 * i + 1 + k + 38 = 53 + 38 * (i + 1) + 1 + k by omega]
        · rw [mid _ (by omega) (by omega), show 53 + 38 * i + 13 + k + 38 = 53 + 38 * (i + 1) + 13 + k by omega]
    · have hl : l < wN W := hl
      exact ⟨(lo _ (by omega) (by omega)).trans (a8 l hl).1, (lo _ (by omega) (by omega)).trans (a8 l hl).2⟩
    · have hi2 : i < wQ W := hi2
      exact ⟨(lo _ (by omega) (by omega)).trans (a9 i hi2).1, (lo _ (by omega) (by omega)).trans (a9 i hi2).2⟩
