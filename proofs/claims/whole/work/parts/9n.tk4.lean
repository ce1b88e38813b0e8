/-! the next token by the reference -/
theorem pkB_cg {f g : Nat → Nat} : ∀ {j : Nat}, (∀ i, i < j → f i = g i) → pkB f j = pkB g j
  | 0, _ => rfl
  | j + 1, h => by
    simp only [pkB]
    rw [pkB_cg (j := j) (fun i hi => h i (by omega)), h j (by omega)]
theorem idW_c {l : List Nat} : idW l < 27 ∨ idW l = 42 := by
  unfold idW
  cases e : lo (fun k => decide (l = WL k)) 0 27 with
  | none => exact Or.inr rfl
  | some i => exact Or.inl (lo_lt e).2.1
theorem isL_b {c : Nat} (h : isL c = true) : 1 ≤ c ∧ c < 256 := by
  unfold isL at h
  have := of_decide_eq_true h
  omega
/-- the word so far: all of it while it is short -/
def wdS (f : Nat → Nat) (j : Nat) (x : Int64) : Prop := (j ≤ 7 ∧ x = lN (pkB f j)) ∨ (8 ≤ j ∧ x = lN (2 ^ 60))
theorem wdS_step {f : Nat → Nat} {j : Nat} {x : Int64} (hf : ∀ i, i < j + 1 → 1 ≤ f i ∧ f i < 256) (h : wdS f j x) {A : Int64 → Prop} (k : ∀ y, wdS f (j + 1) y → A y) : (lg_cmp (l_shr x 48) 0 = 0 → A (l_shl x 8 ||| (nI (f j)).toInt64)) ∧ (¬ lg_cmp (l_shr x 48) 0 = 0 → A (lN (2 ^ 60))) := by
  have hs : ∀ {w : Nat}, w < 2 ^ 63 → (lg_cmp (l_shr (lN w) 48) 0 = 0 ↔ w < 2 ^ 48) := fun {w} hw => by
    rw [lg_eq0, lN_shr48 hw]
    constructor
    · intro e
      have e : lN (w / 2 ^ 48) = lN 0 := e
      have := lN_inj (by omega) (by omega) e
      omega
    · intro e
      rw [show w / 2 ^ 48 = 0 by omega]
      rfl
  rcases h with ⟨h1, rfl⟩ | ⟨h1, rfl⟩
  · have hlt : pkB f j < 256 ^ j := pkB_lt (fun i hi => (hf i (by omega)).2)
    have hp : (256 : Nat) ^ j ≤ 256 ^ 7 := Nat.pow_le_pow_right (by decide) h1
    refine ⟨fun e => ?_, fun e => ?_⟩
    · rw [hs (by omega)] at e
      have hj : j ≤ 6 := by
        rcases Nat.lt_or_ge j 7 with z | z
        · omega
        · have z : j = 7 := by omega
          subst z
          have h6 : (256 : Nat) ^ 6 ≤ pkB f 7 := pkB_ge (f := f) (hf 0 (by omega)).1 (j := 6)
          omega
      rw [w_step (hf j (by omega)).2]
      exact k _ (Or.inl ⟨by omega, rfl⟩)
    · rw [hs (by omega)] at e
      have hj : 7 ≤ j := by
        rcases Nat.lt_or_ge j 7 with z | z
        · have : (256 : Nat) ^ j ≤ 256 ^ 6 := Nat.pow_le_pow_right (by decide) (by omega)
          omega
        · exact z
      exact k _ (Or.inr ⟨by omega, rfl⟩)
  · refine ⟨fun e => ?_, fun _ => k _ (Or.inr ⟨by omega, rfl⟩)⟩
    rw [hs (by omega)] at e
    omega
theorem RTok_w {u : z_V} {B : Nat → Nat} {q s x : Nat} (hB : ∀ i, i < s → isL (B (q + i)) = true) (h9 : gI u 11 0 9 = nI 2) (h : wdS (fun j => B (q + j)) s (gL u 11 0 11)) : RTok u (idW (lsT B q s)) x := by
  have hc := idW_c (l := lsT B q s)
  have hf : ∀ i, i < s → 1 ≤ B (q + i) ∧ B (q + i) < 256 := fun i hi => isL_b (hB i hi)
  refine ⟨fun e => by omega, fun e => by omega, fun e => ⟨h9, ?_⟩, fun e => Or.inl ⟨h9, fun k hk z => ?_⟩, fun e1 e2 => by omega⟩
  · have hw := (idW_iff e).mp rfl
    have ht := wq_tab _ e
    have hl := ls_iff.mp hw
    rcases h with ⟨h1, h2⟩ | ⟨h1, _⟩
    · rw [h2]
      unfold WQ
      rw [hl.1]
      rw [pkB_cg (g := fun j => (WL (idW (lsT B q s))).getD j 0) (fun i hi => hl.2 i hi)]
    · omega
  · have ht := wq_tab k hk
    unfold WQ at z
    rcases h with ⟨h1, h2⟩ | ⟨h1, h2⟩
    · rw [h2] at z
      have hlt : pkB (fun j => B (q + j)) s < 256 ^ s := pkB_lt (fun i hi => (hf i hi).2)
      have hp : (256 : Nat) ^ s ≤ 256 ^ 7 := Nat.pow_le_pow_right (by decide) h1
      have z := lN_inj (by omega) (by omega) z
      have z := pkB_inj hf ht.2.2.2 z
      have : lsT B q s = WL k := ls_iff.mpr ⟨z.1.symm, fun j hj => z.2 j hj⟩
      have := (idW_iff hk).mpr this
      omega
    · rw [h2] at z
      have z := lN_inj (by omega) (by omega) z
      omega
section TK4
variable {d : Nat} {v : z_V} {B : Nat → Nat} {n : Nat}
theorem TPr.lt {u : z_V} (h : TPr u B n) : ∀ i, i < n → B i < 256 := fun i hi => (h.2.2 i hi).2
theorem s_nT85 {p : Nat} {Q : z_RT} (hT : TPr v B n) (hq : frT B n p < n) (hd : isD (B (frT B n p)) = true) (hl : isL (B (frT B n p)) = false) (k : ∀ w, (TkR w B n p ∧ Fr fTq v w) → Q w none) {u : z_V} (f : Fr fTq v u) (g7 : gI u 11 0 7 = nI (frT B n p)) (g8 : gI u 11 0 8 = nI (frT B n p)) (g9 : gI u 11 0 9 = nI 1) (g10 : gI u 11 0 10 = nI 0) : ∀ u1, z_Wp (z_C (d + 1)) 0 k_X11_nextToken Q 85 [some (vR 11 0), u1] [] u := by
  have hle : runT (pDg B n) n (frT B n p) ≤ n := run_le dg_lt (by omega)
  have hge : frT B n p ≤ runT (pDg B n) n (frT B n p) := run_ge
  have hend : pDg B n (runT (pDg B n) n (frT B n p)) = false := run_end dg_lt (by omega)
  have t2 := hT.2.1
  have key : ∀ i, i ≤ runT (pDg B n) n (frT B n p) → frT B n p ≤ i → ∀ (u : z_V) (y : Nat), Fr fTq v u → gI u 11 0 7 = nI i → gI u 11 0 8 = nI (frT B n p) → gI u 11 0 9 = nI 1 → gI u 11 0 10 = nI y → y < 2 ^ 30 → vlT B (min 10000 y) i (runT (pDg B n) n (frT B n p) - i) = tkV B n p → ∀ u1, z_Wp (z_C (d + 1)) 0 k_X11_nextToken Q 85 [some (vR 11 0), u1] [] u := by
    refine z_up _ (fun _ u y f g7 g8 g9 g10 hy hv u1 => ?_) (fun i hi ih hqi u y f g7 g8 g9 g10 hy hv u1 => ?_)
    · have hTu := hT.tr f
      refine B_X11_nextToken_85 ?_
      rw [g7]
      refine cP (s_byteAt (d := d) hTu (by omega)) (cP (s_isFigure (d := d) hTu.lt) (br_z (fun _ => ?_) (fun e => by rw [hend] at e; cases e)))
      rw [Nat.sub_self] at hv
      have e27 : tkC B n p = 27 := by
        unfold tkC cdT
        rw [if_neg (by omega), hl, if_neg (by decide), hd, if_pos rfl]
      refine k _ ⟨⟨?_, g8, ?_⟩, f⟩
      · rw [e27]
        exact ⟨fun e => by omega, fun _ => ⟨g9, y, hy, g10, hv.symm⟩, fun e => by omega, fun e => by omega, fun e => by omega⟩
      · rw [g7]
        unfold nxT enT
        rw [if_neg (by omega), hl, if_neg (by decide), hd, if_pos rfl]
    · have hTu := hT.tr f
      have hp := run_P hqi hi
      have hp2 := pDg_t hp
      refine B_X11_nextToken_85 ?_
      rw [g7]
      refine cP (s_byteAt (d := d) hTu (by omega)) (cP (s_isFigure (d := d) hTu.lt) (br_z (fun e => by rw [hp] at e; cases e) (fun _ => ?_)))
      have hdd := hp2.2
      unfold isD at hdd
      have hdd := of_decide_eq_true hdd
      rw [g10, g7]
      have hv' : ∀ z, min 10000 z = min 10000 (min 10000 y * 10 + B i - 48) → vlT B (min 10000 z) (i + 1) (runT (pDg B n) n (frT B n p) - (i + 1)) = tkV B n p := fun z e => by
        rw [e, ← hv, show runT (pDg B n) n (frT B n p) - i = (runT (pDg B n) n (frT B n p) - (i + 1)) + 1 by omega]
        rfl
      refine pk_le y 99999 (fun hy9 => ?_) (fun hy9 => ?_)
      · refine cP (s_byteAt (d := d) hTu (by omega)) ?_
        rw [bqT_t hp2.1, g7, nI_1]
        rw [show (10 : Int32) = nI 10 from rfl, show (48 : Int32) = nI 48 from rfl, pk_mul, nI_add, pk_sub (by omega)]
        refine ih (by omega) _ (10 * y + B i - 48) ((f.pI ⟨rfl, by decide⟩).pI ⟨rfl, by decide⟩) gI_pI_s ?_ ?_ ?_ (by omega) (hv' _ (by omega)) _
        · rw [gI_pI_k (by decide), gI_pI_k (by decide)]
          exact g8
        · rw [gI_pI_k (by decide), gI_pI_k (by decide)]
          exact g9
        · rw [gI_pI_k (by decide), gI_pI_s]
      · rw [nI_1]
        refine ih (by omega) _ y ((f.pI ⟨rfl, by decide⟩).pI ⟨rfl, by decide⟩) gI_pI_s ?_ ?_ ?_ hy (hv' _ (by omega)) _
        · rw [gI_pI_k (by decide), gI_pI_k (by decide)]
          exact g8
        · rw [gI_pI_k (by decide), gI_pI_k (by decide)]
          exact g9
        · rw [gI_pI_k (by decide), gI_pI_s]
  exact key _ hge (Nat.le_refl _) u 0 f g7 g8 g9 g10 (by decide) rfl
theorem s_nT168 {p : Nat} {Q : z_RT} (hT : TPr v B n) (hq : frT B n p < n) (hl : isL (B (frT B n p)) = true) (k : ∀ w, (TkR w B n p ∧ Fr fTq v w) → Q w none) {u : z_V} (f : Fr fTq v u) (g7 : gI u 11 0 7 = nI (frT B n p)) (g8 : gI u 11 0 8 = nI (frT B n p)) (g9 : gI u 11 0 9 = nI 2) (g11 : gL u 11 0 11 = lN 0) : ∀ u1, z_Wp (z_C (d + 1)) 0 k_X11_nextToken Q 168 [some (vR 11 0), u1] [] u := by
  have hle : runT (pLt B n) n (frT B n p) ≤ n := run_le lt_lt (by omega)
  have hge : frT B n p ≤ runT (pLt B n) n (frT B n p) := run_ge
  have hend : pLt B n (runT (pLt B n) n (frT B n p)) = false := run_end lt_lt (by omega)
  have t2 := hT.2.1
  have hL : ∀ i, frT B n p + i < runT (pLt B n) n (frT B n p) → isL (B (frT B n p + i)) = true := fun i hi => (pLt_t (run_P (by omega) hi)).2
  have key : ∀ i, i ≤ runT (pLt B n) n (frT B n p) → frT B n p ≤ i → ∀ (u : z_V), Fr fTq v u → gI u 11 0 7 = nI i → gI u 11 0 8 = nI (frT B n p) → gI u 11 0 9 = nI 2 → wdS (fun j => B (frT B n p + j)) (i - frT B n p) (gL u 11 0 11) → ∀ u1, z_Wp (z_C (d + 1)) 0 k_X11_nextToken Q 168 [some (vR 11 0), u1] [] u := by
    refine z_up _ (fun _ u f g7 g8 g9 hw u1 => ?_) (fun i hi ih hqi u f g7 g8 g9 hw u1 => ?_)
    · have hTu := hT.tr f
      refine B_X11_nextToken_168 ?_
      rw [g7]
      refine cP (s_byteAt (d := d) hTu (by omega)) (cP (s_isLetterByte (d := d) hTu.lt) (br_z (fun _ => ?_) (fun e => by rw [hend] at e; cases e)))
      have ec : tkC B n p = idW (lsT B (frT B n p) (runT (pLt B n) n (frT B n p) - frT B n p)) := by
        unfold tkC cdT
        rw [if_neg (by omega), hl, if_pos rfl]
      refine k _ ⟨⟨?_, g8, ?_⟩, f⟩
      · rw [ec]
        exact RTok_w (fun i hi => hL i (by omega)) g9 hw
      · rw [g7]
        unfold nxT enT
        rw [if_neg (by omega), hl, if_pos rfl]
    · have hTu := hT.tr f
      have hp := run_P hqi hi
      have hp2 := pLt_t hp
      refine B_X11_nextToken_168 ?_
      rw [g7]
      refine cP (s_byteAt (d := d) hTu (by omega)) (cP (s_isLetterByte (d := d) hTu.lt) (br_z (fun e => by rw [hp] at e; cases e) (fun _ => ?_)))
      rw [g7, nI_1]
      have hB : ∀ y : Int64, wdS (fun j => B (frT B n p + j)) (i - frT B n p + 1) y → z_Wp (z_C (d + 1)) 0 k_X11_nextToken Q 168 [some (vR 11 0), none] [] (pI (pL u 11 0 11 y) 11 0 7 (nI (i + 1))) := fun y hy => by
        refine ih (by omega) _ ((f.pL ⟨rfl, by decide⟩).pI ⟨rfl, by decide⟩) gI_pI_s ?_ ?_ ?_ _
        · rw [gI_pI_k (by decide), gI_pL]
          exact g8
        · rw [gI_pI_k (by decide), gI_pL]
          exact g9
        · rw [gL_pI, gL_pL_s, show i + 1 - frT B n p = i - frT B n p + 1 by omega]
          exact hy
      have hst := wdS_step (fun j hj => isL_b (hL j (by omega))) hw hB
      refine ⟨fun e => cP (s_byteAt (d := d) hTu (by omega)) ?_, fun e => hst.2 e⟩
      have := hst.1 e
      rw [show frT B n p + (i - frT B n p) = i by omega] at this
      rw [bqT_t hp2.1, g7, nI_1]
      exact this
  exact key _ hge (Nat.le_refl _) u f g7 g8 g9 (Or.inl ⟨by omega, by rw [g11, Nat.sub_self]; rfl⟩) 
theorem isS_sg : ∀ b, b < 256 → (isS b = true → sgR (sgC b) = b ∧ 28 ≤ sgC b ∧ sgC b ≤ 40 ∨ b = 58) ∧ (isS b = false → sgC b = 42) := by decide +kernel
theorem sgC_58 : sgC 58 = 42 := by decide
theorem s_nTsign {p : Nat} {Q : z_RT} (hT : TPr v B n) (hq : frT B n p < n) (hl : isL (B (frT B n p)) = false) (hd : isD (B (frT B n p)) = false) (k : ∀ w, (TkR w B n p ∧ Fr fTq v w) → Q w none) {u : z_V} {x : Nat} (f : Fr fTq v u) (g8 : gI u 11 0 8 = nI (frT B n p)) (g7 : gI u 11 0 7 = nI (frT B n p + 1)) (g9 : gI u 11 0 9 = nI x) (hx : x = if isS (B (frT B n p)) = true then B (frT B n p) else 3) : (nI (B (frT B n p)) = 60 → z_Wp (z_C (d + 1)) 0 k_X11_nextToken Q 272 [some (vR 11 0), some (vI (nI (B (frT B n p))))] [] u) ∧ (¬ nI (B (frT B n p)) = 60 → (¬ nI (B (frT B n p)) = 62 → Q u none) ∧ (nI (B (frT B n p)) = 62 → z_Wp (z_C (d + 1)) 0 k_X11_nextToken Q 272 [some (vR 11 0), some (vI (nI (B (frT B n p))))] [] u)) := by
  have t2 := hT.2.1
  have hTu := hT.tr f
  have hb := hTu.lt _ hq
  have ec : tkC B n p = sgK B n (frT B n p) := by
    unfold tkC cdT
    rw [if_neg (by omega), hl, if_neg (by decide), hd, if_neg (by decide)]
  have en : nxT B n p = sgN B n (frT B n p) := by
    unfold nxT enT
    rw [if_neg (by omega), hl, if_neg (by decide), hd, if_neg (by decide)]
  have plain : eqT B n (frT B n p) = false ∨ (B (frT B n p) ≠ 60 ∧ B (frT B n p) ≠ 62) → ∀ w, Fr fTq v w → gI w 11 0 8 = nI (frT B n p) → gI w 11 0 7 = nI (frT B n p + 1) → gI w 11 0 9 = nI x → Q w none := fun hz w f g8 g7 g9 => by
    have e1 : sgK B n (frT B n p) = sgC (B (frT B n p)) := by
      unfold sgK
      rcases hz with z | z
      · rw [z, Bool.false_and, Bool.false_and, if_neg (by decide), if_neg (by decide)]
      · rw [decide_eq_false z.1, decide_eq_false z.2, Bool.and_false, if_neg (by decide), if_neg (by decide)]
    have e2 : sgN B n (frT B n p) = frT B n p + 1 := by
      unfold sgN
      rcases hz with z | z
      · rw [z, Bool.false_and, if_neg (by decide)]
      · rw [decide_eq_false z.1, decide_eq_false z.2, Bool.or_false, Bool.and_false, if_neg (by decide)]
    refine k _ ⟨⟨?_, g8, by rw [g7, en, e2]⟩, f⟩
    rw [ec, e1]
    have hs := isS_sg _ hb
    cases z : isS (B (frT B n p)) with
    | true =>
      rw [z, if_pos rfl] at hx
      rcases hs.1 z with y | y
      · refine ⟨fun e => by omega, fun e => by omega, fun e => by omega, fun e => by omega, fun _ _ => ?_⟩
        rw [g9, hx, y.1]
      · rw [y, sgC_58]
        refine ⟨fun e => by omega, fun e => by omega, fun e => by omega, fun e => Or.inr (Or.inr ?_), fun _ _ => by omega⟩
        rw [g9, hx, y]
    | false =>
      rw [z, if_neg (by decide)] at hx
      rw [hs.2 z]
      refine ⟨fun e => by omega, fun e => by omega, fun e => by omega, fun e => Or.inr (Or.inl ?_), fun _ _ => by omega⟩
      rw [g9, hx]
  have at272 : (B (frT B n p) = 60 ∨ B (frT B n p) = 62) → z_Wp (z_C (d + 1)) 0 k_X11_nextToken Q 272 [some (vR 11 0), some (vI (nI (B (frT B n p))))] [] u := fun h6 => by
    refine B_X11_nextToken_272 ?_
    rw [g7]
    refine cP (s_byteAt (d := d) hTu (by omega)) ?_
    have hp6 : ∀ (y : Bool), eqT B n (frT B n p) = y → (y = true ↔ bqT B n (frT B n p + 1) = 61) := fun y e => by
      rw [← e]
      unfold eqT
      rw [Bool.and_eq_true, decide_eq_true_eq, decide_eq_true_eq]
      by_cases z : frT B n p + 1 < n
      · have := hTu.lt _ z
        rw [bqT_t z, show (61 : Int32) = nI 61 from rfl, nI_eq (by omega) (by omega)]
        exact ⟨fun h => h.2, fun h => ⟨z, h⟩⟩
      · rw [bqT_f z]
        exact ⟨fun h => absurd h.1 z, fun h => absurd h (by decide)⟩
    cases z : eqT B n (frT B n p) with
    | false =>
      have h61 : ¬ bqT B n (frT B n p + 1) = 61 := fun y => by
        have := (hp6 _ z).mpr y
        cases this
      exact ⟨fun _ => plain (Or.inl z) u f g8 g7 g9, fun y => absurd y h61⟩
    | true =>
      have h61 := (hp6 _ z).mp rfl
      refine ⟨fun y => absurd h61 y, fun _ => ?_⟩
      rw [g7, nI_1]
      have e2 : sgN B n (frT B n p) = frT B n p + 1 + 1 := by
        unfold sgN
        have : (decide (B (frT B n p) = 60) || decide (B (frT B n p) = 62)) = true := by
          rw [Bool.or_eq_true, decide_eq_true_eq, decide_eq_true_eq]
          exact h6
        rw [z, this, if_pos (by decide)]
      refine pk_ne (B (frT B n p)) 60 (fun n60 => ?_) (fun e60 => ?_)
      · have e62 : B (frT B n p) = 62 := by omega
        have e1 : sgK B n (frT B n p) = 31 := by
          unfold sgK
          rw [z, decide_eq_false n60, decide_eq_true e62, if_neg (by decide), if_pos (by decide)]
        refine k _ ⟨⟨?_, ?_, ?_⟩, (f.pI ⟨rfl, by decide⟩).pI ⟨rfl, by decide⟩⟩
        · rw [ec, e1]
          refine ⟨fun e => by omega, fun e => by omega, fun e => by omega, fun e => by omega, fun _ _ => ?_⟩
          rw [gI_pI_k (by decide), gI_pI_s]
          rfl
        · rw [gI_pI_k (by decide), gI_pI_k (by decide)]
          exact g8
        · rw [gI_pI_s, en, e2]
      · have e1 : sgK B n (frT B n p) = 29 := by
          unfold sgK
          rw [z, decide_eq_true e60, if_pos (by decide)]
        refine k _ ⟨⟨?_, ?_, ?_⟩, (f.pI ⟨rfl, by decide⟩).pI ⟨rfl, by decide⟩⟩
        · rw [ec, e1]
          refine ⟨fun e => by omega, fun e => by omega, fun e => by omega, fun e => by omega, fun _ _ => ?_⟩
          rw [gI_pI_k (by decide), gI_pI_s]
          rfl
        · rw [gI_pI_k (by decide), gI_pI_k (by decide)]
          exact g8
        · rw [gI_pI_s, en, e2]
  exact pk_eq (B (frT B n p)) 60 (fun e => at272 (Or.inl e)) (fun n60 => pk_ne (B (frT B n p)) 62 (fun n62 => plain (Or.inr ⟨n60, n62⟩) u f g8 g7 g9) (fun e => at272 (Or.inr e)))
theorem s_nextToken {p : Nat} (hT : TPr v B n) (hp : p ≤ n) (h7 : gI v 11 0 7 = nI p) : ZV (d + 2) m_X11_nextToken [vR 11 0] v (fun u => TkR u B n p ∧ Fr fTq v u) := fun Q k => E_X11_nextToken (by
  have hle : frT B n p ≤ n := fr_le hp
  have hge : p ≤ frT B n p := fr_ge
  have hend : pBk B n (frT B n p) = false := run_end bk_lt (by omega)
  have t2 := hT.2.1
  have key : ∀ i, i ≤ frT B n p → p ≤ i → ∀ u : z_V, Fr fTq v u → gI u 11 0 7 = nI i → z_Wp (z_C (d + 1)) 0 k_X11_nextToken Q 0 [some (vR 11 0), none] [] u := by
    refine z_up _ (fun _ u f g7 => ?_) (fun i hi ih hpi u f g7 => ?_)
    · have hTu := hT.tr f
      refine B_X11_nextToken_0 ?_
      rw [g7]
      have bk : bqT B n (frT B n p) ≠ 32 ∧ bqT B n (frT B n p) ≠ 10 := by
        by_cases z : frT B n p < n
        · have hb := hTu.lt _ z
          have := pBk_f hend z
          rw [bqT_t z, show (32 : Int32) = nI 32 from rfl, show (10 : Int32) = nI 10 from rfl]
          exact ⟨fun e => this.1 ((nI_eq (by omega) (by omega)).mp e), fun e => this.2 ((nI_eq (by omega) (by omega)).mp e)⟩
        · rw [bqT_f z]
          decide
      refine cP (s_byteAt (d := d) hTu (by omega)) ⟨fun e => absurd e bk.1, fun _ => ?_⟩
      rw [g7]
      refine cP (s_byteAt (d := d) hTu (by omega)) ⟨fun _ => ?_, fun e => absurd e bk.2⟩
      rw [g7]
      have f8 : Fr fTq v (pI u 11 0 8 (nI (frT B n p))) := f.pI ⟨rfl, by decide⟩
      have hT8 := hT.tr f8
      refine cP (s_byteAt (d := d) hT8 (by omega)) ?_
      by_cases z : frT B n p < n
      · have hb := hTu.lt _ z
        rw [bqT_t z]
        refine ⟨fun _ => ?_, fun e => absurd (nI_pos' (by omega)) e⟩
        have eb : bqT B n (frT B n p) = nI (B (frT B n p)) := bqT_t z
        have sF := s_isFigure (d := d) (v := pI u 11 0 8 (nI (frT B n p))) (k := frT B n p) hTu.lt
        have sL := s_isLetterByte (d := d) (v := pI u 11 0 8 (nI (frT B n p))) (k := frT B n p) hTu.lt
        rw [eb] at sF sL
        have eF : pDg B n (frT B n p) = isD (B (frT B n p)) := by
          unfold pDg
          rw [decide_eq_true z, Bool.true_and]
        have eL : pLt B n (frT B n p) = isL (B (frT B n p)) := by
          unfold pLt
          rw [decide_eq_true z, Bool.true_and]
        rw [eF] at sF
        rw [eL] at sL
        have ld : isD (B (frT B n p)) = true → isL (B (frT B n p)) = false := fun e => by
          unfold isD at e
          have := of_decide_eq_true e
          unfold isL
          exact decide_eq_false (by omega)
        refine cP sF (br_z (fun hd => cP sL (br_z (fun hl => ?_) (fun hl => ?_))) (fun hd => ?_))
        · refine cP (s_isSign (d := d) hb) ?_
          have g8' : gI (pI u 11 0 8 (nI (frT B n p))) 11 0 7 = nI (frT B n p) := (gI_pI_k (by decide)).trans g7
          rw [g8', nI_1]
          have fin : ∀ x, (x = if isS (B (frT B n p)) = true then B (frT B n p) else 3) → _ := fun x hx => s_nTsign (d := d) (Q := Q) hT z hl hd k (u := pI (pI (pI u 11 0 8 (nI (frT B n p))) 11 0 9 (nI x)) 11 0 7 (nI (frT B n p + 1))) (x := x) ((f8.pI ⟨rfl, by decide⟩).pI ⟨rfl, by decide⟩) (by rw [gI_pI_k (by decide), gI_pI_k (by decide), gI_pI_s]) gI_pI_s (by rw [gI_pI_k (by decide), gI_pI_s]) hx
          refine br_z (fun e => fin 3 (by rw [e]; rfl)) (fun e => fin _ (by rw [e]; rfl))
        · have f9 : Fr fTq v (pL (pI (pI u 11 0 8 (nI (frT B n p))) 11 0 9 2) 11 0 11 0) := (f8.pI ⟨rfl, by decide⟩).pL ⟨rfl, by decide⟩
          refine s_nT168 (d := d) hT z hl k f9 ?_ ?_ ?_ ?_ _
          · rw [gI_pL, gI_pI_k (by decide), gI_pI_k (by decide)]
            exact g7
          · rw [gI_pL, gI_pI_k (by decide), gI_pI_s]
          · rw [gI_pL, gI_pI_s]
            rfl
          · rw [gL_pL_s]
            rfl
        · have f9 : Fr fTq v (pI (pI (pI u 11 0 8 (nI (frT B n p))) 11 0 9 1) 11 0 10 0) := (f8.pI ⟨rfl, by decide⟩).pI ⟨rfl, by decide⟩
          refine s_nT85 (d := d) hT z hd (ld hd) k f9 ?_ ?_ ?_ ?_ _
          · rw [gI_pI_k (by decide), gI_pI_k (by decide), gI_pI_k (by decide)]
            exact g7
          · rw [gI_pI_k (by decide), gI_pI_k (by decide), gI_pI_s]
          · rw [gI_pI_k (by decide), gI_pI_s]
            rfl
          · rw [gI_pI_s]
            rfl
      · rw [bqT_f z]
        refine ⟨fun e => absurd e (by decide), fun _ => ?_⟩
        have e41 : frT B n p = n := by omega
        refine k _ ⟨⟨?_, ?_, ?_⟩, f8.pI ⟨rfl, by decide⟩⟩
        · rw [(tk_41 hp).mpr e41]
          exact ⟨fun _ => by rw [gI_pI_s]; rfl, fun e => by omega, fun e => by omega, fun e => by omega, fun _ e => by omega⟩
        · rw [gI_pI_k (by decide), gI_pI_s]
        · rw [gI_pI_k (by decide), gI_pI_k (by decide), g7]
          unfold nxT enT
          rw [if_pos (by omega)]
    · have hTu := hT.tr f
      have hp2 := pBk_t (run_P hpi hi)
      have hb := hTu.lt _ hp2.1
      refine B_X11_nextToken_0 ?_
      rw [g7]
      have go := ih (by omega) (pI u 11 0 7 (nI (i + 1))) (f.pI ⟨rfl, by decide⟩) gI_pI_s
      refine cP (s_byteAt (d := d) hTu (by omega)) ?_
      rw [bqT_t hp2.1, g7, nI_1]
      refine pk_eq (B i) 32 (fun _ => go) (fun n32 => cP (s_byteAt (d := d) hTu (by omega)) ?_)
      rw [bqT_t hp2.1, g7, nI_1]
      exact pk_ne (B i) 10 (fun n10 => absurd hp2.2 (by omega)) (fun _ => go)
  exact key p hge (Nat.le_refl _) v Fr.rfl h7)
end TK4
