/-! words, and the next token by the class -/
theorem wch_tab : ∀ k, k < 27 → ∀ j, j < 7 → z_wch (7 * k + j) = (if j < (WL k).length then nI ((WL k).getD j 0) else 32) ∧ (WL k).length < 7 ∧ (j < (WL k).length → 97 ≤ (WL k).getD j 0 ∧ (WL k).getD j 0 ≤ 122) := by decide +kernel
theorem ls_iff {B : Nat → Nat} : ∀ {s q : Nat} {l : List Nat}, lsT B q s = l ↔ l.length = s ∧ ∀ j, j < s → B (q + j) = l.getD j 0
  | 0, q, l => by
    simp only [lsT]
    constructor
    · intro h
      subst h
      exact ⟨rfl, fun j hj => absurd hj (Nat.not_lt_zero _)⟩
    · intro h
      cases l with
      | nil => rfl
      | cons a t => exact absurd h.1 (by simp)
  | s + 1, q, l => by
    simp only [lsT]
    constructor
    · intro h
      subst h
      refine ⟨by rw [List.length_cons, ls_len], fun j hj => ?_⟩
      cases j with
      | zero => rfl
      | succ j =>
        show B (q + (j + 1)) = (lsT B (q + 1) s).getD j 0
        rw [ls_get (by omega), show q + 1 + j = q + (j + 1) by omega]
    · intro h
      cases l with
      | nil => exact absurd h.1 (by simp)
      | cons a t =>
        have h0 := h.2 0 (by omega)
        have ht : lsT B (q + 1) s = t := ls_iff.mpr ⟨by have := h.1; rw [List.length_cons] at this; omega, fun j hj => by
          have := h.2 (j + 1) (by omega)
          rw [show q + 1 + j = q + (j + 1) by omega]
          exact this⟩
        rw [ht]
        congr 1
def mtW (B : Nat → Nat) (q s k j : Nat) : Prop := z_wch (7 * k + j) = (if j < s then sb (B (q + j)) else 32)
section TK2
variable {d : Nat} {v : z_V} {B : Nat → Nat} {n : Nat}
theorem mt_iff {q s k : Nat} (hk : k < 27) (hs : s < 7) (hb : ∀ j, j < s → B (q + j) < 256 ∧ isL (B (q + j)) = true) : (∀ j, j < 7 → mtW B q s k j) ↔ lsT B q s = WL k := by
  have tab := wch_tab k hk
  have hlen : (WL k).length < 7 := (tab 0 (by omega)).2.1
  have nl : ∀ b, isL b = true → b ≠ 32 := fun b h e => by
    subst e
    exact absurd h (by decide)
  rw [ls_iff]
  unfold mtW
  constructor
  · intro h
    have e : (WL k).length = s := by
      rcases Nat.lt_trichotomy (WL k).length s with z | z | z
      · have a := h _ hlen
        rw [(tab _ hlen).1, if_neg (Nat.lt_irrefl _), if_pos z] at a
        have b := hb _ z
        exact absurd ((sb_eq b.1 32 (by decide)).mp a.symm) (nl _ b.2)
      · exact z
      · have a := h s hs
        have t := (tab s hs).2.2 z
        rw [(tab s hs).1, if_pos z, if_neg (Nat.lt_irrefl _)] at a
        have a : nI ((WL k).getD s 0) = nI 32 := a
        have := (nI_eq (by omega) (by decide)).mp a
        omega
    refine ⟨e, fun j hj => ?_⟩
    have a := h j (by omega)
    rw [(tab j (by omega)).1, if_pos (by omega), if_pos hj] at a
    have t := (tab j (by omega)).2.2 (by omega)
    exact (sb_eq (hb j hj).1 _ (by omega)).mp a.symm
  · rintro ⟨h1, h2⟩ j hj
    rw [(tab j hj).1, h1]
    by_cases z : j < s
    · have t := (tab j hj).2.2 (by omega)
      rw [if_pos z, if_pos z]
      exact ((sb_eq (hb j z).1 _ (by omega)).mpr (h2 j z)).symm
    · rw [if_neg z, if_neg z]
theorem s_word53 {q s : Nat} {Q : z_RT} (hT : TPc v B n) (h9 : gI v 3 0 9 = nI q) (hqs : q + s ≤ n) (hb : ∀ j, j < s → isL (B (q + j)) = true) (fin : Q v (some (vI (nI (idW (lsT B q s)))))) : ∀ u3 u4 u5, z_Wp (z_C d) 1 k_X3_word Q 53 [some (vR 3 0), some (vI (nI s)), some (vI 0), u3, u4, u5] [] v := by
  have t2 := hT.2.1
  have f42 : (∀ k, k < 27 → lsT B q s ≠ WL k) → Q v (some (vI 42)) := fun h => by
    rw [idW_no h] at fin
    exact fin
  have big : 7 ≤ s → Q v (some (vI 42)) := fun h => f42 (fun k hk e => by
    have := (wch_tab k hk 0 (by omega)).2.1
    rw [← e, ls_len] at this
    omega)
  have bb : ∀ j, j < s → B (q + j) < 256 ∧ isL (B (q + j)) = true := fun j hj => ⟨(hT.2.2 _ (by omega)).2, hb j hj⟩
  have key : ∀ k, k ≤ 27 → (∀ j, j < k → lsT B q s ≠ WL j) → ∀ u3 u4 u5, z_Wp (z_C d) 1 k_X3_word Q 53 [some (vR 3 0), some (vI (nI s)), some (vI (nI k)), u3, u4, u5] [] v := by
    refine z_up 27 (fun hno u3 u4 u5 => ?_) (fun k hk ih hno u3 u4 u5 => ?_)
    · exact B_X3_word_53 (pk_le 27 27 (fun _ => f42 hno) (fun z => absurd z (by omega)))
    · refine B_X3_word_53 (pk_le 27 k (fun z => absurd z (by omega)) (fun _ => pk_le 7 s (fun z => big z) (fun hs => ?_)))
      have mt := mt_iff (B := B) (q := q) hk hs bb
      have next : lsT B q s ≠ WL k → ∀ u3 u4 u5, z_Wp (z_C d) 1 k_X3_word Q 53 [some (vR 3 0), some (vI (nI s)), some (vI (nI k + 1)), u3, u4, u5] [] v := fun ne u3 u4 u5 => by
        rw [nI_1]
        exact ih (fun j hj => by
          rcases Nat.lt_succ_iff_lt_or_eq.mp hj with z | z
          · exact hno j z
          · rw [z]
            exact ne) u3 u4 u5
      -- after one that does not match
      have miss : ∀ i, i < 7 → ¬ mtW B q s k i → ∀ u5, z_Wp (z_C d) 1 k_X3_word Q 70 [some (vR 3 0), some (vI (nI s)), some (vI (nI k)), some (vI (nI i)), some (vI (nI (i + 1))), u5] [] v := fun i hi nm u5 => by
        have ne : lsT B q s ≠ WL k := fun e => nm (mt.mpr e i hi)
        have g : ((¬ nI i = 7 → z_Wp (z_C d) 1 k_X3_word Q 53 [some (vR 3 0), some (vI (nI s)), some (vI (nI k + 1)), some (vI (nI i)), some (vI (nI (i + 1))), none] [] v) ∧ (nI i = 7 → Q v (some (vI (nI k))))) := pk_ne i 7 (fun _ => next ne _ _ _) (fun z => absurd z (by omega))
        exact B_X3_word_70 (pk_le 7 (i + 1) (fun _ => g) (fun _ => pk_ne i (i + 1) (fun _ => g) (fun z => absurd z (by omega))))
      have run : ∀ i, i ≤ 7 → (∀ j, j < i → mtW B q s k j) → ∀ u5, z_Wp (z_C d) 1 k_X3_word Q 70 [some (vR 3 0), some (vI (nI s)), some (vI (nI k)), some (vI (nI i)), some (vI (nI i)), u5] [] v := by
        refine z_up 7 (fun hall u5 => ?_) (fun i hi ihi hall u5 => ?_)
        · have e := mt.mp hall
          refine B_X3_word_70 (pk_le 7 7 (fun _ => br_nF rfl ?_) (fun z => absurd z (by omega)))
          rw [(idW_iff hk).mpr e] at fin
          exact fin
        · refine B_X3_word_70 (pk_le 7 i (fun z => absurd z (by omega)) (fun _ => br_nF rfl ?_))
          have e7 : nI k * 7 + nI i = nI (7 * k + i) := by
            rw [show (7 : Int32) = nI 7 from rfl, pk_mul, nI_add, Nat.mul_comm]
          have hw : z_wln = 189 := rfl
          have more : mtW B q s k i → ∀ u5, z_Wp (z_C d) 1 k_X3_word Q 70 [some (vR 3 0), some (vI (nI s)), some (vI (nI k)), some (vI (nI (i + 1))), some (vI (nI (i + 1))), u5] [] v := fun m u5 => ihi (fun j hj => by
            rcases Nat.lt_succ_iff_lt_or_eq.mp hj with z | z
            · exact hall j z
            · rw [z]
              exact m) u5
          rw [e7, n_nI (n := 7 * k + i) (by omega), nI_1, show nI i + 0 = nI i from Int32.add_zero _]
          refine pk_le s i (fun z => z_ii (7 * k + i) rfl (by omega) ⟨fun ne => miss i hi (fun m => ne ?_) _, fun e => more ?_ _⟩) (fun z => ?_)
          · unfold mtW at m
            rw [if_neg (by omega)] at m
            exact m
          · unfold mtW
            rw [if_neg (by omega)]
            exact e
          · rw [h9, nI_add, n_nI (n := q + i) (by omega), (hT.2.2 (q + i) (by omega)).1]
            refine z_ii (q + i) rfl (by omega) (z_ii (7 * k + i) rfl (by omega) ⟨fun ne => miss i hi (fun m => ne ?_) _, fun e => more ?_ _⟩)
            · unfold mtW at m
              rw [if_pos z] at m
              exact m
            · unfold mtW
              rw [if_pos z]
              exact e
      exact run 0 (by omega) (fun j hj => absurd hj (by omega)) _
  exact key 0 (by omega) (fun j hj => absurd hj (by omega))
theorem s_wordX {q : Nat} (hT : TPc v B n) (hq : q ≤ n) (h9 : gI v 3 0 9 = nI q) (h10 : gI v 3 0 10 = nI q) : ZI (d + 2) m_X3_word [vR 3 0] v (fun u r => r = nI (idW (lsT B q (runT (pLt B n) n q - q))) ∧ gI u 3 0 10 = nI (runT (pLt B n) n q) ∧ Fr (fun t k => t = 3 ∧ k = 10) v u) := fun Q k => E_X3_word (B_X3_word_0 (by
  have hle : runT (pLt B n) n q ≤ n := run_le lt_lt hq
  have hge : q ≤ runT (pLt B n) n q := run_ge
  have hend : pLt B n (runT (pLt B n) n q) = false := run_end lt_lt (by omega)
  have t2 := hT.2.1
  rw [h10]
  have key : ∀ i, i ≤ runT (pLt B n) n q → q ≤ i → ∀ u : z_V, Fr (fun t k => t = 3 ∧ k = 10) v u → gI u 3 0 10 = nI i → ∀ u2 u3 u4 u5, z_Wp (z_C (d + 1)) 1 k_X3_word Q 5 [some (vR 3 0), some (vI (nI i)), u2, u3, u4, u5] [] u := by
    refine z_up _ (fun _ u f g10 u2 u3 u4 u5 => ?_) (fun i hi ih hqi u f g10 u2 u3 u4 u5 => ?_)
    · have hTu := hT.fr f (by omega) (fun k => by omega)
      have h9u : gI u 3 0 9 = nI q := (f.i (by omega)).trans h9
      have fin : z_Wp (z_C (d + 1)) 1 k_X3_word Q 53 [some (vR 3 0), some (vI (gI u 3 0 10 - gI u 3 0 9)), some (vI 0), none, none, none] [] u := by
        rw [g10, h9u, pk_sub hge]
        refine s_word53 hTu h9u (by omega) (fun j hj => (pLt_t (run_P (by omega) (show q + j < runT (pLt B n) n q by omega))).2) (k _ _ ⟨rfl, g10, f⟩) _ _ _
      refine B_X3_word_5 (pk_le n (runT (pLt B n) n q) (fun _ => fin) (fun z => z_ii _ rfl (by omega) ?_) hTu.1 rfl)
      have hb := hTu.2.2 _ z
      rw [n_nI (by omega), hb.1]
      have hend := pLt_f hend z
      exact cP (s_isLetter (d := d) hb.2) (br_z (fun _ => fin) (fun e => by rw [hend] at e; cases e))
    · have hTu := hT.fr f (by omega) (fun k => by omega)
      have hp := pLt_t (run_P hqi hi)
      have hb := hTu.2.2 i hp.1
      refine B_X3_word_5 (pk_le n i (fun z => absurd z (by omega)) (fun _ => z_ii i rfl (by omega) ?_) hTu.1 rfl)
      rw [n_nI (by omega), hb.1]
      refine cP (s_isLetter (d := d) hb.2) (br_z (fun e => by rw [hp.2] at e; cases e) (fun _ => ?_))
      rw [g10, nI_1]
      exact ih (by omega) _ (f.pI ⟨rfl, rfl⟩) gI_pI_s _ _ _ _
  exact key q hge (Nat.le_refl _) v Fr.rfl h10 _ _ _ _))
/-- a token as the class holds it -/
def TkC (v : z_V) (B : Nat → Nat) (n p : Nat) : Prop := gI v 3 0 7 = nI (tkC B n p) ∧ (tkC B n p = 27 → gI v 3 0 8 = nI (tkV B n p)) ∧ gI v 3 0 9 = nI (frT B n p) ∧ gI v 3 0 10 = nI (nxT B n p)
theorem s_advance {p : Nat} (hT : TPc v B n) (hp : p ≤ n) (h10 : gI v 3 0 10 = nI p) : ZV (d + 3) m_X3_advance [vR 3 0] v (fun u => TkC u B n p ∧ Fr fTk v u) := fun Q k => E_X3_advance (B_X3_advance_0 (by
  have hle : frT B n p ≤ n := fr_le hp
  have hge : p ≤ frT B n p := fr_ge
  have hend : pBk B n (frT B n p) = false := run_end bk_lt (by omega)
  have t2 := hT.2.1
  rw [h10]
  have at51 : ∀ u : z_V, Fr fTk v u → gI u 3 0 10 = nI (frT B n p) → ∀ u1, z_Wp (z_C (d + 2)) 0 k_X3_advance Q 51 [some (vR 3 0), u1] [] u := fun u f g10 u1 => by
    have hTu := hT.tp f
    refine B_X3_advance_51 ?_
    rw [g10]
    refine pk_lt (frT B n p) n (fun z => z_ii _ rfl (by omega) ?_) (fun z => ?_) rfl hTu.1
    · have hb := hTu.2.2 _ z
      have f1 : Fr fTk v (pI u 3 0 9 (nI (frT B n p))) := f.pI ⟨rfl, by decide⟩
      have h9 : gI (pI u 3 0 9 (nI (frT B n p))) 3 0 9 = nI (frT B n p) := gI_pI_s
      have g10' : gI (pI u 3 0 9 (nI (frT B n p))) 3 0 10 = nI (frT B n p) := (gI_pI_k (by decide)).trans g10
      have hT1 := hT.tp f1
      rw [n_nI (by omega), hb.1]
      have f10 : ∀ {a b : z_V}, Fr (fun t k => t = 3 ∧ k = 10) a b → Fr fTk a b := fun h => h.mono (fun t k y => ⟨y.1, by omega⟩)
      refine cP (s_isLetter (d := d + 1) hb.2) (br_z (fun e => ?_) (fun e => ?_))
      · have hb1 := hT1.2.2 _ z
        rw [g10', n_nI (by omega), hb1.1]
        refine z_ii _ rfl (by omega) (cP (s_isDigit (d := d + 1) hb.2) (br_z (fun e2 => ?_) (fun e2 => ?_)))
        · rw [g10', n_nI (by omega), hb1.1]
          refine z_ii _ rfl (by omega) (cI (s_signToken (d := d + 1) hT1 z g10') (fun w r hr => ?_))
          obtain ⟨rfl, hr2, hr3⟩ := hr
          refine k _ ⟨⟨?_, fun y => ?_, ?_, ?_⟩, (f1.trans (f10 hr3)).pI ⟨rfl, by decide⟩⟩
          · rw [gI_pI_s]
            unfold tkC cdT
            rw [if_neg (by omega), e, if_neg (by decide), e2, if_neg (by decide)]
          · exfalso
            unfold tkC cdT at y
            rw [if_neg (by omega), e, if_neg (by decide), e2, if_neg (by decide)] at y
            unfold sgK at y
            split at y
            · exact absurd y (by decide)
            · split at y
              · exact absurd y (by decide)
              · unfold sgC at y
                repeat' split at y
                all_goals exact absurd y (by decide)
          · rw [gI_pI_k (by decide), hr3.i (by omega)]
            exact h9
          · rw [gI_pI_k (by decide), hr2]
            unfold nxT enT
            rw [if_neg (by omega), e, if_neg (by decide), e2, if_neg (by decide)]
        · have f2 : Fr fTk v (pI (pI u 3 0 9 (nI (frT B n p))) 3 0 7 27) := f1.pI ⟨rfl, by decide⟩
          have hT2 := hT.tp f2
          refine cI (s_digits (d := d) hT2 hle ((gI_pI_k (by decide)).trans g10')) (fun w r hr => ?_)
          obtain ⟨rfl, hr2, hr3⟩ := hr
          have ec : tkC B n p = 27 := by
            unfold tkC cdT
            rw [if_neg (by omega), e, if_neg (by decide), e2, if_pos rfl]
          refine k _ ⟨⟨?_, fun _ => gI_pI_s, ?_, ?_⟩, (f2.trans (f10 hr3)).pI ⟨rfl, by decide⟩⟩
          · rw [gI_pI_k (by decide), hr3.i (by omega), gI_pI_s, ec]
            rfl
          · rw [gI_pI_k (by decide), hr3.i (by omega), gI_pI_k (by decide)]
            exact h9
          · rw [gI_pI_k (by decide), hr2]
            unfold nxT enT
            rw [if_neg (by omega), e, if_neg (by decide), e2, if_pos rfl]
      · refine cI (s_wordX (d := d) hT1 hle h9 g10') (fun w r hr => ?_)
        obtain ⟨rfl, hr2, hr3⟩ := hr
        have ec : tkC B n p = idW (lsT B (frT B n p) (runT (pLt B n) n (frT B n p) - frT B n p)) := by
          unfold tkC cdT
          rw [if_neg (by omega), e, if_pos rfl]
        refine k _ ⟨⟨?_, fun y => ?_, ?_, ?_⟩, (f1.trans (f10 hr3)).pI ⟨rfl, by decide⟩⟩
        · rw [gI_pI_s, ec]
        · exfalso
          rw [ec] at y
          unfold idW at y
          cases z : lo (fun k => decide (lsT B (frT B n p) (runT (pLt B n) n (frT B n p) - frT B n p) = WL k)) 0 27 with
          | none =>
            rw [z] at y
            exact absurd y (by decide)
          | some i =>
            rw [z] at y
            have := lo_lt z
            have y : i = 27 := y
            omega
        · rw [gI_pI_k (by decide), hr3.i (by omega)]
          exact h9
        · rw [gI_pI_k (by decide), hr2]
          unfold nxT enT
          rw [if_neg (by omega), e, if_pos rfl]
    · have en : frT B n p = n := by omega
      have ec : tkC B n p = 41 := (tk_41 hp).mpr en
      refine k _ ⟨⟨?_, fun y => ?_, ?_, ?_⟩, ((f.pI ⟨rfl, by decide⟩).pI ⟨rfl, by decide⟩).pI ⟨rfl, by decide⟩⟩
      · rw [gI_pI_s, ec]
        rfl
      · rw [ec] at y
        exact absurd y (by decide)
      · rw [gI_pI_k (by decide), gI_pI_s, hTu.1, en]
      · rw [gI_pI_k (by decide), gI_pI_k (by decide), gI_pI_k (by decide), g10]
        unfold nxT enT
        rw [if_pos (by omega)]
  have key : ∀ i, i ≤ frT B n p → p ≤ i → ∀ u : z_V, Fr fTk v u → gI u 3 0 10 = nI i → z_Wp (z_C (d + 2)) 0 k_X3_advance Q 5 [some (vR 3 0), some (vI (nI i))] [] u := by
    refine z_up _ (fun _ u f g10 => ?_) (fun i hi ih hpi u f g10 => ?_)
    · have hTu := hT.tp f
      refine B_X3_advance_5 (pk_le n (frT B n p) (fun _ => at51 u f g10 _) (fun z => z_ii _ rfl (by omega) ?_) hTu.1 rfl)
      have hb := hTu.2.2 _ z
      have hend := pBk_f hend z
      rw [n_nI (by omega), hb.1]
      exact pick (sb_eq hb.2 32 (by decide)) (fun e => absurd e hend.1) (fun _ => z_ii _ rfl (by omega) (pickN (sb_eq hb.2 10 (by decide)) (fun _ => at51 u f g10 _) (fun e => absurd e hend.2)))
    · have hTu := hT.tp f
      have hp2 := pBk_t (run_P hpi hi)
      have hb := hTu.2.2 i hp2.1
      refine B_X3_advance_5 (pk_le n i (fun z => absurd z (by omega)) (fun _ => z_ii i rfl (by omega) ?_) hTu.1 rfl)
      rw [n_nI (by omega), hb.1, g10, nI_1]
      have go := ih (by omega) (pI u 3 0 10 (nI (i + 1))) (f.pI ⟨rfl, by decide⟩) gI_pI_s
      exact pick (sb_eq hb.2 32 (by decide)) (fun _ => go) (fun n32 => z_ii i rfl (by omega) (pickN (sb_eq hb.2 10 (by decide)) (fun n10 => absurd hp2.2 (by omega)) (fun _ => go)))
  exact key p hge (Nat.le_refl _) v Fr.rfl h10))
end TK2
