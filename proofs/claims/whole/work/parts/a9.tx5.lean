/-! a text: a clause and its stop, by the reference -/
def fLw (kk w c0 : Nat) : Nat → Nat → Prop := fun t c => fSu kk w t c ∨ (t = 1202 ∧ (c = c0 + 1 ∨ c = c0 + 2))
/-- what a law's clause leaves, before it is counted -/
def LO (B : Nat → Nat) (n kk w c0 : Nat) (u : z_V) (R : z_Rs) (u' : z_V) (x : Int32) : Prop := match R with
  | .inl g => x = nI g.1 ∧ gI u' 11 0 8 = nI g.2 ∧ Fr (fLw kk w c0) u u'
  | .inr y => x = 0 ∧ TPr u' B n ∧ TkR u' B n y.2 ∧ gI u' 11 0 13 = nI (w + lR y.1) ∧ rR (gC kk u') w y.1 ∧ gI u' 1202 0 (c0 + 1) = nI w ∧ gI u' 1202 0 (c0 + 2) = nI (w + lR y.1) ∧ Fr (fLw kk w c0) u u'
section TX5
variable {d : Nat} {u : z_V} {B : Nat → Nat} {n kk : Nat} {p q w : Nat} {T : z_T}
theorem onc_has {s : Nat} (hs : s ≤ 1) : (i_shr (nI (onc T)) (nI s) &&& 1 = 1 ↔ hasL T s = true) ∧ (hasL T s = false → ∀ e : z_X, nI (onc T) ||| i_shl 1 (nI s) = nI (onc (addL T (s == 0) e))) := by
  obtain ⟨t1, t2, t3⟩ := T
  rcases (show s = 0 ∨ s = 1 by omega) with rfl | rfl
  · cases t1 with
    | none =>
      cases t2 with
      | none => exact ⟨by show (i_shr (nI 0) (nI 0) &&& 1 = 1 ↔ false = true); decide +kernel, fun _ e => by show nI 0 ||| i_shl 1 (nI 0) = nI 1; decide +kernel⟩
      | some y => exact ⟨by show (i_shr (nI 2) (nI 0) &&& 1 = 1 ↔ false = true); decide +kernel, fun _ e => by show nI 2 ||| i_shl 1 (nI 0) = nI 3; decide +kernel⟩
    | some x =>
      cases t2 with
      | none => exact ⟨by show (i_shr (nI 1) (nI 0) &&& 1 = 1 ↔ true = true); decide +kernel, fun z => by cases z⟩
      | some y => exact ⟨by show (i_shr (nI 3) (nI 0) &&& 1 = 1 ↔ true = true); decide +kernel, fun z => by cases z⟩
  · cases t1 with
    | none =>
      cases t2 with
      | none => exact ⟨by show (i_shr (nI 0) (nI 1) &&& 1 = 1 ↔ false = true); decide +kernel, fun _ e => by show nI 0 ||| i_shl 1 (nI 1) = nI 2; decide +kernel⟩
      | some y => exact ⟨by show (i_shr (nI 2) (nI 1) &&& 1 = 1 ↔ true = true); decide +kernel, fun z => by cases z⟩
    | some x =>
      cases t2 with
      | none => exact ⟨by show (i_shr (nI 1) (nI 1) &&& 1 = 1 ↔ false = true); decide +kernel, fun _ e => by show nI 1 ||| i_shl 1 (nI 1) = nI 3; decide +kernel⟩
      | some y => exact ⟨by show (i_shr (nI 3) (nI 1) &&& 1 = 1 ↔ true = true); decide +kernel, fun z => by cases z⟩
theorem s_hasR {s : Nat} (hs : s ≤ 1) (hd : 1 ≤ d) : ZP d m_X11_has [vI (nI (onc T)), vI (nI s)] u (bI (hasL T s)) := by
  obtain ⟨e, rfl⟩ : ∃ e, d = e + 1 := ⟨d - 1, by omega⟩
  intro Q k
  refine E_X11_has (B_X11_has_0 (pickN (onc_has (T := T) hs).1 (fun z => ?_) (fun z => ?_)))
  · have z : hasL T s = false := by
      cases y : hasL T s with
      | true => exact absurd y z
      | false => rfl
    rw [z] at k
    exact k
  · rw [z] at k
    exact k
theorem stop_R {Q : z_RT} {u0 : z_V} {T' : z_T} {q' w' : Nat} (hd : 2 ≤ d) (hq : q' ≤ n) (hw : w' ≤ q') (h1 : TPr u B n) (h2 : TkR u B n q') (h3 : gI u 11 0 12 = nI (681 * kk)) (h4 : gI u 11 0 13 = nI w') (h5 : gI u 11 0 19 = nI (onc T')) (h6 : TRb u kk T' w' (T'.2.2.1 - 1)) (h7 : 1 ≤ T'.2.2.1) (hkk : kk ≤ 3) (F : Fr (fRt kk) u0 u) (k : ∀ u' x, RO B n kk u0 (stopR B n (.inr (T', q'))) u' x → Q u' (some (vI x))) : z_if (z_in (gI u 11 0 12) 2724) (z_if (z_in (gI u 11 0 12) 2724) ((gI u 11 0 9 = 59 → z_C d m_X11_nextToken [vR 11 0] (pI u 1202 0 (n_ (gI u 11 0 12)) ((gI u 1202 0 (n_ (gI u 11 0 12))) + 1)) (fun w6 o7 => o7 = none ∧ Q w6 (some (vI 0)))) ∧ (¬ gI u 11 0 9 = 59 → Q (pI u 1202 0 (n_ (gI u 11 0 12)) ((gI u 1202 0 (n_ (gI u 11 0 12))) + 1)) (some (vI 1))))) := by
  have k : ∀ u' x, RO B n kk u0 (expR B n 40 q' (.inr (T', nxT B n q'))) u' x → Q u' (some (vI x)) := k
  unfold expR at k
  obtain ⟨t, t1, t2, t3, t4, t5, t6⟩ := h2.1.t9 tk_42
  have s40 : t = 59 ↔ tkC B n q' = 40 := t6 40 (by decide) (by decide)
  rw [h3, n_nI (by omega), h6.1, t1, nI_1, Nat.sub_add_cancel h7]
  have f : Fr (fun t c => t = 1202 ∧ c = 681 * kk) u (pI u 1202 0 (681 * kk) (nI T'.2.2.1)) := Fr.rfl.pI ⟨rfl, rfl⟩
  have F2 : Fr (fRt kk) u0 (pI u 1202 0 (681 * kk) (nI T'.2.2.1)) := F.trans (f.mono (fun t c z => Or.inr (Or.inr ⟨z.1, by omega⟩)))
  refine z_ii _ rfl (by omega) (z_ii _ rfl (by omega) (pk_eq t 59 (fun z => ?_) (fun z => ?_)))
  · have c40 := s40.mp z
    rw [if_pos c40] at k
    have k1 := nx_gt (B := B) hq (by omega)
    obtain ⟨e, rfl⟩ : ∃ e, d = e + 2 := ⟨d - 2, by omega⟩
    refine cV (s_nextToken (d := e) (h1.fr f (by omega) (fun c => by omega)) (nx_le hq) ((f.i (by omega)).trans h2.2.2)) (fun w6 h8 => ?_)
    have hb : TRb w6 kk T' w' T'.2.2.1 := by
      obtain ⟨b1, b2, b3, b4, b5⟩ := h6
      have no : ∀ c, c ≠ 681 * kk → gI w6 1202 0 c = gI u 1202 0 c := fun c hc => (h8.2.i (by unfold fTq; omega)).trans (gI_pI_k hc)
      have lw : ∀ {s r law}, LRf u kk s r T'.2.2.1 T'.2.2.2.1 law w' → LRf w6 kk s r T'.2.2.1 T'.2.2.2.1 law w' := fun {s r law} l => by
        cases law with
        | none => exact l
        | some x =>
          obtain ⟨j, y, a1, a2, a3, a4, a5, a6, a7, a8⟩ := l
          exact ⟨j, y, a1, a2, a3, (no _ (by omega)).trans a4, (no _ (by omega)).trans a5, a6, rR_cong (fun i _ _ => by show (gI w6 1202 0 _, gI w6 1202 0 _) = (gI u 1202 0 _, gI u 1202 0 _); rw [no _ (by omega), no _ (by omega)]) a7, a8⟩
      exact ⟨(h8.2.i (by unfold fTq; omega)).trans gI_pI_s, b2, fun j hj => ⟨(no _ (by omega)).trans (b3 j hj).1, (b3 j hj).2.1, fun z => ⟨(no _ (by omega)).trans ((b3 j hj).2.2.1 z).1, fun z2 => (no _ (by omega)).trans (((b3 j hj).2.2.1 z).2 z2)⟩, (b3 j hj).2.2.2⟩, lw b4, lw b5⟩
    refine k _ 0 ⟨rfl, ⟨w', by show w' ≤ nxT B n q'; omega, (h1.fr f (by omega) (fun c => by omega)).tr h8.2, h8.1, (h8.2.i (by unfold fTq; omega)).trans ((f.i (by omega)).trans h3), (h8.2.i (by unfold fTq; omega)).trans ((f.i (by omega)).trans h4), (h8.2.i (by unfold fTq; omega)).trans ((f.i (by omega)).trans h5), hb, hkk⟩, F2.trans (h8.2.mono (fun t c z => by unfold fTq at z; unfold fRt; omega))⟩
  · rw [if_neg (fun y => z (s40.mpr y))] at k
    exact k _ 1 ⟨rfl, (f.i (by omega)).trans h2.2.1, F2⟩
theorem doR_ge {c : Nat} {T' : z_T} {q' : Nat} (hq : q ≤ n) (h : doR B n T c q = .inr (T', q')) : q ≤ q' := by
  unfold doR at h
  have n1 := nx_le (B := B) hq
  have n2 := nx_le (B := B) n1
  split at h
  · have h1 := figR_inr h
    have h2 := expR_inr h1.2.2
    have h3 := figR_inr h2.2
    have h4 := h3.2.2
    have x1 := nx_gt (B := B) hq (by omega)
    have x3 := nx_gt (B := B) n2 (by omega)
    have x2 := nx_gt (B := B) n1 (by rw [h2.1]; split <;> decide)
    cases h4
    omega
  · have h1 := figR_inr h
    have x1 := nx_gt (B := B) hq (by omega)
    have h1 := h1.2.2
    cases h1
    omega
theorem doR_fl {c : Nat} {g : Nat × Nat} (hq : q ≤ n) (h : doR B n T c q = .inl g) : 1 ≤ g.1 ∧ g.1 ≤ 5 := by
  unfold doR figR expR at h
  repeat' split at h
  all_goals cases h
  all_goals first | exact ⟨show 1 ≤ 2 by decide, show 2 ≤ 5 by decide⟩ | exact ⟨show 1 ≤ 1 by decide, show 1 ≤ 5 by decide⟩
theorem onc_L {r : Bool} {e e' : z_X} : onc (addL T r e) = onc (addL T r e') := by cases r <;> rfl
theorem kS_law {c : Nat} (h : stc c = true) : (kS c ≤ 1 ↔ c ≤ 1) ∧ (c ≤ 1 → kS c = c) ∧ kS c ≤ 6 ∧ (¬ c ≤ 1 → (c = 2 ∨ c = 4 ∨ c = 6 ∨ c = 7 ∨ c = 8) ∧ 2 ≤ kS c) := by
  have a1 : ∀ c, c < 9 → stc c = true → (kS c ≤ 1 ↔ c ≤ 1) := by decide
  have a2 : ∀ c, c < 9 → stc c = true → c ≤ 1 → kS c = c := by decide
  have a3 : ∀ c, c < 9 → stc c = true → kS c ≤ 6 := by decide
  have a4 : ∀ c, c < 9 → stc c = true → ¬ c ≤ 1 → (c = 2 ∨ c = 4 ∨ c = 6 ∨ c = 7 ∨ c = 8) ∧ 2 ≤ kS c := by decide
  have h9 : c < 9 := by
    have h' := h
    unfold stc at h'
    rw [Bool.and_eq_true, decide_eq_true_eq] at h'
    omega
  exact ⟨a1 c h9 h, a2 c h9 h, a3 c h9 h, a4 c h9 h⟩
theorem s_lawBody {s c0 : Nat} {r : Bool} {R : z_Rs} (hs : s = if r = true then 0 else 1) (hd : 11 ≤ d) (hp : p ≤ n) (hw : w ≤ p) (hT : TPr u B n) (hk : TkR u B n p) (h12 : gI u 11 0 12 = nI (681 * kk)) (h13 : gI u 11 0 13 = nI w) (h14 : gI u 11 0 14 = nI s) (hkk : kk ≤ 3) (hc1 : c0 + 2 < 681 * kk + 73) (hpq : PQ B n r 3 0 p zZ R) (hrn : ∀ d', 8 ≤ d' → RN B n kk r d' 3 0 p R) : ZI d m_X11_body [vR 11 0, vI (nI s), vI (nI c0)] u (LO B n kk w c0 u R) := by
  obtain ⟨e, rfl⟩ : ∃ e, d = e + 1 + 1 := ⟨d - 2, by omega⟩
  have hs1 : s ≤ 1 := by rw [hs]; split <;> decide
  have LC : ZI (e + 1) m_X11_lawClause [vR 11 0, vI (nI c0)] u (LO B n kk w c0 u R) := fun Q k => E_X11_lawClause (B_X11_lawClause_0 (by
    rw [nI_1, show nI c0 + 2 = nI (c0 + 2) from nI_add c0 2, n_nI (by omega), n_nI (by omega), h13]
    have f1 : Fr (fun t c => t = 1202 ∧ c = c0 + 1) u (pI u 1202 0 (c0 + 1) (nI w)) := Fr.rfl.pI ⟨rfl, rfl⟩
    refine z_ii _ rfl (by omega) (cI (s_summed (r := r) (kk := kk) (w := w) (d := e) (by omega) hp hw (hT.fr f1 (by omega) (fun c => by omega)) (hk.fr f1 (by omega) (by omega) (by omega) (by omega) (by omega)) ((f1.i (by omega)).trans h12) ((f1.i (by omega)).trans h13) ((f1.i (by omega)).trans (h14.trans (by rw [hs]))) hkk hpq hrn) (fun w1 x1 h1 => z_ii _ rfl (by omega) (k _ _ ?_)))
    cases R with
    | inl g =>
      obtain ⟨y1, y2, y3⟩ := h1
      have f2 : Fr (fun t c => t = 1202 ∧ c = c0 + 2) w1 (pI w1 1202 0 (c0 + 2) (gI w1 11 0 13)) := Fr.rfl.pI ⟨rfl, rfl⟩
      exact ⟨y1, (f2.i (by omega)).trans y2, ((f1.mono (fun t c z => Or.inr ⟨z.1, Or.inl z.2⟩)).trans (y3.mono (fun t c z => Or.inl z))).trans (f2.mono (fun t c z => Or.inr ⟨z.1, Or.inr z.2⟩))⟩
    | inr y =>
      obtain ⟨y1, y2, y3, y4, y5, y6⟩ := h1
      have f2 : Fr (fun t c => t = 1202 ∧ c = c0 + 2) w1 (pI w1 1202 0 (c0 + 2) (gI w1 11 0 13)) := Fr.rfl.pI ⟨rfl, rfl⟩
      refine ⟨y1, y2.fr f2 (by omega) (fun c => by omega), y3.fr f2 (by omega) (by omega) (by omega) (by omega) (by omega), (f2.i (by omega)).trans y4, rR_cong (fun i _ _ => gC_eq f2 (by omega) (by omega)) y5, ?_, by rw [gI_pI_s, y4], ((f1.mono (fun t c z => Or.inr ⟨z.1, Or.inl z.2⟩)).trans (y6.mono (fun t c z => Or.inl z))).trans (f2.mono (fun t c z => Or.inr ⟨z.1, Or.inr z.2⟩))⟩
      rw [f2.i (by omega), y6.i (by unfold fSu; omega), gI_pI_s]))
  intro Q k
  refine E_X11_body (B_X11_body_0 ?_)
  have dn : ∀ {b : Int32} {m : Nat} {A C : Prop}, b = nI m → 2 ≤ m → m ≤ 6 → C → (nI s = b → A) ∧ (¬ nI s = b → C) := fun {b m A C} hb hm hm6 x => ⟨fun z => by
    rw [hb] at z
    have := (nI_eq (by omega) (by omega)).mp z
    omega, fun _ => x⟩
  exact dn (m := 2) rfl (by decide) (by decide) (dn (m := 3) rfl (by decide) (by decide) (dn (m := 4) rfl (by decide) (by decide) (dn (m := 5) rfl (by decide) (by decide) (dn (m := 6) rfl (by decide) (by decide) (cI LC (fun w x h => k w x h))))))
theorem at65 {Q : z_RT} {u0 : z_V} {R : z_Rs} (hd : 15 ≤ d) (hp : p ≤ n) (hw : w ≤ p) (h1 : TPr u B n) (h2 : TkR u B n p) (h3 : gI u 11 0 12 = nI (681 * kk)) (h4 : gI u 11 0 13 = nI w) (h5 : gI u 11 0 19 = nI (if tkC B n p ≤ 1 then onc (addL T (tkC B n p == 0) zZ) else onc T)) (h6 : TRb u kk T w T.2.2.1) (hkk : kk ≤ 3) (F : Fr (fRt kk) u0 u) (hst : stc (tkC B n p) = true) (hno : hasL T (tkC B n p) = false) (hcl : T.2.2.1 < 24) (hpq : PQ B n (tkC B n p == 0) 3 0 (nxT B n p) zZ R) (hrn : ∀ d', 8 ≤ d' → RN B n kk (tkC B n p == 0) d' 3 0 (nxT B n p) R) (k : ∀ u' x, RO B n kk u0 (stopR B n (if tkC B n p ≤ 1 then lawX T (tkC B n p == 0) R else doR B n T (tkC B n p) (nxT B n p))) u' x → Q u' (some (vI x))) : ∀ u3 u4, z_Wp (z_C d) 1 k_X11_clause Q 65 [some (vR 11 0), some (vI (nI (kS (tkC B n p)))), some (vI (nI T.2.2.1)), u3, u4] [] u := fun u3 u4 => by
  have hn := h1.2.1
  have k0 := nx_gt (B := B) hp (by
    intro z
    rw [z] at hst
    cases hst)
  have gn := nx_le (B := B) hp
  have kk' := kS_law hst
  refine B_X11_clause_65 ?_
  have f14 : Fr (fun t c => t = 11 ∧ c = 14) u (pI u 11 0 14 (nI (kS (tkC B n p)))) := Fr.rfl.pI ⟨rfl, rfl⟩
  obtain ⟨e, rfl⟩ : ∃ e, d = e + 2 := ⟨d - 2, by omega⟩
  refine cV (s_nextToken (d := e) (h1.fr f14 (by omega) (fun c => by omega)) gn ((f14.i (by omega)).trans h2.2.2)) (fun w1 h8 => ?_)
  obtain ⟨k8, f8⟩ := h8
  have g12 : gI w1 11 0 12 = nI (681 * kk) := (f8.i (by unfold fTq; omega)).trans ((f14.i (by omega)).trans h3)
  have g13 : gI w1 11 0 13 = nI w := (f8.i (by unfold fTq; omega)).trans ((f14.i (by omega)).trans h4)
  have g14 : gI w1 11 0 14 = nI (kS (tkC B n p)) := (f8.i (by unfold fTq; omega)).trans gI_pI_s
  have g19 := (f8.i (t := 11) (n := 0) (k := 19) (by unfold fTq; omega)).trans ((f14.i (by omega)).trans h5)
  have e1 : nI (681 * kk) + 1 + 3 * nI T.2.2.1 = nI (681 * kk + 1 + 3 * T.2.2.1) := by
    rw [show (3 : Int32) = nI 3 from rfl, pk_mul, nI_1, nI_add]
  rw [g12, e1, n_nI (by omega)]
  generalize hc0 : 681 * kk + 1 + 3 * T.2.2.1 = c0
  refine z_ii _ rfl (by omega) ?_
  have fc : Fr (fun t c => t = 1202 ∧ c = c0) w1 (pI w1 1202 0 c0 (nI (kS (tkC B n p)))) := Fr.rfl.pI ⟨rfl, rfl⟩
  have T2 := ((h1.fr f14 (by omega) (fun c => by omega)).tr f8).fr fc (by omega) (fun c => by omega)
  have K2 := k8.fr fc (by omega) (by omega) (by omega) (by omega) (by omega)
  have F2 : Fr (fun t c => (t = 11 ∧ c = 14) ∨ fTq t c ∨ (t = 1202 ∧ c = c0)) u (pI w1 1202 0 c0 (nI (kS (tkC B n p)))) := ((f14.mono (fun t c z => Or.inl z)).trans (f8.mono (fun t c z => Or.inr (Or.inl z)))).trans (fc.mono (fun t c z => Or.inr (Or.inr z)))
  have FR2 : Fr (fRt kk) u0 (pI w1 1202 0 c0 (nI (kS (tkC B n p)))) := F.trans (F2.mono (fun t c z => by unfold fTq at z; unfold fRt; omega))
  by_cases hl : tkC B n p ≤ 1
  · rw [if_pos hl] at k g19
    have ks := kk'.2.1 hl
    have hs0 : kS (tkC B n p) = if (tkC B n p == 0) = true then 0 else 1 := by
      rw [ks]
      rcases (show tkC B n p = 0 ∨ tkC B n p = 1 by omega) with y | y <;> rw [y] <;> rfl
    refine cI (s_lawBody (r := (tkC B n p == 0)) (c0 := c0) (w := w) (kk := kk) hs0 (d := e + 2) (by omega) gn (by omega) T2 K2 ((fc.i (by omega)).trans g12) ((fc.i (by omega)).trans g13) ((fc.i (by omega)).trans g14) hkk (by omega) hpq hrn) (fun w3 x hx => ?_)
    cases R with
    | inl g =>
      obtain ⟨y1, y2, y3⟩ := hx
      have g5 := hpq.fl gn
      refine ⟨fun z => ?_, fun _ => k _ _ ⟨y1, y2, FR2.trans (y3.mono (fun t c z => by unfold fLw fSu at z; unfold fRt; omega))⟩⟩
      rw [y1] at z
      have := (nI_eq (a := g.1) (b := 0) (by omega) (by decide)).mp z
      omega
    | inr y =>
      obtain ⟨ex, q'⟩ := y
      obtain ⟨y1, y2, y3, y4, y5, y6, y7, y8⟩ := hx
      obtain ⟨m1, m2, m3, m4, _⟩ := hpq.gd rfl gn (by decide)
      have hq := hpq.st rfl gn
      have y4 : gI w3 11 0 13 = nI (w + lR ex) := y4
      have FA : Fr (fun t c => t ≠ 1202 ∨ (c0 ≤ c ∧ c ≤ c0 + 2) ∨ 681 * kk + 73 + 2 * w ≤ c) u w3 := (F2.mono (fun t c z => by unfold fTq at z; omega)).trans (y8.mono (fun t c z => by unfold fLw fSu at z; omega))
      have hb := h6.law (e := ex) (r := (tkC B n p == 0)) hcl hs0 (by rw [ks]; exact hno) FA (fun c a b => by omega) (fun c a b => by omega) (by rw [hc0, y8.i (by unfold fLw fSu; omega), gI_pI_s]) (by rw [hc0]; exact y6) (by rw [hc0]; exact y7) y5 m1
      refine ⟨fun _ => stop_R (d := e + 2) (T' := addL T (tkC B n p == 0) ex) (q' := q') (w' := w + lR ex) (by omega) hq.2 (by omega) y2 y3 ((y8.i (by unfold fLw fSu; omega)).trans ((fc.i (by omega)).trans g12)) y4 ((y8.i (by unfold fLw fSu; omega)).trans ((fc.i (by omega)).trans (g19.trans (congrArg nI onc_L)))) hb (Nat.succ_pos _) hkk (FR2.trans (y8.mono (fun t c z => by unfold fLw fSu at z; unfold fRt; omega))) k, fun z => absurd y1 z⟩
  · rw [if_neg hl] at k g19
    have hh := kk'.2.2.2 hl
    refine cI (s_bodyH (T := T) (c0 := c0) hh.1 (d := e + 2) (by omega) T2 K2 gn (by omega)) (fun w3 x hx => ?_)
    cases hX : doR B n T (tkC B n p) (nxT B n p) with
    | inl g =>
      rw [hX] at hx k
      obtain ⟨y1, y2, y3⟩ := hx
      have g5 := doR_fl gn hX
      refine ⟨fun z => ?_, fun _ => k _ _ ⟨y1, y2, FR2.trans (y3.mono (fun t c z => by unfold fHd fTq at z; unfold fRt; omega))⟩⟩
      rw [y1] at z
      have := (nI_eq (a := g.1) (b := 0) (by omega) (by decide)).mp z
      omega
    | inr y =>
      obtain ⟨T', q'⟩ := y
      rw [hX] at hx k
      obtain ⟨y1, y2, y3, ⟨a, b, rfl, hck, z1, z2⟩, y8⟩ := hx
      have hq := doR_le gn hX
      have hge := doR_ge gn hX
      have FA : Fr (fun t c => t ≠ 1202 ∨ (c0 ≤ c ∧ c ≤ c0 + 2)) u w3 := (F2.mono (fun t c z => by unfold fTq at z; omega)).trans (y8.mono (fun t c z => by unfold fHd fTq at z; omega))
      have hb := h6.hand (k := kS (tkC B n p)) (a := a) (b := b) hcl FA (fun c a b => by omega) (fun c a => by omega) kk'.2.2.1 hh.2 hck (by rw [hc0, y8.i (by unfold fHd fTq; omega), gI_pI_s]) (by rw [hc0]; exact z1) (by rw [hc0]; exact z2)
      refine ⟨fun _ => stop_R (d := e + 2) (T' := addT T (kS (tkC B n p)) a b) (q' := q') (w' := w) (by omega) hq (by omega) y2 y3 ((y8.i (by unfold fHd fTq; omega)).trans ((fc.i (by omega)).trans g12)) ((y8.i (by unfold fHd fTq; omega)).trans ((fc.i (by omega)).trans g13)) ((y8.i (by unfold fHd fTq; omega)).trans ((fc.i (by omega)).trans g19)) hb (Nat.succ_pos _) hkk (FR2.trans (y8.mono (fun t c z => by unfold fHd fTq at z; unfold fRt; omega))) k, fun z => absurd y1 z⟩
theorem TRb.fr {u' : z_V} {cnt : Nat} {S : Nat → Nat → Prop} (h : TRb u kk T w cnt) (f : Fr S u u') (hs : ∀ c, ¬ S 1202 c) : TRb u' kk T w cnt := by
  obtain ⟨b1, b2, b3, b4, b5⟩ := h
  have no : ∀ c, gI u' 1202 0 c = gI u 1202 0 c := fun c => f.i (hs c)
  have lw : ∀ {s r law}, LRf u kk s r T.2.2.1 T.2.2.2.1 law w → LRf u' kk s r T.2.2.1 T.2.2.2.1 law w := fun {s r law} l => by
    cases law with
    | none => exact l
    | some x =>
      obtain ⟨j, y, a1, a2, a3, a4, a5, a6, a7, a8⟩ := l
      exact ⟨j, y, a1, a2, a3, (no _).trans a4, (no _).trans a5, a6, rR_cong (fun i _ _ => gC_no f hs) a7, a8⟩
  exact ⟨(no _).trans b1, b2, fun j hj => ⟨(no _).trans (b3 j hj).1, (b3 j hj).2.1, fun z => ⟨(no _).trans ((b3 j hj).2.2.1 z).1, fun z2 => (no _).trans (((b3 j hj).2.2.1 z).2 z2)⟩, (b3 j hj).2.2.2⟩, lw b4, lw b5⟩
theorem s_clauseR {R : z_Rs} (hd : 16 ≤ d) (hp : p ≤ n) (hw : w ≤ p) (h : TRc B n kk u p T w) (hpq : PQ B n (tkC B n p == 0) 3 0 (nxT B n p) zZ R) (hrn : ∀ d', 8 ≤ d' → RN B n kk (tkC B n p == 0) d' 3 0 (nxT B n p) R) : ZI d m_X11_clause [vR 11 0] u (RO B n kk u (clR B n T p R)) := by
  obtain ⟨e, rfl⟩ : ∃ e, d = e + 1 := ⟨d - 1, by omega⟩
  intro Q k
  obtain ⟨h1, h2, h3, h4, h5, h6, h7⟩ := h
  have h24 := h6.2.1
  unfold clR at k
  refine E_X11_clause (B_X11_clause_0 (cP (s_sortOf h2.1 (d := e) (by omega)) ?_))
  cases hst : stc (tkC B n p) with
  | false =>
    rw [hst, if_neg (by decide)] at k
    rw [if_neg (by decide)]
    exact ⟨fun z => absurd z (by decide), fun _ => k _ 1 ⟨rfl, h2.2.1, Fr.rfl⟩⟩
  | true =>
    rw [hst, if_pos rfl] at k
    rw [if_pos rfl]
    have ks := kS_law hst
    have s6 := ks.2.2.1
    refine ⟨fun _ => pk_lt 1 (kS (tkC B n p)) (fun hc => ?_) (fun hc => ?_), fun z => absurd (nI_pos' (by omega)) z⟩
    · have hl : ¬ tkC B n p ≤ 1 := fun z => by
        have := ks.1.mpr z
        omega
      have hno : hasL T (tkC B n p) = false := by
        unfold hasL
        rw [if_neg (by omega), if_neg (by omega)]
      rw [hno, if_neg (by decide)] at k
      rw [h3, n_nI (by omega), h6.1]
      refine z_ii _ rfl (by omega) (pk_ne T.2.2.1 24 (fun n24 => ?_) (fun e24 => k _ 6 (by rw [if_pos (by omega)]; exact ⟨rfl, h2.2.1, Fr.rfl⟩)))
      rw [if_neg (by omega)] at k
      refine pk_lt 1 (kS (tkC B n p)) (fun _ => ?_) (fun z => absurd hc (by omega))
      exact at65 (d := e) (by omega) hp hw h1 h2 h3 h4 (by rw [if_neg hl]; exact h5) h6 h7 Fr.rfl hst hno (by omega) hpq hrn k _ _
    · have hl : tkC B n p ≤ 1 := ks.1.mp (by omega)
      have ke := ks.2.1 hl
      rw [h5]
      refine cP (s_hasR (T := T) (s := kS (tkC B n p)) (by omega) (d := e) (by omega)) (br_z (fun no => ?_) (fun yes => k _ 4 (by
        rw [ke] at yes
        rw [yes, if_pos rfl]
        exact ⟨rfl, h2.2.1, Fr.rfl⟩)))
      have no' := no
      rw [ke] at no
      rw [no, if_neg (by decide)] at k
      rw [h3, n_nI (by omega), h6.1]
      refine z_ii _ rfl (by omega) (pk_ne T.2.2.1 24 (fun n24 => ?_) (fun e24 => k _ 6 (by rw [if_pos (by omega)]; exact ⟨rfl, h2.2.1, Fr.rfl⟩)))
      rw [if_neg (by omega)] at k
      refine pk_lt 1 (kS (tkC B n p)) (fun z => absurd z (by omega)) (fun _ => ?_)
      have oo := (onc_has (T := T) (s := kS (tkC B n p)) (by omega)).2 no' zZ
      rw [h5, oo]
      have f : Fr (fun t c => t = 11 ∧ c = 19) u (pI u 11 0 19 (nI (onc (addL T (kS (tkC B n p) == 0) zZ)))) := Fr.rfl.pI ⟨rfl, rfl⟩
      exact at65 (d := e) (u0 := u) (by omega) hp hw (h1.fr f (by omega) (fun c => by omega)) (h2.fr f (by omega) (by omega) (by omega) (by omega) (by omega)) ((f.i (by omega)).trans h3) ((f.i (by omega)).trans h4) (by rw [if_pos hl, gI_pI_s, ke]) (h6.fr f (fun c => by omega)) h7 (f.mono (fun t c z => by unfold fRt; omega)) hst no (by omega) hpq hrn k _ _
end TX5
