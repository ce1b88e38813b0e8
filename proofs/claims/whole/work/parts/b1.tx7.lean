/-! a text: read from its start, both sides -/
def T00 : z_T := (none, (none, (0, ((fun _ => 0), ((fun _ => 0), (fun _ => 0))))))
def fRd (j : Nat) : Nat → Nat → Nat → Prop := fun t m _ => t = 3 ∨ ((t = 6 ∨ t = 700 ∨ t = 701 ∨ t = 702 ∨ t = 703) ∧ m = j)
/-- a frame that says nothing of which text is read into -/
def Fj (S : Nat → Nat → Nat → Prop) (v u : z_V) : Prop := ∀ t m k, ¬ S t m k → gI u t m k = gI v t m k ∧ gL u t m k = gL v t m k
def fRw (kk : Nat) : Nat → Nat → Prop := fun t k => fRt kk t k ∨ (t = 11 ∧ k = 12)
def RdC (j : Nat) (R : z_Rf) (u : z_V) (x : Int32) : Prop := match R with
  | .inl g => x = 0 ∧ gI u 3 0 3 = nI g.1 ∧ gI u 3 0 4 = nI g.2
  | .inr T => x = 1 ∧ TC u j T ∧ gI u 3 0 3 = 0 ∧ gI u 3 0 4 = -1
section TX7
variable {d : Nat} {v : z_V} {B : Nat → Nat} {n j kk : Nat}
theorem s_readC {Rt : z_Rf} (hl : ∀ d v f i (Q : z_RT) u1, 74 ≤ d → TCc B n j v 0 T00 f → f ≤ 0 → i ≤ 0 → (∀ u x, CT j v Rt u x → Q u (some (vI x))) → z_Wp (z_C d) 4 k_X3_read Q 40 [some (vR 3 0), u1, some (vI 1), some (vI (nI i))] [] v) (hT : TPc v B n) : ZI (d + 75) m_X3_read [vR 3 0, vR 6 j] v (fun u x => RdC j Rt u x ∧ gI u 3 0 1 = nI 0 ∧ gI u 3 0 2 = 1 ∧ Fj (fRd j) v u) := fun Q k => E_X3_read (B_X3_read_0 (by
  refine ⟨j, rfl, ?_⟩
  have f0 : Fa (fRd j) (pJ v (j + 1)) (pI (pI (pI (pI (pI (pI (pJ v (j + 1)) 6 j 4 0) 6 j 5 0) 6 j 6 0) 6 j 7 0) 6 j 8 0) 6 j 9 0) := (((((Fa.rfl.pI (Or.inr ⟨Or.inl rfl, rfl⟩)).pI (Or.inr ⟨Or.inl rfl, rfl⟩)).pI (Or.inr ⟨Or.inl rfl, rfl⟩)).pI (Or.inr ⟨Or.inl rfl, rfl⟩)).pI (Or.inr ⟨Or.inl rfl, rfl⟩)).pI (Or.inr ⟨Or.inl rfl, rfl⟩)
  generalize hv2 : pI (pI (pI (pI (pI (pI (pJ v (j + 1)) 6 j 4 0) 6 j 5 0) 6 j 6 0) 6 j 7 0) 6 j 8 0) 6 j 9 0 = v2 at f0
  have c4 : gI v2 6 j 4 = 0 ∧ gI v2 6 j 5 = 0 ∧ gI v2 6 j 6 = 0 ∧ gI v2 6 j 7 = 0 ∧ gI v2 6 j 8 = 0 ∧ gI v2 6 j 9 = 0 := by
    subst hv2
    refine ⟨?_, ?_, ?_, ?_, ?_, ?_⟩
    · rw [gI_pI_k (by decide), gI_pI_k (by decide), gI_pI_k (by decide), gI_pI_k (by decide), gI_pI_k (by decide), gI_pI_s]
    · rw [gI_pI_k (by decide), gI_pI_k (by decide), gI_pI_k (by decide), gI_pI_k (by decide), gI_pI_s]
    · rw [gI_pI_k (by decide), gI_pI_k (by decide), gI_pI_k (by decide), gI_pI_s]
    · rw [gI_pI_k (by decide), gI_pI_k (by decide), gI_pI_s]
    · rw [gI_pI_k (by decide), gI_pI_s]
    · rw [gI_pI_s]
  have g2 : gJ v2 = j + 1 := f0.2
  have t1 : gI v2 3 0 1 = nI n := by
    subst hv2
    rw [gI_pI_ne (fun z => absurd z.1 (by decide)), gI_pI_ne (fun z => absurd z.1 (by decide)), gI_pI_ne (fun z => absurd z.1 (by decide)), gI_pI_ne (fun z => absurd z.1 (by decide)), gI_pI_ne (fun z => absurd z.1 (by decide)), gI_pI_ne (fun z => absurd z.1 (by decide))]
    exact hT.1
  have tB : ∀ i, i < n → gI v2 400 0 i = sb (B i) ∧ B i < 256 := fun i hi => ⟨(f0.i (by unfold fRd; omega)).trans (hT.2.2 i hi).1, (hT.2.2 i hi).2⟩
  refine cV (P := fun w => w = v2) (fun Q q => E_X6_clear (B_X6_clear_0 (q _ hv2))) (fun w hw => ?_)
  subst hw
  have f1 : Fr (fun t c => t = 3 ∧ (c = 2 ∨ c = 3 ∨ c = 4 ∨ c = 10)) w (pI (pI (pI (pI w 3 0 2 1) 3 0 3 0) 3 0 4 (-1)) 3 0 10 0) := (((Fr.rfl.pI ⟨rfl, by decide⟩).pI ⟨rfl, by decide⟩).pI ⟨rfl, by decide⟩).pI ⟨rfl, by decide⟩
  have T3 : TPc (pI (pI (pI (pI w 3 0 2 1) 3 0 3 0) 3 0 4 (-1)) 3 0 10 0) B n := ⟨(f1.i (by decide)).trans t1, hT.2.1, fun i hi => ⟨(f1.i (by omega)).trans (tB i hi).1, (tB i hi).2⟩⟩
  refine cV (s_advance (d := d + 71) T3 (Nat.zero_le n) gI_pI_s) (fun w4 h4 => ?_)
  obtain ⟨k4, f4⟩ := h4
  have i6 : ∀ c, gI w4 6 j c = gI w 6 j c := fun c => (f4.i (by unfold fTk; omega)).trans (f1.i (by omega))
  have S0 : TCc B n j w4 0 T00 0 := ⟨T3.tp f4, k4, f4.2.trans (f1.2.trans g2), (i6 4).trans c4.1, ⟨(i6 6).trans c4.2.2.1, (i6 7).trans c4.2.2.2.1⟩, ⟨(i6 8).trans c4.2.2.2.2.1, (i6 9).trans c4.2.2.2.2.2⟩, (i6 5).trans c4.2.1, by decide, fun i hi => absurd hi (Nat.not_lt_zero _)⟩
  refine hl (d + 74) w4 0 0 Q _ (by omega) S0 (Nat.le_refl _) (Nat.le_refl _) (fun u x hx => k u x ?_)
  have e2 : gI w4 3 0 2 = 1 := by
    rw [f4.i (by unfold fTk; omega), gI_pI_k (by decide), gI_pI_k (by decide), gI_pI_k (by decide), gI_pI_s]
  have e3 : gI w4 3 0 3 = 0 := by
    rw [f4.i (by unfold fTk; omega), gI_pI_k (by decide), gI_pI_k (by decide), gI_pI_s]
  have e4 : gI w4 3 0 4 = -1 := by
    rw [f4.i (by unfold fTk; omega), gI_pI_k (by decide), gI_pI_s]
  have F4 : Fj (fRd j) v w4 := fun t m c hc => by
    have a1 := f4.1 t m c (fun z => hc (Or.inl z.1))
    have a2 := f1.1 t m c (fun z => hc (Or.inl z.1))
    have a3 := f0.1 t m c hc
    exact ⟨a1.1.trans (a2.1.trans a3.1), a1.2.trans (a2.2.trans a3.2)⟩
  have up : ∀ {u}, Fa (fClT j) w4 u → Fj (fRd j) v u ∧ gI u 3 0 2 = 1 := fun {u} q => ⟨fun t m c hc => by
    have a1 := q.1 t m c (fun z => hc (by unfold fClT fCy fCt at z; unfold fRd; omega))
    have a2 := F4 t m c hc
    exact ⟨a1.1.trans a2.1, a1.2.trans a2.2⟩, (q.i (by unfold fClT fCy fCt; omega)).trans e2⟩
  cases Rt with
  | inl g =>
    obtain ⟨y1, y2, y3, y4, y5⟩ := hx
    exact ⟨⟨y1, y3, y4⟩, y2, (up y5).2, (up y5).1⟩
  | inr T =>
    obtain ⟨y1, y2, y3, y4, y5, y6⟩ := hx
    exact ⟨⟨y1, y3, y4.trans e3, y5.trans e4⟩, y2, (up y6).2, (up y6).1⟩))
theorem s_readR {Rt : z_Rf} (hl : ∀ d u w (Q : z_RT) u1, 17 ≤ d → TRc B n kk u 0 T00 w → w ≤ 0 → (∀ u' x, RT' kk u Rt u' x → Q u' (some (vI x))) → z_Wp (z_C d) 1 k_X11_readText Q 43 [some (vR 11 0), u1] [] u) (hT : TPr v B n) (hkk : kk ≤ 3) (h1 : gI v 1200 0 1 = nI kk) : ZI (d + 18) m_X11_readText [vR 11 0] v (fun u x => match Rt with
    | .inl g => x = nI g.1 ∧ 1 ≤ g.1 ∧ g.1 ≤ 6 ∧ gI u 11 0 8 = nI g.2 ∧ Fr (fRw kk) v u
    | .inr T => x = 0 ∧ TR u kk T ∧ Fr (fRw kk) v u) := fun Q k => E_X11_readText (B_X11_readText_0 (by
  have e1 : (681 : Int32) * nI kk = nI (681 * kk) := by rw [show (681 : Int32) = nI 681 from rfl, pk_mul]
  rw [h1, e1, n_nI (by omega)]
  refine z_ii _ rfl (by omega) ?_
  have f1 : Fr (fun t c => (t = 11 ∧ (c = 12 ∨ c = 13 ∨ c = 19 ∨ c = 7)) ∨ (t = 1202 ∧ c = 681 * kk)) v (pI (pI (pI (pI (pI v 11 0 12 (nI (681 * kk))) 1202 0 (681 * kk) 0) 11 0 13 0) 11 0 19 0) 11 0 7 0) := ((((Fr.rfl.pI (Or.inl ⟨rfl, by decide⟩)).pI (Or.inr ⟨rfl, rfl⟩)).pI (Or.inl ⟨rfl, by decide⟩)).pI (Or.inl ⟨rfl, by decide⟩)).pI (Or.inl ⟨rfl, by decide⟩)
  refine cV (s_nextToken (d := d + 15) (hT.fr f1 (by omega) (fun c => by omega)) (Nat.zero_le n) gI_pI_s) (fun w1 h4 => ?_)
  obtain ⟨k4, f4⟩ := h4
  have i12 : gI w1 11 0 12 = nI (681 * kk) := by
    rw [f4.i (by unfold fTq; omega), gI_pI_k (by decide), gI_pI_k (by decide), gI_pI_k (by decide), gI_pI_ne (fun z => absurd z.1 (by decide)), gI_pI_s]
  have i13 : gI w1 11 0 13 = nI 0 := by
    rw [f4.i (by unfold fTq; omega), gI_pI_k (by decide), gI_pI_k (by decide), gI_pI_s]
    rfl
  have i19 : gI w1 11 0 19 = nI (onc T00) := by
    rw [f4.i (by unfold fTq; omega), gI_pI_k (by decide), gI_pI_s]
    rfl
  have i02 : gI w1 1202 0 (681 * kk) = nI 0 := by
    rw [f4.i (by unfold fTq; omega), gI_pI_ne (fun z => absurd z.1 (by decide)), gI_pI_ne (fun z => absurd z.1 (by decide)), gI_pI_ne (fun z => absurd z.1 (by decide)), gI_pI_s]
    rfl
  have S0 : TRc B n kk w1 0 T00 0 := ⟨(hT.fr f1 (by omega) (fun c => by omega)).tr f4, k4, i12, i13, i19, ⟨i02, by decide, fun i hi => absurd hi (Nat.not_lt_zero _), fun i hi => absurd hi (Nat.not_lt_zero _), fun i hi => absurd hi (Nat.not_lt_zero _)⟩, hkk⟩
  have F : Fr (fRw kk) v w1 := (f1.mono (fun t c z => by unfold fRw fRt; omega)).trans (f4.mono (fun t c z => by unfold fTq at z; unfold fRw fRt; omega))
  refine hl (d + 17) w1 0 Q none (by omega) S0 (Nat.le_refl _) (fun u x hx => k u x ?_)
  cases Rt with
  | inl g => exact ⟨hx.1, hx.2.1, hx.2.2.1, hx.2.2.2.1, F.trans (hx.2.2.2.2.mono (fun t c z => Or.inl z))⟩
  | inr T => exact ⟨hx.1, hx.2.1, F.trans (hx.2.2.mono (fun t c z => Or.inl z))⟩))
end TX7
