/-! the class reads sums and asks: what it stands at, what its small steps do -/
def Fa (S : Nat → Nat → Nat → Prop) (v u : z_V) : Prop := (∀ t m k, ¬ S t m k → gI u t m k = gI v t m k ∧ gL u t m k = gL v t m k) ∧ gJ u = gJ v
theorem Fa.rfl {S : Nat → Nat → Nat → Prop} {v : z_V} : Fa S v v := ⟨fun _ _ _ _ => ⟨Eq.refl _, Eq.refl _⟩, Eq.refl _⟩
theorem Fa.trans {S : Nat → Nat → Nat → Prop} {u v w : z_V} (h1 : Fa S u v) (h2 : Fa S v w) : Fa S u w := ⟨fun t m k h => ⟨((h2.1 t m k h).1).trans (h1.1 t m k h).1, ((h2.1 t m k h).2).trans (h1.1 t m k h).2⟩, h2.2.trans h1.2⟩
theorem Fa.mono {S S' : Nat → Nat → Nat → Prop} {v w : z_V} (h : Fa S v w) (hs : ∀ t m k, S t m k → S' t m k) : Fa S' v w := ⟨fun t m k q => h.1 t m k (fun z => q (hs t m k z)), h.2⟩
theorem Fa.pI {S : Nat → Nat → Nat → Prop} {u v : z_V} {t m k : Nat} {x : Int32} (h : Fa S u v) (hs : S t m k) : Fa S u (pI v t m k x) := h.trans ⟨fun t' m' k' q => ⟨if_neg (fun e => q (by rw [e.1, e.2.1, e.2.2]; exact hs)), Eq.refl _⟩, Eq.refl _⟩
theorem Fa.i {S : Nat → Nat → Nat → Prop} {v w : z_V} (h : Fa S v w) {t m k : Nat} (hs : ¬ S t m k) : gI w t m k = gI v t m k := (h.1 t m k hs).1
theorem Fa.l {S : Nat → Nat → Nat → Prop} {v w : z_V} (h : Fa S v w) {t m k : Nat} (hs : ¬ S t m k) : gL w t m k = gL v t m k := (h.1 t m k hs).2
theorem Fa.ofR {S : Nat → Nat → Nat → Prop} {T : Nat → Nat → Prop} {v w : z_V} (h : Fr T v w) (hs : ∀ t m k, T t k → S t m k) : Fa S v w := ⟨fun t m k q => h.1 t m k (fun z => q (hs t m k z)), h.2⟩
def fCx (j f : Nat) : Nat → Nat → Nat → Prop := fun t m k => (t = 3 ∧ (k = 7 ∨ k = 8 ∨ k = 9 ∨ k = 10)) ∨ (t = 6 ∧ m = j ∧ k = 4) ∨ (t = 700 ∧ m = j ∧ f ≤ k)
def fCz (j f : Nat) : Nat → Nat → Nat → Prop := fun t m k => fCx j f t m k ∨ (t = 3 ∧ (k = 3 ∨ k = 4))
def fEm (j f : Nat) : Nat → Nat → Nat → Prop := fun t m k => (t = 6 ∧ m = j ∧ k = 4) ∨ (t = 700 ∧ m = j ∧ k = f)
def fWr : Nat → Nat → Prop := fun t k => t = 3 ∧ (k = 3 ∨ k = 4)
def StC (B : Nat → Nat) (n j : Nat) (r : Bool) (v : z_V) (p f : Nat) : Prop := TPc v B n ∧ TkC v B n p ∧ gJ v = j + 1 ∧ gI v 6 j 4 = nI f ∧ gI v 3 0 6 = nI (if r = true then 0 else 1)
def CR (B : Nat → Nat) (n j : Nat) (r : Bool) (f : Nat) (v : z_V) (R : z_Rs) (u : z_V) (x : Int32) : Prop := match R with
  | .inl g => x = 0 ∧ gI u 3 0 3 = nI g.1 ∧ gI u 3 0 4 = nI g.2 ∧ Fa (fCz j f) v u
  | .inr y => x = 1 ∧ StC B n j r u y.2 (f + lC y.1) ∧ rC (gI u 700 j) f y.1 ∧ Fa (fCx j f) v u
def mCk (k : Nat) : Nat := if k = 0 then m_X3_one else if k = 1 then m_X3_product else if k = 3 then m_X3_sum else if k = 5 then m_X3_ask else if k = 6 then m_X3_both else m_X3_either
def CLp (k D : Nat) (Q : z_RT) (dep i : Nat) (v : z_V) : Prop := match k with
  | 2 => ∀ u3, z_Wp (z_C D) 4 k_X3_product Q 12 [some (vR 3 0), some (vI (nI dep)), some (vI (nI i)), u3] [] v
  | 4 => ∀ u3, z_Wp (z_C D) 4 k_X3_sum Q 12 [some (vR 3 0), some (vI (nI dep)), some (vI (nI i)), u3] [] v
  | 7 => z_Wp (z_C D) 4 k_X3_both Q 12 [some (vR 3 0), some (vI (nI dep)), some (vI (nI i))] [] v
  | _ => z_Wp (z_C D) 4 k_X3_either Q 12 [some (vR 3 0), some (vI (nI dep)), some (vI (nI i))] [] v
def CsN (B : Nat → Nat) (n j : Nat) (r : Bool) : z_M := fun k dep p _ R => ∀ D, 8 * (8 - dep) + 5 + lvK k ≤ D → ∀ v f, StC B n j r v p f → f ≤ p → ZI D (mCk k) [vR 3 0, vI (nI dep)] v (CR B n j r f v R)
def CsL (B : Nat → Nat) (n j : Nat) (r : Bool) : z_M := fun k dep p a R => ∀ D, 8 * (8 - dep) + 4 + lvK k ≤ D → ∀ v f i, StC B n j r v p (f + lC a) → rC (gI v 700 j) f a → f + lC a ≤ p → i ≤ p → ∀ Q : z_RT, (∀ u x, CR B n j r f v R u x → Q u (some (vI x))) → CLp k D Q dep i v
def Cs (B : Nat → Nat) (n j : Nat) (r : Bool) : z_M := fun k dep p a R => p ≤ n → dep ≤ 8 → if lpK k = true then CsL B n j r k dep p a R else CsN B n j r k dep p a R
theorem b_0 {x : Int32} {A C : Prop} (h : x = 0) (b : C) : (¬ x = 0 → A) ∧ (x = 0 → C) := ⟨fun z => absurd h z, fun _ => b⟩
theorem b_1 {x : Int32} {A C : Prop} (h : x = 1) (a : A) : (¬ x = 0 → A) ∧ (x = 0 → C) := ⟨fun _ => a, fun z => absurd (h.symm.trans z) (by decide)⟩
theorem b_0' {x : Int32} {A C : Prop} (h : x = 0) (b : C) : (x = 0 → C) ∧ (¬ x = 0 → A) := ⟨fun _ => b, fun z => absurd h z⟩
theorem b_1' {x : Int32} {A C : Prop} (h : x = 1) (a : A) : (x = 0 → C) ∧ (¬ x = 0 → A) := ⟨fun z => absurd (h.symm.trans z) (by decide), fun _ => a⟩
theorem z01_0 {x : Int32} {T : Prop} (h : x = 0) (t : T) : z_if (z_01 x) T := z_if_k (by rw [h]; decide) t
theorem z01_1 {x : Int32} {T : Prop} (h : x = 1) (t : T) : z_if (z_01 x) T := z_if_k (by rw [h]; decide) t
theorem nI_shl6 {w : Nat} : i_shl (nI w) 6 = nI (w * 64) := by
  unfold i_shl
  apply Int32.toBitVec_inj.mp
  rw [Int32.toBitVec_shiftLeft]
  show BitVec.ofNat 32 w <<< (((6 : Int32) &&& 31).toBitVec.smod 32) = BitVec.ofNat 32 (w * 64)
  rw [show (((6 : Int32) &&& 31).toBitVec.smod 32) = 6#32 from by decide +kernel]
  apply BitVec.eq_of_toNat_eq
  simp [BitVec.toNat_shiftLeft, Nat.shiftLeft_eq]
theorem or64 {a b : Nat} (hb : b < 64) : a * 64 ||| b = a * 64 + b := by
  have := Nat.two_pow_add_eq_or_of_lt (i := 6) (b := b) hb a
  rw [Nat.mul_comm a 64]
  exact this.symm
theorem em_64 {w o : Nat} (ho : o < 64) : i_shl (nI w) 6 ||| nI o = nI (w * 64 + o) := by rw [nI_shl6, nI_or, or64 ho]
section RC0
variable {d : Nat} {v : z_V} {B : Nat → Nat} {n j : Nat} {r : Bool} {p f : Nat}
theorem StC.tok (h : StC B n j r v p f) : gI v 3 0 7 = nI (tkC B n p) := h.2.1.1
theorem StC.tp (h : StC B n j r v p f) {u : z_V} (q : Fr fTk v u) (t : TkC u B n (nxT B n p)) : StC B n j r u (nxT B n p) f := ⟨h.1.tp q, t, q.2.trans h.2.2.1, (q.i (by unfold fTk; omega)).trans h.2.2.2.1, (q.i (by unfold fTk; omega)).trans h.2.2.2.2⟩
theorem s_adv (hd : 3 ≤ d) (hp : p ≤ n) (h : StC B n j r v p f) : ZV d m_X3_advance [vR 3 0] v (fun u => StC B n j r u (nxT B n p) f ∧ Fr fTk v u) := by
  obtain ⟨c, rfl⟩ : ∃ c, d = c + 3 := ⟨d - 3, by omega⟩
  intro Q k
  exact s_advance (d := c) h.1 (nx_le hp) h.2.1.2.2.2 Q (fun w hw => k w ⟨h.tp hw.2 hw.1, hw.2⟩)
theorem s_emitX {o w : Nat} (hd : 1 ≤ d) (h : StC B n j r v p f) (hf : f < 300) (ho : o < 64) : ZI d m_X6_emit [vR 6 j, vI (nI o), vI (nI w)] v (fun u x => x = nI f ∧ StC B n j r u p (f + 1) ∧ gI u 700 j f = nI (w * 64 + o) ∧ Fa (fEm j f) v u) := by
  obtain ⟨c, rfl⟩ : ∃ c, d = c + 1 := ⟨d - 1, by omega⟩
  intro Q k
  obtain ⟨h1, h2, h3, h4, h5⟩ := h
  refine E_X6_emit (B_X6_emit_0 ?_)
  rw [h4, n_nI (by omega), em_64 ho, nI_1]
  refine pk_lt f 300 (fun _ => z_ii f rfl hf ?_) (fun z => absurd hf (by omega))
  rw [gI_pI_s, show (1 : Int32) = nI 1 from rfl, pk_sub (by omega), Nat.add_sub_cancel]
  have fa : Fa (fEm j f) v (pI (pI v 700 j f (nI (w * 64 + o))) 6 j 4 (nI (f + 1))) := (Fa.rfl.pI (Or.inr ⟨rfl, rfl, rfl⟩)).pI (Or.inl ⟨rfl, rfl, rfl⟩)
  have n3 : ∀ k, ¬ fEm j f 3 0 k := fun k => by unfold fEm; omega
  refine k _ _ ⟨rfl, ⟨⟨(fa.i (n3 _)).trans h1.1, h1.2.1, fun i hi => ⟨(fa.i (by unfold fEm; omega)).trans (h1.2.2 i hi).1, (h1.2.2 i hi).2⟩⟩, ⟨(fa.i (n3 _)).trans h2.1, fun z => (fa.i (n3 _)).trans (h2.2.1 z), (fa.i (n3 _)).trans h2.2.2.1, (fa.i (n3 _)).trans h2.2.2.2⟩, h3, gI_pI_s, (fa.i (n3 _)).trans h5⟩, ?_, fa⟩
  rw [gI_pI_ne (fun z => absurd z.1 (by decide)), gI_pI_s]
theorem s_wrongX {c : Nat} (hd : 1 ≤ d) (h : StC B n j r v p f) : ZI d m_X3_wrong [vR 3 0, vI (nI c)] v (fun u x => x = 0 ∧ gI u 3 0 3 = nI c ∧ gI u 3 0 4 = nI (frT B n p) ∧ Fr fWr v u) := by
  obtain ⟨e, rfl⟩ : ∃ e, d = e + 1 := ⟨d - 1, by omega⟩
  intro Q k
  refine E_X3_wrong (B_X3_wrong_0 (k _ _ ⟨rfl, ?_, ?_, (Fr.rfl.pI ⟨rfl, by decide⟩).pI ⟨rfl, by decide⟩⟩))
  · rw [gI_pI_k (by decide), gI_pI_s]
  · rw [gI_pI_s, h.2.1.2.2.1]
theorem s_expectX {c : Nat} (hc : c ≤ 40) (hd : 4 ≤ d) (hp : p ≤ n) (h : StC B n j r v p f) : ZI d m_X3_expect [vR 3 0, vI (nI c)] v (fun u x => (tkC B n p = c ∧ x = 1 ∧ StC B n j r u (nxT B n p) f ∧ Fr fTk v u) ∨ (tkC B n p ≠ c ∧ x = 0 ∧ gI u 3 0 3 = nI 1 ∧ gI u 3 0 4 = nI (frT B n p) ∧ Fr fWr v u)) := by
  obtain ⟨e, rfl⟩ : ∃ e, d = e + 1 := ⟨d - 1, by omega⟩
  intro Q k
  have := tk_42 (B := B) (n := n) (p := p)
  refine E_X3_expect (B_X3_expect_0 ?_)
  rw [h.tok]
  refine pk_eq (tkC B n p) c (fun z => cV (s_adv (d := e) (by omega) hp h) (fun w hw => k _ _ (Or.inl ⟨z, rfl, hw⟩))) (fun z => cI (s_wrongX (c := 1) (d := e) (by omega) h) (fun w x hw => z01_0 hw.1 (k _ _ (Or.inr ⟨z, hw⟩))))
theorem fTk_Cx {u : z_V} {g : Nat} (h : Fr fTk v u) : Fa (fCx j g) v u := Fa.ofR h (fun t m k q => by unfold fTk at q; unfold fCx; omega)
theorem fWr_Cx {u : z_V} {g : Nat} (h : Fr fWr v u) : Fa (fCz j g) v u := Fa.ofR h (fun t m k q => Or.inr q)
theorem fCx_z {u : z_V} {g : Nat} (h : Fa (fCx j g) v u) : Fa (fCz j g) v u := h.mono (fun t m k q => Or.inl q)
theorem fEm_Cx {u : z_V} {g f : Nat} (h : Fa (fEm j f) v u) (hg : g ≤ f) : Fa (fCx j g) v u := h.mono (fun t m k q => by unfold fEm at q; unfold fCx; omega)
theorem fCx_up {u : z_V} {g f : Nat} (h : Fa (fCx j f) v u) (hg : g ≤ f) : Fa (fCx j g) v u := h.mono (fun t m k q => by unfold fCx at q ⊢; omega)
theorem fCz_up {u : z_V} {g f : Nat} (h : Fa (fCz j f) v u) (hg : g ≤ f) : Fa (fCz j g) v u := h.mono (fun t m k q => by unfold fCz fCx at q ⊢; omega)
theorem CR.up {v1 u : z_V} {f g : Nat} {R : z_Rs} {x : Int32} (h : CR B n j r f v1 R u x) (q : Fa (fCx j f) v v1) : CR B n j r f v R u x := by
  cases R with
  | inl g => exact ⟨h.1, h.2.1, h.2.2.1, (fCx_z q).trans h.2.2.2⟩
  | inr y => exact ⟨h.1, h.2.1, h.2.2.1, q.trans h.2.2.2⟩
theorem CR.flt {v1 u : z_V} {f g : Nat} {e : Nat × Nat} {x : Int32} (h : CR B n j r g v1 (.inl e) u x) (q : Fa (fCx j f) v v1) (hg : f ≤ g) : x = 0 ∧ CR B n j r f v (.inl e) u 0 := ⟨h.1, rfl, h.2.1, h.2.2.1, (fCx_z q).trans (fCz_up h.2.2.2 hg)⟩
theorem CR.ok {v1 u : z_V} {g q : Nat} {e : z_X} {x : Int32} (h : CR B n j r g v1 (.inr (e, q)) u x) : x = 1 ∧ StC B n j r u q (g + lC e) ∧ rC (gI u 700 j) g e ∧ Fa (fCx j g) v1 u := h
theorem rC_fr {u : z_V} {e : z_X} {f : Nat} {S : Nat → Nat → Nat → Prop} (h : rC (gI v 700 j) f e) (q : Fa S v u) (hs : ∀ i, f ≤ i → i < f + lC e → ¬ S 700 j i) : rC (gI u 700 j) f e := rC_cong (fun i h1 h2 => q.i (hs i h1 h2)) h
theorem rC_tk {u : z_V} {e : z_X} {f : Nat} (h : rC (gI v 700 j) f e) (q : Fr fTk v u) : rC (gI u 700 j) f e := rC_cong (fun i _ _ => q.i (by unfold fTk; omega)) h
theorem rC_em {u : z_V} {e : z_X} {f g : Nat} (h : rC (gI v 700 j) f e) (q : Fa (fEm j g) v u) (hg : f + lC e ≤ g) : rC (gI u 700 j) f e := rC_fr h q (fun i h1 h2 => by unfold fEm; omega)
theorem rC_cx {u : z_V} {e : z_X} {f g : Nat} (h : rC (gI v 700 j) f e) (q : Fa (fCx j g) v u) (hg : f + lC e ≤ g) : rC (gI u 700 j) f e := rC_fr h q (fun i h1 h2 => by unfold fCx; omega)
theorem oC_fo : ∀ c, c < 38 → (c = 24 ∨ c = 25 ∨ 34 ≤ c) → oC (foR c) = c := by decide +kernel
theorem rC_b {g : Nat → Int32} {o f : Nat} {a b : z_X} (h1 : un o = false) (h2 : o ≠ 30) (h3 : o ≠ 3) (ha : rC g f a) (hb : rC g (f + lC a) b) (hc : g (f + lC a + lC b) = nI (oC o)) : rC g f (.branch o a b) := by
  simp only [rC]
  rw [if_neg h3, if_neg h2, h1, if_neg (by decide)]
  exact ⟨ha, hb, hc⟩
theorem rC_u {g : Nat → Int32} {o f : Nat} {a b : z_X} (h1 : un o = true) (h2 : o ≠ 30) (h3 : o ≠ 3) (ha : rC g f a) (hc : g (f + lC a) = nI (oC o)) : rC g f (.branch o a b) := by
  simp only [rC]
  rw [if_neg h3, if_neg h2, h1, if_pos rfl]
  exact ⟨ha, hc⟩
end RC0
