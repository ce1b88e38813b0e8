/-! the reference reads sums and asks: operands begun, in the loop -/
section RR5
variable {d : Nat} {B : Nat → Nat} {n kk : Nat} {r : Bool} {p iw w : Nat} {X : List Nat} {u : z_V}
theorem s_isOfR {j : Nat} (h : StR B n kk r u p iw X w) (hj : j < 10) (hd : 1 ≤ d) : ZP d m_X11_isOf [vR 11 0, vI (nI j)] u (bI (nmO r (j + 8))) := by
  obtain ⟨e, rfl⟩ : ∃ e, d = e + 1 := ⟨d - 1, by omega⟩
  intro Q k
  have h14 := h.2.2.2.1
  refine E_X11_isOf (B_X11_isOf_0 ?_)
  rw [h14]
  have t : nmO r (j + 8) = true → Q u (some (vI 1)) := fun e => by rw [e] at k; exact k
  have f : nmO r (j + 8) = false → Q u (some (vI 0)) := fun e => by rw [e] at k; exact k
  unfold nmO at t f
  refine pk_lt j 4 (fun z => t (by rw [decide_eq_true (by omega)]; rfl)) (fun z => ?_)
  have d1 : decide (j + 8 < 12) = false := decide_eq_false (by omega)
  rw [d1] at t f
  cases r with
  | true =>
    rw [if_pos rfl]
    refine pk_le 7 j (fun z => ?_) (fun z => ?_)
    · exact ⟨fun _ => f (by rw [decide_eq_false (by omega)]; rfl), fun y => absurd y (by decide)⟩
    · exact ⟨fun y => absurd rfl y, fun _ => t (by rw [decide_eq_true (by omega)]; rfl)⟩
  | false =>
    rw [if_neg (by decide)]
    refine pk_le 7 j (fun z => ?_) (fun z => ?_)
    · exact ⟨fun y => absurd rfl y, fun _ => t (by rw [decide_eq_false (by omega)]; rfl)⟩
    · exact ⟨fun _ => f (by rw [decide_eq_true (by omega)]; rfl), fun y => absurd y (by decide)⟩
theorem beg65 {Q : z_RT} {vs : List Nat} {a b : Nat} {x1 : Int32} (h : StR B n kk r u p 0 (vs ++ X) w) (hx : if tkC B n p = 27 then gI u 11 0 10 = nI b else x1 = nI b) (hvs : ∀ x, x ∈ vs → 7 ≤ rkR x) (ht : tpP X < 7) (hw : w + 1 + vs.length ≤ 300) (hp : p ≤ n) (hd : 3 ≤ d) (k : ∀ u', StR B n kk r u' (nxT B n p) 1 X (w + 1 + vs.length) → gC kk u' w = (nI a, nI b) → cls kk (w + 1) vs u' → Fr (fSu kk w) u u' → Q u' (some (vI 0))) : z_Wp (z_C d) 1 k_X11_beginOne Q 65 [some (vR 11 0), some (vI x1)] [vI (nI a), vR 11 0] u := by
  obtain ⟨t, t1, t2, t3, t4, t5, t6⟩ := h.t9
  have h' := h
  obtain ⟨a1, a2, a3, a4, a5, a6, a7, a8, a9, a10⟩ := h
  have go : z_C d m_X11_emit [vR 11 0, vI (nI a), vI (nI b)] u (fun w1 o2 => o2 = none ∧ z_C d m_X11_nextToken [vR 11 0] w1 (fun w3 o4 => o4 = none ∧ z_C d m_X11_settle [vR 11 0, vI 7] (pI w3 11 0 18 1) (fun w5 o6 => o6 = none ∧ Q w5 (some (vI 0))))) := by
    refine cV (s_emitR (d := d) (kk := kk) (w := w) a10 a3 a5 (by omega) (by omega)) (fun w1 h1 => ?_)
    obtain ⟨y1, y2, y3⟩ := h1
    have S1 : StR B n kk r w1 p 0 (vs ++ X) (w + 1) := h'.re y3 (fun k q => by unfold fEr at q; omega) (fun k q => by unfold fEr at q; omega) y1 ((y3.i (by unfold fEr; omega)).trans a6) ⟨(y3.i (by unfold fEr; omega)).trans a7.1, a7.2.1.fr (fun i hi => y3.i (by unfold fEr; omega)), a7.2.2⟩ ((y3.i (by unfold fEr; omega)).trans a8) a9
    refine cV (s_nextR hp (d := d) (by omega) S1) (fun w3 h3 => ?_)
    have S3 := h3.1
    obtain ⟨x1, x2, x3, x4, x5, x6, x7, x8, x9, x10⟩ := h3.1
    have f : Fr (fun t k => t = 11 ∧ k = 18) w3 (pI w3 11 0 18 1) := Fr.rfl.pI ⟨rfl, rfl⟩
    have S4 : StR B n kk r (pI w3 11 0 18 1) (nxT B n p) 1 (vs ++ X) (w + 1) := S3.re f (fun k q => by omega) (fun k q => by omega) ((f.i (by omega)).trans x5) gI_pI_s ⟨(f.i (by omega)).trans x7.1, x7.2.1.fr (fun i hi => f.i (by omega)), x7.2.2⟩ ((f.i (by omega)).trans x8) x9
    refine cV (s_settle (s := 7) (us := vs) (X := X) (d := d) (by decide) (by decide) (by omega) S4 hvs ht hw) (fun w5 h5 => k _ h5.1 ?_ h5.2.1 ?_)
    · rw [gC_st h5.2.2 (Nat.lt_succ_self _), gC_no f (fun k => by omega), gC_no h3.2 (fun k => by unfold fTq; omega), y2]
    · exact (((fEr_su y3 (Nat.le_refl _)).trans (fTq_su h3.2)).trans (f.mono (fun t k q => by unfold fSu; omega))).trans (fSt_su h5.2.2 (by omega))
  refine B_X11_beginOne_65 ?_
  rw [t1]
  refine pk_ne t 1 (fun z => ?_) (fun z => ?_)
  · rw [if_neg (fun y => z (t3.mpr y))] at hx
    rw [hx]
    exact go
  · rw [if_pos (t3.mp z)] at hx
    rw [hx]
    exact go
theorem nmR_no {c : Nat} (h : ¬ (8 ≤ c ∧ c ≤ 17)) : nmR c = -1 := if_neg h
theorem s_beg {Q : z_RT} (h : StR B n kk r u p 0 X w) (hd : 8 ≤ d) (h1 : tkC B n p = 27 → tkV B n p ≤ 9999 → gI u 11 0 10 = nI (tkV B n p) → z_Wp (z_C (d - 1)) 1 k_X11_beginOne Q 65 [some (vR 11 0), some (vI (-1))] [vI (nI 0), vR 11 0] u) (h2 : tkC B n p = 27 → 9999 < tkV B n p → Q u (some (vI 2))) (h3 : 8 ≤ tkC B n p → tkC B n p ≤ 17 → nmO r (tkC B n p) = true → z_Wp (z_C (d - 1)) 1 k_X11_beginOne Q 65 [some (vR 11 0), some (vI (nI (tkC B n p - 8)))] [vI (nI 1), vR 11 0] u) (h4 : 8 ≤ tkC B n p → tkC B n p ≤ 17 → nmO r (tkC B n p) = false → Q u (some (vI 5))) (h5 : tkC B n p ≠ 27 → ¬ (8 ≤ tkC B n p ∧ tkC B n p ≤ 17) → (opR (tkC B n p) = true ∨ (tkC B n p = 26 ∧ askA X = true)) → z_C (d - 1) m_X11_opened [vR 11 0, vI (nI (opO (tkC B n p)))] u (fun w o => ∃ i : Int32, o = some (vI i) ∧ Q w (some (vI i)))) (h6 : tkC B n p ≠ 27 → ¬ (8 ≤ tkC B n p ∧ tkC B n p ≤ 17) → ¬ (opR (tkC B n p) = true ∨ (tkC B n p = 26 ∧ askA X = true)) → Q u (some (vI 1))) : z_C d m_X11_beginOne [vR 11 0] u Q := by
  obtain ⟨e, rfl⟩ : ∃ e, d = e + 1 := ⟨d - 1, by omega⟩
  rw [Nat.add_sub_cancel] at h1 h3 h5
  have h42 := tk_42 (B := B) (n := n) (p := p)
  obtain ⟨t, t1, t2, t3, t4, t5, t6⟩ := h.t9
  refine E_X11_beginOne (B_X11_beginOne_0 ?_)
  refine pk_ne t 1 (fun z => cP (s_nameOfT h.rt h42 (d := e) (by omega)) ?_) (fun z => ?_) t1 rfl
  · have n27 : tkC B n p ≠ 27 := fun y => z (t3.mpr y)
    by_cases g : 8 ≤ tkC B n p ∧ tkC B n p ≤ 17
    · have eN : nmR (tkC B n p) = nI (tkC B n p - 8) := if_pos g
      rw [eN]
      refine ⟨fun z => absurd z (nI_pos (by omega)), fun _ => cP (s_isOfR h (j := tkC B n p - 8) (by omega) (d := e) (by omega)) ?_⟩
      rw [show tkC B n p - 8 + 8 = tkC B n p by omega]
      refine br_n (fun y => B_X11_beginOne_39 ?_) (fun y => h4 g.1 g.2 y)
      rw [t1]
      refine pk_eq t 1 (fun q => absurd q z) (fun q => ⟨fun q => absurd q (nI_pos (by omega)), fun _ => pk_ne t 1 (fun _ => h3 g.1 g.2 y) (fun q => absurd q z)⟩)
    · rw [nmR_no g]
      exact ⟨fun _ => beg39 h n27 (by omega) (h5 n27 g) (h6 n27 g), fun z => absurd (show (-1 : Int32) < 0 by decide) z⟩
  · have e27 := t3.mp z
    obtain ⟨_, y, y1, y2, y3⟩ := h.rt.2.1 e27
    rw [y2]
    refine pk_le y 9999 (fun g => cP (s_nameOfT h.rt h42 (d := e) (by omega)) ?_) (fun g => h2 e27 (by omega))
    rw [e27, nmR_no (by decide)]
    have g2 := h1 e27 (by omega) (by rw [y2, y3, show min 10000 y = y by omega])
    refine ⟨fun _ => B_X11_beginOne_39 ?_, fun z => absurd (show (-1 : Int32) < 0 by decide) z⟩
    rw [t1]
    exact pk_eq t 1 (fun q => ⟨fun z => absurd (by rw [q]; rfl) z, fun _ => g2⟩) (fun q => absurd z q)
theorem sm_beg {Q : z_RT} (h : StR B n kk r u p 0 X w) (k : ∀ Q' : z_RT, (∀ w1, SMQ d Q w1 → Q' w1 (some (vI 0))) → (∀ w1 i, i ≠ 0 → Q w1 (some (vI i)) → Q' w1 (some (vI i))) → z_C d m_X11_beginOne [vR 11 0] u Q') : SMQ d Q u := fun u1 => by
  refine B_X11_summed_15 ?_
  rw [h.iw1]
  exact ⟨fun _ => k _ (fun w1 hh => ⟨0, rfl, fun _ => hh _, fun z => absurd rfl z⟩) (fun w1 i hi hh => ⟨i, rfl, fun z => absurd z hi, fun _ => hh⟩), fun z => absurd rfl z⟩
theorem sm_leaf {Q : z_RT} {vs : List Nat} {a b : Nat} (h : StR B n kk r u p 0 (vs ++ X) w) (hlf : (tkC B n p = 27 ∧ tkV B n p ≤ 9999 ∧ a = 0 ∧ b = tkV B n p) ∨ (8 ≤ tkC B n p ∧ tkC B n p ≤ 17 ∧ nmO r (tkC B n p) = true ∧ a = 1 ∧ b = tkC B n p - 8)) (hvs : ∀ x, x ∈ vs → 7 ≤ rkR x) (ht : tpP X < 7) (hw : w + 1 + vs.length ≤ 300) (hp : p ≤ n) (hd : 8 ≤ d) (k : ∀ u', StR B n kk r u' (nxT B n p) 1 X (w + 1 + vs.length) → gC kk u' w = (nI a, nI b) → cls kk (w + 1) vs u' → Fr (fSu kk w) u u' → SMQ d Q u') : SMQ d Q u := sm_beg h (fun Q' k0 k1 => by
  rcases hlf with ⟨c1, c2, rfl, rfl⟩ | ⟨c1, c2, c3, rfl, rfl⟩
  · refine s_beg h hd (fun _ _ g => ?_) (fun _ z => absurd c2 (by omega)) (fun z _ _ => by omega) (fun z _ _ => by omega) (fun z _ _ => absurd c1 z) (fun z _ _ => absurd c1 z)
    exact beg65 h (by rw [if_pos c1]; exact g) hvs ht hw hp (by omega) (fun u' e1 e2 e3 e4 => k0 _ (k u' e1 e2 e3 e4))
  · refine s_beg h hd (fun z _ _ => by omega) (fun z _ => by omega) (fun _ _ _ => ?_) (fun _ _ z => by rw [c3] at z; cases z) (fun _ z _ => absurd ⟨c1, c2⟩ z) (fun _ z _ => absurd ⟨c1, c2⟩ z)
    exact beg65 h (by rw [if_neg (by omega)]) hvs ht hw hp (by omega) (fun u' e1 e2 e3 e4 => k0 _ (k u' e1 e2 e3 e4)))
theorem sm_num2 {Q : z_RT} (h : StR B n kk r u p 0 X w) (c1 : tkC B n p = 27) (c2 : 9999 < tkV B n p) (hd : 8 ≤ d) (k : Q u (some (vI 2))) : SMQ d Q u := sm_beg h (fun Q' k0 k1 => s_beg h hd (fun _ z _ => by omega) (fun _ _ => k1 _ _ (by decide) k) (fun z _ _ => by omega) (fun z _ _ => by omega) (fun z _ _ => absurd c1 z) (fun z _ _ => absurd c1 z))
theorem sm_name5 {Q : z_RT} (h : StR B n kk r u p 0 X w) (c1 : 8 ≤ tkC B n p) (c2 : tkC B n p ≤ 17) (c3 : nmO r (tkC B n p) = false) (hd : 8 ≤ d) (k : Q u (some (vI 5))) : SMQ d Q u := sm_beg h (fun Q' k0 k1 => s_beg h hd (fun z _ _ => by omega) (fun z _ => by omega) (fun _ _ z => by rw [c3] at z; cases z) (fun _ _ _ => k1 _ _ (by decide) k) (fun _ z _ => absurd ⟨c1, c2⟩ z) (fun _ z _ => absurd ⟨c1, c2⟩ z))
theorem sm_cant {Q : z_RT} (h : StR B n kk r u p 0 X w) (c1 : tkC B n p ≠ 27) (c2 : ¬ (8 ≤ tkC B n p ∧ tkC B n p ≤ 17)) (c3 : opR (tkC B n p) = false) (c4 : tkC B n p = 26 → askA X = false) (hd : 8 ≤ d) (k : Q u (some (vI 1))) : SMQ d Q u := sm_beg h (fun Q' k0 k1 => s_beg h hd (fun z _ _ => absurd z c1) (fun z _ => absurd z c1) (fun y z _ => absurd ⟨y, z⟩ c2) (fun y z _ => absurd ⟨y, z⟩ c2) (fun _ _ z => by
  exfalso
  rcases z with z | z
  · rw [c3] at z; cases z
  · rw [c4 z.1] at z; cases z.2) (fun _ _ _ => k1 _ _ (by decide) k))
theorem opO_O {c : Nat} (h : opR c = true ∨ c = 26) : isO (opO c) = 1 ∧ opO c < 44 := by
  rcases h with h | h
  · rcases opR_in h with h | h | h | h | h <;> subst h <;> decide
  · subst h; decide
theorem sm_open {Q : z_RT} (h : StR B n kk r u p 0 X w) (hc : opR (tkC B n p) = true ∨ (tkC B n p = 26 ∧ askA X = true)) (hX : X.length + 1 ≤ 100) (hp : p ≤ n) (hd : 8 ≤ d) (k : opN X < 8 → ∀ u', StR B n kk r u' (nxT B n p) 0 (opO (tkC B n p) :: X) w → Fr (fSu kk w) u u' → SMQ d Q u') (k3 : opN X = 8 → Q u (some (vI 3))) : SMQ d Q u := sm_beg h (fun Q' k0 k1 => by
  have hcc : tkC B n p ≠ 27 ∧ ¬ (8 ≤ tkC B n p ∧ tkC B n p ≤ 17) := by
    rcases hc with z | z
    · have := opR_in z
      omega
    · omega
  have hO := opO_O (c := tkC B n p) (hc.elim Or.inl (fun z => Or.inr z.1))
  refine s_beg h hd (fun z _ _ => absurd z hcc.1) (fun z _ => absurd z hcc.1) (fun y z _ => absurd ⟨y, z⟩ hcc.2) (fun y z _ => absurd ⟨y, z⟩ hcc.2) (fun _ _ _ => cI (s_opened h hO.1 hO.2 hX hp (d := d - 1) (by omega)) (fun w1 x h1 => ?_)) (fun _ _ z => absurd hc z)
  rcases h1 with ⟨y1, rfl, y3, y4⟩ | ⟨y1, rfl, rfl⟩
  · exact k0 _ (k y1 _ y3 y4)
  · exact k1 _ _ (by decide) (k3 y1))
end RR5
