/-! the class reads sums and asks: one operand -/
theorem vlT_le {B : Nat → Nat} (j : Nat) : ∀ q x : Nat, x ≤ 10000 → vlT B x q j ≤ 10000 := by
  induction j with
  | zero => exact fun q x h => h
  | succ j ih => exact fun q x h => ih _ _ (by omega)
theorem tkV_le {B : Nat → Nat} {n p : Nat} : tkV B n p ≤ 10000 := vlT_le _ _ _ (Nat.zero_le _)
theorem nst5 {c : Nat} (hc : c ≤ 42) {A W : Prop} (a : opR c = true → A) (w : opR c = false → W) : ((nI c = 38 → A) ∧ (¬ nI c = 38 → ((nI c = 18 → A) ∧ (¬ nI c = 18 → ((nI c = 19 → A) ∧ (¬ nI c = 19 → ((nI c = 20 → A) ∧ (¬ nI c = 20 → ((¬ nI c = 35 → W) ∧ (nI c = 35 → A)))))))))) :=
  pk_eq c 38 (fun e => a (by rw [e]; rfl)) (fun n1 => pk_eq c 18 (fun e => a (by rw [e]; rfl)) (fun n2 => pk_eq c 19 (fun e => a (by rw [e]; rfl)) (fun n3 => pk_eq c 20 (fun e => a (by rw [e]; rfl)) (fun n4 => pk_ne c 35 (fun n5 => w (by
    unfold opR
    simp only [beq_eq_false_iff_ne, Bool.or_eq_false_iff]
    exact ⟨n1, n2, n3, n4, n5⟩)) (fun e => a (by rw [e]; rfl))))))
theorem opR_in {c : Nat} (h : opR c = true) : c = 38 ∨ c = 18 ∨ c = 19 ∨ c = 20 ∨ c = 35 := by
  unfold opR at h
  simp only [Bool.or_eq_true, beq_iff_eq] at h
  exact h
theorem b_x {x : Int32} {P : Int32 → Prop} (h : x = 0 ∨ x = 1) (k : P x) : (x = 0 → P 0) ∧ (¬ x = 0 → P 1) := by
  rcases h with rfl | rfl
  · exact ⟨fun _ => k, fun z => absurd rfl z⟩
  · exact ⟨fun z => absurd z (by decide), fun _ => k⟩
section RC1
variable {d : Nat} {v : z_V} {B : Nat → Nat} {n j : Nat} {r : Bool} {M : z_M} {p f dep : Nat} {a : z_X} {R R' : z_Rs}
theorem CR.x01 {u : z_V} {x : Int32} (h : CR B n j r f v R u x) : x = 0 ∨ x = 1 := by
  cases R with
  | inl g => exact Or.inl h.1
  | inr y => exact Or.inr h.1
theorem z01_x {x : Int32} {T : Prop} (h : x = 0 ∨ x = 1) (t : T) : z_if (z_01 x) T := by
  rcases h with h | h
  · exact z01_0 h t
  · exact z01_1 h t
theorem cs_n {k : Nat} (hk : lpK k = false) (h : p ≤ n → dep ≤ 8 → CsN B n j r k dep p a R) : Cs B n j r k dep p a R := fun hp hd => by
  rw [hk, if_neg (by decide)]
  exact h hp hd
theorem Cs.nn {k : Nat} (h : Cs B n j r k dep p a R) (hk : lpK k = false) (hp : p ≤ n) (hd : dep ≤ 8) : CsN B n j r k dep p a R := by
  have := h hp hd
  rw [hk, if_neg (by decide)] at this
  exact this
theorem cs_l {k : Nat} (hk : lpK k = true) (h : p ≤ n → dep ≤ 8 → CsL B n j r k dep p a R) : Cs B n j r k dep p a R := fun hp hd => by
  rw [hk, if_pos rfl]
  exact h hp hd
theorem Cs.ll {k : Nat} (h : Cs B n j r k dep p a R) (hk : lpK k = true) (hp : p ≤ n) (hd : dep ≤ 8) : CsL B n j r k dep p a R := by
  have := h hp hd
  rw [hk, if_pos rfl] at this
  exact this
theorem CR_ex {w3 w5 : z_V} {x5 : Int32} {c q : Nat} {e : z_X} (h1 : StC B n j r w3 q (f + lC e)) (h2 : rC (gI w3 700 j) f e) (h3 : Fa (fCx j f) v w3) (h5 : (tkC B n q = c ∧ x5 = 1 ∧ StC B n j r w5 (nxT B n q) (f + lC e) ∧ Fr fTk w3 w5) ∨ (tkC B n q ≠ c ∧ x5 = 0 ∧ gI w5 3 0 3 = nI 1 ∧ gI w5 3 0 4 = nI (frT B n q) ∧ Fr fWr w3 w5)) : CR B n j r f v (exT B n c e q) w5 x5 := by
  unfold exT
  rcases h5 with ⟨z, z1, z2, z3⟩ | ⟨z, z1, z2, z3, z4⟩
  · rw [if_pos z]
    exact ⟨z1, z2, rC_tk h2 z3, h3.trans (fTk_Cx z3)⟩
  · rw [if_neg z]
    exact ⟨z1, z2, z3, (fCx_z h3).trans (fWr_Cx z4)⟩
theorem cs_num (h : tkC B n p = 27) : Cs B n j r 0 dep p a (if tkV B n p ≤ 9999 then .inr (.leaf (0, tkV B n p), nxT B n p) else .inl (2, frT B n p)) := cs_n rfl (fun hp hd D hD v f hS hf Q k => by
  obtain ⟨d, rfl⟩ : ∃ d, D = d + 1 := ⟨D - 1, by omega⟩
  have g := nx_gt (B := B) hp (by omega)
  have gn := nx_le (B := B) hp
  have hn := hS.1.2.1
  have ht := tkV_le (B := B) (n := n) (p := p)
  refine E_X3_one (B_X3_one_0 ?_)
  rw [hS.tok, h, hS.2.1.2.1 h]
  refine ⟨fun z => absurd rfl z, fun _ => pk_le (tkV B n p) 9999 (fun z => ⟨j, hS.2.2.1, ?_⟩) (fun z => ?_)⟩
  · rw [if_pos z] at k
    refine cI (s_emitX (o := 27) (w := tkV B n p) (d := d) (by omega) hS (by omega) (by decide)) (fun w x hw => ?_)
    obtain ⟨_, hS2, hc, hF⟩ := hw
    refine cV (s_adv (d := d) (by omega) hp hS2) (fun w2 hw2 => k _ _ ⟨rfl, hw2.1, ?_, (fEm_Cx hF (Nat.le_refl _)).trans (fTk_Cx hw2.2)⟩)
    show gI w2 700 j f = nI (tkV B n p * 64 + 27)
    rw [hw2.2.i (by unfold fTk; omega), hc]
  · rw [if_neg (by omega)] at k
    exact cI (s_wrongX (c := 2) (d := d) (by omega) hS) (fun w x hw => z01_0 hw.1 (k _ _ ⟨hw.1, hw.2.1, hw.2.2.1, fWr_Cx hw.2.2.2⟩)))
theorem s_isOfLaw {c : Nat} (hc : c ≤ 42) (hd : 1 ≤ d) (hS : StC B n j r v p f) : ZP d m_X3_isOfLaw [vR 3 0, vI (nI c)] v (bI (nmO r c)) := by
  obtain ⟨e, rfl⟩ : ∃ e, d = e + 1 := ⟨d - 1, by omega⟩
  intro Q k
  refine E_X3_isOfLaw (B_X3_isOfLaw_0 ?_)
  rw [hS.2.2.2.2]
  have t : nmO r c = true → Q v (some (vI 1)) := fun e => by rw [e] at k; exact k
  have f : nmO r c = false → Q v (some (vI 0)) := fun e => by rw [e] at k; exact k
  unfold nmO at t f
  refine pk_le c 11 (fun z => t (by rw [decide_eq_true (by omega)]; rfl)) (fun z => ?_)
  have d1 : decide (c < 12) = false := decide_eq_false (by omega)
  rw [d1] at t f
  cases r with
  | true =>
    rw [if_pos rfl]
    refine pk_lt 14 c (fun z => ?_) (fun z => ?_)
    · exact ⟨fun y => absurd rfl y, fun _ => ⟨fun _ => f (by rw [decide_eq_false (by omega)]; rfl), fun y => absurd y (by decide)⟩⟩
    · exact ⟨fun y => absurd rfl y, fun _ => ⟨fun y => absurd rfl y, fun _ => t (by rw [decide_eq_true (by omega)]; rfl)⟩⟩
  | false =>
    rw [if_neg (by decide)]
    refine pk_lt 14 c (fun z => ?_) (fun z => ?_)
    · exact ⟨fun _ => ⟨fun y => absurd rfl y, fun _ => t (by rw [decide_eq_false (by omega)]; rfl)⟩, fun y => absurd y (by decide)⟩
    · exact ⟨fun _ => ⟨fun _ => f (by rw [decide_eq_true (by omega)]; rfl), fun y => absurd y (by decide)⟩, fun y => absurd y (by decide)⟩
theorem cs_name (h : 8 ≤ tkC B n p) (h2 : tkC B n p ≤ 17) : Cs B n j r 0 dep p a (if nmO r (tkC B n p) = true then .inr (.leaf (1, tkC B n p - 8), nxT B n p) else .inl (5, frT B n p)) := cs_n rfl (fun hp hd D hD v f hS hf Q k => by
  obtain ⟨d, rfl⟩ : ∃ d, D = d + 1 := ⟨D - 1, by omega⟩
  have g := nx_gt (B := B) hp (by omega)
  have gn := nx_le (B := B) hp
  have hn := hS.1.2.1
  refine E_X3_one (B_X3_one_0 ?_)
  rw [hS.tok]
  refine pk_ne (tkC B n p) 27 (fun _ => pk_lt (tkC B n p) 8 (fun z => absurd z (by omega)) (fun _ => pk_lt 17 (tkC B n p) (fun z => absurd z (by omega)) (fun _ => cP (s_isOfLaw (d := d) (by omega) (by omega) hS) (br_n (fun z => ⟨j, hS.2.2.1, ?_⟩) (fun z => ?_))))) (fun z => absurd z (by omega))
  · rw [if_pos z] at k
    refine cI (s_emitX (o := tkC B n p) (w := 0) (d := d) (by omega) hS (by omega) (by omega)) (fun w x hw => ?_)
    obtain ⟨_, hS2, hc, hF⟩ := hw
    refine cV (s_adv (d := d) (by omega) hp hS2) (fun w2 hw2 => k _ _ ⟨rfl, hw2.1, ?_, (fEm_Cx hF (Nat.le_refl _)).trans (fTk_Cx hw2.2)⟩)
    show gI w2 700 j f = nI (tkC B n p - 8 + 8)
    rw [hw2.2.i (by unfold fTk; omega), hc, show 0 * 64 + tkC B n p = tkC B n p - 8 + 8 by omega]
  · rw [z, if_neg (by decide)] at k
    exact cI (s_wrongX (c := 5) (d := d) (by omega) hS) (fun w x hw => z01_0 hw.1 (k _ _ ⟨hw.1, hw.2.1, hw.2.2.1, fWr_Cx hw.2.2.2⟩)))
theorem cs_cant (h1 : ¬ tkC B n p = 27) (h2 : ¬ (8 ≤ tkC B n p ∧ tkC B n p ≤ 17)) (h3 : opR (tkC B n p) = false) : Cs B n j r 0 dep p a (.inl (1, frT B n p)) := cs_n rfl (fun hp hd D hD v f hS hf Q k => by
  obtain ⟨d, rfl⟩ : ∃ d, D = d + 1 := ⟨D - 1, by omega⟩
  have t42 := tk_42 (B := B) (n := n) (p := p)
  refine E_X3_one (B_X3_one_0 ?_)
  rw [hS.tok]
  have fin : ∀ {o : Prop}, opR (tkC B n p) = true → o := fun z => by rw [h3] at z; cases z
  refine pk_ne (tkC B n p) 27 (fun _ => pk_lt (tkC B n p) 8 (fun z => nst5 t42 fin (fun _ => ?_)) (fun y => pk_lt 17 (tkC B n p) (fun z => nst5 t42 fin (fun _ => ?_)) (fun z => absurd h2 (by omega)))) (fun z => absurd z h1)
  all_goals exact cI (s_wrongX (c := 1) (d := d) (by omega) hS) (fun w x hw => z01_0 hw.1 (k _ _ ⟨hw.1, hw.2.1, hw.2.2.1, fWr_Cx hw.2.2.2⟩)))
theorem one_nst (h : opR (tkC B n p) = true) (hS : StC B n j r v p f) (hN : ZI d m_X3_nested [vR 3 0, vI (nI (tkC B n p)), vI (nI (dep + 1))] v (CR B n j r f v R)) : ZI (d + 1) m_X3_one [vR 3 0, vI (nI dep)] v (CR B n j r f v R) := fun Q k => by
  have t42 := tk_42 (B := B) (n := n) (p := p)
  have hi := opR_in h
  refine E_X3_one (B_X3_one_0 ?_)
  rw [hS.tok]
  have go : z_Wp (z_C d) 4 k_X3_one Q 118 [some (vR 3 0), some (vI (nI dep)), some (vI (nI (tkC B n p)))] [] v := by
    refine B_X3_one_118 ?_
    rw [nI_1]
    exact cI hN (fun w x hw => z01_x hw.x01 (k _ _ hw))
  have no : ∀ {o : Prop}, opR (tkC B n p) = false → o := fun z => by rw [h] at z; cases z
  exact pk_ne (tkC B n p) 27 (fun _ => pk_lt (tkC B n p) 8 (fun z => absurd z (by omega)) (fun y => pk_lt 17 (tkC B n p) (fun z => nst5 t42 (fun _ => go) no) (fun z => absurd z (by omega)))) (fun z => absurd z (by omega))
theorem cs_deep (h : opR (tkC B n p) = true) (h8 : 8 ≤ dep) : Cs B n j r 0 dep p a (.inl (3, frT B n p)) := cs_n rfl (fun hp hd D hD v f hS hf => by
  obtain ⟨d, rfl⟩ : ∃ d, D = d + 1 + 1 := ⟨D - 2, by omega⟩
  refine one_nst h hS (fun Q k => E_X3_nested (B_X3_nested_0 (pk_le (dep + 1) 8 (fun z => absurd z (by omega)) (fun _ => ?_))))
  exact cI (s_wrongX (c := 3) (d := d) (by omega) hS) (fun w x hw => z01_0 hw.1 (k _ _ ⟨hw.1, hw.2.1, hw.2.2.1, fWr_Cx hw.2.2.2⟩)))
theorem cs_par (hM : ∀ k dep p e R, M k dep p e R → PQ B n r k dep p e R ∧ Cs B n j r k dep p e R) (h : tkC B n p = 38) (hd : dep < 8) (h3 : M 3 (dep + 1) (nxT B n p) zZ R) (hb : bnd R (fun e q S => S = exT B n 39 e q) R') : Cs B n j r 0 dep p a R' := cs_n rfl (fun hp _ D hD v f hS hf => by
  obtain ⟨d, rfl⟩ : ∃ d, D = d + 1 + 1 := ⟨D - 2, by omega⟩
  have g := nx_gt (B := B) hp (by omega)
  have gn := nx_le (B := B) hp
  have hpq := (hM _ _ _ _ _ h3).1
  have hcs := Cs.nn (hM _ _ _ _ _ h3).2 rfl gn (by omega)
  have e0 : lvK 0 = 0 := rfl
  have e3 : lvK 3 = 2 := rfl
  refine one_nst (by rw [h]; rfl) hS (fun Q k => E_X3_nested (B_X3_nested_0 (pk_le (dep + 1) 8 (fun _ => cV (s_adv (d := d) (by omega) hp hS) (fun w1 hw1 => ?_)) (fun z => absurd z (by omega)))))
  rw [h]
  refine ⟨fun z => absurd rfl z, fun _ => cI (hcs d (by omega) w1 f hw1.1 (by omega)) (fun w3 x hx => ?_)⟩
  rcases bnd_in hb with ⟨g0, rfl, rfl⟩ | ⟨e, q, rfl, rfl⟩
  · have := hx.flt (fTk_Cx (j := j) (g := f) hw1.2) (Nat.le_refl _)
    exact b_0' this.1 (k _ _ this.2)
  · have ho := hx.ok
    have hq := hpq.st rfl gn
    refine b_1' ho.1 (cI (s_expectX (c := 39) (d := d) (by decide) (by omega) hq.2 ho.2.1) (fun w5 x5 h5 => ?_))
    have := CR_ex ho.2.1 ho.2.2.1 ((fTk_Cx (j := j) (g := f) hw1.2).trans ho.2.2.2) h5
    exact b_x (P := fun y => Q w5 (some (vI y))) this.x01 (k _ _ this))
theorem una_fin {w3 : z_V} {o0 q : Nat} {e : z_X} {Q : z_RT} (hd : 1 ≤ d) (ho : o0 < 64) (ho2 : oC (uoR (tkC B n p)) = o0) (hty : ty r e = 1) (h1 : StC B n j r w3 q (f + lC e)) (h2 : rC (gI w3 700 j) f e) (h3 : Fa (fCx j f) v w3) (hf : f + lC e < 300) (k : ∀ w x, CR B n j r f v (.inr (.branch (uoR (tkC B n p)) e zZ, q)) w x → Q w (some (vI x))) : z_C d m_X6_emit [vR 6 j, vI (nI o0), vI 0] w3 (fun w10 o11 => ∃ i12 : Int32, o11 = some (vI i12) ∧ Q w10 (some (vI 1))) := by
  refine cI (s_emitX (o := o0) (w := 0) (d := d) hd h1 hf ho) (fun w x hw => ?_)
  obtain ⟨_, hS2, hc, hF⟩ := hw
  have u := uo_un (c := tkC B n p) r e hty
  have s := sz_u (a := e) (b := zZ) u.1 u.2.1 u.2.2.1
  refine k _ _ ⟨rfl, ?_, ?_, h3.trans (fEm_Cx hF (by omega))⟩
  · show StC B n j r w q (f + lC (.branch (uoR (tkC B n p)) e zZ))
    rw [s.1]
    exact hS2
  · refine rC_u u.1 u.2.1 u.2.2.1 (rC_em h2 hF (Nat.le_refl _)) ?_
    rw [hc, ho2, Nat.zero_mul, Nat.zero_add]
theorem cs_una (hM : ∀ k dep p e R, M k dep p e R → PQ B n r k dep p e R ∧ Cs B n j r k dep p e R) (h : tkC B n p = 18 ∨ tkC B n p = 19 ∨ tkC B n p = 35) (hd : dep < 8) (h3 : M 0 (dep + 1) (nxT B n p) zZ R) (hb : bnd R (fun e q S => S = .inr (.branch (uoR (tkC B n p)) e zZ, q)) R') : Cs B n j r 0 dep p a R' := cs_n rfl (fun hp _ D hD v f hS hf => by
  obtain ⟨d, rfl⟩ : ∃ d, D = d + 1 + 1 := ⟨D - 2, by omega⟩
  have g := nx_gt (B := B) hp (by omega)
  have gn := nx_le (B := B) hp
  have hn := hS.1.2.1
  have hpq := (hM _ _ _ _ _ h3).1
  have hcs := Cs.nn (hM _ _ _ _ _ h3).2 rfl gn (by omega)
  have e0 : lvK 0 = 0 := rfl
  refine one_nst (by rcases h with h | h | h <;> rw [h] <;> rfl) hS (fun Q k => E_X3_nested (B_X3_nested_0 (pk_le (dep + 1) 8 (fun _ => cV (s_adv (d := d) (by omega) hp hS) (fun w1 hw1 => ?_)) (fun z => absurd z (by omega)))))
  refine pk_ne (tkC B n p) 38 (fun _ => pk_ne (tkC B n p) 20 (fun _ => cI (hcs d (by omega) w1 f hw1.1 (by omega)) (fun w3 x hx => ?_)) (fun z => absurd z (by omega))) (fun z => absurd z (by omega))
  rcases bnd_in hb with ⟨g0, rfl, rfl⟩ | ⟨e, q, rfl, rfl⟩
  · have := hx.flt (fTk_Cx (j := j) (g := f) hw1.2) (Nat.le_refl _)
    exact b_0 this.1 (k _ _ this.2)
  · have ho := hx.ok
    have hq := hpq.st rfl gn
    obtain ⟨g1, g2, g3, g4, _⟩ := hpq.gd rfl gn (by omega)
    have hF := (fTk_Cx (j := j) (g := f) hw1.2).trans ho.2.2.2
    refine b_1 ho.1 ⟨j, ho.2.1.2.2.1, pk_ne (tkC B n p) 35 (fun n35 => ?_) (fun e35 => ?_)⟩
    · exact una_fin (o0 := tkC B n p) (by omega) (by omega) (by rcases h with h | h | h <;> rw [h] <;> first | rfl | exact absurd h n35) g1 ho.2.1 ho.2.2.1 hF (by omega) k
    · exact una_fin (o0 := 43) (by omega) (by omega) (by rw [e35]; rfl) g1 ho.2.1 ho.2.2.1 hF (by omega) k)
end RC1
