/-! what the reference says by a text, and by none -/
def LR1 (v : z_V) (k s : Nat) (r : Bool) (cl : Nat) (kd : Nat → Nat) (law : Option z_X) : Prop := match law with
  | none => ∀ j, j < cl → kd j ≠ s
  | some e => ∃ j f, j < cl ∧ kd j = s ∧ (∀ i, i < j → kd i ≠ s) ∧ gI v 1202 0 (681 * k + 1 + 3 * j + 1) = nI f ∧ gI v 1202 0 (681 * k + 1 + 3 * j + 2) = nI (f + lR e) ∧ f + lR e ≤ 300 ∧ rR (gT v (681 * k + 73)) f e ∧ ty r e = 1
def TR (v : z_V) (k : Nat) (T : z_T) : Prop := gI v 1202 0 (681 * k) = nI T.2.2.1 ∧ T.2.2.1 ≤ 24 ∧ (∀ j, j < T.2.2.1 → gI v 1202 0 (681 * k + 1 + 3 * j) = nI (T.2.2.2.1 j) ∧ T.2.2.2.1 j ≤ 6 ∧ (2 ≤ T.2.2.2.1 j → gI v 1202 0 (681 * k + 1 + 3 * j + 1) = nI (T.2.2.2.2.1 j) ∧ (T.2.2.2.1 j ≤ 3 → gI v 1202 0 (681 * k + 1 + 3 * j + 2) = nI (T.2.2.2.2.2 j))) ∧ ck (T.2.2.2.1 j) (T.2.2.2.2.1 j) (T.2.2.2.2.2 j)) ∧ LR1 v k 0 true T.2.2.1 T.2.2.2.1 T.1 ∧ LR1 v k 1 false T.2.2.1 T.2.2.2.1 T.2.1
section TLW
variable {d : Nat} {v : z_V} {N : z_N} {nu : Nat → Nat} {D F : Nat} {wh num : Nat}
theorem s_summedUp {k j f : Nat} {e : z_X} {r : Bool} (hM : ME v N nu D F) (hN : Nmd v N nu D F wh num r) (hwh : wh < 10) (hnum : num ≤ 99) (hk : k < 4) (hj : j < 24) (h1 : gI v 1202 0 (681 * k + 1 + 3 * j + 1) = nI f) (h2 : gI v 1202 0 (681 * k + 1 + 3 * j + 2) = nI (f + lR e)) (h3 : f + lR e ≤ 300) (h4 : rR (gT v (681 * k + 73)) f e) (h5 : ty r e = 1) : ZL (d + 4) m_X11_summedUp [vR 11 0, vI (nI k), vI (nI j)] v (fun u x => x = lI (ev (fav N nu) (sgv nu) (nmv N nu D F wh num) e 0) ∧ Fr (sT [1221, 1222]) v u) := fun Q c => E_X11_summedUp (B_X11_summedUp_0 (by
  have e1 : (681 : Int32) * nI k + 1 + 3 * nI j = nI (681 * k + 1 + 3 * j) := by
    rw [show (681 : Int32) = nI 681 from rfl, show (3 : Int32) = nI 3 from rfl, pk_mul, pk_mul, nI_1, nI_add]
  have e2 : (681 : Int32) * nI k + 73 = nI (681 * k + 73) := by
    rw [show (681 : Int32) = nI 681 from rfl, show (73 : Int32) = nI 73 from rfl, pk_mul, nI_add]
  rw [e1, e2, nI_1]
  refine z_ii _ rfl (by omega) ?_
  rw [n_nI (by omega), h1]
  refine (s_runR (Q := Q) (xq := 681 * k + 1 + 3 * j) (cb := 681 * k + 73) (en := f + lR e) hM hN hwh hnum (by omega) (by omega) h2 e).1 h5 f 0 0 (fun _ => 0) (fun _ => 0) v h4 (by omega) (Nat.le_refl _) Fr.rfl ⟨fun j hj => absurd hj (by omega), fun j hj => absurd hj (by omega)⟩ (fun u hu hV => ?_) _ _ _ _
  intro u1 u2 u8 u9
  refine B_X11_summedUp_38 ?_
  rw [show nI (681 * k + 1 + 3 * j) + 2 = nI (681 * k + 1 + 3 * j + 2) from nI_add _ 2, n_nI (by omega), (hu.i2 _).trans h2]
  refine z_ii _ rfl (by omega) (pk_le (f + lR e) (f + lR e) (fun _ => ?_) (fun q => absurd q (by omega)))
  rw [hV.1 0 (by omega), ps_s]
  exact c _ _ ⟨rfl, hu⟩))
theorem s_says {k s wo top : Nat} {r : Bool} {T : z_T} {law : Option z_X} (hM : ME v N nu D F) (hN : Nmd v N nu D F wh num r) (hwh : wh < 10) (hnum : num ≤ 99) (hk : k < 4) (hT : TR v k T) (hs : s < 2) (hl : LR1 v k s r T.2.2.1 T.2.2.2.1 law) (ht : top < 1000000) : ZI (d + 5) m_X11_says [vR 11 0, vI (nI k), vI (nI s), vI (nI wo), vI (nI top)] v (fun u x => x = nI (lv N nu D F wh num law wo top) ∧ Fr (sT [1221, 1222]) v u) := fun Q c => E_X11_says (B_X11_says_0 (by
  have hu : ∀ h, h < 7 → nu h ≤ 99 := fun h hh => (hM.1.2.2.2.2 h hh).2
  have hcl := hT.2.1
  refine z_up0 (P := fun j => (∀ i, i < j → T.2.2.2.1 i ≠ s) → z_Wp (z_C (d + 4)) 1 k_X11_says Q 3 [some (vR 11 0), some (vI (nI k)), some (vI (nI s)), some (vI (nI wo)), some (vI (nI top)), some (vI (nI j))] [] v) T.2.2.1 ?_ ?_ (fun i hi => absurd hi (by omega))
  · intro h
    refine B_X11_says_3 (br_F (nI_pos (by omega)) ?_)
    rw [show (681 : Int32) * nI k = nI (681 * k) from pk_mul 681 k]
    refine z_ii _ rfl (by omega) ?_
    rw [n_nI (n := 681 * k) (by omega), hT.1]
    refine pk_le T.2.2.1 T.2.2.1 (fun _ => c _ _ ⟨?_, Fr.rfl⟩) (fun q => absurd q (by omega))
    cases law with
    | none => rfl
    | some e =>
      obtain ⟨j, f, h1, h2, _⟩ := hl
      exact absurd h2 (h j h1)
  · intro j hj ih h
    have hjj := hT.2.2.1 j hj
    refine B_X11_says_3 (br_F (nI_pos (by omega)) ?_)
    rw [show (681 : Int32) * nI k = nI (681 * k) from pk_mul 681 k, show (3 : Int32) * nI j = nI (3 * j) from pk_mul 3 j, nI_1, nI_add]
    refine z_ii _ rfl (by omega) ?_
    rw [n_nI (n := 681 * k) (by omega), n_nI (n := 681 * k + 1 + 3 * j) (by omega), hT.1, hjj.1]
    refine pk_le T.2.2.1 j (fun q => absurd q (by omega)) (fun _ => z_ii _ rfl (by omega) (pk_ne (T.2.2.2.1 j) s (fun q => ?_) (fun q => ?_) rfl rfl (by omega) (by omega)))
    · rw [nI_1]
      refine ih (fun i hi => ?_)
      by_cases e : i = j
      · subst e
        exact q
      · exact h i (by omega)
    · cases law with
      | none => exact absurd q (hl j hj)
      | some e =>
        obtain ⟨j', f, h1, h2, h3, h4, h5, h6, h7, h8⟩ := hl
        obtain rfl : j' = j := by
          rcases Nat.lt_trichotomy j j' with z | z | z
          · exact absurd q (h3 j z)
          · exact z.symm
          · exact absurd h2 (h j' z)
        have hb := (ev_bd (fav_bd hM.1.1 hu) (sgv_bd hu) (nmv_bd (wh := wh) (num := num) hM.1.1 hu hM.2.2.2.1 hM.2.2.2.2 (by omega) hnum) r e).1 h8
        refine cL (s_summedUp hM hN hwh hnum hk (by omega) h4 h5 h6 h7 h8) (fun u x hx => ?_)
        rw [hx.1]
        exact cP (s_held (bd_lr hb) ht) (c _ _ ⟨rfl, hx.2⟩)))
theorem s_saysN {a s wo top : Int32} (ha : a < 0) : ZP (d + 1) m_X11_says [vR 11 0, vI a, vI s, vI wo, vI top] v wo := fun Q c => E_X11_says (B_X11_says_0 (B_X11_says_3 (br_T ha c)))
theorem sR_not {t k : Nat} (h : t ≠ 1220) : ¬ sT [1220] t k := by
  intro q
  have q : t ∈ [1220] := q
  simp only [List.mem_cons, List.not_mem_nil, or_false] at q
  omega
theorem sR_in {k : Nat} : sT [1220] 1220 k := (by decide : 1220 ∈ [1220])
theorem s_name (hM : ME v N nu D F) : ZV (d + 3) m_X11_name [vR 11 0, vI (nI wh)] v (fun u => (gI u 1220 0 0 = nI D ∧ gI u 1220 0 1 = nI wh ∧ gI u 1220 0 2 = nI F ∧ gI u 1220 0 3 = nI (pc 10 (nO N))) ∧ Fr (sT [1220]) v u) := fun Q c => E_X11_name (B_X11_name_0 (by
  have hf : Fr (sT [1220]) v (pI (pI (pI v 1220 0 0 (gI v 1200 0 5)) 1220 0 1 (nI wh)) 1220 0 2 (gI v 1200 0 7)) := ((Fr.rfl.pI sR_in).pI sR_in).pI sR_in
  refine cP (s_openMany (hM.1.fr hf (fun _ => sR_not (by decide)))) (c _ ⟨⟨?_, ?_, ?_, gI_pI_s⟩, hf.pI sR_in⟩)
  · rw [gI_pI_k (by decide), gI_pI_k (by decide), gI_pI_k (by decide), gI_pI_s]
    exact hM.2.1
  · rw [gI_pI_k (by decide), gI_pI_k (by decide), gI_pI_s]
  · rw [gI_pI_k (by decide), gI_pI_s]
    exact hM.2.2.1))
theorem sTr_a {v w : z_V} (h : Fr (sT [1220]) v w) : Fr sTr v w := h.mono (fun t k (q : t ∈ [1220]) => (show t ∈ [1220, 1221, 1222] by simp only [List.mem_cons, List.not_mem_nil, or_false] at q ⊢; omega))
theorem sTr_b {v w : z_V} (h : Fr (sT [1221, 1222]) v w) : Fr sTr v w := h.mono (fun t k (q : t ∈ [1221, 1222]) => (show t ∈ [1220, 1221, 1222] by simp only [List.mem_cons, List.not_mem_nil, or_false] at q ⊢; omega))
/-- up to where it asks the text -/
theorem s_rides0 {rt : Int32} {Q : z_RT} (hM : ME v N nu D F) (hl : wh < nN N) (h : ∀ u, Fr (sT [1220]) v u → Nmd u N nu D F wh 0 true → z_C (d + 5) m_X11_says [vR 11 0, vI rt, vI 0, vI 5, vI 10] u (fun w1 o2 => ∃ i3 : Int32, o2 = some (vI i3) ∧ Q w1 (some (vI i3)))) : z_C (d + 6) m_X11_ridesOf [vR 11 0, vI rt, vI (nI wh)] v Q := E_X11_ridesOf (B_X11_ridesOf_0 (by
  have hn := hM.1.1.1
  have hw := hM.1.1.2.2.1 wh hl
  refine cV (s_name hM) (fun u hu => ?_)
  obtain ⟨⟨n0, n1, n2, n3⟩, hf⟩ := hu
  have hMu := hM.1.fr hf (fun _ => sR_not (by decide))
  have q1 := hMu.2.2.2.2 _ hw.1
  have q2 := hMu.2.2.2.2 _ hw.2.1
  refine cP (s_one hMu hl) ?_
  rw [show (10 : Int32) = nI 10 from rfl, nI_add]
  refine z_ii _ rfl (by omega) (cP (s_other hMu hl) ?_)
  rw [nI_add]
  refine z_ii _ rfl (by omega) (cP (s_fareOf hMu hl) ?_)
  rw [n_nI (by omega), n_nI (by omega), q1.1, q2.1]
  have fin : ∀ mi ma : Nat, mi = min (nu (nA N wh)) (nu (nB N wh)) → ma = max (nu (nA N wh)) (nu (nB N wh)) → z_C (d + 5) m_X11_says [vR 11 0, vI rt, vI 0, vI 5, vI 10] (pI (pI (pI u 1220 0 4 (nI (fare N nu wh))) 1220 0 5 (nI mi)) 1220 0 6 (nI ma)) (fun w1 o2 => ∃ i3 : Int32, o2 = some (vI i3) ∧ Q w1 (some (vI i3))) := by
    intro mi ma hmi hma
    refine h _ (((hf.pI sR_in).pI sR_in).pI sR_in) (fun k hk hr => ?_)
    have hk7 : k < 7 := by
      rcases Nat.lt_or_ge k 4 with z | z
      · omega
      · exact (hr z).mpr rfl
    match k, hk7 with
    | 0, _ =>
      rw [gI_pI_k (by decide), gI_pI_k (by decide), gI_pI_k (by decide), n0, ← iI_nI]
      rfl
    | 1, _ =>
      rw [gI_pI_k (by decide), gI_pI_k (by decide), gI_pI_k (by decide), n1, ← iI_nI]
      rfl
    | 2, _ =>
      rw [gI_pI_k (by decide), gI_pI_k (by decide), gI_pI_k (by decide), n2, ← iI_nI]
      rfl
    | 3, _ =>
      rw [gI_pI_k (by decide), gI_pI_k (by decide), gI_pI_k (by decide), n3, ← iI_nI]
      rfl
    | 4, _ =>
      rw [gI_pI_k (by decide), gI_pI_k (by decide), gI_pI_s, ← iI_nI]
      show _ = iI (fav N nu (wh : Int))
      unfold fav
      rw [if_pos (by omega), Int.toNat_natCast]
    | 5, _ =>
      rw [gI_pI_k (by decide), gI_pI_s, ← iI_nI, hmi]
      show _ = iI (if wh < nN N then _ else _)
      rw [if_pos hl]
    | 6, _ =>
      rw [gI_pI_s, ← iI_nI, hma]
      show _ = iI (if wh < nN N then _ else _)
      rw [if_pos hl]
  refine pk_le (nu (nB N wh)) (nu (nA N wh)) (fun q => ?_) (fun q => ?_)
  · refine B_X11_ridesOf_62 (z_ii 5 rfl (by decide) (pk_le (nu (nB N wh)) (nu (nA N wh)) (fun _ => ?_) (fun z => absurd z (by omega))))
    exact fin _ _ (by omega) (by omega)
  · refine B_X11_ridesOf_62 (z_ii 5 rfl (by decide) (pk_le (nu (nB N wh)) (nu (nA N wh)) (fun z => absurd z (by omega)) (fun _ => ?_)))
    exact fin _ _ (by omega) (by omega)))
theorem TR.fr {v u : z_V} {k : Nat} {T : z_T} {S : Nat → Nat → Prop} (h : TR v k T) (f : Fr S v u) (hs : ∀ k, ¬ S 1202 k) : TR u k T := by
  have g : ∀ k, gI u 1202 0 k = gI v 1202 0 k := fun k => f.i (hs k)
  have gg : ∀ b, gT u b = gT v b := fun b => funext fun i => by unfold gT; rw [g, g]
  have hl : ∀ s r law, LR1 v k s r T.2.2.1 T.2.2.2.1 law → LR1 u k s r T.2.2.1 T.2.2.2.1 law := by
    intro s r law q
    cases law with
    | none => exact q
    | some e =>
      obtain ⟨j, f, h1, h2, h3, h4, h5, h6, h7, h8⟩ := q
      exact ⟨j, f, h1, h2, h3, by rw [g]; exact h4, by rw [g]; exact h5, h6, by rw [gg]; exact h7, h8⟩
  exact ⟨by rw [g]; exact h.1, h.2.1, fun j hj => ⟨by rw [g]; exact (h.2.2.1 j hj).1, (h.2.2.1 j hj).2.1, fun q => ⟨by rw [g]; exact ((h.2.2.1 j hj).2.2.1 q).1, fun q3 => by rw [g]; exact ((h.2.2.1 j hj).2.2.1 q).2 q3⟩, (h.2.2.1 j hj).2.2.2⟩, hl _ _ _ h.2.2.2.1, hl _ _ _ h.2.2.2.2⟩
theorem s_ridesR {k : Nat} {T : z_T} (hM : ME v N nu D F) (hl : wh < nN N) (hk : k < 4) (hT : TR v k T) : ZI (d + 6) m_X11_ridesOf [vR 11 0, vI (nI k), vI (nI wh)] v (fun u x => x = nI (lv N nu D F wh 0 T.1 5 10) ∧ Fr sTr v u) := fun Q c => s_rides0 hM hl (fun u hu hN => by
  have hn := hM.1.1.1
  have hTu := hT.fr hu (fun _ => sR_not (by decide))
  exact cI (s_says (s := 0) (wo := 5) (top := 10) (hM.fr hu (fun _ => sR_not (by decide))) hN (by omega) (by omega) hk hTu (by decide) hTu.2.2.2.1 (by decide)) (fun w x hx => c _ _ ⟨hx.1, (sTr_a hu).trans (sTr_b hx.2)⟩))
theorem s_ridesN {a : Int32} (hM : ME v N nu D F) (hl : wh < nN N) (ha : a < 0) : ZI (d + 6) m_X11_ridesOf [vR 11 0, vI a, vI (nI wh)] v (fun u x => x = nI 5 ∧ Fr sTr v u) := fun Q c => s_rides0 hM hl (fun u hu hN => cP (s_saysN ha) (c _ _ ⟨rfl, sTr_a hu⟩))
theorem s_costs0 {Q : z_RT} (hM : ME v N nu D F) (hh : wh < 7) (h : ∀ u, Fr (sT [1220]) v u → Nmd u N nu D F wh num false → z_C (d + 5) m_X11_says [vR 11 0, vI (gI v 1200 0 2), vI 1, vI 1, vI 99] u (fun w1 o2 => ∃ i3 : Int32, o2 = some (vI i3) ∧ Q w1 (some (vI i3)))) : z_C (d + 6) m_X11_costsOf [vR 11 0, vI (nI wh), vI (nI num)] v Q := E_X11_costsOf (B_X11_costsOf_0 (by
  refine cV (s_name hM) (fun u hu => ?_)
  obtain ⟨⟨n0, n1, n2, n3⟩, hf⟩ := hu
  have q1 := hM.1.2.2.2.2 wh hh
  rw [show (10 : Int32) = nI 10 from rfl, nI_add]
  refine z_ii _ rfl (by omega) ?_
  rw [n_nI (by omega), hf.i (sR_not (by decide)), q1.1]
  have hf2 := (hf.pI (n := 0) (x := nI (nu wh)) (sR_in (k := 7))).pI (n := 0) (x := nI num) (sR_in (k := 8))
  have hb := bs_lt 7 (nAdj N wh)
  refine cP (s_besideOf (hM.1.fr hf2 (fun _ => sR_not (by decide))) hh) (cP (s_bits (by omega)) ?_)
  rw [show gI (pI (pI u 1220 0 7 (nI (nu wh))) 1220 0 8 (nI num)) 1200 0 2 = gI v 1200 0 2 from hf2.i (sR_not (by decide))]
  refine h _ (hf2.pI sR_in) (fun k hk hr => ?_)
  have hk7 : k < 4 ∨ 7 ≤ k := by
    rcases Nat.lt_or_ge k 4 with z | z
    · exact Or.inl z
    · refine Or.inr (Nat.not_lt.mp (fun q => ?_))
      cases (hr z).mp q
  match k, hk, hk7 with
  | 0, _, _ =>
    rw [gI_pI_k (by decide), gI_pI_k (by decide), gI_pI_k (by decide), n0, ← iI_nI]
    rfl
  | 1, _, _ =>
    rw [gI_pI_k (by decide), gI_pI_k (by decide), gI_pI_k (by decide), n1, ← iI_nI]
    rfl
  | 2, _, _ =>
    rw [gI_pI_k (by decide), gI_pI_k (by decide), gI_pI_k (by decide), n2, ← iI_nI]
    rfl
  | 3, _, _ =>
    rw [gI_pI_k (by decide), gI_pI_k (by decide), gI_pI_k (by decide), n3, ← iI_nI]
    rfl
  | 4, _, z => exact absurd z (by omega)
  | 5, _, z => exact absurd z (by omega)
  | 6, _, z => exact absurd z (by omega)
  | 7, _, _ =>
    rw [gI_pI_k (by decide), gI_pI_k (by decide), gI_pI_s, ← iI_nI]
    show _ = iI (sgv nu (wh : Int))
    unfold sgv
    rw [if_pos (by omega), Int.toNat_natCast]
  | 8, _, _ =>
    rw [gI_pI_k (by decide), gI_pI_s, ← iI_nI]
    rfl
  | 9, _, _ =>
    rw [gI_pI_s, ← iI_nI]
    rfl))
theorem s_costsR {k : Nat} {T : z_T} (hM : ME v N nu D F) (hh : wh < 7) (hnum : num ≤ 99) (hr : gI v 1200 0 2 = nI k) (hk : k < 4) (hT : TR v k T) : ZI (d + 6) m_X11_costsOf [vR 11 0, vI (nI wh), vI (nI num)] v (fun u x => x = nI (lv N nu D F wh num T.2.1 1 99) ∧ Fr sTr v u) := fun Q c => s_costs0 hM hh (fun u hu hN => by
  rw [hr]
  have hTu := hT.fr hu (fun _ => sR_not (by decide))
  exact cI (s_says (s := 1) (wo := 1) (top := 99) (hM.fr hu (fun _ => sR_not (by decide))) hN (by omega) (by omega) hk hTu (by decide) hTu.2.2.2.2 (by decide)) (fun w x hx => c _ _ ⟨hx.1, (sTr_a hu).trans (sTr_b hx.2)⟩))
theorem s_costsN (hM : ME v N nu D F) (hh : wh < 7) (hr : gI v 1200 0 2 < 0) : ZI (d + 6) m_X11_costsOf [vR 11 0, vI (nI wh), vI (nI num)] v (fun u x => x = nI 1 ∧ Fr sTr v u) := fun Q c => s_costs0 hM hh (fun u hu hN => cP (s_saysN hr) (c _ _ ⟨rfl, sTr_a hu⟩))
end TLW
