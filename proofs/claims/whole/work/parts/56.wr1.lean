/-! the reference keeps, takes back, writes -/
theorem RRf.me {v : z_V} {W : z_W} (h : RRf (gI v 1200 0) W) : ME v (wNet W) (wnu W) (wS W 0) (wS W 2) := by
  obtain ⟨a0, a1, a2, a3, a4, a5, a6, a7, a8, a9⟩ := h
  refine ⟨⟨a0.1, a1, a6.2.2.2.2.1, a8, fun g hg => ⟨?_, a0.2.1.2.2.2.2.2.1 g hg⟩⟩, a6.1, a6.2.2.1, a0.2.1.1, a0.2.1.2.2.1⟩
  have := a6.2.2.2.2.2.1 g hg
  exact this
theorem RRf.fr {v u : z_V} {W : z_W} {S : Nat → Nat → Prop} (h : RRf (gI v 1200 0) W) (f : Fr S v u) (hs : ∀ k, ¬ S 1200 k) : RRf (gI u 1200 0) W := h.cg (fun j _ => f.i (hs j))
/-- the reference's texts -/
def TXR (v : z_V) (W : z_W) (T : Nat → z_T) : Prop := ∀ k, k < wT W → TR v k (T k)
theorem TXR.fr {v u : z_V} {W : z_W} {T : Nat → z_T} {S : Nat → Nat → Prop} (h : TXR v W T) (f : Fr S v u) (hs : ∀ k, ¬ S 1202 k) : TXR u W T := fun k hk => (h k hk).fr f hs
theorem sA_not {t k : Nat} (h : t ≠ 1200) : ¬ sT [1200] t k := by
  intro q
  have q : t ∈ [1200] := q
  simp only [List.mem_cons, List.not_mem_nil, or_false] at q
  exact h q
section WR1
variable {d : Nat} {v : z_V} {W : z_W} {T : Nat → z_T}
theorem s_ridesW {l : Nat} {a : Int32} (h : RRf (gI v 1200 0) W) (hT : TXR v W T) (hl : l < wN W) (ha : a = wR W) : ZI (d + 6) m_X11_ridesOf [vR 11 0, vI a, vI (nI l)] v (fun u x => x = nI (rdV W T l) ∧ Fr sTr v u) := by
  have ht := h.1.2.2.2.2.1
  unfold rdV
  rcases h.1.2.2.2.2.2.1 with e | ⟨k, hk, e⟩
  · unfold wTx
    rw [if_pos e, ha, e]
    exact s_ridesN h.me hl (by decide)
  · rw [wTx_k (by omega) e, ha, e]
    exact s_ridesR h.me hl (by omega) (hT k hk)
theorem s_costsW {g x : Nat} (h : RRf (gI v 1200 0) W) (hT : TXR v W T) (hg : g < 7) (hx : x ≤ 99) : ZI (d + 6) m_X11_costsOf [vR 11 0, vI (nI g), vI (nI x)] v (fun u r => r = nI (csV W T g x) ∧ Fr sTr v u) := by
  have ht := h.1.2.2.2.2.1
  unfold csV
  rcases h.1.2.2.2.2.2.1 with e | ⟨k, hk, e⟩
  · unfold wTx
    rw [if_pos e]
    exact s_costsN h.me hg (by rw [h.2.2.2.1, e]; decide)
  · rw [wTx_k (by omega) e]
    exact s_costsR h.me hg hx (h.2.2.2.1.trans e) (by omega) (hT k hk)
theorem cN {c : Nat} {x : Int32} (n : Nat) (h : x = nI n) (hn : n < 2 ^ 31) : n_ x = n := by rw [h, n_nI hn]
theorem s_keepR0 {f : Nat → Int32} {Q : z_RT} (h : RRf f W) (k : Q (pR v 1200 (kpF (if wC W < 30 then f else upd (shF f 1102) 3 (nI 29)) (if wC W < 30 then wC W else 29) (wN W))) none) : z_C (d + 1) m_X11_keep [vR 11 0] (pR v 1200 f) Q := E_X11_keep (B_X11_keep_0 (by
  have hn := h.1.n
  have hc := h.1.2.2.1
  have a53 : ∀ c : Nat, (53 : Int32) + 38 * nI c = nI (53 + 38 * c) := fun c => by
    rw [show (38 : Int32) = nI 38 from rfl, show (53 : Int32) = nI 53 from rfl, pk_mul, nI_add]
  -- behind the shift
  have tail : ∀ (g : Nat → Int32) (c : Nat), c < 30 → g 3 = nI c → Q (pR v 1200 (kpF g c (wN W))) none → z_Wp (z_C d) 0 k_X11_keep Q 81 [some (vR 11 0), some (vI (nI (53 + 38 * c))), some (vI 0)] [] (pR v 1200 (upd g (53 + 38 * c) (nI (wN W)))) := by
    intro g c hc g3 k
    refine z_up0 (P := fun i => z_Wp (z_C d) 0 k_X11_keep Q 81 [some (vR 11 0), some (vI (nI (53 + 38 * c))), some (vI (nI i))] [] (pR v 1200 (cpF (upd g (53 + 38 * c) (nI (wN W))) 5 (53 + 38 * c + 1) i))) 12 ?_ ?_ |> fun z => by rw [cpF_0] at z; exact z
    · refine B_X11_keep_81 (pk_le 12 12 (fun _ => ?_) (fun q => absurd q (by decide)))
      refine z_up0 (P := fun i => z_Wp (z_C d) 0 k_X11_keep Q 113 [some (vR 11 0), some (vI (nI (53 + 38 * c))), some (vI (nI i))] [] (pR v 1200 (cpF (cpF (upd g (53 + 38 * c) (nI (wN W))) 5 (53 + 38 * c + 1) 12) 1193 (53 + 38 * c + 1 + 12) i))) 25 ?_ ?_ |> fun z => by rw [cpF_0] at z; exact z
      · refine B_X11_keep_113 (pk_le 25 25 (fun _ => ?_) (fun q => absurd q (by decide)))
        rw [gI_pR, pR_pI, cpF_o (by omega), cpF_o (by omega), upd_n (by omega), g3, nI_1]
        exact k
      · intro i hi ih
        refine B_X11_keep_113 (pk_le 25 i (fun q => absurd q (by omega)) (fun _ => ?_))
        rw [show (1193 : Int32) + nI i = nI (1193 + i) from nI_add 1193 i, nI_1, show nI (53 + 38 * c + 1) + 12 = nI (53 + 38 * c + 1 + 12) from nI_add _ 12, nI_add, nI_1]
        refine z_ii _ rfl (by omega) (z_ii _ rfl (by omega) ?_)
        rw [n_nI (by omega), n_nI (by omega), gI_pR, pR_pI, cpF_s (by omega)]
        exact ih
    · intro i hi ih
      refine B_X11_keep_81 (pk_le 12 i (fun q => absurd q (by omega)) (fun _ => ?_))
      rw [show (5 : Int32) + nI i = nI (5 + i) from nI_add 5 i, nI_1, nI_add, nI_1]
      refine z_ii _ rfl (by omega) (z_ii _ rfl (by omega) ?_)
      rw [n_nI (by omega), n_nI (by omega), gI_pR, pR_pI, cpF_s (by omega)]
      exact ih
  rw [gI_pR, gI_pR, h.2.2.2.2.1, h.2.1]
  refine pk_ne (wC W) 30 (fun e => ?_) (fun e => ?_)
  · rw [if_pos (by omega), if_pos (by omega)] at k
    rw [a53]
    refine z_ii _ rfl (by omega) ?_
    rw [n_nI (by omega), pR_pI]
    exact tail f (wC W) (by omega) h.2.2.2.2.1 k
  · rw [if_neg (by omega), if_neg (by omega)] at k
    refine z_up0 (P := fun i => ∀ u2, z_Wp (z_C d) 0 k_X11_keep Q 13 [some (vR 11 0), some (vI (nI i)), u2] [] (pR v 1200 (shF f i))) 1102 ?_ ?_ |> fun z => by have z := z none; rw [shF_0] at z; exact z
    · intro u2
      refine B_X11_keep_13 (pk_le 1102 1102 (fun _ => ?_) (fun q => absurd q (by decide)))
      have e3 : shF f 1102 3 = nI 30 := by rw [shF_o (by omega), h.2.2.2.2.1, e]
      rw [gI_pR, gI_pR, e3, show nI 30 - 1 = nI 29 from nI_pred 29, a53]
      refine z_ii _ rfl (by omega) ?_
      rw [n_nI (by omega), pR_pI, pR_pI, shF_o (by omega), h.2.1]
      exact tail (upd (shF f 1102) 3 (nI 29)) 29 (by decide) upd_s k
    · intro i hi ih u2
      refine B_X11_keep_13 (pk_le 1102 i (fun q => absurd q (by omega)) (fun _ => ?_))
      rw [show (91 : Int32) + nI i = nI (91 + i) from nI_add 91 i, show (53 : Int32) + nI i = nI (53 + i) from nI_add 53 i, nI_1]
      refine z_ii _ rfl (by omega) (z_ii _ rfl (by omega) ?_)
      rw [n_nI (by omega), n_nI (by omega), gI_pR, pR_pI, shF_s]
      exact ih _))
theorem s_keepR (h : RRf (gI v 1200 0) W) : ZV (d + 1) m_X11_keep [vR 11 0] v (fun u => RRf (gI u 1200 0) (wKp W) ∧ Fr (sT [1200]) v u) := fun Q k => by
  have := s_keepR0 (d := d) (v := v) (Q := Q) h (k _ ⟨by rw [gI_pR_f]; exact h.kp, Fr_pR⟩)
  rw [pR_id] at this
  exact this
theorem or_tab : ∀ l, l < 10 → ∀ z, z < 2 ^ l → z ||| 2 ^ l = z + 2 ^ l := by decide +kernel
theorem s_undoR (h : RRf (gI v 1200 0) W) : ZI (d + 1) m_X11_undo [vR 11 0] v (fun u r => r = (wUn W).2 ∧ RRf (gI u 1200 0) (wUn W).1 ∧ Fr (sT [1200]) v u) := fun Q k => by
  have hok := h.1.un
  have key : ∀ f, RRf f W → (∀ u r, r = (wUn W).2 → RRf (gI u 1200 0) (wUn W).1 → Fr (sT [1200]) v u → Q u (some (vI r))) → z_C (d + 1) m_X11_undo [vR 11 0] (pR v 1200 f) Q := by
    intro f h k
    refine E_X11_undo (B_X11_undo_0 ?_)
    have h0 := h
    obtain ⟨a0, a1, a2, a3, a4, a5, a6, a7, a8, a9⟩ := h
    have hn := a0.n
    have hc := a0.2.2.1
    have hq := a0.2.2.2.2.2.2.1
    unfold wUn at k hok
    rw [gI_pR, a4, pR_pI]
    refine pk_ne (wC W) 0 (fun e => ?_) (fun e => ?_)
    · rw [if_neg e] at k hok
      obtain ⟨c, hce⟩ : ∃ c, wC W = c + 1 := ⟨wC W - 1, by omega⟩
      rw [show wC W - 1 = c by omega] at k hok
      obtain ⟨m, m1, m2, m3, m4⟩ := a7 c (by omega)
      rw [hce, nI_pred, show (53 : Int32) + 38 * nI c = nI (53 + 38 * c) by rw [show (38 : Int32) = nI 38 from rfl, show (53 : Int32) = nI 53 from rfl, pk_mul, nI_add]]
      refine z_up0 (P := fun i => z_Wp (z_C d) 1 k_X11_undo Q 36 [some (vR 11 0), some (vI (nI (53 + 38 * c))), some (vI (nI i))] [] (pR v 1200 (cpF (upd f 3 (nI c)) (53 + 38 * c + 1) 5 i))) 12 ?_ ?_ |> fun z => by rw [cpF_0] at z; exact z
      · refine B_X11_undo_36 (pk_le 12 12 (fun _ => ?_) (fun q => absurd q (by decide)))
        refine z_ii _ rfl (by omega) ?_
        rw [n_nI (by omega), gI_pR, cpF_o (by omega), upd_n (by omega), m2]
        -- lines told since
        have lines : ∀ j l, l + j = wN W → m ≤ l → z_Wp (z_C d) 1 k_X11_undo Q 73 [some (vR 11 0), some (vI (nI (53 + 38 * c))), some (vI (nI l))] [] (pR v 1200 (upd (cpF (upd f 3 (nI c)) (53 + 38 * c + 1) 5 12) 9 (nI (2 ^ l - 1 - wH W c 4)))) := by
          intro j
          induction j with
          | zero =>
            intro l hl hm
            obtain rfl : l = wN W := by omega
            have e0 : ∀ x, upd (cpF (upd f 3 (nI c)) (53 + 38 * c + 1) 5 12) 9 x 0 = nI (wN W) := fun x => by rw [upd_n (by decide), cpF_o (by omega), upd_n (by decide), a1]
            refine B_X11_undo_73 (pk_le (wN W) (wN W) (fun _ => ?_) (fun q => absurd q (by omega)) (by rw [gI_pR, e0]))
            refine z_up0 (P := fun i => z_Wp (z_C d) 1 k_X11_undo Q 104 [some (vR 11 0), some (vI (nI (53 + 38 * c))), some (vI (nI i))] [] (pR v 1200 (cpF (upd (cpF (upd f 3 (nI c)) (53 + 38 * c + 1) 5 12) 9 (nI (2 ^ wN W - 1 - wH W c 4))) (53 + 38 * c + 1 + 12) 1193 i))) 25 ?_ ?_ |> fun z => by rw [cpF_0] at z; exact z
            · refine B_X11_undo_104 (pk_le 25 25 (fun _ => ?_) (fun q => absurd q (by decide)))
              have e3 : cpF (upd (cpF (upd f 3 (nI c)) (53 + 38 * c + 1) 5 12) 9 (nI (2 ^ wN W - 1 - wH W c 4))) (53 + 38 * c + 1 + 12) 1193 25 3 = nI c := by rw [cpF_o (by omega), upd_n (by decide), cpF_o (by omega), upd_s]
              rw [gI_pR, e3]
              refine k _ _ rfl ?_ Fr_pR
              rw [gI_pR_f]
              have lo : ∀ j, j < 5 → j ≠ 3 → cpF (upd (cpF (upd f 3 (nI c)) (53 + 38 * c + 1) 5 12) 9 (nI (2 ^ wN W - 1 - wH W c 4))) (53 + 38 * c + 1 + 12) 1193 25 j = f j := fun j h1 h2 => by rw [cpF_o (by omega), upd_n (by omega), cpF_o (by omega), upd_n h2]
              have hi : ∀ j, 17 ≤ j → j < 1193 → cpF (upd (cpF (upd f 3 (nI c)) (53 + 38 * c + 1) 5 12) 9 (nI (2 ^ wN W - 1 - wH W c 4))) (53 + 38 * c + 1 + 12) 1193 25 j = f j := fun j h1 h2 => by rw [cpF_o (by omega), upd_n (by omega), cpF_o (by omega), upd_n (by omega)]
              have md : ∀ j, j < 12 → j ≠ 4 → cpF (upd (cpF (upd f 3 (nI c)) (53 + 38 * c + 1) 5 12) 9 (nI (2 ^ wN W - 1 - wH W c 4))) (53 + 38 * c + 1 + 12) 1193 25 (5 + j) = f (53 + 38 * c + 1 + j) := fun j h1 h2 => by
                rw [cpF_o (by omega), upd_n (by omega), cpF_i (by omega) (by omega), upd_n (by omega), show 53 + 38 * c + 1 + (5 + j - 5) = 53 + 38 * c + 1 + j by omega]
              have bk : ∀ j, j < 25 → cpF (upd (cpF (upd f 3 (nI c)) (53 + 38 * c + 1) 5 12) 9 (nI (2 ^ wN W - 1 - wH W c 4))) (53 + 38 * c + 1 + 12) 1193 25 (1193 + j) = f (53 + 38 * c + 13 + j) := fun j h1 => by
                rw [cpF_i (by omega) (by omega), upd_n (by omega), cpF_o (by omega), upd_n (by omega), show 53 + 38 * c + 1 + 12 + (1193 + j - 1193) = 53 + 38 * c + 13 + j by omega]
              obtain ⟨b0, b1, b2, b3, b4, b5, b6⟩ := m4
              refine ⟨hok, (lo 0 (by decide) (by decide)).trans a1, (lo 1 (by decide) (by decide)).trans a2, (lo 2 (by decide) (by decide)).trans a3, e3, (lo 4 (by decide) (by decide)).trans a5, ⟨(md 0 (by decide) (by decide)).trans b0, (md 1 (by decide) (by decide)).trans b1, (md 2 (by decide) (by decide)).trans b2, (md 3 (by decide) (by decide)).trans b3, ?_, fun g hg => ?_, fun j hj => (bk j hj).trans (b6 j hj)⟩, fun i hi2 => ?_, fun l hl => ⟨(hi _ (by omega) (by have : l < wN W := hl; omega)).trans (a8 l hl).1, (hi _ (by omega) (by have : l < wN W := hl; omega)).trans (a8 l hl).2⟩, fun i hi2 => ⟨(hi _ (by omega) (by have : i < wQ W := hi2; omega)).trans (a9 i hi2).1, (hi _ (by omega) (by have : i < wQ W := hi2; omega)).trans (a9 i hi2).2⟩⟩
              · rw [cpF_o (by omega), upd_s]
                rfl
              · have := md (5 + g) (by omega) (by omega)
                rw [← Nat.add_assoc, ← Nat.add_assoc] at this
                exact this.trans (b5 g hg)
              · have hi2 : i < c := hi2
                obtain ⟨m', p1, p2, p3, p4⟩ := a7 i (by omega)
                exact ⟨m', p1, (hi _ (by omega) (by omega)).trans p2, p3, p4.cg (fun k hk => hi _ (by omega) (by omega)) (fun k hk => hi _ (by omega) (by omega)) (fun _ _ => rfl)⟩
            · intro i hi ih
              refine B_X11_undo_104 (pk_le 25 i (fun q => absurd q (by omega)) (fun _ => ?_))
              rw [nI_1, show nI (53 + 38 * c + 1) + 12 = nI (53 + 38 * c + 1 + 12) from nI_add _ 12, nI_add, nI_1, show (1193 : Int32) + nI i = nI (1193 + i) from nI_add 1193 i]
              refine z_ii _ rfl (by omega) (z_ii _ rfl (by omega) ?_)
              rw [n_nI (by omega), n_nI (by omega), gI_pR, pR_pI, cpF_s (by omega)]
              exact ih
          | succ j ih =>
            intro l hl hm
            have e0 : ∀ x, upd (cpF (upd f 3 (nI c)) (53 + 38 * c + 1) 5 12) 9 x 0 = nI (wN W) := fun x => by rw [upd_n (by decide), cpF_o (by omega), upd_n (by decide), a1]
            have hp : 2 ^ m ≤ 2 ^ l := Nat.pow_le_pow_right (by decide) hm
            refine B_X11_undo_73 (pk_le (wN W) l (fun q => absurd q (by omega)) (fun _ => ?_) (by rw [gI_pR, e0]))
            rw [gI_pR, upd_s, pR_pI, nI_shl (by omega), nI_or, nI_1, or_tab l (by omega) _ (by omega)]
            have e2 : upd (upd (cpF (upd f 3 (nI c)) (53 + 38 * c + 1) 5 12) 9 (nI (2 ^ l - 1 - wH W c 4))) 9 (nI (2 ^ l - 1 - wH W c 4 + 2 ^ l)) = upd (cpF (upd f 3 (nI c)) (53 + 38 * c + 1) 5 12) 9 (nI (2 ^ (l + 1) - 1 - wH W c 4)) := by
              funext j
              unfold upd
              by_cases q : j = 9
              · rw [if_pos q, if_pos q]
                congr 1
                rw [Nat.pow_succ]
                omega
              · rw [if_neg q, if_neg q, if_neg q]
            rw [e2]
            exact ih (l + 1) (by omega) (by omega)
        have := lines (wN W - m) m (by omega) (Nat.le_refl _)
        have e9 : upd (cpF (upd f 3 (nI c)) (53 + 38 * c + 1) 5 12) 9 (nI (2 ^ m - 1 - wH W c 4)) = cpF (upd f 3 (nI c)) (53 + 38 * c + 1) 5 12 := by
          funext j
          unfold upd
          by_cases q : j = 9
          · rw [if_pos q, q, cpF_i (by omega) (by omega), if_neg (by omega)]
            exact m4.2.2.2.2.1.symm
          · rw [if_neg q]
        rw [e9] at this
        exact this
      · intro i hi ih
        refine B_X11_undo_36 (pk_le 12 i (fun q => absurd q (by omega)) (fun _ => ?_))
        rw [nI_1, nI_add, nI_1, show (5 : Int32) + nI i = nI (5 + i) from nI_add 5 i]
        refine z_ii _ rfl (by omega) (z_ii _ rfl (by omega) ?_)
        rw [n_nI (by omega), n_nI (by omega), gI_pR, pR_pI, cpF_s (by omega)]
        exact ih
    · rw [if_pos e] at k
      exact k _ _ rfl (by rw [gI_pR_f]; exact h0) Fr_pR
  have := key (gI v 1200 0) h (fun u r h1 h2 h3 => k u r ⟨h1, h2, h3⟩)
  rw [pR_id] at this
  exact this
end WR1
