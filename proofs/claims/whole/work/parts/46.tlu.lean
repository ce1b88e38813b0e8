/-! the reference sums a law up -/
theorem pk_m2 (n : Nat) : nI (n + 2) + (-2) = nI n := by
  have : nI (n + 2) + (-2) = nI (n + 1) + (-1) := by
    rw [show (-2 : Int32) = -1 + -1 by decide, ← Int32.add_assoc, pk_m1]
  rw [this, pk_m1]
def gT (v : z_V) (b : Nat) : Nat → Int32 × Int32 := fun i => (gI v 1202 0 (b + 2 * i), gI v 1202 0 (b + 2 * i + 1))
def VS (u : z_V) (n tr : Nat) (sv tv : Nat → Int) : Prop := (∀ j, j < n → gL u 1221 0 j = lI (sv j)) ∧ ∀ j, j < tr → gI u 1222 0 j = iI (tv j)
theorem VS.cg {u : z_V} {n tr : Nat} {sv tv sv' tv' : Nat → Int} (h : VS u n tr sv tv) (h1 : ∀ j, j < n → sv j = sv' j) (h2 : ∀ j, j < tr → tv j = tv' j) : VS u n tr sv' tv' := ⟨fun j hj => by rw [← h1 j hj]; exact h.1 j hj, fun j hj => by rw [← h2 j hj]; exact h.2 j hj⟩
section TLU
variable {d : Nat} {v : z_V} {N : z_N} {nu : Nat → Nat} {D F : Nat} {wh num : Nat}
def Nmd (v : z_V) (N : z_N) (nu : Nat → Nat) (D F wh num : Nat) (r : Bool) : Prop := ∀ k, k < 10 → (4 ≤ k → (k < 7 ↔ r = true)) → gI v 1220 0 k = iI (nmv N nu D F wh num k)
def Wu (d : Nat) (Q : z_RT) (xq cb en n tr f : Nat) (u : z_V) : Prop := ∀ (u1 u2 u8 u9 : Option z_AV), z_Wp (z_C (d + 3)) 2 k_X11_summedUp Q 38 [some (vR 11 0), u1, u2, some (vI (nI xq)), some (vI (nI cb)), some (vI (nI n)), some (vI (nI tr)), some (vI (nI f)), u8, u9] [] u
def RunS (d : Nat) (v : z_V) (N : z_N) (nu : Nat → Nat) (D F wh num xq cb en : Nat) (Q : z_RT) (e : z_X) : Prop :=
  ∀ (f n tr : Nat) (sv tv : Nat → Int) (u : z_V), rR (gT v cb) f e → n + tr + lR e ≤ 320 → f + lR e ≤ en → Fr (sT [1221, 1222]) v u → VS u n tr sv tv →
    (∀ (u' : z_V), Fr (sT [1221, 1222]) v u' → VS u' (n + 1) tr (ps sv n (ev (fav N nu) (sgv nu) (nmv N nu D F wh num) e 0)) tv → Wu d Q xq cb en (n + 1) tr (f + lR e) u') → Wu d Q xq cb en n tr f u
def RunB (d : Nat) (v : z_V) (N : z_N) (nu : Nat → Nat) (D F wh num xq cb en : Nat) (Q : z_RT) (e : z_X) : Prop :=
  ∀ (f n tr : Nat) (sv tv : Nat → Int) (u : z_V), rR (gT v cb) f e → n + tr + lR e ≤ 320 → f + lR e ≤ en → Fr (sT [1221, 1222]) v u → VS u n tr sv tv →
    (∀ (u' : z_V), Fr (sT [1221, 1222]) v u' → VS u' n (tr + 1) sv (ps tv tr (ev (fav N nu) (sgv nu) (nmv N nu D F wh num) e 0)) → Wu d Q xq cb en n (tr + 1) (f + lR e) u') → Wu d Q xq cb en n tr f u
theorem sV_not {t k : Nat} (h : t ≠ 1221 ∧ t ≠ 1222) : ¬ sT [1221, 1222] t k := by
  intro q
  have q : t ∈ [1221, 1222] := q
  simp only [List.mem_cons, List.not_mem_nil, or_false] at q
  omega
theorem sV_in {t k : Nat} (h : t ∈ [1221, 1222]) : sT [1221, 1222] t k := h
/-- coming to an operation that isn't a leaf -/
theorem s_at119 {xq cb en n tr f o : Nat} {Q : z_RT} {u : z_V} (hx : xq ≤ 2700) (hcb : cb + 2 * en + 1 ≤ 2724) (hen : gI u 1202 0 (xq + 2) = nI en) (hf : f < en) (ho : gI u 1202 0 (cb + 2 * f) = nI o) (ho2 : 1 < o) (ho3 : o < 100)
    (h : ∀ (u1 u2 u9 : Option z_AV), z_Wp (z_C (d + 3)) 2 k_X11_summedUp Q 119 [some (vR 11 0), u1, u2, some (vI (nI xq)), some (vI (nI cb)), some (vI (nI n)), some (vI (nI tr)), some (vI (nI f)), some (vI (nI o)), u9] [] u) : Wu d Q xq cb en n tr f u := by
  intro u1 u2 u8 u9
  refine B_X11_summedUp_38 ?_
  rw [show nI xq + 2 = nI (xq + 2) from nI_add xq 2, show (nI cb + 2 * nI f) = nI (cb + 2 * f) by rw [show (2 : Int32) = nI 2 from rfl, pk_mul, nI_add], nI_1, n_nI (by omega), n_nI (by omega), n_nI (by omega), hen]
  refine z_ii (xq + 2) rfl (by omega) (pk_le en f (fun q => absurd q (by omega)) (fun _ => z_ii (cb + 2 * f) rfl (by omega) (z_ii (cb + 2 * f + 1) rfl (by omega) ?_)))
  rw [ho]
  exact pk_lt 1 o (fun _ => h _ _ _) (fun q => absurd q (by omega))
theorem Fr.i2 {u v : z_V} (h : Fr (sT [1221, 1222]) v u) (k : Nat) : gI u 1202 0 k = gI v 1202 0 k := h.i (sV_not (by decide))
theorem s_runR {xq cb en : Nat} {Q : z_RT} {r : Bool} (hM : ME v N nu D F) (hN : Nmd v N nu D F wh num r) (hwh : wh < 10) (hnum : num ≤ 99) (hx : xq ≤ 2700) (hcb : cb + 2 * en + 1 ≤ 2724) (hen : gI v 1202 0 (xq + 2) = nI en) (e : z_X) : (ty r e = 1 → RunS d v N nu D F wh num xq cb en Q e) ∧ (ty r e = 2 → RunB d v N nu D F wh num xq cb en Q e) := by
  have hu : ∀ h, h < 7 → nu h ≤ 99 := fun h hh => (hM.1.2.2.2.2 h hh).2
  have hD := hM.2.2.2.1
  have hF := hM.2.2.2.2
  have hbd := fun e => ev_bd (fav_bd hM.1.1 hu) (sgv_bd hu) (nmv_bd (wh := wh) (num := num) hM.1.1 hu hD hF (by omega) hnum) r e
  have leaf : ∀ (o k : Nat), o < 2 → (o = 0 → k ≤ 9999) → (o = 1 → k < 10 ∧ (4 ≤ k → (k < 7 ↔ r = true))) → RunS d v N nu D F wh num xq cb en Q (.leaf (o, k)) := by
    intro o k ho h0 h1 f n tr sv tv u hr hsz hle hf hV c
    have hr : gT v cb f = (nI o, nI k) := hr
    have g1 : gI u 1202 0 (cb + 2 * f) = nI o := (hf.i2 _).trans (congrArg Prod.fst hr)
    have g2 : gI u 1202 0 (cb + 2 * f + 1) = nI k := (hf.i2 _).trans (congrArg Prod.snd hr)
    have hsz : n + tr + 1 ≤ 320 := hsz
    have hle : f + 1 ≤ en := hle
    intro u1 u2 u8 u9
    refine B_X11_summedUp_38 ?_
    rw [show nI xq + 2 = nI (xq + 2) from nI_add xq 2, show (nI cb + 2 * nI f) = nI (cb + 2 * f) by rw [show (2 : Int32) = nI 2 from rfl, pk_mul, nI_add], nI_1, n_nI (by omega), n_nI (by omega), n_nI (by omega), (hf.i2 _).trans hen]
    refine z_ii (xq + 2) rfl (by omega) (pk_le en f (fun q => absurd q (by omega)) (fun _ => z_ii (cb + 2 * f) rfl (by omega) (z_ii (cb + 2 * f + 1) rfl (by omega) ?_)))
    rw [g1, g2, n_nI (n := n) (by omega), nI_1, nI_1]
    refine pk_lt 1 o (fun q => absurd q (by omega)) (fun _ => ?_)
    have fin : ∀ y : Int64, y = lI (ev (fav N nu) (sgv nu) (nmv N nu D F wh num) (.leaf (o, k)) 0) → ∀ (u1 u2 u8 u9 : Option z_AV), z_Wp (z_C (d + 3)) 2 k_X11_summedUp Q 38 [some (vR 11 0), u1, u2, some (vI (nI xq)), some (vI (nI cb)), some (vI (nI (n + 1))), some (vI (nI tr)), some (vI (nI (f + 1))), u8, u9] [] (pL u 1221 0 n y) := by
      intro y hy
      refine c _ (hf.pL (sV_in (by decide))) ⟨fun j hj => ?_, fun j hj => hV.2 j hj⟩
      by_cases e : j = n
      · subst e
        rw [gL_pL_s, ps_s, hy]
      · rw [gL_pL_k e, ps_n e]
        exact hV.1 j (by omega)
    have hkb : k < 2 ^ 31 := by
      rcases (show o = 0 ∨ o = 1 by omega) with e | e
      · have := h0 e; omega
      · have := (h1 e).1; omega
    refine pk_ne o 0 (fun q => ?_) (fun q => ?_)
    · obtain rfl : o = 1 := by omega
      have hk := h1 rfl
      refine z_ii k rfl hk.1 (z_ii n rfl (by omega) ?_)
      rw [n_nI (by omega), (hf.i (sV_not (by decide))).trans (hN k hk.1 hk.2)]
      have hb := nmv_bd (wh := wh) (num := num) hM.1.1 hu hD hF (by omega) hnum k
      unfold bd at hb
      exact fin _ (iI_l (x := nmv N nu D F wh num k) (by omega) (by omega)) _ _ _ _
    · subst q
      refine z_ii n rfl (by omega) ?_
      exact fin _ ((nI_l hkb).trans (lI_lN k).symm) _ _ _ _
  -- one that takes one
  have one : ∀ o a b, o = 2 ∨ o = 4 ∨ o = 5 → bd (ev (fav N nu) (sgv nu) (nmv N nu D F wh num) a 0) → RunS d v N nu D F wh num xq cb en Q a → RunS d v N nu D F wh num xq cb en Q (.branch o a b) := by
    intro o a b ho hba iha f n tr sv tv u hr hsz hle hf hV k
    have hun : un o = true := by rcases ho with e | e | e <;> subst e <;> rfl
    have hL : lR (.branch o a b) = lR a + 1 := by simp only [lR]; rw [if_neg (by omega), if_pos hun]
    have hEv : ev (fav N nu) (sgv nu) (nmv N nu D F wh num) (.branch o a b) 0 = xu (fav N nu) (sgv nu) o (ev (fav N nu) (sgv nu) (nmv N nu D F wh num) a 0) := by simp only [ev]; rw [if_neg (by omega), if_neg (by omega), if_pos hun]
    rw [hL, hEv] at k
    rw [hL] at hle hsz
    simp only [rR] at hr
    rw [if_neg (by omega), if_pos hun] at hr
    refine iha f n tr sv tv u hr.1 (by omega) (by omega) hf hV (fun u' hf' hV' => ?_)
    refine s_at119 hx hcb ((hf'.i2 _).trans hen) (by omega) ((hf'.i2 _).trans hr.2) (by omega) (by omega) (fun u1 u2 u9 => ?_)
    refine B_X11_summedUp_119 (pk_ne o 3 (fun _ => ?_) (fun q => absurd q (by omega)))
    refine B_X11_summedUp_160 (pk_lt 5 o (fun q => absurd q (by omega)) (fun _ => ?_))
    rw [nI_pred, n_nI (by omega), hV'.1 n (by omega), ps_s, nI_1]
    refine z_ii n rfl (by omega) (cPL (s_ofOne (hM.1.fr hf' (fun _ => sV_not (by decide))) hba ho) (z_ii n rfl (by omega) ?_))
    refine k _ (hf'.pL (sV_in (by decide))) ⟨fun j hj => ?_, fun j hj => hV'.2 j hj⟩ _ _ _ _
    by_cases e : j = n
    · subst e
      rw [gL_pL_s, ps_s]
    · rw [gL_pL_k e, ps_n e, hV'.1 j (by omega), ps_n e]
  have two : ∀ o a b, 6 ≤ o → o ≤ 9 → bd (ev (fav N nu) (sgv nu) (nmv N nu D F wh num) a 0) → bd (ev (fav N nu) (sgv nu) (nmv N nu D F wh num) b 0) → RunS d v N nu D F wh num xq cb en Q a → RunS d v N nu D F wh num xq cb en Q b → RunS d v N nu D F wh num xq cb en Q (.branch o a b) := by
    intro o a b ho ho2 hba hbb iha ihb f n tr sv tv u hr hsz hle hf hV k
    have hun : ¬ un o = true := un_not (by omega) (by omega) (by omega) (by omega)
    have hL : lR (.branch o a b) = lR a + lR b + 1 := by simp only [lR]; rw [if_neg (by omega), if_neg hun]
    have hEv : ev (fav N nu) (sgv nu) (nmv N nu D F wh num) (.branch o a b) 0 = xd o (ev (fav N nu) (sgv nu) (nmv N nu D F wh num) a 0) (ev (fav N nu) (sgv nu) (nmv N nu D F wh num) b 0) := by simp only [ev]; rw [if_neg (by omega), if_neg (by omega), if_neg hun]
    rw [hL, hEv] at k
    rw [hL] at hle hsz
    simp only [rR] at hr
    rw [if_neg (by omega), if_neg hun] at hr
    refine iha f n tr sv tv u hr.1 (by omega) (by omega) hf hV (fun u' hf' hV' => ?_)
    refine ihb (f + lR a) (n + 1) tr _ tv u' hr.2.1 (by have := lR_pos a; omega) (by omega) hf' hV' (fun u' hf' hV' => ?_)
    refine s_at119 hx hcb ((hf'.i2 _).trans hen) (by omega) ((hf'.i2 _).trans hr.2.2) (by omega) (by omega) (fun u1 u2 u9 => ?_)
    refine B_X11_summedUp_119 (pk_ne o 3 (fun _ => ?_) (fun q => absurd q (by omega)))
    refine B_X11_summedUp_160 (pk_lt 5 o (fun _ => ?_) (fun q => absurd q (by omega)))
    refine B_X11_summedUp_193 (pk_le 10 o (fun q => absurd q (by omega)) (fun _ => ?_))
    rw [pk_m1]
    refine B_X11_summedUp_203 ?_
    rw [nI_pred, n_nI (by omega), n_nI (by omega), hV'.1 n (by omega), hV'.1 (n + 1) (by omega), ps_n (by omega), ps_s, ps_s, nI_1]
    have h1 := lR_pos a
    have h2 := lR_pos b
    refine z_ii n rfl (by omega) (z_ii (n + 1) rfl (by omega) (cPL (s_two hba hbb ho ho2) (z_ii n rfl (by omega) ?_)))
    rw [show f + lR a + lR b + 1 = f + (lR a + lR b + 1) by omega]
    refine k _ (hf'.pL (sV_in (by decide))) ⟨fun j hj => ?_, fun j hj => hV'.2 j hj⟩ _ _ _ _
    by_cases e : j = n
    · subst e
      rw [gL_pL_s, ps_s]
    · rw [gL_pL_k e, ps_n e, hV'.1 j (by omega), ps_n (by omega), ps_n e]
  have join : ∀ o a b, o = 21 ∨ o = 22 → bd (ev (fav N nu) (sgv nu) (nmv N nu D F wh num) a 0) → bd (ev (fav N nu) (sgv nu) (nmv N nu D F wh num) b 0) → RunB d v N nu D F wh num xq cb en Q a → RunB d v N nu D F wh num xq cb en Q b → RunB d v N nu D F wh num xq cb en Q (.branch o a b) := by
    intro o a b ho hba hbb iha ihb f n tr sv tv u hr hsz hle hf hV k
    have hun : ¬ un o = true := un_not (by omega) (by omega) (by omega) (by omega)
    have hL : lR (.branch o a b) = lR a + lR b + 1 := by simp only [lR]; rw [if_neg (by omega), if_neg hun]
    have hEv : ev (fav N nu) (sgv nu) (nmv N nu D F wh num) (.branch o a b) 0 = xb (hv o (ev (fav N nu) (sgv nu) (nmv N nu D F wh num) a 0) (ev (fav N nu) (sgv nu) (nmv N nu D F wh num) b 0)) := by
      simp only [ev]
      rw [if_neg (by omega), if_neg (by omega), if_neg hun]
      rcases ho with e | e <;> subst e <;> rfl
    rw [hL, hEv] at k
    rw [hL] at hle hsz
    simp only [rR] at hr
    rw [if_neg (by omega), if_neg hun] at hr
    refine iha f n tr sv tv u hr.1 (by omega) (by omega) hf hV (fun u' hf' hV' => ?_)
    refine ihb (f + lR a) n (tr + 1) sv _ u' hr.2.1 (by have := lR_pos a; omega) (by omega) hf' hV' (fun u' hf' hV' => ?_)
    refine s_at119 hx hcb ((hf'.i2 _).trans hen) (by omega) ((hf'.i2 _).trans hr.2.2) (by omega) (by omega) (fun u1 u2 u9 => ?_)
    refine B_X11_summedUp_119 (pk_ne o 3 (fun _ => ?_) (fun q => absurd q (by omega)))
    refine B_X11_summedUp_160 (pk_lt 5 o (fun _ => ?_) (fun q => absurd q (by omega)))
    refine B_X11_summedUp_193 (pk_le 10 o (fun _ => ?_) (fun q => absurd q (by omega)))
    refine B_X11_summedUp_236 (pk_le 20 o (fun _ => ?_) (fun q => absurd q (by omega)))
    refine B_X11_summedUp_280 (pk_ne o 20 (fun _ => ?_) (fun q => absurd q (by omega)))
    refine B_X11_summedUp_316 ?_
    rw [pk_m1]
    refine B_X11_summedUp_319 ?_
    rw [nI_pred, n_nI (by omega), n_nI (by omega), hV'.2 tr (by omega), hV'.2 (tr + 1) (by omega), ps_n (by omega), ps_s, ps_s, nI_1]
    have h1 := lR_pos a
    have h2 := lR_pos b
    refine z_ii tr rfl (by omega) (z_ii (tr + 1) rfl (by omega) (cP (s_joinR hba hbb ho) (z_if_k (by rw [z_inN tr rfl (by omega), bI_01]; rfl) ?_)))
    rw [show f + lR a + lR b + 1 = f + (lR a + lR b + 1) by omega]
    refine k _ (hf'.pI (sV_in (by decide))) ⟨fun j hj => hV'.1 j hj, fun j hj => ?_⟩ _ _ _ _
    by_cases e : j = tr
    · subst e
      rw [gI_pI_s, ps_s, iI_bI]
    · rw [gI_pI_k e, ps_n e, hV'.2 j (by omega), ps_n (by omega), ps_n e]
  have h := xInd r (RunS d v N nu D F wh num xq cb en Q) (RunB d v N nu D F wh num xq cb en Q)
    (fun n hn => leaf 0 n (by omega) (fun _ => hn) (fun q => by cases q))
    (fun n hn hr => leaf 1 n (by omega) (fun q => by cases q) (fun _ => ⟨hn, hr⟩))
    (fun o a b ho ha iha => one o a b ho ((hbd a).1 ha) iha)
    (fun o a b ho ho2 ha hb iha ihb => two o a b ho ho2 ((hbd a).1 ha) ((hbd b).1 hb) iha ihb)
    (fun c x y hc hx2 hy ihc ihx ihy => by
      intro f n tr sv tv u hr hsz hle hf hV k
      have hL : lR (.branch 3 c (.branch 30 x y)) = lR c + (lR x + lR y) + 1 := by
        simp only [lR]
        rw [if_neg (by decide), if_neg (by decide), if_pos trivial]
      have hEv : ev (fav N nu) (sgv nu) (nmv N nu D F wh num) (.branch 3 c (.branch 30 x y)) 0 = if ev (fav N nu) (sgv nu) (nmv N nu D F wh num) c 0 = 0 then ev (fav N nu) (sgv nu) (nmv N nu D F wh num) y 0 else ev (fav N nu) (sgv nu) (nmv N nu D F wh num) x 0 := by
        simp only [ev]
        rw [if_pos trivial, if_neg (by decide), if_pos trivial]
      rw [hL, hEv] at k
      rw [hL] at hle hsz
      simp only [rR, lR] at hr
      rw [if_neg (by decide), if_neg (by decide), if_pos trivial, if_pos trivial] at hr
      obtain ⟨r1, ⟨r2, r3⟩, r4⟩ := hr
      have h1 := lR_pos c
      have h2 := lR_pos x
      have h3 := lR_pos y
      have hbc := (hbd c).2 hc
      unfold bd at hbc
      refine ihc f n tr sv tv u r1 (by omega) (by omega) hf hV (fun u' hf' hV' => ?_)
      refine ihx (f + lR c) n (tr + 1) sv _ u' r2 (by omega) (by omega) hf' hV' (fun u' hf' hV' => ?_)
      refine ihy (f + lR c + lR x) (n + 1) (tr + 1) _ _ u' r3 (by omega) (by omega) hf' hV' (fun u' hf' hV' => ?_)
      rw [show f + lR c + lR x + lR y = f + lR c + (lR x + lR y) by omega]
      refine s_at119 hx hcb ((hf'.i2 _).trans hen) (by omega) ((hf'.i2 _).trans r4) (by omega) (by omega) (fun u1 u2 u9 => ?_)
      refine B_X11_summedUp_119 (br_nF (by rfl) ?_)
      rw [pk_m1, pk_m1]
      refine B_X11_summedUp_131 (z_ii tr rfl (by omega) ?_)
      rw [n_nI (n := tr) (by omega), hV'.2 tr (by omega), ps_s, nI_1, show f + lR c + (lR x + lR y) + 1 = f + (lR c + (lR x + lR y) + 1) by omega]
      have e0 := iI0 (x := ev (fav N nu) (sgv nu) (nmv N nu D F wh num) c 0) (by omega) (by omega)
      refine pickN e0 (fun q => ?_) (fun q => ?_)
      · rw [if_neg q] at k
        refine k _ hf' ⟨fun j hj => ?_, fun j hj => ?_⟩ _ _ _ _
        · rw [hV'.1 j (by omega), ps_n (by omega)]
        · rw [hV'.2 j (by omega), ps_n (by omega)]
      · rw [if_pos q] at k
        refine z_ii (n + 1) rfl (by omega) ?_
        rw [nI_pred, n_nI (by omega), n_nI (by omega), hV'.1 (n + 1) (by omega), ps_s]
        refine z_ii n rfl (by omega) (k _ (hf'.pL (sV_in (by decide))) ⟨fun j hj => ?_, fun j hj => ?_⟩ _ _ _ _)
        · by_cases e : j = n
          · subst e
            rw [gL_pL_s, ps_s]
          · rw [gL_pL_k e, ps_n e, hV'.1 j (by omega), ps_n (by omega), ps_n e]
        · show gI u' 1222 0 j = _
          rw [hV'.2 j (by omega), ps_n (by omega)])
    (fun o a b ho ho2 ha hb iha ihb => by
      intro f n tr sv tv u hr hsz hle hf hV k
      have hba := (hbd a).1 ha
      have hbb := (hbd b).1 hb
      have hun : ¬ un o = true := un_not (by omega) (by omega) (by omega) (by omega)
      have hL : lR (.branch o a b) = lR a + lR b + 1 := by simp only [lR]; rw [if_neg (by omega), if_neg hun]
      have hEv : ev (fav N nu) (sgv nu) (nmv N nu D F wh num) (.branch o a b) 0 = xb (hv o (ev (fav N nu) (sgv nu) (nmv N nu D F wh num) a 0) (ev (fav N nu) (sgv nu) (nmv N nu D F wh num) b 0)) := by
        simp only [ev]
        rw [if_neg (by omega), if_neg (by omega), if_neg hun]
        have hc : o = 10 ∨ o = 11 ∨ o = 12 ∨ o = 13 ∨ o = 14 ∨ o = 15 := by omega
        rcases hc with e | e | e | e | e | e <;> subst e <;> rfl
      rw [hL, hEv] at k
      rw [hL] at hle hsz
      simp only [rR] at hr
      rw [if_neg (by omega), if_neg hun] at hr
      refine iha f n tr sv tv u hr.1 (by omega) (by omega) hf hV (fun u' hf' hV' => ?_)
      refine ihb (f + lR a) (n + 1) tr _ tv u' hr.2.1 (by have := lR_pos a; omega) (by omega) hf' hV' (fun u' hf' hV' => ?_)
      refine s_at119 hx hcb ((hf'.i2 _).trans hen) (by omega) ((hf'.i2 _).trans hr.2.2) (by omega) (by omega) (fun u1 u2 u9 => ?_)
      refine B_X11_summedUp_119 (pk_ne o 3 (fun _ => ?_) (fun q => absurd q (by omega)))
      refine B_X11_summedUp_160 (pk_lt 5 o (fun _ => ?_) (fun q => absurd q (by omega)))
      refine B_X11_summedUp_193 (pk_le 10 o (fun _ => ?_) (fun q => absurd q (by omega)))
      refine B_X11_summedUp_236 (pk_le 20 o (fun q => absurd q (by omega)) (fun _ => ?_))
      rw [pk_m2]
      refine B_X11_summedUp_246 ?_
      have h1 := lR_pos a
      have h2 := lR_pos b
      rw [nI_1, nI_1, nI_1, n_nI (by omega), n_nI (by omega), n_nI (by omega), hV'.1 n (by omega), hV'.1 (n + 1) (by omega), ps_n (by omega), ps_s, ps_s]
      refine z_ii n rfl (by omega) (z_ii (n + 1) rfl (by omega) (cP (s_isAsked hba hbb ho ho2) (z_if_k (by rw [z_inN tr rfl (by omega), bI_01]; rfl) ?_)))
      rw [show f + lR a + lR b + 1 = f + (lR a + lR b + 1) by omega]
      refine k _ (hf'.pI (sV_in (by decide))) ⟨fun j hj => ?_, fun j hj => ?_⟩ _ _ _ _
      · show gL u' 1221 0 j = _
        rw [hV'.1 j (by omega), ps_n (by omega), ps_n (by omega)]
      · by_cases e : j = tr
        · subst e
          rw [gI_pI_s, ps_s, iI_bI]
        · rw [gI_pI_k e, ps_n e, hV'.2 j (by omega)])
    (fun a b ha iha => by
      intro f n tr sv tv u hr hsz hle hf hV k
      have hL : lR (.branch 20 a b) = lR a + 1 := by simp only [lR]; rw [if_neg (by decide), if_pos (by rfl)]
      have hEv : ev (fav N nu) (sgv nu) (nmv N nu D F wh num) (.branch 20 a b) 0 = xb (decide (ev (fav N nu) (sgv nu) (nmv N nu D F wh num) a 0 = 0)) := by simp only [ev]; rw [if_neg (by decide), if_neg (by decide), if_pos (by rfl)]; rfl
      have hba := (hbd a).2 ha
      unfold bd at hba
      rw [hL, hEv] at k
      rw [hL] at hle hsz
      simp only [rR] at hr
      rw [if_neg (by decide), if_pos (by rfl)] at hr
      have h1 := lR_pos a
      refine iha f n tr sv tv u hr.1 (by omega) (by omega) hf hV (fun u' hf' hV' => ?_)
      refine s_at119 hx hcb ((hf'.i2 _).trans hen) (by omega) ((hf'.i2 _).trans hr.2) (by omega) (by omega) (fun u1 u2 u9 => ?_)
      refine B_X11_summedUp_119 (br_nT (by decide) ?_)
      refine B_X11_summedUp_160 (br_T (by decide) ?_)
      refine B_X11_summedUp_193 (br_T (by decide) ?_)
      refine B_X11_summedUp_236 (br_T (by decide) ?_)
      refine B_X11_summedUp_280 (br_nF (by rfl) ?_)
      rw [nI_pred, n_nI (by omega), hV'.2 tr (by omega), ps_s, nI_1]
      have e0 := iI0 (x := ev (fav N nu) (sgv nu) (nmv N nu D F wh num) a 0) (by omega) (by omega)
      have fin : ∀ y : Int32, y = iI (xb (decide (ev (fav N nu) (sgv nu) (nmv N nu D F wh num) a 0 = 0))) → ∀ (u1 u2 u8 u9 : Option z_AV), z_Wp (z_C (d + 3)) 2 k_X11_summedUp Q 38 [some (vR 11 0), u1, u2, some (vI (nI xq)), some (vI (nI cb)), some (vI (nI n)), some (vI (nI (tr + 1))), some (vI (nI (f + lR a + 1))), u8, u9] [] (pI u' 1222 0 tr y) := by
        intro y hy
        refine k _ (hf'.pI (sV_in (by decide))) ⟨fun j hj => hV'.1 j hj, fun j hj => ?_⟩
        by_cases e : j = tr
        · subst e
          rw [gI_pI_s, ps_s, hy]
        · rw [gI_pI_k e, ps_n e, hV'.2 j (by omega), ps_n e]
      refine z_ii tr rfl (by omega) (pickN e0 (fun q => z_if_k (by rw [z_inN tr rfl (by omega)]; rfl) (fin 0 ?_ _ _ _ _)) (fun q => z_if_k (by rw [z_inN tr rfl (by omega)]; rfl) (fin 1 ?_ _ _ _ _)))
      · rw [decide_eq_false q]
        rfl
      · rw [decide_eq_true q]
        rfl)
    (fun o a b ho ha hb iha ihb => join o a b ho ((hbd a).2 ha) ((hbd b).2 hb) iha ihb) e
  exact ⟨h.1, h.2.1⟩
end TLU
