/-! pairs of calls with a search -/
def mkA (N : z_N) (a r : Int32) : Prop := (inr a 128 = false ∧ r = -1) ∨ ∃ mk, mk < 128 ∧ a = nI mk ∧ isMk N mk r
def gmA (N : z_N) (a r : Int32) : Prop := (inr a 128 = false ∧ r = -1) ∨ ∃ mk x, mk < 128 ∧ a = nI mk ∧ isMk N mk x ∧ r = bI (decide (x ≠ -1))
theorem n128 {a : Int32} {m : Nat} (hm : m < 128) (e : a = nI m) : inr a 128 = true := by
  rw [e, inr_nI (by omega)]
  exact decide_eq_true hm
theorem mkA.u {N : z_N} {a r s : Int32} (h : mkA N a r) (g : mkA N a s) : r = s := by
  rcases h with ⟨h1, h2⟩ | ⟨m, h1, h2, h3⟩
  · rcases g with ⟨_, g2⟩ | ⟨n, g1, g2, _⟩
    · rw [h2, g2]
    · rw [n128 g1 g2] at h1
      cases h1
  · rcases g with ⟨g1, _⟩ | ⟨n, g1, g2, g3⟩
    · rw [n128 h1 h2] at g1
      cases g1
    · obtain rfl : m = n := (nI_eq (by omega) (by omega)).mp (h2.symm.trans g2)
      exact h3.u h1 g3
theorem gmA.u {N : z_N} {a r s : Int32} (h : gmA N a r) (g : gmA N a s) : r = s := by
  rcases h with ⟨h1, h2⟩ | ⟨m, x, h1, h2, h3, h4⟩
  · rcases g with ⟨_, g2⟩ | ⟨n, y, g1, g2, _, _⟩
    · rw [h2, g2]
    · rw [n128 g1 g2] at h1
      cases h1
  · rcases g with ⟨g1, _⟩ | ⟨n, y, g1, g2, g3, g4⟩
    · rw [n128 h1 h2] at g1
      cases g1
    · obtain rfl : m = n := (nI_eq (by omega) (by omega)).mp (h2.symm.trans g2)
      rw [h4, g4, isMk.u h1 h3 g3]
def apA (N : z_N) (a b c r : Int32) : Prop := ((inr a 4 && inr b 4) = false ∧ r = -1) ∨ ∃ x y, x < 4 ∧ y < 4 ∧ a = nI x ∧ b = nI y ∧ spA 2 x y N c r
theorem apA.u {N : z_N} {a b c r s : Int32} (h : apA N a b c r) (g : apA N a b c s) : r = s := by
  have n4 : ∀ {x : Int32} {m : Nat}, m < 4 → x = nI m → inr x 4 = true := fun {x m} hm e => by
    rw [e, inr_nI (by omega)]
    exact decide_eq_true hm
  rcases h with ⟨h1, h2⟩ | ⟨x, y, h1, h2, h3, h4, h5⟩
  · rcases g with ⟨_, g2⟩ | ⟨z, w, g1, g2, g3, g4, _⟩
    · rw [h2, g2]
    · rw [n4 g1 g3, n4 g2 g4] at h1
      cases h1
  · rcases g with ⟨g1, _⟩ | ⟨z, w, g1, g2, g3, g4, g5⟩
    · rw [n4 h1 h3, n4 h2 h4] at g1
      cases g1
    · obtain rfl : x = z := (nI_eq (by omega) (by omega)).mp (h3.symm.trans g3)
      obtain rfl : y = w := (nI_eq (by omega) (by omega)).mp (h4.symm.trans g4)
      exact h5.u g5
section PRB
variable {v : z_V}
theorem P_parts (h : Inv v) : PR 100 m_X10_parts m_X11_parts [] v := by
  obtain ⟨⟨q, hC, hR⟩, hA⟩ := h
  refine PR.s (P := fun r => r = nI (prt (wNet (qW q)) (nP (wNet (qW q))))) (fun r s h g => h.trans g.symm) hC hR (ZI.m (s_partsC (d := 96) hC.2.1.cw) (fun u r hu => ?_)) (fun u hu Q k => s_partsR (d := 96) hu.2.1.me.1 Q (k _ _ ⟨rfl, hu, Fn.rfl⟩))
  obtain ⟨f1, f2⟩ := kc_fr hu.2.2 (fun t k q => by have := sNet_t q; omega)
  exact ⟨hu.1, f1, hA.kc f2⟩
theorem P_cuts (h : Inv v) : PR 100 m_X10_cuts m_X11_cuts [] v := by
  obtain ⟨⟨q, hC, hR⟩, hA⟩ := h
  refine PR.s (P := fun r => r = nI (bs 10 (cut (wNet (qW q))))) (fun r s h g => h.trans g.symm) hC hR (ZI.m (s_cutsC (d := 96) hC.2.1.cw) (fun u r hu => ?_)) (fun u hu Q k => s_cutsR (d := 96) hu.2.1.me.1 Q (k _ _ ⟨rfl, hu, Fn.rfl⟩))
  obtain ⟨f1, f2⟩ := kc_fr hu.2.2 (fun t k q => by have := sNet_t q; omega)
  exact ⟨hu.1, f1, hA.kc f2⟩
theorem P_mark {a : Int32} (h : Inv v) : PR 100 m_X10_mark m_X11_mark [vI a] v := by
  obtain ⟨⟨q, hC, hR⟩, hA⟩ := h
  refine PR.s (P := mkA (wNet (qW q)) a) (fun r s h g => h.u g) hC hR (ZI.m (s_markC (d := 97) hC.2.1.cw) (fun u r hu => ?_)) (fun u hu => ZI.m (s_markR (d := 94) hu.2.1.me.1) (fun w r hw => ⟨hw.1, hu.rs (rs_1 (by decide) hw.2)⟩))
  obtain ⟨f1, f2⟩ := kc_fr hu.2 (fun t k q => by have := sGm_t q; omega)
  exact ⟨hu.1, f1, hA.kc f2⟩
theorem P_game {a : Int32} (h : Inv v) : PR 100 m_X10_game m_X11_game [vI a] v := by
  obtain ⟨⟨q, hC, hR⟩, hA⟩ := h
  refine PR.s (P := gmA (wNet (qW q)) a) (fun r s h g => h.u g) hC hR (ZI.m (s_gameC (d := 97) hC.2.1.cw) (fun u r hu => ?_)) (fun u hu => ZI.m (s_gameR (d := 94) hu.2.1.me.1) (fun w r hw => ⟨hw.1, hu.rs (rs_1 (by decide) hw.2)⟩))
  obtain ⟨f1, f2⟩ := kc_fr hu.2 (fun t k q => by have := sGm_t q; omega)
  exact ⟨hu.1, f1, hA.kc f2⟩
theorem P_ride {a b : Int32} (h : Inv v) : PR 100 m_X10_ride m_X11_ride [vI a, vI b] v := by
  obtain ⟨⟨q, hC, hR⟩, hA⟩ := h
  refine PR.s (P := isRid (wNet (qW q)) (wnu (qW q)) a b) (fun r s h g => h.u g) hC hR (ZI.m (s_rideC (d := 96) hC.2.1.cw) (fun u r hu => ?_)) (fun u hu => ZI.m (s_rideR (d := 96) hu.2.1.me.1) (fun w r hw => ⟨hw.1, hu.rs (rs_1 (by decide) hw.2)⟩))
  obtain ⟨f1, f2⟩ := kc_fr hu.2 (fun t k q => by have := sRd_t q; omega)
  exact ⟨hu.1, f1, hA.kc f2⟩
theorem P_change {a b i : Int32} (h : Inv v) : PR 100 m_X10_change m_X11_change [vI a, vI b, vI i] v := by
  obtain ⟨⟨q, hC, hR⟩, hA⟩ := h
  refine PR.s (P := isChg (wNet (qW q)) (wnu (qW q)) a b i) (fun r s h g => h.u g) hC hR (ZI.m (s_changeC (d := 96) hC.2.1.cw) (fun u r hu => ?_)) (fun u hu => ZI.m (s_changeR (d := 96) hu.2.1.me.1) (fun w r hw => ⟨hw.1, hu.rs (rs_1 (by decide) hw.2)⟩))
  obtain ⟨f1, f2⟩ := kc_fr hu.2 (fun t k q => by have := sRd_t q; omega)
  exact ⟨hu.1, f1, hA.kc f2⟩
theorem P_total (h : Inv v) : PR 100 m_X10_total m_X11_total [] v := by
  obtain ⟨⟨q, hC, hR⟩, hA⟩ := h
  refine PR.s (P := toA (wNet (qW q))) (fun r s h g => h.u g) hC hR (ZI.m (s_totalC (d := 97) hC.2.1.cw) (fun u r hu => ?_)) (fun u hu => ZI.m (s_totalR (d := 95) hu.2.1.me.1) (fun w r hw => ⟨hw.1, hu.rs (rs_wh hw.2)⟩))
  obtain ⟨f1, f2⟩ := kc_fr hu.2 (fun t k q => by have := sGm_t q; omega)
  exact ⟨hu.1, f1, hA.kc f2⟩
theorem P_names (h : Inv v) : PR 100 m_X10_names m_X11_names [] v := by
  obtain ⟨⟨q, hC, hR⟩, hA⟩ := h
  refine PR.s (P := fun r => r = nI (nmC (wNet (qW q)))) (fun r s h g => h.trans g.symm) hC hR (ZI.m (s_namesC (d := 80) hC.2.1.cw) (fun u r hu => ?_)) (fun u hu => ZI.m (s_namesR (d := 94) hu.2.1.me.1) (fun w r hw => ⟨hw.1, hu.rs (rs_nm hw.2)⟩))
  obtain ⟨f1, f2⟩ := kc_fr hu.2 (fun t k q => by
    rcases q with q | q
    · have := sNet_t q
      omega
    · unfold fSw at q
      omega)
  exact ⟨hu.1, f1, hA.kc f2⟩
theorem P_mend (h : Inv v) : PR 100 m_X10_mend m_X11_mend [] v := by
  obtain ⟨⟨q, hC, hR⟩, hA⟩ := h
  refine PR.s (P := mnA (wNet (qW q)) (wnu (qW q))) (fun r s h g => h.u g) hC hR (ZI.m (s_mendC (d := 80) hC.2.1.cw) (fun u r hu => ?_)) (fun u hu => ZI.m (s_mendR (d := 94) hu.2.1.me.1) (fun w r hw => ⟨hw.1, hu.rs (rs_wh hw.2)⟩))
  have hs : ∀ t k, fMdC t k → t = 0 ∨ t = 100 ∨ t = 101 ∨ t = 102 ∨ t = 202 ∨ (t = 1 ∧ 6 ≤ k) := fun t k q => by
    rcases q with q | q | q
    · have := sNet_t q
      omega
    · unfold fGo at q
      omega
    · unfold fBn at q
      omega
  have sb := hA.sb hu.2 (fun t k q => by have := hs t k q; omega)
  exact ⟨hu.1, sc_fr hu.2 (fun t k q => by have := hs t k q; omega), sb.1, sb.2, hA.nb hu.2 (fun t k q => by have := hs t k q; omega), hA.wh hu.2 (fun t k q => by have := hs t k q; omega), hA.al hu.2 (fun t k q => by have := hs t k q; omega), hA.ul hu.2 (fun t k q => by have := hs t k q; omega)⟩
theorem nbC_t {t k : Nat} (q : fNbC t k) : t = 0 ∨ t = 100 ∨ t = 101 ∨ t = 102 ∨ t = 200 ∨ t = 202 ∨ (t = 1 ∧ k ≠ 4 ∧ k ≠ 5) := by
  rcases q with q | q
  · have := sNet_t q
    omega
  · unfold fNb at q
    omega
theorem nb_all {u : z_V} (hA : CA v) (h : cNb u) (f : Fr fNbC v u) : Fn tSc v u ∧ CA u := by
  have sb := hA.sb f (fun t k q => by have := nbC_t q; omega)
  exact ⟨sc_fr f (fun t k q => by have := nbC_t q; omega), sb.1, sb.2, h, hA.wh f (fun t k q => by have := nbC_t q; omega), hA.al f (fun t k q => by have := nbC_t q; omega), hA.ul f (fun t k q => by have := nbC_t q; omega)⟩
theorem P_span {a : Int32} (h : Inv v) : PR 100 m_X10_span m_X11_span [vI a] v := by
  obtain ⟨⟨q, hC, hR⟩, hA⟩ := h
  exact PR.s (P := spA 1 0 0 (wNet (qW q)) a) (fun r s h g => h.u g) hC hR (ZI.m (s_spanC (d := 81) hC.2.1.cw hA.2.2.1) (fun u r hu => ⟨hu.1, nb_all hA hu.2.1 hu.2.2⟩)) (fun u hu => ZI.m (s_spanR (d := 91) hu.2.1.me.1) (fun w r hw => ⟨hw.1, hu.rs (rs_wh hw.2)⟩))
theorem P_whole {a : Int32} (h : Inv v) : PR 100 m_X10_whole m_X11_whole [vI a] v := by
  obtain ⟨⟨q, hC, hR⟩, hA⟩ := h
  exact PR.s (P := whA (wNet (qW q)) a) (fun r s h g => h.u g) hC hR (ZI.m (s_wholeC (d := 81) hC.2.1.cw hA.2.2.1) (fun u r hu => ⟨hu.1, nb_all hA hu.2.1 hu.2.2⟩)) (fun u hu => ZI.m (s_wholeR (d := 91) hu.2.1.me.1) (fun w r hw => ⟨hw.1, hu.rs (rs_wh hw.2)⟩))
theorem P_wholes (h : Inv v) : PRL 100 m_X10_wholes m_X11_wholes [] v := by
  obtain ⟨⟨q, hC, hR⟩, hA⟩ := h
  have ht : ∀ {t k}, fWwC t k → t = 0 ∨ t = 100 ∨ t = 101 ∨ t = 102 ∨ t = 202 ∨ (t = 1 ∧ 4 ≤ k) := fun {t k} q => by
    rcases q with q | q
    · have := sNet_t q
      omega
    · unfold fWw at q
      omega
  refine PR.sL (x := lN (whC (wNet (qW q)))) hC hR (fun Q k => s_wholesC (d := 81) hC.2.1.cw hA.2.2.2.1 Q (fun u r hu => k u r ⟨hu.1, ?_⟩)) (fun u hu Q k => s_wholesR (d := 91) hu.2.1.me.1 Q (fun w r hw => k w r ⟨hw.1, hu.rs (rs_wh hw.2)⟩))
  have f := hu.2.2
  have sb := hA.sb f (fun t k q => by have := ht q; omega)
  exact ⟨sc_fr f (fun t k q => by have := ht q; omega), sb.1, sb.2, hA.nb f (fun t k q => by have := ht q; omega), hu.2.1, hA.al f (fun t k q => by have := ht q; omega), hA.ul f (fun t k q => by have := ht q; omega)⟩
theorem P_apart {a b c : Int32} (h : Inv v) : PR 100 m_X10_apart m_X11_apart [vI a, vI b, vI c] v := by
  obtain ⟨⟨q, hC, hR⟩, hA⟩ := h
  have ht : ∀ {t n}, fApC t n → (t = 0 ∨ t = 100 ∨ t = 101 ∨ t = 102 ∨ t = 352 ∨ t = 353) ∨ ((t = 2 ∨ t = 300) ∧ n = 0) := fun {t n} q => by
    unfold fApC fNet fSp at q
    omega
  refine PR.s (P := apA (wNet (qW q)) a b c) (fun r s h g => h.u g) hC hR (ZI.m (s_apartC (d := 81) hC.2.1.cw hA.1) (fun u r hu => ⟨hu.1, ?_⟩)) (fun u hu => ZI.m (s_apartR (d := 91) hu.2.1.me.1) (fun w r hw => ⟨hw.1, hu.rs (rs_ap hw.2)⟩))
  have f := hu.2.2
  have sb := hA.pl f (fun t n q => by have := ht q; omega)
  exact ⟨f.mono (fun t n q => by have := ht q; unfold tSc; omega), hu.2.1, hA.2.1.fn f (fun q => by have := ht q; omega) (fun q => by have := ht q; omega), sb.1, sb.2.1, sb.2.2.1, sb.2.2.2⟩
theorem P_band {a : Int32} (h : Inv v) : PR 100 m_X10_band m_X11_band [vI a] v := by
  obtain ⟨⟨q, hC, hR⟩, hA⟩ := h
  have ht : ∀ {t n}, fBdC t n → (t = 0 ∨ t = 100 ∨ t = 101 ∨ t = 102 ∨ t = 352 ∨ t = 353) ∨ ((t = 2 ∨ t = 300) ∧ n = 1) := fun {t n} q => by
    unfold fBdC fNet fBd at q
    omega
  refine PR.s (P := bdA (wNet (qW q)) a) (fun r s h g => h.u g) hC hR (ZI.m (s_bandC (d := 81) hC.2.1.cw hA.2.1) (fun u r hu => ⟨hu.1, ?_⟩)) (fun u hu => ZI.m (s_bandR (d := 91) hu.2.1.me.1) (fun w r hw => ⟨hw.1, hu.rs (rs_ap hw.2)⟩))
  have f := hu.2.2
  have sb := hA.pl f (fun t n q => by have := ht q; omega)
  exact ⟨f.mono (fun t n q => by have := ht q; unfold tSc; omega), hA.1.fn f (fun q => by have := ht q; omega) (fun q => by have := ht q; omega), hu.2.1, sb.1, sb.2.1, sb.2.2.1, sb.2.2.2⟩
theorem alC_t {t k : Nat} (q : fAlC t k) : t = 0 ∨ t = 100 ∨ t = 101 ∨ t = 102 ∨ t = 900 ∨ t = 905 ∨ t = 906 ∨ t = 907 ∨ (t = 8 ∧ k ≠ 4 ∧ k ≠ 10) := by
  rcases q with q | q
  · have := sNet_t q
    omega
  · unfold fAl at q
    omega
theorem al_all {u : z_V} (hA : CA v) (h : cAl u) (f : Fr fAlC v u) : Fn tSc v u ∧ CA u := by
  have sb := hA.sb f (fun t k q => by have := alC_t q; omega)
  exact ⟨Fn.ofT f (fun t n k q => by have := alC_t q; unfold tSc; omega), sb.1, sb.2, hA.nb f (fun t k q => by have := alC_t q; omega), hA.wh f (fun t k q => by have := alC_t q; omega), h, hA.ul f (fun t k q => by have := alC_t q; omega)⟩
theorem P_alike {a : Int32} (h : Inv v) : PR 100 m_X10_alike m_X11_alike [vI a] v := by
  obtain ⟨⟨q, hC, hR⟩, hA⟩ := h
  exact PR.s (P := alA (wNet (qW q)) a) (fun r s h g => h.u g) hC hR (ZI.m (s_alikeC (d := 74) hC.2.1.cw hA.2.2.2.2.1) (fun u r hu => ⟨hu.1, al_all hA hu.2.1 hu.2.2⟩)) (fun u hu => ZI.m (s_alikeR (d := 93) hu.2.1.me.1) (fun w r hw => ⟨hw.1, hu.rs (rs_wt hw.2)⟩))
theorem P_alikes (h : Inv v) : PRL 100 m_X10_alikes m_X11_alikes [] v := by
  obtain ⟨⟨q, hC, hR⟩, hA⟩ := h
  exact PR.sL (x := lN (alC (wNet (qW q)))) hC hR (fun Q k => s_alikesC (d := 74) hC.2.1.cw hA.2.2.2.2.1 Q (fun u r hu => k u r ⟨hu.1, al_all hA hu.2.1 hu.2.2⟩)) (fun u hu Q k => s_alikesR (d := 93) hu.2.1.me.1 Q (fun w r hw => k w r ⟨hw.1, hu.rs (rs_wt hw.2)⟩))
theorem P_unlike {a : Int32} (h : Inv v) : PR 100 m_X10_unlike m_X11_unlike [vI a] v := by
  obtain ⟨⟨q, hC, hR⟩, hA⟩ := h
  have ht : ∀ {t k}, fUlC t k → t = 0 ∨ t = 100 ∨ t = 101 ∨ t = 102 ∨ t = 901 ∨ t = 905 ∨ t = 906 ∨ t = 907 ∨ (t = 8 ∧ k ≠ 2 ∧ k ≠ 3 ∧ k ≠ 9) := fun {t k} q => by
    rcases q with q | q
    · have := sNet_t q
      omega
    · unfold fUl at q
      omega
  refine PR.s (P := ulA (wNet (qW q)) a) (fun r s h g => h.u g) hC hR (ZI.m (s_unlikeC (d := 74) hC.2.1.cw hA.2.2.2.2.2) (fun u r hu => ⟨hu.1, ?_⟩)) (fun u hu => ZI.m (s_unlikeR (d := 93) hu.2.1.me.1) (fun w r hw => ⟨hw.1, hu.rs (rs_wt hw.2)⟩))
  have f := hu.2.2
  have sb := hA.sb f (fun t k q => by have := ht q; omega)
  exact ⟨Fn.ofT f (fun t n k q => by have := ht q; unfold tSc; omega), sb.1, sb.2, hA.nb f (fun t k q => by have := ht q; omega), hA.wh f (fun t k q => by have := ht q; omega), hA.al f (fun t k q => by have := ht q; omega), hu.2.1⟩
end PRB
