/-! a pair of calls, the class's and the reference's: like answers, and what holds between calls -/
def CA (v : z_V) : Prop := cSp v ∧ cBd v ∧ cNb v ∧ cWh v ∧ cAl v ∧ cUl v
def Inv (v : z_V) : Prop := (∃ q, InvC v q ∧ InvR v q) ∧ CA v
def PR (d a b : Nat) (As : List z_AV) (v : z_V) : Prop := z_C d a (vR 10 0 :: As) v (fun u o => ∃ x : Int32, o = some (vI x) ∧ z_C d b (vR 11 0 :: As) u (fun w o2 => o2 = some (vI x) ∧ Inv w))
def PRL (d a b : Nat) (As : List z_AV) (v : z_V) : Prop := z_C d a (vR 10 0 :: As) v (fun u o => ∃ x : Int64, o = some (vL x) ∧ z_C d b (vR 11 0 :: As) u (fun w o2 => o2 = some (vL x) ∧ Inv w))
theorem PR.mk {d a b : Nat} {As : List z_AV} {v : z_V} {P : z_V → Int32 → Prop} (h1 : ZI d a (vR 10 0 :: As) v P) (h2 : ∀ u x, P u x → ZI d b (vR 11 0 :: As) u (fun w y => y = x ∧ Inv w)) : PR d a b As v := h1 _ (fun u x hu => ⟨x, rfl, h2 u x hu _ (fun w y hw => ⟨by rw [hw.1], hw.2⟩)⟩)
theorem PR.mkL {d a b : Nat} {As : List z_AV} {v : z_V} {P : z_V → Int64 → Prop} (h1 : ZL d a (vR 10 0 :: As) v P) (h2 : ∀ u x, P u x → ZL d b (vR 11 0 :: As) u (fun w y => y = x ∧ Inv w)) : PRL d a b As v := h1 _ (fun u x hu => ⟨x, rfl, h2 u x hu _ (fun w y hw => ⟨by rw [hw.1], hw.2⟩)⟩)
theorem Fn.fr {S : Nat → Nat → Prop} {v u : z_V} (f : Fn S v u) : Fr (fun t _ => ∃ n, S t n) v u := ⟨fun t n k q => f.1 t n k (fun z => q ⟨n, z⟩), f.2⟩
theorem Fr.fn {S : Nat → Nat → Prop} {v u : z_V} (f : Fr S v u) : Fn (fun t _ => ∃ k, S t k) v u := Fn.ofT f (fun t n k q => ⟨k, q⟩)
theorem CA.kc {v u : z_V} (h : CA v) (f : KC v u) : CA u := by
  have f2 : Fr (fun t _ => ¬ tCa t) v u := f
  have n : ∀ t, tCa t → ¬ ¬ tCa t := fun t z q => q z
  exact ⟨h.1.fn f (n 2 (by unfold tCa; omega)) (n 300 (by unfold tCa; omega)), h.2.1.fn f (n 2 (by unfold tCa; omega)) (n 300 (by unfold tCa; omega)), h.2.2.1.fr f2 (n 1 (by unfold tCa; omega)) (n 1 (by unfold tCa; omega)) (fun _ => n 200 (by unfold tCa; omega)), h.2.2.2.1.fr f2 (n 1 (by unfold tCa; omega)) (n 1 (by unfold tCa; omega)), h.2.2.2.2.1.fr f2 (n 8 (by unfold tCa; omega)) (n 8 (by unfold tCa; omega)) (n 8 (by unfold tCa; omega)) (fun _ => n 900 (by unfold tCa; omega)), h.2.2.2.2.2.fr f2 (n 8 (by unfold tCa; omega)) (n 8 (by unfold tCa; omega)) (fun _ => n 901 (by unfold tCa; omega))⟩
theorem KC.fr {v u : z_V} (f : FR v u) : KC v u := f.mono (fun t n q => by
  unfold tRf at q
  unfold tCa
  omega)
theorem FC.sc {v u : z_V} (f : Fn tSc v u) : FC v u := f.mono (fun t n q => by
  unfold tSc at q
  unfold tCl
  omega)
theorem PR.g {d a b : Nat} {As : List z_AV} {v : z_V} {r : Int32} {q q2 : z_Q} (hR : InvR v q) (hA : CA v) (c : GC d a (vR 10 0 :: As) v r q2) (rr : ∀ u, InvR u q → GR d b (vR 11 0 :: As) u r q2) : PR d a b As v := PR.mk c (fun u x hu => ZI.m (rr u (hR.fc hu.2.2.1)) (fun w y hw => ⟨hw.1.trans hu.1.symm, ⟨q2, hu.2.1.fr hw.2.2, hw.2.1⟩, (hA.kc hu.2.2.2).kc (KC.fr hw.2.2)⟩))
theorem PR.s {d a b : Nat} {As : List z_AV} {v : z_V} {P : Int32 → Prop} {q : z_Q} (uu : ∀ r s, P r → P s → r = s) (hC : InvC v q) (hR : InvR v q) (c : ZI d a (vR 10 0 :: As) v (fun u r => P r ∧ Fn tSc v u ∧ CA u)) (rr : ∀ u, InvR u q → ZI d b (vR 11 0 :: As) u (fun w r => P r ∧ InvR w q ∧ FR u w)) : PR d a b As v := PR.mk c (fun u x hu => ZI.m (rr u (hR.fc (FC.sc hu.2.1))) (fun w y hw => ⟨uu _ _ hw.1 hu.1, ⟨q, (hC.sc hu.2.1 (fun _ _ z => Or.inl z)).fr hw.2.2, hw.2.1⟩, hu.2.2.kc (KC.fr hw.2.2)⟩))
theorem PR.sL {d a b : Nat} {As : List z_AV} {v : z_V} {x : Int64} {q : z_Q} (hC : InvC v q) (hR : InvR v q) (c : ZL d a (vR 10 0 :: As) v (fun u r => r = x ∧ Fn tSc v u ∧ CA u)) (rr : ∀ u, InvR u q → ZL d b (vR 11 0 :: As) u (fun w r => r = x ∧ InvR w q ∧ FR u w)) : PRL d a b As v := PR.mkL c (fun u y hu => fun Q k => rr u (hR.fc (FC.sc hu.2.1)) Q (fun w z hw => k w z ⟨hw.1.trans hu.1.symm, ⟨q, (hC.sc hu.2.1 (fun _ _ z => Or.inl z)).fr hw.2.2, hw.2.1⟩, hu.2.2.kc (KC.fr hw.2.2)⟩))
/-- what the reference's searches touch -/
def fRs : Nat → Nat → Prop := fun t k => 1204 ≤ t ∨ (t = 11 ∧ 24 ≤ k)
theorem InvR.rs {u w : z_V} {q : z_Q} (h : InvR u q) (f : Fr fRs u w) : InvR w q ∧ FR u w := ⟨h.sc f (fun k z => by unfold fRs at z; omega) (fun k z => by unfold fRs at z; omega) (fun k z => by unfold fRs at z; omega) (fun k z => by unfold fRs at z; omega) (fun k hk z => by unfold fRs at z; omega), Fn.ofT f (fun t n k z => by unfold fRs at z; unfold tRf; omega)⟩
theorem rs_wh {u w : z_V} (f : Fr fWh u w) : Fr fRs u w := f.mono (fun t k z => by
  unfold fWh at z
  unfold fRs
  omega)
theorem rs_ap {u w : z_V} (f : Fr fAp u w) : Fr fRs u w := f.mono (fun t k z => by
  unfold fAp fWh at z
  unfold fRs
  omega)
theorem rs_wt {u w : z_V} (f : Fr fWt u w) : Fr fRs u w := f.mono (fun t k z => by
  unfold fWt fWh at z
  unfold fRs
  omega)
theorem rs_nm {u w : z_V} (f : Fr fNm u w) : Fr fRs u w := f.mono (fun t k z => by
  unfold fNm at z
  unfold fRs
  omega)
theorem rs_1 {u w : z_V} {a : Nat} (ha : 1204 ≤ a) (f : Fr (sT [a]) u w) : Fr fRs u w := f.mono (fun t k (z : t ∈ [a]) => by
  rw [List.mem_singleton] at z
  unfold fRs
  omega)
/-- the class's searches leave what is held ready by others -/
theorem sc_fr {S : Nat → Nat → Prop} {v u : z_V} (f : Fr S v u) (h : ∀ t k, S t k → t = 0 ∨ t = 1 ∨ t = 2 ∨ t = 8 ∨ (100 ≤ t ∧ t < 400) ∨ (800 ≤ t ∧ t < 1000)) : Fn tSc v u := Fn.ofT f (fun t n k q => by
  have := h t k q
  unfold tSc
  omega)
theorem kc_fr {S : Nat → Nat → Prop} {v u : z_V} (f : Fr S v u) (h : ∀ t k, S t k → t = 0 ∨ t = 100 ∨ t = 101 ∨ t = 102 ∨ t = 800 ∨ t = 801 ∨ t = 802) : Fn tSc v u ∧ KC v u := ⟨sc_fr f (fun t k q => by have := h t k q; omega), Fn.ofT f (fun t n k q => by
  have := h t k q
  unfold tCa
  omega)⟩
theorem sNet_t {t k : Nat} (h : sNet t k) : t = 0 ∨ t = 100 ∨ t = 101 ∨ t = 102 := by
  have h : t ∈ [0, 100, 101, 102] := h
  simpa using h
theorem sGm_t {t k : Nat} (h : sGm t k) : t = 0 ∨ t = 100 ∨ t = 101 ∨ t = 102 ∨ t = 800 := by
  have h : t ∈ [0, 100, 101, 102, 800] := h
  simpa using h
theorem sRd_t {t k : Nat} (h : sRd t k) : t = 0 ∨ t = 100 ∨ t = 101 ∨ t = 102 ∨ t = 801 := by
  have h : t ∈ [0, 100, 101, 102, 801] := h
  simpa using h
theorem CA.pl {v u : z_V} {S : Nat → Nat → Prop} (h : CA v) (f : Fn S v u) (hs : ∀ t n, S t n → t ≠ 1 ∧ t ≠ 8 ∧ t ≠ 200 ∧ t ≠ 900 ∧ t ≠ 901) : cNb u ∧ cWh u ∧ cAl u ∧ cUl u := by
  have f2 := f.fr
  have n : ∀ t, (t = 1 ∨ t = 8 ∨ t = 200 ∨ t = 900 ∨ t = 901) → ¬ ∃ n, S t n := fun t z q => by
    obtain ⟨n, q⟩ := q
    have := hs t n q
    omega
  exact ⟨h.2.2.1.fr f2 (n 1 (by decide)) (n 1 (by decide)) (fun _ => n 200 (by decide)), h.2.2.2.1.fr f2 (n 1 (by decide)) (n 1 (by decide)), h.2.2.2.2.1.fr f2 (n 8 (by decide)) (n 8 (by decide)) (n 8 (by decide)) (fun _ => n 900 (by decide)), h.2.2.2.2.2.fr f2 (n 8 (by decide)) (n 8 (by decide)) (fun _ => n 901 (by decide))⟩
theorem CA.sb {v u : z_V} {S : Nat → Nat → Prop} (h : CA v) (f : Fr S v u) (hs : ∀ t k, S t k → t ≠ 2 ∧ t ≠ 300) : cSp u ∧ cBd u := by
  have n : ∀ t, (t = 2 ∨ t = 300) → ¬ ∃ k, S t k := fun t z q => by
    obtain ⟨k, q⟩ := q
    have := hs t k q
    omega
  exact ⟨h.1.fn f.fn (n 2 (by decide)) (n 300 (by decide)), h.2.1.fn f.fn (n 2 (by decide)) (n 300 (by decide))⟩
theorem CA.nb {v u : z_V} {S : Nat → Nat → Prop} (h : CA v) (f : Fr S v u) (hs : ∀ t k, S t k → t ≠ 200 ∧ ¬ (t = 1 ∧ (k = 1 ∨ k = 3))) : cNb u := h.2.2.1.fr f (fun q => by have := hs _ _ q; omega) (fun q => by have := hs _ _ q; omega) (fun _ q => by have := hs _ _ q; omega)
theorem CA.wh {v u : z_V} {S : Nat → Nat → Prop} (h : CA v) (f : Fr S v u) (hs : ∀ t k, S t k → ¬ (t = 1 ∧ (k = 4 ∨ k = 5))) : cWh u := h.2.2.2.1.fr f (fun q => by have := hs _ _ q; omega) (fun q => by have := hs _ _ q; omega)
theorem CA.al {v u : z_V} {S : Nat → Nat → Prop} (h : CA v) (f : Fr S v u) (hs : ∀ t k, S t k → t ≠ 900 ∧ ¬ (t = 8 ∧ (k = 2 ∨ k = 3 ∨ k = 9))) : cAl u := h.2.2.2.2.1.fr f (fun q => by have := hs _ _ q; omega) (fun q => by have := hs _ _ q; omega) (fun q => by have := hs _ _ q; omega) (fun _ q => by have := hs _ _ q; omega)
theorem CA.ul {v u : z_V} {S : Nat → Nat → Prop} (h : CA v) (f : Fr S v u) (hs : ∀ t k, S t k → t ≠ 901 ∧ ¬ (t = 8 ∧ (k = 4 ∨ k = 10))) : cUl u := h.2.2.2.2.2.fr f (fun q => by have := hs _ _ q; omega) (fun q => by have := hs _ _ q; omega) (fun _ q => by have := hs _ _ q; omega)
