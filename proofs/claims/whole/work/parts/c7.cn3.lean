/-! a world's cells by their names; the constructor of a world -/
theorem va_P_mem {D : va_G} {cl : List vw_C} {ws : va_W} {H : Heap} : va_P D cl ws H ↔ ∀ x ∈ ws, va_at D cl x H := by
  constructor
  · intro h x hx
    obtain ⟨i, hi⟩ := List.getElem?_of_mem hx
    exact h i x hi
  · intro h k x hk
    exact h x (List.mem_of_getElem? hk)
theorem TT_P {D : va_G} {cl : List vw_C} {tc : Nat → ClassId} {L : Nat → List (Nat × Nat)} {F : Nat → Nat × Nat → Nat} {n : Nat} {H : Heap} (h : va_P D cl (TT tc L F n) H) {i : Nat} (hi : i < n) : va_P D cl (zW tc (F i) (L i)) H := by
  rw [va_P_mem] at h ⊢
  exact fun x hx => h x (List.mem_flatMap.mpr ⟨i, List.mem_range.mpr hi, hx⟩)
theorem ck4 : ∀ n, n < 63 → ckL (zL4 n) = true := by decide +kernel
theorem ck5 : ∀ n, n < 2 → ckL (zL5 n) = true := by decide +kernel
theorem ck6 : ∀ n, n < 8 → ckL (zL6 n) = true := by decide +kernel
theorem zL4_t {n : Nat} {q : Nat × Nat} (h : q ∈ zL4 n) : (q.1 = 4 ∨ q.1 = 500 ∨ q.1 = 501) ∧ q.2 = n := by
  unfold zL4 at h
  simp only [List.mem_cons, List.not_mem_nil, or_false] at h
  rcases h with rfl | rfl | rfl
  · exact ⟨Or.inl rfl, rfl⟩
  · exact ⟨Or.inr (Or.inl rfl), rfl⟩
  · exact ⟨Or.inr (Or.inr rfl), rfl⟩
theorem zL5_t {n : Nat} {q : Nat × Nat} (h : q ∈ zL5 n) : (q.1 = 5 ∨ q.1 = 600) ∧ q.2 = n := by
  unfold zL5 at h
  simp only [List.mem_cons, List.not_mem_nil, or_false] at h
  rcases h with rfl | rfl
  · exact ⟨Or.inl rfl, rfl⟩
  · exact ⟨Or.inr rfl, rfl⟩
theorem zL6_t {n : Nat} {q : Nat × Nat} (h : q ∈ zL6 n) : (q.1 = 6 ∨ q.1 = 700 ∨ q.1 = 701 ∨ q.1 = 702 ∨ q.1 = 703) ∧ q.2 = n := by
  unfold zL6 at h
  simp only [List.mem_cons, List.not_mem_nil, or_false] at h
  rcases h with rfl | rfl | rfl | rfl | rfl
  · exact ⟨Or.inl rfl, rfl⟩
  · exact ⟨Or.inr (Or.inl rfl), rfl⟩
  · exact ⟨Or.inr (Or.inr (Or.inl rfl)), rfl⟩
  · exact ⟨Or.inr (Or.inr (Or.inr (Or.inl rfl))), rfl⟩
  · exact ⟨Or.inr (Or.inr (Or.inr (Or.inr rfl))), rfl⟩
/-- where a world's cells lie -/
def adW (w h0 q2 q3 q4 q5 q6 q7 : Nat) (g0 gT : Nat × Nat → Nat) (F1 F2 : Nat → Nat × Nat → Nat) : Nat × Nat → Nat := fun q => if q.1 = 4 ∨ q.1 = 500 ∨ q.1 = 501 then (if q.2 = 31 * w then g0 q else F2 (q.2 - (31 * w + 1)) q) else if q.1 = 6 ∨ q.1 = 700 ∨ q.1 = 701 ∨ q.1 = 702 ∨ q.1 = 703 then F1 (q.2 - 4 * w) q else if q.1 = 5 ∨ q.1 = 600 then gT q else z_as [(9, h0), (1001, q2), (1002, q3), (1003, q4), (1004, q5), (1005, q6), (1006, q7)] q.1
section ADW
variable {w h0 q2 q3 q4 q5 q6 q7 : Nat} {g0 gT : Nat × Nat → Nat} {F1 F2 : Nat → Nat × Nat → Nat}
theorem adW_0 {q : Nat × Nat} (h : q ∈ zL4 (31 * w)) : adW w h0 q2 q3 q4 q5 q6 q7 g0 gT F1 F2 q = g0 q := by
  obtain ⟨h1, h2⟩ := zL4_t h
  unfold adW
  rw [if_pos h1, if_pos h2]
theorem adW_4 {q : Nat × Nat} {i : Nat} (h : q ∈ zL4 ((31 * w + 1) + i)) : adW w h0 q2 q3 q4 q5 q6 q7 g0 gT F1 F2 q = F2 i q := by
  obtain ⟨h1, h2⟩ := zL4_t h
  unfold adW
  rw [if_pos h1, if_neg (by omega), show q.2 - (31 * w + 1) = i by omega]
theorem adW_6 {q : Nat × Nat} {i : Nat} (h : q ∈ zL6 (4 * w + i)) : adW w h0 q2 q3 q4 q5 q6 q7 g0 gT F1 F2 q = F1 i q := by
  obtain ⟨h1, h2⟩ := zL6_t h
  unfold adW
  rw [if_neg (by omega), if_pos h1, show q.2 - 4 * w = i by omega]
theorem adW_5 {q : Nat × Nat} (h : q ∈ zL5 w) : adW w h0 q2 q3 q4 q5 q6 q7 g0 gT F1 F2 q = gT q := by
  obtain ⟨h1, h2⟩ := zL5_t h
  unfold adW
  rw [if_neg (by omega), if_neg (by omega), if_pos h1]
theorem zW_world {D : va_G} {tc : Nat → ClassId} {A : Nat → Prop} {H : Heap} (hw : w < 2) (hP : va_P D vwCl ((h0, .inr (9, [.ref (g0 (4, 31 * w)), .ref q2, .ref q3, .ref q4, .ref q5, .ref q6, .ref q7, .ref (gT (5, w)), .int 0, .int 0, .int (-1), .int 0, .int 0, .int 0])) :: (q4, qA (tc 4) 4 (fT (fun k => (6, 4 * w + k)) F1 4)) :: (q7, qA (tc 5) 30 (fT (fun k => (4, (31 * w + 1) + k)) F2 30)) :: (([(q2, .inl (tc 0, 10, .inl (fun _ => 0))), (q3, .inl (tc 0, 10, .inl (fun _ => 0))), (q5, .inl (tc 0, 8, .inl (fun _ => 0))), (q6, .inl (tc 0, 8, .inl (fun _ => 0)))] ++ (zW tc g0 (zL4 (31 * w)) ++ zW tc gT (zL5 w))) ++ TT tc (fun i => zL6 (4 * w + i)) F1 4 ++ TT tc (fun i => zL4 ((31 * w + 1) + i)) F2 30)) H)
    (hD : va_D A ((h0, .inr (9, [.ref (g0 (4, 31 * w)), .ref q2, .ref q3, .ref q4, .ref q5, .ref q6, .ref q7, .ref (gT (5, w)), .int 0, .int 0, .int (-1), .int 0, .int 0, .int 0])) :: (q4, qA (tc 4) 4 (fT (fun k => (6, 4 * w + k)) F1 4)) :: (q7, qA (tc 5) 30 (fT (fun k => (4, (31 * w + 1) + k)) F2 30)) :: (([(q2, .inl (tc 0, 10, .inl (fun _ => 0))), (q3, .inl (tc 0, 10, .inl (fun _ => 0))), (q5, .inl (tc 0, 8, .inl (fun _ => 0))), (q6, .inl (tc 0, 8, .inl (fun _ => 0)))] ++ (zW tc g0 (zL4 (31 * w)) ++ zW tc gT (zL5 w))) ++ TT tc (fun i => zL6 (4 * w + i)) F1 4 ++ TT tc (fun i => zL4 ((31 * w + 1) + i)) F2 30))) :
    ∃ ad : Nat × Nat → Nat, ad (9, w) = h0 ∧ va_P D vwCl (zW tc ad (zLW w)) H ∧ va_D A (zW tc ad (zLW w)) := by
  refine ⟨adW w h0 q2 q3 q4 q5 q6 q7 g0 gT F1 F2, rfl, ?_, ?_⟩
  · have hm := va_P_mem.mp hP
    have m0 := hm _ (List.mem_cons_self)
    have m4 := hm _ (List.mem_cons_of_mem _ List.mem_cons_self)
    have m7 := hm _ (List.mem_cons_of_mem _ (List.mem_cons_of_mem _ List.mem_cons_self))
    have hR : va_P D vwCl (([(q2, .inl (tc 0, 10, .inl (fun _ => 0))), (q3, .inl (tc 0, 10, .inl (fun _ => 0))), (q5, .inl (tc 0, 8, .inl (fun _ => 0))), (q6, .inl (tc 0, 8, .inl (fun _ => 0)))] ++ (zW tc g0 (zL4 (31 * w)) ++ zW tc gT (zL5 w))) ++ TT tc (fun i => zL6 (4 * w + i)) F1 4 ++ TT tc (fun i => zL4 ((31 * w + 1) + i)) F2 30) H := va_P_mem.mpr (fun x hx => hm x (List.mem_cons_of_mem _ (List.mem_cons_of_mem _ (List.mem_cons_of_mem _ hx))))
    have hS := va_P_r hR
    have hT := va_P_r (va_P_l hR)
    have hQ := va_P_mem.mp (va_P_l (va_P_l (va_P_l hR)))
    have h04 := va_P_l (va_P_r (va_P_l (va_P_l hR)))
    have h05 := va_P_r (va_P_r (va_P_l (va_P_l hR)))
    generalize hadd : adW w h0 q2 q3 q4 q5 q6 q7 g0 gT F1 F2 = ad
    have e0 : ∀ q ∈ zL4 (31 * w), ad q = g0 q := fun q hq => by rw [← hadd]; exact adW_0 hq
    have e4 : ∀ i, ∀ q ∈ zL4 ((31 * w + 1) + i), ad q = F2 i q := fun i q hq => by rw [← hadd]; exact adW_4 hq
    have e6 : ∀ i, ∀ q ∈ zL6 (4 * w + i), ad q = F1 i q := fun i q hq => by rw [← hadd]; exact adW_6 hq
    have e5 : ∀ q ∈ zL5 w, ad q = gT q := fun q hq => by rw [← hadd]; exact adW_5 hq
    have eh : ad (9, w) = h0 ∧ ad (1001, w) = q2 ∧ ad (1002, w) = q3 ∧ ad (1003, w) = q4 ∧ ad (1004, w) = q5 ∧ ad (1005, w) = q6 ∧ ad (1006, w) = q7 := by
      subst hadd
      exact ⟨rfl, rfl, rfl, rfl, rfl, rfl, rfl⟩
    obtain ⟨f9, f1, f2, f3, f4, f5, f6⟩ := eh
    have h1 := zW_cv (ck4 _ (by omega)) e0 h04
    have h2 := zW_cv (ck5 _ hw) e5 h05
    have h3 : ∀ i, i < 4 → va_P D vwCl (zW tc ad (zL6 (4 * w + i))) H := fun i hi => zW_cv (ck6 _ (by omega)) (e6 i) (TT_P hT hi)
    have h4 : ∀ i, i < 30 → va_P D vwCl (zW tc ad (zL4 ((31 * w + 1) + i))) H := fun i hi => zW_cv (ck4 _ (by omega)) (e4 i) (TT_P hS hi)
    rw [zW_P] at h1 h2 ⊢
    intro q hq
    unfold zLW at hq
    rcases List.mem_append.mp hq with hq | hq
    · simp only [List.mem_cons, List.not_mem_nil, or_false] at hq
      rcases hq with rfl | rfl | rfl | rfl | rfl | rfl | rfl
      · have e : zc tc ad (9, w) = (ad (9, w), .inr (9, [.ref (ad (4, 31 * w)), .ref (ad (1001, w)), .ref (ad (1002, w)), .ref (ad (1003, w)), .ref (ad (1004, w)), .ref (ad (1005, w)), .ref (ad (1006, w)), .ref (ad (5, w)), .int 0, .int 0, .int (-1), .int 0, .int 0, .int 0])) := rfl
        rw [e, f9, f1, f2, f3, f4, f5, f6, e0 (4, 31 * w) List.mem_cons_self, e5 (5, w) List.mem_cons_self]
        exact m0
      · have e : zc tc ad (1003, w) = (ad (1003, w), qA (tc 4) 4 (fun k => some (ad (6, 4 * w + k)))) := rfl
        rw [e, f3]
        have m4 : H[q4]? = some (vp_cell (tc 4) (4, .inr (.inr (.inr (.inr (fT (fun k => (6, 4 * w + k)) F1 4)))))) := m4
        show H[q4]? = some (vp_cell (tc 4) (4, .inr (.inr (.inr (.inr (fun k => some (ad (6, 4 * w + k))))))))
        exact m4.trans (congrArg some (z_arr_cg (fun k hk => (if_pos hk).trans (congrArg some (e6 k (6, 4 * w + k) List.mem_cons_self).symm))))
      · have e : zc tc ad (1006, w) = (ad (1006, w), qA (tc 5) 30 (fun k => some (ad (4, (31 * w + 1) + k)))) := rfl
        rw [e, f6]
        have m7 : H[q7]? = some (vp_cell (tc 5) (30, .inr (.inr (.inr (.inr (fT (fun k => (4, (31 * w + 1) + k)) F2 30)))))) := m7
        show H[q7]? = some (vp_cell (tc 5) (30, .inr (.inr (.inr (.inr (fun k => some (ad (4, (31 * w + 1) + k))))))))
        exact m7.trans (congrArg some (z_arr_cg (fun k hk => (if_pos hk).trans (congrArg some (e4 k (4, (31 * w + 1) + k) List.mem_cons_self).symm))))
      · have e : zc tc ad (1001, w) = (ad (1001, w), .inl (tc 0, 10, .inl (fun _ => 0))) := rfl
        rw [e, f1]
        exact hQ _ List.mem_cons_self
      · have e : zc tc ad (1002, w) = (ad (1002, w), .inl (tc 0, 10, .inl (fun _ => 0))) := rfl
        rw [e, f2]
        exact hQ _ (List.mem_cons_of_mem _ List.mem_cons_self)
      · have e : zc tc ad (1004, w) = (ad (1004, w), .inl (tc 0, 8, .inl (fun _ => 0))) := rfl
        rw [e, f4]
        exact hQ _ (List.mem_cons_of_mem _ (List.mem_cons_of_mem _ List.mem_cons_self))
      · have e : zc tc ad (1005, w) = (ad (1005, w), .inl (tc 0, 8, .inl (fun _ => 0))) := rfl
        rw [e, f5]
        exact hQ _ (List.mem_cons_of_mem _ (List.mem_cons_of_mem _ (List.mem_cons_of_mem _ List.mem_cons_self)))
    · rcases List.mem_append.mp hq with hq | hq
      · exact h1 q hq
      · rcases List.mem_append.mp hq with hq | hq
        · exact h2 q hq
        · rcases List.mem_append.mp hq with hq | hq
          · obtain ⟨i, hi, hq⟩ := List.mem_flatMap.mp hq
            exact zW_P.mp (h3 i (List.mem_range.mp hi)) q hq
          · obtain ⟨i, hi, hq⟩ := List.mem_flatMap.mp hq
            exact zW_P.mp (h4 i (List.mem_range.mp hi)) q hq
  · refine va_D_ad hD ?_
    rw [zW_ad]
    unfold zLW TT
    simp only [List.map_append, List.map_cons, List.map_nil, List.map_flatMap, zW_ad, List.append_assoc, List.cons_append, List.nil_append]
    have a0 : (zL4 (31 * w)).map (adW w h0 q2 q3 q4 q5 q6 q7 g0 gT F1 F2) = (zL4 (31 * w)).map g0 := List.map_congr_left (fun q hq => adW_0 hq)
    have a5 : (zL5 w).map (adW w h0 q2 q3 q4 q5 q6 q7 g0 gT F1 F2) = (zL5 w).map gT := List.map_congr_left (fun q hq => adW_5 hq)
    have a6 : (List.range 4).flatMap (fun i => (zL6 (4 * w + i)).map (adW w h0 q2 q3 q4 q5 q6 q7 g0 gT F1 F2)) = (List.range 4).flatMap (fun i => (zL6 (4 * w + i)).map (F1 i)) := fm_cg (fun i _ => List.map_congr_left (fun q hq => adW_6 hq))
    have a4 : (List.range 30).flatMap (fun i => (zL4 (31 * w + 1 + i)).map (adW w h0 q2 q3 q4 q5 q6 q7 g0 gT F1 F2)) = (List.range 30).flatMap (fun i => (zL4 (31 * w + 1 + i)).map (F2 i)) := fm_cg (fun i _ => List.map_congr_left (fun q hq => adW_4 hq))
    rw [a0, a5, a6, a4]
    rfl
end ADW
theorem fT_0 {x : Nat → Nat × Nat} {F : Nat → Nat × Nat → Nat} : fT x F 0 = fun _ => none := by
  funext k
  exact if_neg (Nat.not_lt_zero _)
set_option maxHeartbeats 8000000 in
set_option maxRecDepth 100000 in
theorem n_X9 (l : Launch) (tc : Nat → ClassId) (D : va_G) (w : Nat) (hw : w < 2) (h0 sz : Nat) : Met l yX9_init (.code yX9_init cX9_init 2 none :: z_TB) { frames := 2, cells := 121, slots := 2875, locals := 32 } (zn_Pc tc D 9 [.null, .null, .null, .null, .null, .null, .null, .null, .int 0, .int 0, .int 0, .int 0, .int 0, .int 0] nWo h0 sz) (zn_Qc tc D 9 [.null, .null, .null, .null, .null, .null, .null, .null, .int 0, .int 0, .int 0, .int 0, .int 0, .int 0] (zLW w) (9, w) h0 sz) 121 2875 (va_A [(h0, .inr (9, [.null, .null, .null, .null, .null, .null, .null, .null, .int 0, .int 0, .int 0, .int 0, .int 0, .int 0]))] sz) := by
  refine Met.ofW (cc := cX9_init) (maxL := 2) (ret := none) (by decide) rfl ?_
  intro p e s m args below meth c s₁ B hml hv
  obtain ⟨rfl, hsz, hP, hK, hN⟩ := hv
  have hx := B.exec
  have hb := B.bytes
  have hr := B.returns
  have hts0 := atoms_spec (ws := (.code yX9_init cX9_init 2 none :: z_TB)) B.pre
  have hts : ∀ w ∈ z_TB, w.before ([.ref h0] : List Value).toArray s = true := fun w hw => hts0 w (List.mem_cons_of_mem _ hw)
  have hown : s.vm.findClass RX9 = some m.cls := findClass_of_methodNamed B.named
  have hlocks := B.notSynchronized
  have hin : meth.name = "<init>" := (name_of_methodNamed B.named B.method).1
  subst hsz
  have hD := zn_D1 (h0 := h0) (sz := s.heap.size) (e0 := .inr (9, [.null, .null, .null, .null, .null, .null, .null, .null, .int 0, .int 0, .int 0, .int 0, .int 0, .int 0]))
  unfold zn_Qc
  generalize hAe : va_A [(h0, .inr (9, [.null, .null, .null, .null, .null, .null, .null, .null, .int 0, .int 0, .int 0, .int 0, .int 0, .int 0]))] s.heap.size = A at hD ⊢
  have hA : ∀ q : Nat, s.heap.size ≤ q → A q := fun q h => by rw [← hAe]; exact Or.inr h
  have hS : va_S A s.heap s.heap [] := va_S.rf
  have hR4 : 1 + 1 ≤ (headSpec (.code yX9_init cX9_init 2 none :: z_TB) { frames := 2, cells := 121, slots := 2875, locals := 32 }).room.frames ∧ 8 + (1 + 11) + 12 ≤ (headSpec (.code yX9_init cX9_init 2 none :: z_TB) { frames := 2, cells := 121, slots := 2875, locals := 32 }).room.locals ∧ 121 ≤ (headSpec (.code yX9_init cX9_init 2 none :: z_TB) { frames := 2, cells := 121, slots := 2875, locals := 32 }).room.cells ∧ 2875 ≤ (headSpec (.code yX9_init cX9_init 2 none :: z_TB) { frames := 2, cells := 121, slots := 2875, locals := 32 }).room.slots := ⟨Nat.le_of_ble_eq_true rfl, Nat.le_of_ble_eq_true rfl, Nat.le_of_ble_eq_true rfl, Nat.le_of_ble_eq_true rfl⟩
  generalize (headSpec (.code yX9_init cX9_init 2 none :: z_TB) { frames := 2, cells := 121, slots := 2875, locals := 32 }).room = R at hR4 ⊢
  obtain ⟨hRf, hRl, hRc, hRs⟩ := hR4
  have hl := lv_entry ([.ref h0]) (n := 2) (Nat.le_of_ble_eq_true rfl)
  rw [lg_entry_eq]
  generalize (lg_sl ([.ref h0]) ++ List.replicate (2 - (lg_sl ([.ref h0])).length) Slot.unset).toArray = ls at hl ⊢
  have hl : lv_has ls 2 [(0, .ref h0)] := hl
  refine lv_aload_n hx hb dX9_init_0 rfl (lv_at hl 0 rfl) ?_
  refine W.objInit hx hb hown (hts _ (z_has_in (kj := 1034) (by decide +kernel))) (hts _ (z_has_in (kj := 1027) (by decide +kernel))) (hts _ (z_has_in (kj := 1028) (by decide +kernel))) rfl (by rw [hml]; exact hl.1) rfl dX9_init_1 (by omega) (by show _ + 0 + 12 ≤ _; simp only [JFrame.monitorRoom]; omega) ?_
  refine W.eq (g2 := F0 m 4 ls []) rfl ?_
  refine lv_aload_n hx hb dX9_init_4 rfl (lv_at hl 0 rfl) ?_
  refine va_new (ci := 4) (fs := [.null, .null, .int 0, .int 0, .int 0, .int 0, .int 0]) (C := RX4) (T := TX4) (N := 7) (own := RX9) (index := 9) hx hb hts z_lw_4 tyX4 tyX4_ok hown (hts _ (z_has_in (kj := 1035) (by decide +kernel))) (hts _ (z_has_in (kj := 1036) (by decide +kernel))) (hts _ (z_has_in (kj := 1003) (by decide +kernel))) hK hP hD hS hA rfl dfX4 (by omega) (by omega) dX9_init_5 (fun q1 H hP hD hS => ?_)
  refine lv_dup hx hb dX9_init_8 rfl ?_
  refine zn_back (va_runIN (As := []) (rest := [.ref q1, .ref h0]) ⟨hx, hb, hml, hown, hts⟩ (n_X4 l tc D (31 * w) q1 H.size) ⟨va_cnB 0 hts (z_TB_cons (z_has_in (kj := 1039) (by decide +kernel))) rfl rfl rfl hN.1 (hts _ (z_has_in (kj := 1003) (by decide +kernel))) ⟨by decide, by decide, by decide +kernel⟩ ⟨hRf, hRl⟩, rfl, (hts _ (z_has_in (kj := 1038) (by decide +kernel)))⟩ ⟨zn_blind (fun _ _ _ _ => trivial), zn_pre (fun _ _ => trivial) hK hP⟩ rfl rfl hl.1 rfl (lv_room (Nat.le_of_ble_eq_true rfl)) dX9_init_9 ⟨by omega, by omega⟩) hP hD hS hA (fun g0 H locs hg hP2 hD2 hS2 => ?_)
  subst hg
  have hP := hP2
  have hD := hD2
  have hS := hS2
  have hP : va_P D vwCl [(h0, .inr (9, [.null, .null, .null, .null, .null, .null, .null, .null, .int 0, .int 0, .int 0, .int 0, .int 0, .int 0])), zc tc g0 (4, 31 * w), zc tc g0 (500, 31 * w), zc tc g0 (501, 31 * w)] H := hP
  have hD : va_D A [(h0, .inr (9, [.null, .null, .null, .null, .null, .null, .null, .null, .int 0, .int 0, .int 0, .int 0, .int 0, .int 0])), zc tc g0 (4, 31 * w), zc tc g0 (500, 31 * w), zc tc g0 (501, 31 * w)] := hD
  refine va_putF (D := D) (ci := 9) (v := .ref (g0 (4, 31 * w))) (ty := .object "FareNumbers$Standing") (C := RX9) (T := TX9) (N := 14) (own := RX9) (ref := RX9) (index := 12) hx hb hts z_lw_9 tyX9 tyX9_ok nmX9 hown hK hP hD hS 0 rfl rfl 0 (by decide) (hts _ (z_has_in (kj := 1145) (by decide +kernel))) (fun _ h9 => h9) rfl hin rfl (tyX9_ok 0 (by decide)) rfl rfl (Nat.le_of_ble_eq_true rfl) dX9_init_12 (fun H locs hP hD hS => ?_)
  have hP : va_P D vwCl [(h0, .inr (9, [.ref (g0 (4, 31 * w)), .null, .null, .null, .null, .null, .null, .null, .int 0, .int 0, .int 0, .int 0, .int 0, .int 0])), zc tc g0 (4, 31 * w), zc tc g0 (500, 31 * w), zc tc g0 (501, 31 * w)] H := hP
  have hD : va_D A [(h0, .inr (9, [.ref (g0 (4, 31 * w)), .null, .null, .null, .null, .null, .null, .null, .int 0, .int 0, .int 0, .int 0, .int 0, .int 0])), zc tc g0 (4, 31 * w), zc tc g0 (500, 31 * w), zc tc g0 (501, 31 * w)] := hD
  refine lv_aload_n hx hb dX9_init_15 rfl (lv_at hl 0 rfl) ?_
  refine lv_bipush (v := 10) hx hb dX9_init_16 (by decide +kernel) ?_
  refine zn_newa (atype := .int) (ty := .int) hx hb (hts _ (z_has_in (kj := 1075) (by decide +kernel))) rfl hK hP hD hS hA 0 (cT := tc 0) rfl (N' := 10) (a0 := (10, .inl (fun _ => 0))) (fun _ => rfl) (by decide +kernel) (by decide +kernel) (Nat.le_of_ble_eq_true rfl) (by omega) (by omega) dX9_init_18 (fun q2 H hP hD hS => ?_)
  have hP : va_P D vwCl [(h0, .inr (9, [.ref (g0 (4, 31 * w)), .null, .null, .null, .null, .null, .null, .null, .int 0, .int 0, .int 0, .int 0, .int 0, .int 0])), zc tc g0 (4, 31 * w), zc tc g0 (500, 31 * w), zc tc g0 (501, 31 * w), (q2, .inl (tc 0, 10, .inl (fun _ => 0)))] H := hP
  have hD : va_D A [(h0, .inr (9, [.ref (g0 (4, 31 * w)), .null, .null, .null, .null, .null, .null, .null, .int 0, .int 0, .int 0, .int 0, .int 0, .int 0])), zc tc g0 (4, 31 * w), zc tc g0 (500, 31 * w), zc tc g0 (501, 31 * w), (q2, .inl (tc 0, 10, .inl (fun _ => 0)))] := hD
  refine va_putF (D := D) (ci := 9) (v := .ref q2) (ty := .array .int) (C := RX9) (T := TX9) (N := 14) (own := RX9) (ref := RX9) (index := 18) hx hb hts z_lw_9 tyX9 tyX9_ok nmX9 hown hK hP hD hS 0 rfl rfl 1 (by decide) (hts _ (z_has_in (kj := 1148) (by decide +kernel))) (fun _ h9 => h9) rfl hin rfl (tyX9_ok 1 (by decide)) rfl rfl (Nat.le_of_ble_eq_true rfl) dX9_init_20 (fun H locs hP hD hS => ?_)
  have hP : va_P D vwCl [(h0, .inr (9, [.ref (g0 (4, 31 * w)), .ref q2, .null, .null, .null, .null, .null, .null, .int 0, .int 0, .int 0, .int 0, .int 0, .int 0])), zc tc g0 (4, 31 * w), zc tc g0 (500, 31 * w), zc tc g0 (501, 31 * w), (q2, .inl (tc 0, 10, .inl (fun _ => 0)))] H := hP
  have hD : va_D A [(h0, .inr (9, [.ref (g0 (4, 31 * w)), .ref q2, .null, .null, .null, .null, .null, .null, .int 0, .int 0, .int 0, .int 0, .int 0, .int 0])), zc tc g0 (4, 31 * w), zc tc g0 (500, 31 * w), zc tc g0 (501, 31 * w), (q2, .inl (tc 0, 10, .inl (fun _ => 0)))] := hD
  refine lv_aload_n hx hb dX9_init_23 rfl (lv_at hl 0 rfl) ?_
  refine lv_bipush (v := 10) hx hb dX9_init_24 (by decide +kernel) ?_
  refine zn_newa (atype := .int) (ty := .int) hx hb (hts _ (z_has_in (kj := 1075) (by decide +kernel))) rfl hK hP hD hS hA 0 (cT := tc 0) rfl (N' := 10) (a0 := (10, .inl (fun _ => 0))) (fun _ => rfl) (by decide +kernel) (by decide +kernel) (Nat.le_of_ble_eq_true rfl) (by omega) (by omega) dX9_init_26 (fun q3 H hP hD hS => ?_)
  have hP : va_P D vwCl [(h0, .inr (9, [.ref (g0 (4, 31 * w)), .ref q2, .null, .null, .null, .null, .null, .null, .int 0, .int 0, .int 0, .int 0, .int 0, .int 0])), zc tc g0 (4, 31 * w), zc tc g0 (500, 31 * w), zc tc g0 (501, 31 * w), (q2, .inl (tc 0, 10, .inl (fun _ => 0))), (q3, .inl (tc 0, 10, .inl (fun _ => 0)))] H := hP
  have hD : va_D A [(h0, .inr (9, [.ref (g0 (4, 31 * w)), .ref q2, .null, .null, .null, .null, .null, .null, .int 0, .int 0, .int 0, .int 0, .int 0, .int 0])), zc tc g0 (4, 31 * w), zc tc g0 (500, 31 * w), zc tc g0 (501, 31 * w), (q2, .inl (tc 0, 10, .inl (fun _ => 0))), (q3, .inl (tc 0, 10, .inl (fun _ => 0)))] := hD
  refine va_putF (D := D) (ci := 9) (v := .ref q3) (ty := .array .int) (C := RX9) (T := TX9) (N := 14) (own := RX9) (ref := RX9) (index := 22) hx hb hts z_lw_9 tyX9 tyX9_ok nmX9 hown hK hP hD hS 0 rfl rfl 2 (by decide) (hts _ (z_has_in (kj := 1152) (by decide +kernel))) (fun _ h9 => h9) rfl hin rfl (tyX9_ok 2 (by decide)) rfl rfl (Nat.le_of_ble_eq_true rfl) dX9_init_28 (fun H locs hP hD hS => ?_)
  have hP : va_P D vwCl [(h0, .inr (9, [.ref (g0 (4, 31 * w)), .ref q2, .ref q3, .null, .null, .null, .null, .null, .int 0, .int 0, .int 0, .int 0, .int 0, .int 0])), zc tc g0 (4, 31 * w), zc tc g0 (500, 31 * w), zc tc g0 (501, 31 * w), (q2, .inl (tc 0, 10, .inl (fun _ => 0))), (q3, .inl (tc 0, 10, .inl (fun _ => 0)))] H := hP
  have hD : va_D A [(h0, .inr (9, [.ref (g0 (4, 31 * w)), .ref q2, .ref q3, .null, .null, .null, .null, .null, .int 0, .int 0, .int 0, .int 0, .int 0, .int 0])), zc tc g0 (4, 31 * w), zc tc g0 (500, 31 * w), zc tc g0 (501, 31 * w), (q2, .inl (tc 0, 10, .inl (fun _ => 0))), (q3, .inl (tc 0, 10, .inl (fun _ => 0)))] := hD
  refine lv_aload_n hx hb dX9_init_31 rfl (lv_at hl 0 rfl) ?_
  refine lv_iconst (v := 4) hx hb dX9_init_32 (by decide +kernel) ?_
  refine zn_newq (own := RX9) (C := "FareNumbers$Text") (index := 25) hx hb hown (hts _ (z_has_in (kj := 1076) (by decide +kernel))) hN.2.2.2.1 hK hP hD hS hA 4 (cT := tc 4) rfl (N' := 4) (by decide +kernel) (by decide +kernel) (Nat.le_of_ble_eq_true rfl) (by omega) (by omega) dX9_init_33 (fun q4 H hP hD hS => ?_)
  have hP : va_P D vwCl [(h0, .inr (9, [.ref (g0 (4, 31 * w)), .ref q2, .ref q3, .null, .null, .null, .null, .null, .int 0, .int 0, .int 0, .int 0, .int 0, .int 0])), zc tc g0 (4, 31 * w), zc tc g0 (500, 31 * w), zc tc g0 (501, 31 * w), (q2, .inl (tc 0, 10, .inl (fun _ => 0))), (q3, .inl (tc 0, 10, .inl (fun _ => 0))), (q4, qA (tc 4) 4 (fun _ => none))] H := hP
  have hD : va_D A [(h0, .inr (9, [.ref (g0 (4, 31 * w)), .ref q2, .ref q3, .null, .null, .null, .null, .null, .int 0, .int 0, .int 0, .int 0, .int 0, .int 0])), zc tc g0 (4, 31 * w), zc tc g0 (500, 31 * w), zc tc g0 (501, 31 * w), (q2, .inl (tc 0, 10, .inl (fun _ => 0))), (q3, .inl (tc 0, 10, .inl (fun _ => 0))), (q4, qA (tc 4) 4 (fun _ => none))] := hD
  refine va_putF (D := D) (ci := 9) (v := .ref q4) (ty := .array (.object "FareNumbers$Text")) (C := RX9) (T := TX9) (N := 14) (own := RX9) (ref := RX9) (index := 27) hx hb hts z_lw_9 tyX9 tyX9_ok nmX9 hown hK hP hD hS 0 rfl rfl 3 (by decide) (hts _ (z_has_in (kj := 1156) (by decide +kernel))) (fun _ h9 => h9) rfl hin rfl (tyX9_ok 3 (by decide)) rfl rfl (Nat.le_of_ble_eq_true rfl) dX9_init_36 (fun H locs hP hD hS => ?_)
  have hP : va_P D vwCl [(h0, .inr (9, [.ref (g0 (4, 31 * w)), .ref q2, .ref q3, .ref q4, .null, .null, .null, .null, .int 0, .int 0, .int 0, .int 0, .int 0, .int 0])), zc tc g0 (4, 31 * w), zc tc g0 (500, 31 * w), zc tc g0 (501, 31 * w), (q2, .inl (tc 0, 10, .inl (fun _ => 0))), (q3, .inl (tc 0, 10, .inl (fun _ => 0))), (q4, qA (tc 4) 4 (fun _ => none))] H := hP
  have hD : va_D A [(h0, .inr (9, [.ref (g0 (4, 31 * w)), .ref q2, .ref q3, .ref q4, .null, .null, .null, .null, .int 0, .int 0, .int 0, .int 0, .int 0, .int 0])), zc tc g0 (4, 31 * w), zc tc g0 (500, 31 * w), zc tc g0 (501, 31 * w), (q2, .inl (tc 0, 10, .inl (fun _ => 0))), (q3, .inl (tc 0, 10, .inl (fun _ => 0))), (q4, qA (tc 4) 4 (fun _ => none))] := hD
  refine lv_aload_n hx hb dX9_init_39 rfl (lv_at hl 0 rfl) ?_
  refine lv_bipush (v := 8) hx hb dX9_init_40 (by decide +kernel) ?_
  refine zn_newa (atype := .int) (ty := .int) hx hb (hts _ (z_has_in (kj := 1075) (by decide +kernel))) rfl hK hP hD hS hA 0 (cT := tc 0) rfl (N' := 8) (a0 := (8, .inl (fun _ => 0))) (fun _ => rfl) (by decide +kernel) (by decide +kernel) (Nat.le_of_ble_eq_true rfl) (by omega) (by omega) dX9_init_42 (fun q5 H hP hD hS => ?_)
  have hP : va_P D vwCl [(h0, .inr (9, [.ref (g0 (4, 31 * w)), .ref q2, .ref q3, .ref q4, .null, .null, .null, .null, .int 0, .int 0, .int 0, .int 0, .int 0, .int 0])), zc tc g0 (4, 31 * w), zc tc g0 (500, 31 * w), zc tc g0 (501, 31 * w), (q2, .inl (tc 0, 10, .inl (fun _ => 0))), (q3, .inl (tc 0, 10, .inl (fun _ => 0))), (q4, qA (tc 4) 4 (fun _ => none)), (q5, .inl (tc 0, 8, .inl (fun _ => 0)))] H := hP
  have hD : va_D A [(h0, .inr (9, [.ref (g0 (4, 31 * w)), .ref q2, .ref q3, .ref q4, .null, .null, .null, .null, .int 0, .int 0, .int 0, .int 0, .int 0, .int 0])), zc tc g0 (4, 31 * w), zc tc g0 (500, 31 * w), zc tc g0 (501, 31 * w), (q2, .inl (tc 0, 10, .inl (fun _ => 0))), (q3, .inl (tc 0, 10, .inl (fun _ => 0))), (q4, qA (tc 4) 4 (fun _ => none)), (q5, .inl (tc 0, 8, .inl (fun _ => 0)))] := hD
  refine va_putF (D := D) (ci := 9) (v := .ref q5) (ty := .array .int) (C := RX9) (T := TX9) (N := 14) (own := RX9) (ref := RX9) (index := 31) hx hb hts z_lw_9 tyX9 tyX9_ok nmX9 hown hK hP hD hS 0 rfl rfl 4 (by decide) (hts _ (z_has_in (kj := 1158) (by decide +kernel))) (fun _ h9 => h9) rfl hin rfl (tyX9_ok 4 (by decide)) rfl rfl (Nat.le_of_ble_eq_true rfl) dX9_init_44 (fun H locs hP hD hS => ?_)
  have hP : va_P D vwCl [(h0, .inr (9, [.ref (g0 (4, 31 * w)), .ref q2, .ref q3, .ref q4, .ref q5, .null, .null, .null, .int 0, .int 0, .int 0, .int 0, .int 0, .int 0])), zc tc g0 (4, 31 * w), zc tc g0 (500, 31 * w), zc tc g0 (501, 31 * w), (q2, .inl (tc 0, 10, .inl (fun _ => 0))), (q3, .inl (tc 0, 10, .inl (fun _ => 0))), (q4, qA (tc 4) 4 (fun _ => none)), (q5, .inl (tc 0, 8, .inl (fun _ => 0)))] H := hP
  have hD : va_D A [(h0, .inr (9, [.ref (g0 (4, 31 * w)), .ref q2, .ref q3, .ref q4, .ref q5, .null, .null, .null, .int 0, .int 0, .int 0, .int 0, .int 0, .int 0])), zc tc g0 (4, 31 * w), zc tc g0 (500, 31 * w), zc tc g0 (501, 31 * w), (q2, .inl (tc 0, 10, .inl (fun _ => 0))), (q3, .inl (tc 0, 10, .inl (fun _ => 0))), (q4, qA (tc 4) 4 (fun _ => none)), (q5, .inl (tc 0, 8, .inl (fun _ => 0)))] := hD
  refine lv_aload_n hx hb dX9_init_47 rfl (lv_at hl 0 rfl) ?_
  refine lv_bipush (v := 8) hx hb dX9_init_48 (by decide +kernel) ?_
  refine zn_newa (atype := .int) (ty := .int) hx hb (hts _ (z_has_in (kj := 1075) (by decide +kernel))) rfl hK hP hD hS hA 0 (cT := tc 0) rfl (N' := 8) (a0 := (8, .inl (fun _ => 0))) (fun _ => rfl) (by decide +kernel) (by decide +kernel) (Nat.le_of_ble_eq_true rfl) (by omega) (by omega) dX9_init_50 (fun q6 H hP hD hS => ?_)
  have hP : va_P D vwCl [(h0, .inr (9, [.ref (g0 (4, 31 * w)), .ref q2, .ref q3, .ref q4, .ref q5, .null, .null, .null, .int 0, .int 0, .int 0, .int 0, .int 0, .int 0])), zc tc g0 (4, 31 * w), zc tc g0 (500, 31 * w), zc tc g0 (501, 31 * w), (q2, .inl (tc 0, 10, .inl (fun _ => 0))), (q3, .inl (tc 0, 10, .inl (fun _ => 0))), (q4, qA (tc 4) 4 (fun _ => none)), (q5, .inl (tc 0, 8, .inl (fun _ => 0))), (q6, .inl (tc 0, 8, .inl (fun _ => 0)))] H := hP
  have hD : va_D A [(h0, .inr (9, [.ref (g0 (4, 31 * w)), .ref q2, .ref q3, .ref q4, .ref q5, .null, .null, .null, .int 0, .int 0, .int 0, .int 0, .int 0, .int 0])), zc tc g0 (4, 31 * w), zc tc g0 (500, 31 * w), zc tc g0 (501, 31 * w), (q2, .inl (tc 0, 10, .inl (fun _ => 0))), (q3, .inl (tc 0, 10, .inl (fun _ => 0))), (q4, qA (tc 4) 4 (fun _ => none)), (q5, .inl (tc 0, 8, .inl (fun _ => 0))), (q6, .inl (tc 0, 8, .inl (fun _ => 0)))] := hD
  refine va_putF (D := D) (ci := 9) (v := .ref q6) (ty := .array .int) (C := RX9) (T := TX9) (N := 14) (own := RX9) (ref := RX9) (index := 34) hx hb hts z_lw_9 tyX9 tyX9_ok nmX9 hown hK hP hD hS 0 rfl rfl 5 (by decide) (hts _ (z_has_in (kj := 1160) (by decide +kernel))) (fun _ h9 => h9) rfl hin rfl (tyX9_ok 5 (by decide)) rfl rfl (Nat.le_of_ble_eq_true rfl) dX9_init_52 (fun H locs hP hD hS => ?_)
  have hP : va_P D vwCl [(h0, .inr (9, [.ref (g0 (4, 31 * w)), .ref q2, .ref q3, .ref q4, .ref q5, .ref q6, .null, .null, .int 0, .int 0, .int 0, .int 0, .int 0, .int 0])), zc tc g0 (4, 31 * w), zc tc g0 (500, 31 * w), zc tc g0 (501, 31 * w), (q2, .inl (tc 0, 10, .inl (fun _ => 0))), (q3, .inl (tc 0, 10, .inl (fun _ => 0))), (q4, qA (tc 4) 4 (fun _ => none)), (q5, .inl (tc 0, 8, .inl (fun _ => 0))), (q6, .inl (tc 0, 8, .inl (fun _ => 0)))] H := hP
  have hD : va_D A [(h0, .inr (9, [.ref (g0 (4, 31 * w)), .ref q2, .ref q3, .ref q4, .ref q5, .ref q6, .null, .null, .int 0, .int 0, .int 0, .int 0, .int 0, .int 0])), zc tc g0 (4, 31 * w), zc tc g0 (500, 31 * w), zc tc g0 (501, 31 * w), (q2, .inl (tc 0, 10, .inl (fun _ => 0))), (q3, .inl (tc 0, 10, .inl (fun _ => 0))), (q4, qA (tc 4) 4 (fun _ => none)), (q5, .inl (tc 0, 8, .inl (fun _ => 0))), (q6, .inl (tc 0, 8, .inl (fun _ => 0)))] := hD
  refine lv_aload_n hx hb dX9_init_55 rfl (lv_at hl 0 rfl) ?_
  refine lv_bipush (v := 30) hx hb dX9_init_56 (by decide +kernel) ?_
  refine zn_newq (own := RX9) (C := "FareNumbers$Standing") (index := 9) hx hb hown (hts _ (z_has_in (kj := 1035) (by decide +kernel))) hN.2.2.2.2 hK hP hD hS hA 5 (cT := tc 5) rfl (N' := 30) (by decide +kernel) (by decide +kernel) (Nat.le_of_ble_eq_true rfl) (by omega) (by omega) dX9_init_58 (fun q7 H hP hD hS => ?_)
  have hP : va_P D vwCl [(h0, .inr (9, [.ref (g0 (4, 31 * w)), .ref q2, .ref q3, .ref q4, .ref q5, .ref q6, .null, .null, .int 0, .int 0, .int 0, .int 0, .int 0, .int 0])), zc tc g0 (4, 31 * w), zc tc g0 (500, 31 * w), zc tc g0 (501, 31 * w), (q2, .inl (tc 0, 10, .inl (fun _ => 0))), (q3, .inl (tc 0, 10, .inl (fun _ => 0))), (q4, qA (tc 4) 4 (fun _ => none)), (q5, .inl (tc 0, 8, .inl (fun _ => 0))), (q6, .inl (tc 0, 8, .inl (fun _ => 0))), (q7, qA (tc 5) 30 (fun _ => none))] H := hP
  have hD : va_D A [(h0, .inr (9, [.ref (g0 (4, 31 * w)), .ref q2, .ref q3, .ref q4, .ref q5, .ref q6, .null, .null, .int 0, .int 0, .int 0, .int 0, .int 0, .int 0])), zc tc g0 (4, 31 * w), zc tc g0 (500, 31 * w), zc tc g0 (501, 31 * w), (q2, .inl (tc 0, 10, .inl (fun _ => 0))), (q3, .inl (tc 0, 10, .inl (fun _ => 0))), (q4, qA (tc 4) 4 (fun _ => none)), (q5, .inl (tc 0, 8, .inl (fun _ => 0))), (q6, .inl (tc 0, 8, .inl (fun _ => 0))), (q7, qA (tc 5) 30 (fun _ => none))] := hD
  refine va_putF (D := D) (ci := 9) (v := .ref q7) (ty := .array (.object "FareNumbers$Standing")) (C := RX9) (T := TX9) (N := 14) (own := RX9) (ref := RX9) (index := 37) hx hb hts z_lw_9 tyX9 tyX9_ok nmX9 hown hK hP hD hS 0 rfl rfl 6 (by decide) (hts _ (z_has_in (kj := 1162) (by decide +kernel))) (fun _ h9 => h9) rfl hin rfl (tyX9_ok 6 (by decide)) rfl rfl (Nat.le_of_ble_eq_true rfl) dX9_init_61 (fun H locs hP hD hS => ?_)
  have hP : va_P D vwCl [(h0, .inr (9, [.ref (g0 (4, 31 * w)), .ref q2, .ref q3, .ref q4, .ref q5, .ref q6, .ref q7, .null, .int 0, .int 0, .int 0, .int 0, .int 0, .int 0])), zc tc g0 (4, 31 * w), zc tc g0 (500, 31 * w), zc tc g0 (501, 31 * w), (q2, .inl (tc 0, 10, .inl (fun _ => 0))), (q3, .inl (tc 0, 10, .inl (fun _ => 0))), (q4, qA (tc 4) 4 (fun _ => none)), (q5, .inl (tc 0, 8, .inl (fun _ => 0))), (q6, .inl (tc 0, 8, .inl (fun _ => 0))), (q7, qA (tc 5) 30 (fun _ => none))] H := hP
  have hD : va_D A [(h0, .inr (9, [.ref (g0 (4, 31 * w)), .ref q2, .ref q3, .ref q4, .ref q5, .ref q6, .ref q7, .null, .int 0, .int 0, .int 0, .int 0, .int 0, .int 0])), zc tc g0 (4, 31 * w), zc tc g0 (500, 31 * w), zc tc g0 (501, 31 * w), (q2, .inl (tc 0, 10, .inl (fun _ => 0))), (q3, .inl (tc 0, 10, .inl (fun _ => 0))), (q4, qA (tc 4) 4 (fun _ => none)), (q5, .inl (tc 0, 8, .inl (fun _ => 0))), (q6, .inl (tc 0, 8, .inl (fun _ => 0))), (q7, qA (tc 5) 30 (fun _ => none))] := hD
  refine lv_aload_n hx hb dX9_init_64 rfl (lv_at hl 0 rfl) ?_
  refine va_new (ci := 5) (fs := [.null, .int 0, .int 0, .int 0]) (C := RX5) (T := TX5) (N := 4) (own := RX9) (index := 41) hx hb hts z_lw_5 tyX5 tyX5_ok hown (hts _ (z_has_in (kj := 1079) (by decide +kernel))) (hts _ (z_has_in (kj := 1080) (by decide +kernel))) (hts _ (z_has_in (kj := 1004) (by decide +kernel))) hK hP hD hS hA rfl dfX5 (by omega) (by omega) dX9_init_65 (fun q8 H hP hD hS => ?_)
  refine lv_dup hx hb dX9_init_68 rfl ?_
  refine zn_back (va_runIN (As := []) (rest := [.ref q8, .ref h0]) ⟨hx, hb, hml, hown, hts⟩ (n_X5 l tc D (w) q8 H.size) ⟨va_cnB 0 hts (z_TB_cons (z_has_in (kj := 1083) (by decide +kernel))) rfl rfl rfl hN.2.1 (hts _ (z_has_in (kj := 1004) (by decide +kernel))) ⟨by decide, by decide, by decide +kernel⟩ ⟨hRf, hRl⟩, rfl, (hts _ (z_has_in (kj := 1082) (by decide +kernel)))⟩ ⟨zn_blind (fun _ _ _ _ => trivial), zn_pre (fun _ _ => trivial) hK hP⟩ rfl rfl hl.1 rfl (lv_room (Nat.le_of_ble_eq_true rfl)) dX9_init_69 ⟨by omega, by omega⟩) hP hD hS hA (fun gT H locs hg hP2 hD2 hS2 => ?_)
  subst hg
  have hP := hP2
  have hD := hD2
  have hS := hS2
  have hP : va_P D vwCl [(h0, .inr (9, [.ref (g0 (4, 31 * w)), .ref q2, .ref q3, .ref q4, .ref q5, .ref q6, .ref q7, .null, .int 0, .int 0, .int 0, .int 0, .int 0, .int 0])), zc tc g0 (4, 31 * w), zc tc g0 (500, 31 * w), zc tc g0 (501, 31 * w), (q2, .inl (tc 0, 10, .inl (fun _ => 0))), (q3, .inl (tc 0, 10, .inl (fun _ => 0))), (q4, qA (tc 4) 4 (fun _ => none)), (q5, .inl (tc 0, 8, .inl (fun _ => 0))), (q6, .inl (tc 0, 8, .inl (fun _ => 0))), (q7, qA (tc 5) 30 (fun _ => none)), zc tc gT (5, w), zc tc gT (600, w)] H := hP
  have hD : va_D A [(h0, .inr (9, [.ref (g0 (4, 31 * w)), .ref q2, .ref q3, .ref q4, .ref q5, .ref q6, .ref q7, .null, .int 0, .int 0, .int 0, .int 0, .int 0, .int 0])), zc tc g0 (4, 31 * w), zc tc g0 (500, 31 * w), zc tc g0 (501, 31 * w), (q2, .inl (tc 0, 10, .inl (fun _ => 0))), (q3, .inl (tc 0, 10, .inl (fun _ => 0))), (q4, qA (tc 4) 4 (fun _ => none)), (q5, .inl (tc 0, 8, .inl (fun _ => 0))), (q6, .inl (tc 0, 8, .inl (fun _ => 0))), (q7, qA (tc 5) 30 (fun _ => none)), zc tc gT (5, w), zc tc gT (600, w)] := hD
  refine va_putF (D := D) (ci := 9) (v := .ref (gT (5, w))) (ty := .object "FareNumbers$Teller") (C := RX9) (T := TX9) (N := 14) (own := RX9) (ref := RX9) (index := 44) hx hb hts z_lw_9 tyX9 tyX9_ok nmX9 hown hK hP hD hS 0 rfl rfl 7 (by decide) (hts _ (z_has_in (kj := 1163) (by decide +kernel))) (fun _ h9 => h9) rfl hin rfl (tyX9_ok 7 (by decide)) rfl rfl (Nat.le_of_ble_eq_true rfl) dX9_init_72 (fun H locs hP hD hS => ?_)
  have hP : va_P D vwCl [(h0, .inr (9, [.ref (g0 (4, 31 * w)), .ref q2, .ref q3, .ref q4, .ref q5, .ref q6, .ref q7, .ref (gT (5, w)), .int 0, .int 0, .int 0, .int 0, .int 0, .int 0])), zc tc g0 (4, 31 * w), zc tc g0 (500, 31 * w), zc tc g0 (501, 31 * w), (q2, .inl (tc 0, 10, .inl (fun _ => 0))), (q3, .inl (tc 0, 10, .inl (fun _ => 0))), (q4, qA (tc 4) 4 (fun _ => none)), (q5, .inl (tc 0, 8, .inl (fun _ => 0))), (q6, .inl (tc 0, 8, .inl (fun _ => 0))), (q7, qA (tc 5) 30 (fun _ => none)), zc tc gT (5, w), zc tc gT (600, w)] H := hP
  have hD : va_D A [(h0, .inr (9, [.ref (g0 (4, 31 * w)), .ref q2, .ref q3, .ref q4, .ref q5, .ref q6, .ref q7, .ref (gT (5, w)), .int 0, .int 0, .int 0, .int 0, .int 0, .int 0])), zc tc g0 (4, 31 * w), zc tc g0 (500, 31 * w), zc tc g0 (501, 31 * w), (q2, .inl (tc 0, 10, .inl (fun _ => 0))), (q3, .inl (tc 0, 10, .inl (fun _ => 0))), (q4, qA (tc 4) 4 (fun _ => none)), (q5, .inl (tc 0, 8, .inl (fun _ => 0))), (q6, .inl (tc 0, 8, .inl (fun _ => 0))), (q7, qA (tc 5) 30 (fun _ => none)), zc tc gT (5, w), zc tc gT (600, w)] := hD
  refine lv_aload_n hx hb dX9_init_75 rfl (lv_at hl 0 rfl) ?_
  refine lv_iconst (v := -1) hx hb dX9_init_76 (by decide +kernel) ?_
  refine va_put (D := D) (ci := 9) (v := .int (-1)) (ty := .int) (C := RX9) (T := TX9) (N := 14) (own := RX9) (ref := RX9) (index := 48) hx hb hts z_lw_9 tyX9 tyX9_ok nmX9 hown hK hP hD hS 0 rfl rfl 10 (by decide) (hts _ (z_has_in (kj := 1168) (by decide +kernel))) (fun _ h9 => h9) rfl (tyX9_ok 10 (by decide)) rfl rfl (Nat.le_of_ble_eq_true rfl) dX9_init_77 (fun H locs hP hD hS => ?_)
  have hP : va_P D vwCl [(h0, .inr (9, [.ref (g0 (4, 31 * w)), .ref q2, .ref q3, .ref q4, .ref q5, .ref q6, .ref q7, .ref (gT (5, w)), .int 0, .int 0, .int (-1), .int 0, .int 0, .int 0])), zc tc g0 (4, 31 * w), zc tc g0 (500, 31 * w), zc tc g0 (501, 31 * w), (q2, .inl (tc 0, 10, .inl (fun _ => 0))), (q3, .inl (tc 0, 10, .inl (fun _ => 0))), (q4, qA (tc 4) 4 (fun _ => none)), (q5, .inl (tc 0, 8, .inl (fun _ => 0))), (q6, .inl (tc 0, 8, .inl (fun _ => 0))), (q7, qA (tc 5) 30 (fun _ => none)), zc tc gT (5, w), zc tc gT (600, w)] H := hP
  have hD : va_D A [(h0, .inr (9, [.ref (g0 (4, 31 * w)), .ref q2, .ref q3, .ref q4, .ref q5, .ref q6, .ref q7, .ref (gT (5, w)), .int 0, .int 0, .int (-1), .int 0, .int 0, .int 0])), zc tc g0 (4, 31 * w), zc tc g0 (500, 31 * w), zc tc g0 (501, 31 * w), (q2, .inl (tc 0, 10, .inl (fun _ => 0))), (q3, .inl (tc 0, 10, .inl (fun _ => 0))), (q4, qA (tc 4) 4 (fun _ => none)), (q5, .inl (tc 0, 8, .inl (fun _ => 0))), (q6, .inl (tc 0, 8, .inl (fun _ => 0))), (q7, qA (tc 5) 30 (fun _ => none)), zc tc gT (5, w), zc tc gT (600, w)] := hD
  refine lv_iconst (v := 0) hx hb dX9_init_80 (by decide +kernel) ?_
  refine lv_istore_n (lv' := [(1, .int (nI 0)), (0, .ref h0)]) hx hb dX9_init_81 rfl hl (by decide) rfl (fun ls hl => ?_)
  have hP := hP.sub (ws' := (h0, .inr (9, [.ref (g0 (4, 31 * w)), .ref q2, .ref q3, .ref q4, .ref q5, .ref q6, .ref q7, .ref (gT (5, w)), .int 0, .int 0, .int (-1), .int 0, .int 0, .int 0])) :: (q4, qA (tc 4) 4 (fun _ => none)) :: (q7, qA (tc 5) 30 (fun _ => none)) :: ([(q2, .inl (tc 0, 10, .inl (fun _ => 0))), (q3, .inl (tc 0, 10, .inl (fun _ => 0))), (q5, .inl (tc 0, 8, .inl (fun _ => 0))), (q6, .inl (tc 0, 8, .inl (fun _ => 0)))] ++ (zW tc g0 (zL4 (31 * w)) ++ zW tc gT (zL5 w)))) [0, 6, 9, 4, 5, 7, 8, 1, 2, 3, 10, 11] rfl
  have hD := hD.sub (ws' := (h0, .inr (9, [.ref (g0 (4, 31 * w)), .ref q2, .ref q3, .ref q4, .ref q5, .ref q6, .ref q7, .ref (gT (5, w)), .int 0, .int 0, .int (-1), .int 0, .int 0, .int 0])) :: (q4, qA (tc 4) 4 (fun _ => none)) :: (q7, qA (tc 5) 30 (fun _ => none)) :: ([(q2, .inl (tc 0, 10, .inl (fun _ => 0))), (q3, .inl (tc 0, 10, .inl (fun _ => 0))), (q5, .inl (tc 0, 8, .inl (fun _ => 0))), (q6, .inl (tc 0, 8, .inl (fun _ => 0)))] ++ (zW tc g0 (zL4 (31 * w)) ++ zW tc gT (zL5 w)))) [0, 6, 9, 4, 5, 7, 8, 1, 2, 3, 10, 11] (by decide) rfl
  have hP : va_P D vwCl ((h0, .inr (9, [.ref (g0 (4, 31 * w)), .ref q2, .ref q3, .ref q4, .ref q5, .ref q6, .ref q7, .ref (gT (5, w)), .int 0, .int 0, .int (-1), .int 0, .int 0, .int 0])) :: (q4, qA (tc 4) 4 (fT (fun k => (6, 4 * w + k)) (fun _ _ => 0) 0)) :: (((q7, qA (tc 5) 30 (fun _ => none)) :: ([(q2, .inl (tc 0, 10, .inl (fun _ => 0))), (q3, .inl (tc 0, 10, .inl (fun _ => 0))), (q5, .inl (tc 0, 8, .inl (fun _ => 0))), (q6, .inl (tc 0, 8, .inl (fun _ => 0)))] ++ (zW tc g0 (zL4 (31 * w)) ++ zW tc gT (zL5 w)))) ++ TT tc (fun i => zL6 (4 * w + i)) (fun _ _ => 0) 0)) H := by
    rw [fT_0, show TT tc (fun i => zL6 (4 * w + i)) (fun _ _ => 0) 0 = [] from rfl, List.append_nil]
    exact hP
  have hD : va_D A ((h0, .inr (9, [.ref (g0 (4, 31 * w)), .ref q2, .ref q3, .ref q4, .ref q5, .ref q6, .ref q7, .ref (gT (5, w)), .int 0, .int 0, .int (-1), .int 0, .int 0, .int 0])) :: (q4, qA (tc 4) 4 (fT (fun k => (6, 4 * w + k)) (fun _ _ => 0) 0)) :: (((q7, qA (tc 5) 30 (fun _ => none)) :: ([(q2, .inl (tc 0, 10, .inl (fun _ => 0))), (q3, .inl (tc 0, 10, .inl (fun _ => 0))), (q5, .inl (tc 0, 8, .inl (fun _ => 0))), (q6, .inl (tc 0, 8, .inl (fun _ => 0)))] ++ (zW tc g0 (zL4 (31 * w)) ++ zW tc gT (zL5 w)))) ++ TT tc (fun i => zL6 (4 * w + i)) (fun _ _ => 0) 0)) := by
    rw [fT_0, show TT tc (fun i => zL6 (4 * w + i)) (fun _ _ => 0) 0 = [] from rfl, List.append_nil]
    exact hD
  refine W.widen (k := 11 + 0 * 5) (n := 177 + 0 * 382) (by omega) (by omega) ?_
  refine n_X9_t (w := w) (x1 := (0, .inr (0, []))) hx hb hml hown hts hK hN hA hRf hRl (by omega) (by omega) rfl (fun F1 H locs ls hP hD hS hl => ?_) 4 0 rfl _ H locs ls hP hD hS hl
  refine lv_iconst (v := 0) hx hb dX9_init_106 (by decide +kernel) ?_
  refine lv_istore_n (lv' := [(1, .int (nI 0)), (0, .ref h0)]) hx hb dX9_init_107 rfl hl (by decide) rfl (fun ls hl => ?_)
  have hP : va_P D vwCl ((h0, .inr (9, [.ref (g0 (4, 31 * w)), .ref q2, .ref q3, .ref q4, .ref q5, .ref q6, .ref q7, .ref (gT (5, w)), .int 0, .int 0, .int (-1), .int 0, .int 0, .int 0])) :: (q4, qA (tc 4) 4 (fT (fun k => (6, 4 * w + k)) F1 4)) :: (q7, qA (tc 5) 30 (fT (fun k => (4, (31 * w + 1) + k)) (fun _ _ => 0) 0)) :: ((([(q2, .inl (tc 0, 10, .inl (fun _ => 0))), (q3, .inl (tc 0, 10, .inl (fun _ => 0))), (q5, .inl (tc 0, 8, .inl (fun _ => 0))), (q6, .inl (tc 0, 8, .inl (fun _ => 0)))] ++ (zW tc g0 (zL4 (31 * w)) ++ zW tc gT (zL5 w))) ++ TT tc (fun i => zL6 (4 * w + i)) F1 4) ++ TT tc (fun i => zL4 ((31 * w + 1) + i)) (fun _ _ => 0) 0)) H := by
    rw [fT_0, show TT tc (fun i => zL4 ((31 * w + 1) + i)) (fun _ _ => 0) 0 = [] from rfl, List.append_nil]
    exact hP
  have hD : va_D A ((h0, .inr (9, [.ref (g0 (4, 31 * w)), .ref q2, .ref q3, .ref q4, .ref q5, .ref q6, .ref q7, .ref (gT (5, w)), .int 0, .int 0, .int (-1), .int 0, .int 0, .int 0])) :: (q4, qA (tc 4) 4 (fT (fun k => (6, 4 * w + k)) F1 4)) :: (q7, qA (tc 5) 30 (fT (fun k => (4, (31 * w + 1) + k)) (fun _ _ => 0) 0)) :: ((([(q2, .inl (tc 0, 10, .inl (fun _ => 0))), (q3, .inl (tc 0, 10, .inl (fun _ => 0))), (q5, .inl (tc 0, 8, .inl (fun _ => 0))), (q6, .inl (tc 0, 8, .inl (fun _ => 0)))] ++ (zW tc g0 (zL4 (31 * w)) ++ zW tc gT (zL5 w))) ++ TT tc (fun i => zL6 (4 * w + i)) F1 4) ++ TT tc (fun i => zL4 ((31 * w + 1) + i)) (fun _ _ => 0) 0)) := by
    rw [fT_0, show TT tc (fun i => zL4 ((31 * w + 1) + i)) (fun _ _ => 0) 0 = [] from rfl, List.append_nil]
    exact hD
  refine W.widen (k := 31 + 0 * 3) (n := 1705 + 0 * 39) (by omega) (by omega) ?_
  refine n_X9_s (w := w) hx hb hml hown hts hK hN hA hRf hRl (by omega) (by omega) rfl (fun F2 H locs ls hP hD hS hl => ?_) 30 0 rfl _ H locs ls hP hD hS hl
  obtain ⟨ad, d1, d2, d3⟩ := zW_world hw hP hD
  refine W.widen (k := 121) (n := 2875) (by omega) (by omega) ?_
  exact W.vret hx hb hr (fun t ht hW => ⟨⟨ad, rfl, d1, by rw [ht]; exact d2, d3⟩, hS.F ht⟩) hS.2.2 dX9_init_133
