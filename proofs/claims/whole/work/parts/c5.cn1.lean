/-! constructors that make arrays alone, printed -/
theorem dX4_init_0 : decode cX4_init 0 = .ok (.aload_n 0, 1) := by decide +kernel
theorem dX4_init_1 : decode cX4_init 1 = .ok (.invokespecial 3, 3) := by decide +kernel
theorem dX4_init_4 : decode cX4_init 4 = .ok (.aload_n 0, 1) := by decide +kernel
theorem dX4_init_5 : decode cX4_init 5 = .ok (.bipush 7, 2) := by decide +kernel
theorem dX4_init_7 : decode cX4_init 7 = .ok (.newarray .int, 2) := by decide +kernel
theorem dX4_init_9 : decode cX4_init 9 = .ok (.putfield 9, 3) := by decide +kernel
theorem dX4_init_12 : decode cX4_init 12 = .ok (.aload_n 0, 1) := by decide +kernel
theorem dX4_init_13 : decode cX4_init 13 = .ok (.bipush 25, 2) := by decide +kernel
theorem dX4_init_15 : decode cX4_init 15 = .ok (.newarray .int, 2) := by decide +kernel
theorem dX4_init_17 : decode cX4_init 17 = .ok (.putfield 15, 3) := by decide +kernel
theorem dX4_init_20 : decode cX4_init 20 = .ok (.aload_n 0, 1) := by decide +kernel
theorem dX4_init_21 : decode cX4_init 21 = .ok (.bipush 50, 2) := by decide +kernel
theorem dX4_init_23 : decode cX4_init 23 = .ok (.putfield 18, 3) := by decide +kernel
theorem dX4_init_26 : decode cX4_init 26 = .ok (.aload_n 0, 1) := by decide +kernel
theorem dX4_init_27 : decode cX4_init 27 = .ok (.sipush 439, 3) := by decide +kernel
theorem dX4_init_30 : decode cX4_init 30 = .ok (.putfield 22, 3) := by decide +kernel
theorem dX4_init_33 : decode cX4_init 33 = .ok (.return_, 1) := by decide +kernel
def zL4 (n : Nat) : List (Nat × Nat) := [(4, n), (500, n), (501, n)]
set_option maxHeartbeats 4000000 in
set_option maxRecDepth 100000 in
theorem n_X4 (l : Launch) (tc : Nat → ClassId) (D : va_G) (n : Nat) (h0 sz : Nat) : Met l yX4_init (.code yX4_init cX4_init 1 none :: z_TB) { frames := 1, cells := 2, slots := 32, locals := 12 } (zn_Pc tc D 4 [.null, .null, .int 0, .int 0, .int 0, .int 0, .int 0] (fun _ => True) h0 sz) (zn_Qc tc D 4 [.null, .null, .int 0, .int 0, .int 0, .int 0, .int 0] (zL4 n) (4, n) h0 sz) 2 32 (va_A [(h0, .inr (4, [.null, .null, .int 0, .int 0, .int 0, .int 0, .int 0]))] sz) := by
  refine Met.ofW (cc := cX4_init) (maxL := 1) (ret := none) (by decide) rfl ?_
  intro p e s m args below meth c s₁ B hml hv
  obtain ⟨rfl, hsz, hP, hK, -⟩ := hv
  have hx := B.exec
  have hb := B.bytes
  have hr := B.returns
  have hts0 := atoms_spec (ws := .code yX4_init cX4_init 1 none :: z_TB) B.pre
  have hts : ∀ w ∈ z_TB, w.before ([.ref h0] : List Value).toArray s = true := fun w hw => hts0 w (List.mem_cons_of_mem _ hw)
  have hown : s.vm.findClass RX4 = some m.cls := findClass_of_methodNamed B.named
  have hlocks := B.notSynchronized
  have hin : meth.name = "<init>" := (name_of_methodNamed B.named B.method).1
  subst hsz
  have hD := zn_D1 (h0 := h0) (sz := s.heap.size) (e0 := .inr (4, [.null, .null, .int 0, .int 0, .int 0, .int 0, .int 0]))
  unfold zn_Qc
  generalize hAe : va_A [(h0, .inr (4, [.null, .null, .int 0, .int 0, .int 0, .int 0, .int 0]))] s.heap.size = A at hD ⊢
  have hA : ∀ q : Nat, s.heap.size ≤ q → A q := fun q h => by rw [← hAe]; exact Or.inr h
  have hS : va_S A s.heap s.heap [] := va_S.rf
  have hl := lv_entry ([.ref h0]) (n := 1) (Nat.le_of_ble_eq_true rfl)
  rw [lg_entry_eq]
  generalize (lg_sl ([.ref h0]) ++ List.replicate (1 - (lg_sl ([.ref h0])).length) Slot.unset).toArray = ls at hl ⊢
  have hl : lv_has ls 1 [(0, .ref h0)] := hl
  refine lv_aload_n hx hb dX4_init_0 rfl (lv_at hl 0 rfl) ?_
  refine W.objInit hx hb hown (hts _ (z_has_in (kj := 1040) (by decide +kernel))) (hts _ (z_has_in (kj := 1027) (by decide +kernel))) (hts _ (z_has_in (kj := 1028) (by decide +kernel))) rfl (by rw [hml]; exact hl.1) rfl dX4_init_1 (Nat.le_of_ble_eq_true rfl) (Nat.le_of_ble_eq_true rfl) ?_
  refine W.eq (g2 := F0 m 4 ls []) rfl ?_
  refine lv_aload_n hx hb dX4_init_4 rfl (lv_at hl 0 rfl) ?_
  refine lv_bipush (v := 7) hx hb dX4_init_5 (by decide +kernel) ?_
  refine zn_newa (atype := .int) (ty := .int) hx hb (hts _ (z_has_in (kj := 1075) (by decide +kernel))) rfl hK hP hD hS hA 0 (cT := tc 0) rfl (N' := 7) (a0 := (7, .inl (fun _ => 0))) (fun _ => rfl) (by decide +kernel) (by decide +kernel) (Nat.le_of_ble_eq_true rfl) (Nat.le_of_ble_eq_true rfl) (Nat.le_of_ble_eq_true rfl) dX4_init_7 (fun q1 H hP hD hS => ?_)
  have hP : va_P D vwCl [(h0, .inr (4, [.null, .null, .int 0, .int 0, .int 0, .int 0, .int 0])), (q1, .inl (tc 0, 7, .inl (fun _ => 0)))] H := hP
  have hD : va_D A [(h0, .inr (4, [.null, .null, .int 0, .int 0, .int 0, .int 0, .int 0])), (q1, .inl (tc 0, 7, .inl (fun _ => 0)))] := hD
  refine va_putF (D := D) (ci := 4) (v := .ref q1) (ty := .array .int) (C := RX4) (T := TX4) (N := 7) (own := RX4) (ref := RX4) (index := 9) hx hb hts z_lw_4 tyX4 tyX4_ok nmX4 hown hK hP hD hS 0 rfl rfl 0 (by decide) (hts _ (z_has_in (kj := 1041) (by decide +kernel))) (fun _ h9 => h9) rfl hin rfl (tyX4_ok 0 (by decide)) rfl rfl (Nat.le_of_ble_eq_true rfl) dX4_init_9 (fun H locs hP hD hS => ?_)
  have hP : va_P D vwCl [(h0, .inr (4, [.ref q1, .null, .int 0, .int 0, .int 0, .int 0, .int 0])), (q1, .inl (tc 0, 7, .inl (fun _ => 0)))] H := hP
  have hD : va_D A [(h0, .inr (4, [.ref q1, .null, .int 0, .int 0, .int 0, .int 0, .int 0])), (q1, .inl (tc 0, 7, .inl (fun _ => 0)))] := hD
  refine lv_aload_n hx hb dX4_init_12 rfl (lv_at hl 0 rfl) ?_
  refine lv_bipush (v := 25) hx hb dX4_init_13 (by decide +kernel) ?_
  refine zn_newa (atype := .int) (ty := .int) hx hb (hts _ (z_has_in (kj := 1075) (by decide +kernel))) rfl hK hP hD hS hA 0 (cT := tc 0) rfl (N' := 25) (a0 := (25, .inl (fun _ => 0))) (fun _ => rfl) (by decide +kernel) (by decide +kernel) (Nat.le_of_ble_eq_true rfl) (Nat.le_of_ble_eq_true rfl) (Nat.le_of_ble_eq_true rfl) dX4_init_15 (fun q2 H hP hD hS => ?_)
  have hP : va_P D vwCl [(h0, .inr (4, [.ref q1, .null, .int 0, .int 0, .int 0, .int 0, .int 0])), (q1, .inl (tc 0, 7, .inl (fun _ => 0))), (q2, .inl (tc 0, 25, .inl (fun _ => 0)))] H := hP
  have hD : va_D A [(h0, .inr (4, [.ref q1, .null, .int 0, .int 0, .int 0, .int 0, .int 0])), (q1, .inl (tc 0, 7, .inl (fun _ => 0))), (q2, .inl (tc 0, 25, .inl (fun _ => 0)))] := hD
  refine va_putF (D := D) (ci := 4) (v := .ref q2) (ty := .array .int) (C := RX4) (T := TX4) (N := 7) (own := RX4) (ref := RX4) (index := 15) hx hb hts z_lw_4 tyX4 tyX4_ok nmX4 hown hK hP hD hS 0 rfl rfl 1 (by decide) (hts _ (z_has_in (kj := 1045) (by decide +kernel))) (fun _ h9 => h9) rfl hin rfl (tyX4_ok 1 (by decide)) rfl rfl (Nat.le_of_ble_eq_true rfl) dX4_init_17 (fun H locs hP hD hS => ?_)
  have hP : va_P D vwCl [(h0, .inr (4, [.ref q1, .ref q2, .int 0, .int 0, .int 0, .int 0, .int 0])), (q1, .inl (tc 0, 7, .inl (fun _ => 0))), (q2, .inl (tc 0, 25, .inl (fun _ => 0)))] H := hP
  have hD : va_D A [(h0, .inr (4, [.ref q1, .ref q2, .int 0, .int 0, .int 0, .int 0, .int 0])), (q1, .inl (tc 0, 7, .inl (fun _ => 0))), (q2, .inl (tc 0, 25, .inl (fun _ => 0)))] := hD
  refine lv_aload_n hx hb dX4_init_20 rfl (lv_at hl 0 rfl) ?_
  refine lv_bipush (v := 50) hx hb dX4_init_21 (by decide +kernel) ?_
  refine va_put (D := D) (ci := 4) (v := .int 50) (ty := .int) (C := RX4) (T := TX4) (N := 7) (own := RX4) (ref := RX4) (index := 18) hx hb hts z_lw_4 tyX4 tyX4_ok nmX4 hown hK hP hD hS 0 rfl rfl 4 (by decide) (hts _ (z_has_in (kj := 1050) (by decide +kernel))) (fun _ h9 => h9) rfl (tyX4_ok 4 (by decide)) rfl rfl (Nat.le_of_ble_eq_true rfl) dX4_init_23 (fun H locs hP hD hS => ?_)
  have hP : va_P D vwCl [(h0, .inr (4, [.ref q1, .ref q2, .int 0, .int 0, .int 50, .int 0, .int 0])), (q1, .inl (tc 0, 7, .inl (fun _ => 0))), (q2, .inl (tc 0, 25, .inl (fun _ => 0)))] H := hP
  have hD : va_D A [(h0, .inr (4, [.ref q1, .ref q2, .int 0, .int 0, .int 50, .int 0, .int 0])), (q1, .inl (tc 0, 7, .inl (fun _ => 0))), (q2, .inl (tc 0, 25, .inl (fun _ => 0)))] := hD
  refine lv_aload_n hx hb dX4_init_26 rfl (lv_at hl 0 rfl) ?_
  refine lv_sipush (v := 439) hx hb dX4_init_27 (by decide +kernel) ?_
  refine va_put (D := D) (ci := 4) (v := .int 439) (ty := .int) (C := RX4) (T := TX4) (N := 7) (own := RX4) (ref := RX4) (index := 22) hx hb hts z_lw_4 tyX4 tyX4_ok nmX4 hown hK hP hD hS 0 rfl rfl 6 (by decide) (hts _ (z_has_in (kj := 1058) (by decide +kernel))) (fun _ h9 => h9) rfl (tyX4_ok 6 (by decide)) rfl rfl (Nat.le_of_ble_eq_true rfl) dX4_init_30 (fun H locs hP hD hS => ?_)
  have hP : va_P D vwCl [(h0, .inr (4, [.ref q1, .ref q2, .int 0, .int 0, .int 50, .int 0, .int 439])), (q1, .inl (tc 0, 7, .inl (fun _ => 0))), (q2, .inl (tc 0, 25, .inl (fun _ => 0)))] H := hP
  have hD : va_D A [(h0, .inr (4, [.ref q1, .ref q2, .int 0, .int 0, .int 50, .int 0, .int 439])), (q1, .inl (tc 0, 7, .inl (fun _ => 0))), (q2, .inl (tc 0, 25, .inl (fun _ => 0)))] := hD
  exact W.vret hx hb hr (fun t ht hW => ⟨⟨fun q => z_as [(4, h0), (500, q1), (501, q2)] q.1, rfl, rfl, by rw [ht]; exact hP, hD⟩, hS.F ht⟩) hS.2.2 dX4_init_33
theorem dX5_init_0 : decode cX5_init 0 = .ok (.aload_n 0, 1) := by decide +kernel
theorem dX5_init_1 : decode cX5_init 1 = .ok (.invokespecial 3, 3) := by decide +kernel
theorem dX5_init_4 : decode cX5_init 4 = .ok (.aload_n 0, 1) := by decide +kernel
theorem dX5_init_5 : decode cX5_init 5 = .ok (.bipush 64, 2) := by decide +kernel
theorem dX5_init_7 : decode cX5_init 7 = .ok (.newarray .int, 2) := by decide +kernel
theorem dX5_init_9 : decode cX5_init 9 = .ok (.putfield 9, 3) := by decide +kernel
theorem dX5_init_12 : decode cX5_init 12 = .ok (.return_, 1) := by decide +kernel
def zL5 (n : Nat) : List (Nat × Nat) := [(5, n), (600, n)]
set_option maxHeartbeats 4000000 in
set_option maxRecDepth 100000 in
theorem n_X5 (l : Launch) (tc : Nat → ClassId) (D : va_G) (n : Nat) (h0 sz : Nat) : Met l yX5_init (.code yX5_init cX5_init 1 none :: z_TB) { frames := 1, cells := 1, slots := 64, locals := 12 } (zn_Pc tc D 5 [.null, .int 0, .int 0, .int 0] (fun _ => True) h0 sz) (zn_Qc tc D 5 [.null, .int 0, .int 0, .int 0] (zL5 n) (5, n) h0 sz) 1 64 (va_A [(h0, .inr (5, [.null, .int 0, .int 0, .int 0]))] sz) := by
  refine Met.ofW (cc := cX5_init) (maxL := 1) (ret := none) (by decide) rfl ?_
  intro p e s m args below meth c s₁ B hml hv
  obtain ⟨rfl, hsz, hP, hK, -⟩ := hv
  have hx := B.exec
  have hb := B.bytes
  have hr := B.returns
  have hts0 := atoms_spec (ws := .code yX5_init cX5_init 1 none :: z_TB) B.pre
  have hts : ∀ w ∈ z_TB, w.before ([.ref h0] : List Value).toArray s = true := fun w hw => hts0 w (List.mem_cons_of_mem _ hw)
  have hown : s.vm.findClass RX5 = some m.cls := findClass_of_methodNamed B.named
  have hlocks := B.notSynchronized
  have hin : meth.name = "<init>" := (name_of_methodNamed B.named B.method).1
  subst hsz
  have hD := zn_D1 (h0 := h0) (sz := s.heap.size) (e0 := .inr (5, [.null, .int 0, .int 0, .int 0]))
  unfold zn_Qc
  generalize hAe : va_A [(h0, .inr (5, [.null, .int 0, .int 0, .int 0]))] s.heap.size = A at hD ⊢
  have hA : ∀ q : Nat, s.heap.size ≤ q → A q := fun q h => by rw [← hAe]; exact Or.inr h
  have hS : va_S A s.heap s.heap [] := va_S.rf
  have hl := lv_entry ([.ref h0]) (n := 1) (Nat.le_of_ble_eq_true rfl)
  rw [lg_entry_eq]
  generalize (lg_sl ([.ref h0]) ++ List.replicate (1 - (lg_sl ([.ref h0])).length) Slot.unset).toArray = ls at hl ⊢
  have hl : lv_has ls 1 [(0, .ref h0)] := hl
  refine lv_aload_n hx hb dX5_init_0 rfl (lv_at hl 0 rfl) ?_
  refine W.objInit hx hb hown (hts _ (z_has_in (kj := 1084) (by decide +kernel))) (hts _ (z_has_in (kj := 1027) (by decide +kernel))) (hts _ (z_has_in (kj := 1028) (by decide +kernel))) rfl (by rw [hml]; exact hl.1) rfl dX5_init_1 (Nat.le_of_ble_eq_true rfl) (Nat.le_of_ble_eq_true rfl) ?_
  refine W.eq (g2 := F0 m 4 ls []) rfl ?_
  refine lv_aload_n hx hb dX5_init_4 rfl (lv_at hl 0 rfl) ?_
  refine lv_bipush (v := 64) hx hb dX5_init_5 (by decide +kernel) ?_
  refine zn_newa (atype := .int) (ty := .int) hx hb (hts _ (z_has_in (kj := 1075) (by decide +kernel))) rfl hK hP hD hS hA 0 (cT := tc 0) rfl (N' := 64) (a0 := (64, .inl (fun _ => 0))) (fun _ => rfl) (by decide +kernel) (by decide +kernel) (Nat.le_of_ble_eq_true rfl) (Nat.le_of_ble_eq_true rfl) (Nat.le_of_ble_eq_true rfl) dX5_init_7 (fun q1 H hP hD hS => ?_)
  have hP : va_P D vwCl [(h0, .inr (5, [.null, .int 0, .int 0, .int 0])), (q1, .inl (tc 0, 64, .inl (fun _ => 0)))] H := hP
  have hD : va_D A [(h0, .inr (5, [.null, .int 0, .int 0, .int 0])), (q1, .inl (tc 0, 64, .inl (fun _ => 0)))] := hD
  refine va_putF (D := D) (ci := 5) (v := .ref q1) (ty := .array .int) (C := RX5) (T := TX5) (N := 4) (own := RX5) (ref := RX5) (index := 9) hx hb hts z_lw_5 tyX5 tyX5_ok nmX5 hown hK hP hD hS 0 rfl rfl 0 (by decide) (hts _ (z_has_in (kj := 1085) (by decide +kernel))) (fun _ h9 => h9) rfl hin rfl (tyX5_ok 0 (by decide)) rfl rfl (Nat.le_of_ble_eq_true rfl) dX5_init_9 (fun H locs hP hD hS => ?_)
  have hP : va_P D vwCl [(h0, .inr (5, [.ref q1, .int 0, .int 0, .int 0])), (q1, .inl (tc 0, 64, .inl (fun _ => 0)))] H := hP
  have hD : va_D A [(h0, .inr (5, [.ref q1, .int 0, .int 0, .int 0])), (q1, .inl (tc 0, 64, .inl (fun _ => 0)))] := hD
  exact W.vret hx hb hr (fun t ht hW => ⟨⟨fun q => z_as [(5, h0), (600, q1)] q.1, rfl, rfl, by rw [ht]; exact hP, hD⟩, hS.F ht⟩) hS.2.2 dX5_init_12
theorem dX6_init_0 : decode cX6_init 0 = .ok (.aload_n 0, 1) := by decide +kernel
theorem dX6_init_1 : decode cX6_init 1 = .ok (.invokespecial 3, 3) := by decide +kernel
theorem dX6_init_4 : decode cX6_init 4 = .ok (.aload_n 0, 1) := by decide +kernel
theorem dX6_init_5 : decode cX6_init 5 = .ok (.sipush 300, 3) := by decide +kernel
theorem dX6_init_8 : decode cX6_init 8 = .ok (.newarray .int, 2) := by decide +kernel
theorem dX6_init_10 : decode cX6_init 10 = .ok (.putfield 9, 3) := by decide +kernel
theorem dX6_init_13 : decode cX6_init 13 = .ok (.aload_n 0, 1) := by decide +kernel
theorem dX6_init_14 : decode cX6_init 14 = .ok (.bipush 24, 2) := by decide +kernel
theorem dX6_init_16 : decode cX6_init 16 = .ok (.newarray .int, 2) := by decide +kernel
theorem dX6_init_18 : decode cX6_init 18 = .ok (.putfield 15, 3) := by decide +kernel
theorem dX6_init_21 : decode cX6_init 21 = .ok (.aload_n 0, 1) := by decide +kernel
theorem dX6_init_22 : decode cX6_init 22 = .ok (.bipush 24, 2) := by decide +kernel
theorem dX6_init_24 : decode cX6_init 24 = .ok (.newarray .int, 2) := by decide +kernel
theorem dX6_init_26 : decode cX6_init 26 = .ok (.putfield 18, 3) := by decide +kernel
theorem dX6_init_29 : decode cX6_init 29 = .ok (.aload_n 0, 1) := by decide +kernel
theorem dX6_init_30 : decode cX6_init 30 = .ok (.bipush 24, 2) := by decide +kernel
theorem dX6_init_32 : decode cX6_init 32 = .ok (.newarray .int, 2) := by decide +kernel
theorem dX6_init_34 : decode cX6_init 34 = .ok (.putfield 21, 3) := by decide +kernel
theorem dX6_init_37 : decode cX6_init 37 = .ok (.return_, 1) := by decide +kernel
def zL6 (n : Nat) : List (Nat × Nat) := [(6, n), (700, n), (701, n), (702, n), (703, n)]
set_option maxHeartbeats 4000000 in
set_option maxRecDepth 100000 in
theorem n_X6 (l : Launch) (tc : Nat → ClassId) (D : va_G) (n : Nat) (h0 sz : Nat) : Met l yX6_init (.code yX6_init cX6_init 1 none :: z_TB) { frames := 1, cells := 4, slots := 372, locals := 12 } (zn_Pc tc D 6 [.null, .null, .null, .null, .int 0, .int 0, .int 0, .int 0, .int 0, .int 0] (fun _ => True) h0 sz) (zn_Qc tc D 6 [.null, .null, .null, .null, .int 0, .int 0, .int 0, .int 0, .int 0, .int 0] (zL6 n) (6, n) h0 sz) 4 372 (va_A [(h0, .inr (6, [.null, .null, .null, .null, .int 0, .int 0, .int 0, .int 0, .int 0, .int 0]))] sz) := by
  refine Met.ofW (cc := cX6_init) (maxL := 1) (ret := none) (by decide) rfl ?_
  intro p e s m args below meth c s₁ B hml hv
  obtain ⟨rfl, hsz, hP, hK, -⟩ := hv
  have hx := B.exec
  have hb := B.bytes
  have hr := B.returns
  have hts0 := atoms_spec (ws := .code yX6_init cX6_init 1 none :: z_TB) B.pre
  have hts : ∀ w ∈ z_TB, w.before ([.ref h0] : List Value).toArray s = true := fun w hw => hts0 w (List.mem_cons_of_mem _ hw)
  have hown : s.vm.findClass RX6 = some m.cls := findClass_of_methodNamed B.named
  have hlocks := B.notSynchronized
  have hin : meth.name = "<init>" := (name_of_methodNamed B.named B.method).1
  subst hsz
  have hD := zn_D1 (h0 := h0) (sz := s.heap.size) (e0 := .inr (6, [.null, .null, .null, .null, .int 0, .int 0, .int 0, .int 0, .int 0, .int 0]))
  unfold zn_Qc
  generalize hAe : va_A [(h0, .inr (6, [.null, .null, .null, .null, .int 0, .int 0, .int 0, .int 0, .int 0, .int 0]))] s.heap.size = A at hD ⊢
  have hA : ∀ q : Nat, s.heap.size ≤ q → A q := fun q h => by rw [← hAe]; exact Or.inr h
  have hS : va_S A s.heap s.heap [] := va_S.rf
  have hl := lv_entry ([.ref h0]) (n := 1) (Nat.le_of_ble_eq_true rfl)
  rw [lg_entry_eq]
  generalize (lg_sl ([.ref h0]) ++ List.replicate (1 - (lg_sl ([.ref h0])).length) Slot.unset).toArray = ls at hl ⊢
  have hl : lv_has ls 1 [(0, .ref h0)] := hl
  refine lv_aload_n hx hb dX6_init_0 rfl (lv_at hl 0 rfl) ?_
  refine W.objInit hx hb hown (hts _ (z_has_in (kj := 1102) (by decide +kernel))) (hts _ (z_has_in (kj := 1027) (by decide +kernel))) (hts _ (z_has_in (kj := 1028) (by decide +kernel))) rfl (by rw [hml]; exact hl.1) rfl dX6_init_1 (Nat.le_of_ble_eq_true rfl) (Nat.le_of_ble_eq_true rfl) ?_
  refine W.eq (g2 := F0 m 4 ls []) rfl ?_
  refine lv_aload_n hx hb dX6_init_4 rfl (lv_at hl 0 rfl) ?_
  refine lv_sipush (v := 300) hx hb dX6_init_5 (by decide +kernel) ?_
  refine zn_newa (atype := .int) (ty := .int) hx hb (hts _ (z_has_in (kj := 1075) (by decide +kernel))) rfl hK hP hD hS hA 0 (cT := tc 0) rfl (N' := 300) (a0 := (300, .inl (fun _ => 0))) (fun _ => rfl) (by decide +kernel) (by decide +kernel) (Nat.le_of_ble_eq_true rfl) (Nat.le_of_ble_eq_true rfl) (Nat.le_of_ble_eq_true rfl) dX6_init_8 (fun q1 H hP hD hS => ?_)
  have hP : va_P D vwCl [(h0, .inr (6, [.null, .null, .null, .null, .int 0, .int 0, .int 0, .int 0, .int 0, .int 0])), (q1, .inl (tc 0, 300, .inl (fun _ => 0)))] H := hP
  have hD : va_D A [(h0, .inr (6, [.null, .null, .null, .null, .int 0, .int 0, .int 0, .int 0, .int 0, .int 0])), (q1, .inl (tc 0, 300, .inl (fun _ => 0)))] := hD
  refine va_putF (D := D) (ci := 6) (v := .ref q1) (ty := .array .int) (C := RX6) (T := TX6) (N := 10) (own := RX6) (ref := RX6) (index := 9) hx hb hts z_lw_6 tyX6 tyX6_ok nmX6 hown hK hP hD hS 0 rfl rfl 0 (by decide) (hts _ (z_has_in (kj := 1103) (by decide +kernel))) (fun _ h9 => h9) rfl hin rfl (tyX6_ok 0 (by decide)) rfl rfl (Nat.le_of_ble_eq_true rfl) dX6_init_10 (fun H locs hP hD hS => ?_)
  have hP : va_P D vwCl [(h0, .inr (6, [.ref q1, .null, .null, .null, .int 0, .int 0, .int 0, .int 0, .int 0, .int 0])), (q1, .inl (tc 0, 300, .inl (fun _ => 0)))] H := hP
  have hD : va_D A [(h0, .inr (6, [.ref q1, .null, .null, .null, .int 0, .int 0, .int 0, .int 0, .int 0, .int 0])), (q1, .inl (tc 0, 300, .inl (fun _ => 0)))] := hD
  refine lv_aload_n hx hb dX6_init_13 rfl (lv_at hl 0 rfl) ?_
  refine lv_bipush (v := 24) hx hb dX6_init_14 (by decide +kernel) ?_
  refine zn_newa (atype := .int) (ty := .int) hx hb (hts _ (z_has_in (kj := 1075) (by decide +kernel))) rfl hK hP hD hS hA 0 (cT := tc 0) rfl (N' := 24) (a0 := (24, .inl (fun _ => 0))) (fun _ => rfl) (by decide +kernel) (by decide +kernel) (Nat.le_of_ble_eq_true rfl) (Nat.le_of_ble_eq_true rfl) (Nat.le_of_ble_eq_true rfl) dX6_init_16 (fun q2 H hP hD hS => ?_)
  have hP : va_P D vwCl [(h0, .inr (6, [.ref q1, .null, .null, .null, .int 0, .int 0, .int 0, .int 0, .int 0, .int 0])), (q1, .inl (tc 0, 300, .inl (fun _ => 0))), (q2, .inl (tc 0, 24, .inl (fun _ => 0)))] H := hP
  have hD : va_D A [(h0, .inr (6, [.ref q1, .null, .null, .null, .int 0, .int 0, .int 0, .int 0, .int 0, .int 0])), (q1, .inl (tc 0, 300, .inl (fun _ => 0))), (q2, .inl (tc 0, 24, .inl (fun _ => 0)))] := hD
  refine va_putF (D := D) (ci := 6) (v := .ref q2) (ty := .array .int) (C := RX6) (T := TX6) (N := 10) (own := RX6) (ref := RX6) (index := 15) hx hb hts z_lw_6 tyX6 tyX6_ok nmX6 hown hK hP hD hS 0 rfl rfl 1 (by decide) (hts _ (z_has_in (kj := 1105) (by decide +kernel))) (fun _ h9 => h9) rfl hin rfl (tyX6_ok 1 (by decide)) rfl rfl (Nat.le_of_ble_eq_true rfl) dX6_init_18 (fun H locs hP hD hS => ?_)
  have hP : va_P D vwCl [(h0, .inr (6, [.ref q1, .ref q2, .null, .null, .int 0, .int 0, .int 0, .int 0, .int 0, .int 0])), (q1, .inl (tc 0, 300, .inl (fun _ => 0))), (q2, .inl (tc 0, 24, .inl (fun _ => 0)))] H := hP
  have hD : va_D A [(h0, .inr (6, [.ref q1, .ref q2, .null, .null, .int 0, .int 0, .int 0, .int 0, .int 0, .int 0])), (q1, .inl (tc 0, 300, .inl (fun _ => 0))), (q2, .inl (tc 0, 24, .inl (fun _ => 0)))] := hD
  refine lv_aload_n hx hb dX6_init_21 rfl (lv_at hl 0 rfl) ?_
  refine lv_bipush (v := 24) hx hb dX6_init_22 (by decide +kernel) ?_
  refine zn_newa (atype := .int) (ty := .int) hx hb (hts _ (z_has_in (kj := 1075) (by decide +kernel))) rfl hK hP hD hS hA 0 (cT := tc 0) rfl (N' := 24) (a0 := (24, .inl (fun _ => 0))) (fun _ => rfl) (by decide +kernel) (by decide +kernel) (Nat.le_of_ble_eq_true rfl) (Nat.le_of_ble_eq_true rfl) (Nat.le_of_ble_eq_true rfl) dX6_init_24 (fun q3 H hP hD hS => ?_)
  have hP : va_P D vwCl [(h0, .inr (6, [.ref q1, .ref q2, .null, .null, .int 0, .int 0, .int 0, .int 0, .int 0, .int 0])), (q1, .inl (tc 0, 300, .inl (fun _ => 0))), (q2, .inl (tc 0, 24, .inl (fun _ => 0))), (q3, .inl (tc 0, 24, .inl (fun _ => 0)))] H := hP
  have hD : va_D A [(h0, .inr (6, [.ref q1, .ref q2, .null, .null, .int 0, .int 0, .int 0, .int 0, .int 0, .int 0])), (q1, .inl (tc 0, 300, .inl (fun _ => 0))), (q2, .inl (tc 0, 24, .inl (fun _ => 0))), (q3, .inl (tc 0, 24, .inl (fun _ => 0)))] := hD
  refine va_putF (D := D) (ci := 6) (v := .ref q3) (ty := .array .int) (C := RX6) (T := TX6) (N := 10) (own := RX6) (ref := RX6) (index := 18) hx hb hts z_lw_6 tyX6 tyX6_ok nmX6 hown hK hP hD hS 0 rfl rfl 2 (by decide) (hts _ (z_has_in (kj := 1107) (by decide +kernel))) (fun _ h9 => h9) rfl hin rfl (tyX6_ok 2 (by decide)) rfl rfl (Nat.le_of_ble_eq_true rfl) dX6_init_26 (fun H locs hP hD hS => ?_)
  have hP : va_P D vwCl [(h0, .inr (6, [.ref q1, .ref q2, .ref q3, .null, .int 0, .int 0, .int 0, .int 0, .int 0, .int 0])), (q1, .inl (tc 0, 300, .inl (fun _ => 0))), (q2, .inl (tc 0, 24, .inl (fun _ => 0))), (q3, .inl (tc 0, 24, .inl (fun _ => 0)))] H := hP
  have hD : va_D A [(h0, .inr (6, [.ref q1, .ref q2, .ref q3, .null, .int 0, .int 0, .int 0, .int 0, .int 0, .int 0])), (q1, .inl (tc 0, 300, .inl (fun _ => 0))), (q2, .inl (tc 0, 24, .inl (fun _ => 0))), (q3, .inl (tc 0, 24, .inl (fun _ => 0)))] := hD
  refine lv_aload_n hx hb dX6_init_29 rfl (lv_at hl 0 rfl) ?_
  refine lv_bipush (v := 24) hx hb dX6_init_30 (by decide +kernel) ?_
  refine zn_newa (atype := .int) (ty := .int) hx hb (hts _ (z_has_in (kj := 1075) (by decide +kernel))) rfl hK hP hD hS hA 0 (cT := tc 0) rfl (N' := 24) (a0 := (24, .inl (fun _ => 0))) (fun _ => rfl) (by decide +kernel) (by decide +kernel) (Nat.le_of_ble_eq_true rfl) (Nat.le_of_ble_eq_true rfl) (Nat.le_of_ble_eq_true rfl) dX6_init_32 (fun q4 H hP hD hS => ?_)
  have hP : va_P D vwCl [(h0, .inr (6, [.ref q1, .ref q2, .ref q3, .null, .int 0, .int 0, .int 0, .int 0, .int 0, .int 0])), (q1, .inl (tc 0, 300, .inl (fun _ => 0))), (q2, .inl (tc 0, 24, .inl (fun _ => 0))), (q3, .inl (tc 0, 24, .inl (fun _ => 0))), (q4, .inl (tc 0, 24, .inl (fun _ => 0)))] H := hP
  have hD : va_D A [(h0, .inr (6, [.ref q1, .ref q2, .ref q3, .null, .int 0, .int 0, .int 0, .int 0, .int 0, .int 0])), (q1, .inl (tc 0, 300, .inl (fun _ => 0))), (q2, .inl (tc 0, 24, .inl (fun _ => 0))), (q3, .inl (tc 0, 24, .inl (fun _ => 0))), (q4, .inl (tc 0, 24, .inl (fun _ => 0)))] := hD
  refine va_putF (D := D) (ci := 6) (v := .ref q4) (ty := .array .int) (C := RX6) (T := TX6) (N := 10) (own := RX6) (ref := RX6) (index := 21) hx hb hts z_lw_6 tyX6 tyX6_ok nmX6 hown hK hP hD hS 0 rfl rfl 3 (by decide) (hts _ (z_has_in (kj := 1109) (by decide +kernel))) (fun _ h9 => h9) rfl hin rfl (tyX6_ok 3 (by decide)) rfl rfl (Nat.le_of_ble_eq_true rfl) dX6_init_34 (fun H locs hP hD hS => ?_)
  have hP : va_P D vwCl [(h0, .inr (6, [.ref q1, .ref q2, .ref q3, .ref q4, .int 0, .int 0, .int 0, .int 0, .int 0, .int 0])), (q1, .inl (tc 0, 300, .inl (fun _ => 0))), (q2, .inl (tc 0, 24, .inl (fun _ => 0))), (q3, .inl (tc 0, 24, .inl (fun _ => 0))), (q4, .inl (tc 0, 24, .inl (fun _ => 0)))] H := hP
  have hD : va_D A [(h0, .inr (6, [.ref q1, .ref q2, .ref q3, .ref q4, .int 0, .int 0, .int 0, .int 0, .int 0, .int 0])), (q1, .inl (tc 0, 300, .inl (fun _ => 0))), (q2, .inl (tc 0, 24, .inl (fun _ => 0))), (q3, .inl (tc 0, 24, .inl (fun _ => 0))), (q4, .inl (tc 0, 24, .inl (fun _ => 0)))] := hD
  exact W.vret hx hb hr (fun t ht hW => ⟨⟨fun q => z_as [(6, h0), (700, q1), (701, q2), (702, q3), (703, q4)] q.1, rfl, rfl, by rw [ht]; exact hP, hD⟩, hS.F ht⟩) hS.2.2 dX6_init_37
theorem dX0_init_0 : decode cX0_init 0 = .ok (.aload_n 0, 1) := by decide +kernel
theorem dX0_init_1 : decode cX0_init 1 = .ok (.invokespecial 3, 3) := by decide +kernel
theorem dX0_init_4 : decode cX0_init 4 = .ok (.aload_n 0, 1) := by decide +kernel
theorem dX0_init_5 : decode cX0_init 5 = .ok (.bipush 10, 2) := by decide +kernel
theorem dX0_init_7 : decode cX0_init 7 = .ok (.newarray .int, 2) := by decide +kernel
theorem dX0_init_9 : decode cX0_init 9 = .ok (.putfield 9, 3) := by decide +kernel
theorem dX0_init_12 : decode cX0_init 12 = .ok (.aload_n 0, 1) := by decide +kernel
theorem dX0_init_13 : decode cX0_init 13 = .ok (.bipush 10, 2) := by decide +kernel
theorem dX0_init_15 : decode cX0_init 15 = .ok (.newarray .int, 2) := by decide +kernel
theorem dX0_init_17 : decode cX0_init 17 = .ok (.putfield 15, 3) := by decide +kernel
theorem dX0_init_20 : decode cX0_init 20 = .ok (.aload_n 0, 1) := by decide +kernel
theorem dX0_init_21 : decode cX0_init 21 = .ok (.bipush 7, 2) := by decide +kernel
theorem dX0_init_23 : decode cX0_init 23 = .ok (.newarray .int, 2) := by decide +kernel
theorem dX0_init_25 : decode cX0_init 25 = .ok (.putfield 18, 3) := by decide +kernel
theorem dX0_init_28 : decode cX0_init 28 = .ok (.return_, 1) := by decide +kernel
def zL0 : List (Nat × Nat) := [(0, 0), (100, 0), (101, 0), (102, 0)]
set_option maxHeartbeats 4000000 in
set_option maxRecDepth 100000 in
theorem n_X0 (l : Launch) (tc : Nat → ClassId) (D : va_G) (h0 sz : Nat) : Met l yX0_init (.code yX0_init cX0_init 1 none :: z_TB) { frames := 1, cells := 3, slots := 27, locals := 12 } (zn_Pc tc D 0 [.null, .null, .null, .int 0, .int 0, .int 0, .int 0, .long 0] (fun _ => True) h0 sz) (zn_Qc tc D 0 [.null, .null, .null, .int 0, .int 0, .int 0, .int 0, .long 0] zL0 (0, 0) h0 sz) 3 27 (va_A [(h0, .inr (0, [.null, .null, .null, .int 0, .int 0, .int 0, .int 0, .long 0]))] sz) := by
  refine Met.ofW (cc := cX0_init) (maxL := 1) (ret := none) (by decide) rfl ?_
  intro p e s m args below meth c s₁ B hml hv
  obtain ⟨rfl, hsz, hP, hK, -⟩ := hv
  have hx := B.exec
  have hb := B.bytes
  have hr := B.returns
  have hts0 := atoms_spec (ws := .code yX0_init cX0_init 1 none :: z_TB) B.pre
  have hts : ∀ w ∈ z_TB, w.before ([.ref h0] : List Value).toArray s = true := fun w hw => hts0 w (List.mem_cons_of_mem _ hw)
  have hown : s.vm.findClass RX0 = some m.cls := findClass_of_methodNamed B.named
  have hlocks := B.notSynchronized
  have hin : meth.name = "<init>" := (name_of_methodNamed B.named B.method).1
  subst hsz
  have hD := zn_D1 (h0 := h0) (sz := s.heap.size) (e0 := .inr (0, [.null, .null, .null, .int 0, .int 0, .int 0, .int 0, .long 0]))
  unfold zn_Qc
  generalize hAe : va_A [(h0, .inr (0, [.null, .null, .null, .int 0, .int 0, .int 0, .int 0, .long 0]))] s.heap.size = A at hD ⊢
  have hA : ∀ q : Nat, s.heap.size ≤ q → A q := fun q h => by rw [← hAe]; exact Or.inr h
  have hS : va_S A s.heap s.heap [] := va_S.rf
  have hl := lv_entry ([.ref h0]) (n := 1) (Nat.le_of_ble_eq_true rfl)
  rw [lg_entry_eq]
  generalize (lg_sl ([.ref h0]) ++ List.replicate (1 - (lg_sl ([.ref h0])).length) Slot.unset).toArray = ls at hl ⊢
  have hl : lv_has ls 1 [(0, .ref h0)] := hl
  refine lv_aload_n hx hb dX0_init_0 rfl (lv_at hl 0 rfl) ?_
  refine W.objInit hx hb hown (hts _ (z_has_in (kj := 2016) (by decide +kernel))) (hts _ (z_has_in (kj := 1027) (by decide +kernel))) (hts _ (z_has_in (kj := 1028) (by decide +kernel))) rfl (by rw [hml]; exact hl.1) rfl dX0_init_1 (Nat.le_of_ble_eq_true rfl) (Nat.le_of_ble_eq_true rfl) ?_
  refine W.eq (g2 := F0 m 4 ls []) rfl ?_
  refine lv_aload_n hx hb dX0_init_4 rfl (lv_at hl 0 rfl) ?_
  refine lv_bipush (v := 10) hx hb dX0_init_5 (by decide +kernel) ?_
  refine zn_newa (atype := .int) (ty := .int) hx hb (hts _ (z_has_in (kj := 1075) (by decide +kernel))) rfl hK hP hD hS hA 0 (cT := tc 0) rfl (N' := 10) (a0 := (10, .inl (fun _ => 0))) (fun _ => rfl) (by decide +kernel) (by decide +kernel) (Nat.le_of_ble_eq_true rfl) (Nat.le_of_ble_eq_true rfl) (Nat.le_of_ble_eq_true rfl) dX0_init_7 (fun q1 H hP hD hS => ?_)
  have hP : va_P D vwCl [(h0, .inr (0, [.null, .null, .null, .int 0, .int 0, .int 0, .int 0, .long 0])), (q1, .inl (tc 0, 10, .inl (fun _ => 0)))] H := hP
  have hD : va_D A [(h0, .inr (0, [.null, .null, .null, .int 0, .int 0, .int 0, .int 0, .long 0])), (q1, .inl (tc 0, 10, .inl (fun _ => 0)))] := hD
  refine va_putF (D := D) (ci := 0) (v := .ref q1) (ty := .array .int) (C := RX0) (T := TX0) (N := 8) (own := RX0) (ref := RX0) (index := 9) hx hb hts z_lw_0 tyX0 tyX0_ok nmX0 hown hK hP hD hS 0 rfl rfl 0 (by decide) (hts _ (z_has_in (kj := 2017) (by decide +kernel))) (fun _ h9 => h9) rfl hin rfl (tyX0_ok 0 (by decide)) rfl rfl (Nat.le_of_ble_eq_true rfl) dX0_init_9 (fun H locs hP hD hS => ?_)
  have hP : va_P D vwCl [(h0, .inr (0, [.ref q1, .null, .null, .int 0, .int 0, .int 0, .int 0, .long 0])), (q1, .inl (tc 0, 10, .inl (fun _ => 0)))] H := hP
  have hD : va_D A [(h0, .inr (0, [.ref q1, .null, .null, .int 0, .int 0, .int 0, .int 0, .long 0])), (q1, .inl (tc 0, 10, .inl (fun _ => 0)))] := hD
  refine lv_aload_n hx hb dX0_init_12 rfl (lv_at hl 0 rfl) ?_
  refine lv_bipush (v := 10) hx hb dX0_init_13 (by decide +kernel) ?_
  refine zn_newa (atype := .int) (ty := .int) hx hb (hts _ (z_has_in (kj := 1075) (by decide +kernel))) rfl hK hP hD hS hA 0 (cT := tc 0) rfl (N' := 10) (a0 := (10, .inl (fun _ => 0))) (fun _ => rfl) (by decide +kernel) (by decide +kernel) (Nat.le_of_ble_eq_true rfl) (Nat.le_of_ble_eq_true rfl) (Nat.le_of_ble_eq_true rfl) dX0_init_15 (fun q2 H hP hD hS => ?_)
  have hP : va_P D vwCl [(h0, .inr (0, [.ref q1, .null, .null, .int 0, .int 0, .int 0, .int 0, .long 0])), (q1, .inl (tc 0, 10, .inl (fun _ => 0))), (q2, .inl (tc 0, 10, .inl (fun _ => 0)))] H := hP
  have hD : va_D A [(h0, .inr (0, [.ref q1, .null, .null, .int 0, .int 0, .int 0, .int 0, .long 0])), (q1, .inl (tc 0, 10, .inl (fun _ => 0))), (q2, .inl (tc 0, 10, .inl (fun _ => 0)))] := hD
  refine va_putF (D := D) (ci := 0) (v := .ref q2) (ty := .array .int) (C := RX0) (T := TX0) (N := 8) (own := RX0) (ref := RX0) (index := 15) hx hb hts z_lw_0 tyX0 tyX0_ok nmX0 hown hK hP hD hS 0 rfl rfl 1 (by decide) (hts _ (z_has_in (kj := 2021) (by decide +kernel))) (fun _ h9 => h9) rfl hin rfl (tyX0_ok 1 (by decide)) rfl rfl (Nat.le_of_ble_eq_true rfl) dX0_init_17 (fun H locs hP hD hS => ?_)
  have hP : va_P D vwCl [(h0, .inr (0, [.ref q1, .ref q2, .null, .int 0, .int 0, .int 0, .int 0, .long 0])), (q1, .inl (tc 0, 10, .inl (fun _ => 0))), (q2, .inl (tc 0, 10, .inl (fun _ => 0)))] H := hP
  have hD : va_D A [(h0, .inr (0, [.ref q1, .ref q2, .null, .int 0, .int 0, .int 0, .int 0, .long 0])), (q1, .inl (tc 0, 10, .inl (fun _ => 0))), (q2, .inl (tc 0, 10, .inl (fun _ => 0)))] := hD
  refine lv_aload_n hx hb dX0_init_20 rfl (lv_at hl 0 rfl) ?_
  refine lv_bipush (v := 7) hx hb dX0_init_21 (by decide +kernel) ?_
  refine zn_newa (atype := .int) (ty := .int) hx hb (hts _ (z_has_in (kj := 1075) (by decide +kernel))) rfl hK hP hD hS hA 0 (cT := tc 0) rfl (N' := 7) (a0 := (7, .inl (fun _ => 0))) (fun _ => rfl) (by decide +kernel) (by decide +kernel) (Nat.le_of_ble_eq_true rfl) (Nat.le_of_ble_eq_true rfl) (Nat.le_of_ble_eq_true rfl) dX0_init_23 (fun q3 H hP hD hS => ?_)
  have hP : va_P D vwCl [(h0, .inr (0, [.ref q1, .ref q2, .null, .int 0, .int 0, .int 0, .int 0, .long 0])), (q1, .inl (tc 0, 10, .inl (fun _ => 0))), (q2, .inl (tc 0, 10, .inl (fun _ => 0))), (q3, .inl (tc 0, 7, .inl (fun _ => 0)))] H := hP
  have hD : va_D A [(h0, .inr (0, [.ref q1, .ref q2, .null, .int 0, .int 0, .int 0, .int 0, .long 0])), (q1, .inl (tc 0, 10, .inl (fun _ => 0))), (q2, .inl (tc 0, 10, .inl (fun _ => 0))), (q3, .inl (tc 0, 7, .inl (fun _ => 0)))] := hD
  refine va_putF (D := D) (ci := 0) (v := .ref q3) (ty := .array .int) (C := RX0) (T := TX0) (N := 8) (own := RX0) (ref := RX0) (index := 18) hx hb hts z_lw_0 tyX0 tyX0_ok nmX0 hown hK hP hD hS 0 rfl rfl 2 (by decide) (hts _ (z_has_in (kj := 2025) (by decide +kernel))) (fun _ h9 => h9) rfl hin rfl (tyX0_ok 2 (by decide)) rfl rfl (Nat.le_of_ble_eq_true rfl) dX0_init_25 (fun H locs hP hD hS => ?_)
  have hP : va_P D vwCl [(h0, .inr (0, [.ref q1, .ref q2, .ref q3, .int 0, .int 0, .int 0, .int 0, .long 0])), (q1, .inl (tc 0, 10, .inl (fun _ => 0))), (q2, .inl (tc 0, 10, .inl (fun _ => 0))), (q3, .inl (tc 0, 7, .inl (fun _ => 0)))] H := hP
  have hD : va_D A [(h0, .inr (0, [.ref q1, .ref q2, .ref q3, .int 0, .int 0, .int 0, .int 0, .long 0])), (q1, .inl (tc 0, 10, .inl (fun _ => 0))), (q2, .inl (tc 0, 10, .inl (fun _ => 0))), (q3, .inl (tc 0, 7, .inl (fun _ => 0)))] := hD
  exact W.vret hx hb hr (fun t ht hW => ⟨⟨fun q => z_as [(0, h0), (100, q1), (101, q2), (102, q3)] q.1, rfl, rfl, by rw [ht]; exact hP, hD⟩, hS.F ht⟩) hS.2.2 dX0_init_28
theorem dX1_init_0 : decode cX1_init 0 = .ok (.aload_n 0, 1) := by decide +kernel
theorem dX1_init_1 : decode cX1_init 1 = .ok (.invokespecial 3, 3) := by decide +kernel
theorem dX1_init_4 : decode cX1_init 4 = .ok (.aload_n 0, 1) := by decide +kernel
theorem dX1_init_5 : decode cX1_init 5 = .ok (.bipush 7, 2) := by decide +kernel
theorem dX1_init_7 : decode cX1_init 7 = .ok (.newarray .int, 2) := by decide +kernel
theorem dX1_init_9 : decode cX1_init 9 = .ok (.putfield 9, 3) := by decide +kernel
theorem dX1_init_12 : decode cX1_init 12 = .ok (.aload_n 0, 1) := by decide +kernel
theorem dX1_init_13 : decode cX1_init 13 = .ok (.bipush 7, 2) := by decide +kernel
theorem dX1_init_15 : decode cX1_init 15 = .ok (.newarray .int, 2) := by decide +kernel
theorem dX1_init_17 : decode cX1_init 17 = .ok (.putfield 15, 3) := by decide +kernel
theorem dX1_init_20 : decode cX1_init 20 = .ok (.aload_n 0, 1) := by decide +kernel
theorem dX1_init_21 : decode cX1_init 21 = .ok (.ldc2_w 18, 3) := by decide +kernel
theorem dX1_init_24 : decode cX1_init 24 = .ok (.putfield 20, 3) := by decide +kernel
theorem dX1_init_27 : decode cX1_init 27 = .ok (.aload_n 0, 1) := by decide +kernel
theorem dX1_init_28 : decode cX1_init 28 = .ok (.ldc2_w 18, 3) := by decide +kernel
theorem dX1_init_31 : decode cX1_init 31 = .ok (.putfield 24, 3) := by decide +kernel
theorem dX1_init_34 : decode cX1_init 34 = .ok (.return_, 1) := by decide +kernel
def zL1 : List (Nat × Nat) := [(1, 0), (200, 0), (202, 0)]
set_option maxHeartbeats 4000000 in
set_option maxRecDepth 100000 in
theorem n_X1 (l : Launch) (tc : Nat → ClassId) (D : va_G) (h0 sz : Nat) : Met l yX1_init (.code yX1_init cX1_init 1 none :: z_TB) { frames := 1, cells := 2, slots := 14, locals := 12 } (zn_Pc tc D 1 [.null, .int 0, .null, .long 0, .long 0, .long 0, .int 0, .int 0, .int 0, .int 0, .int 0, .long 0, .long 0, .long 0, .long 0] (fun _ => True) h0 sz) (zn_Qc tc D 1 [.null, .int 0, .null, .long 0, .long 0, .long 0, .int 0, .int 0, .int 0, .int 0, .int 0, .long 0, .long 0, .long 0, .long 0] zL1 (1, 0) h0 sz) 2 14 (va_A [(h0, .inr (1, [.null, .int 0, .null, .long 0, .long 0, .long 0, .int 0, .int 0, .int 0, .int 0, .int 0, .long 0, .long 0, .long 0, .long 0]))] sz) := by
  refine Met.ofW (cc := cX1_init) (maxL := 1) (ret := none) (by decide) rfl ?_
  intro p e s m args below meth c s₁ B hml hv
  obtain ⟨rfl, hsz, hP, hK, -⟩ := hv
  have hx := B.exec
  have hb := B.bytes
  have hr := B.returns
  have hts0 := atoms_spec (ws := .code yX1_init cX1_init 1 none :: z_TB) B.pre
  have hts : ∀ w ∈ z_TB, w.before ([.ref h0] : List Value).toArray s = true := fun w hw => hts0 w (List.mem_cons_of_mem _ hw)
  have hown : s.vm.findClass RX1 = some m.cls := findClass_of_methodNamed B.named
  have hlocks := B.notSynchronized
  have hin : meth.name = "<init>" := (name_of_methodNamed B.named B.method).1
  subst hsz
  have hD := zn_D1 (h0 := h0) (sz := s.heap.size) (e0 := .inr (1, [.null, .int 0, .null, .long 0, .long 0, .long 0, .int 0, .int 0, .int 0, .int 0, .int 0, .long 0, .long 0, .long 0, .long 0]))
  unfold zn_Qc
  generalize hAe : va_A [(h0, .inr (1, [.null, .int 0, .null, .long 0, .long 0, .long 0, .int 0, .int 0, .int 0, .int 0, .int 0, .long 0, .long 0, .long 0, .long 0]))] s.heap.size = A at hD ⊢
  have hA : ∀ q : Nat, s.heap.size ≤ q → A q := fun q h => by rw [← hAe]; exact Or.inr h
  have hS : va_S A s.heap s.heap [] := va_S.rf
  have hl := lv_entry ([.ref h0]) (n := 1) (Nat.le_of_ble_eq_true rfl)
  rw [lg_entry_eq]
  generalize (lg_sl ([.ref h0]) ++ List.replicate (1 - (lg_sl ([.ref h0])).length) Slot.unset).toArray = ls at hl ⊢
  have hl : lv_has ls 1 [(0, .ref h0)] := hl
  refine lv_aload_n hx hb dX1_init_0 rfl (lv_at hl 0 rfl) ?_
  refine W.objInit hx hb hown (hts _ (z_has_in (kj := 2070) (by decide +kernel))) (hts _ (z_has_in (kj := 1027) (by decide +kernel))) (hts _ (z_has_in (kj := 1028) (by decide +kernel))) rfl (by rw [hml]; exact hl.1) rfl dX1_init_1 (Nat.le_of_ble_eq_true rfl) (Nat.le_of_ble_eq_true rfl) ?_
  refine W.eq (g2 := F0 m 4 ls []) rfl ?_
  refine lv_aload_n hx hb dX1_init_4 rfl (lv_at hl 0 rfl) ?_
  refine lv_bipush (v := 7) hx hb dX1_init_5 (by decide +kernel) ?_
  refine zn_newa (atype := .int) (ty := .int) hx hb (hts _ (z_has_in (kj := 1075) (by decide +kernel))) rfl hK hP hD hS hA 0 (cT := tc 0) rfl (N' := 7) (a0 := (7, .inl (fun _ => 0))) (fun _ => rfl) (by decide +kernel) (by decide +kernel) (Nat.le_of_ble_eq_true rfl) (Nat.le_of_ble_eq_true rfl) (Nat.le_of_ble_eq_true rfl) dX1_init_7 (fun q1 H hP hD hS => ?_)
  have hP : va_P D vwCl [(h0, .inr (1, [.null, .int 0, .null, .long 0, .long 0, .long 0, .int 0, .int 0, .int 0, .int 0, .int 0, .long 0, .long 0, .long 0, .long 0])), (q1, .inl (tc 0, 7, .inl (fun _ => 0)))] H := hP
  have hD : va_D A [(h0, .inr (1, [.null, .int 0, .null, .long 0, .long 0, .long 0, .int 0, .int 0, .int 0, .int 0, .int 0, .long 0, .long 0, .long 0, .long 0])), (q1, .inl (tc 0, 7, .inl (fun _ => 0)))] := hD
  refine va_putF (D := D) (ci := 1) (v := .ref q1) (ty := .array .int) (C := RX1) (T := TX1) (N := 15) (own := RX1) (ref := RX1) (index := 9) hx hb hts z_lw_1 tyX1 tyX1_ok nmX1 hown hK hP hD hS 0 rfl rfl 0 (by decide) (hts _ (z_has_in (kj := 2072) (by decide +kernel))) (fun _ h9 => h9) rfl hin rfl (tyX1_ok 0 (by decide)) rfl rfl (Nat.le_of_ble_eq_true rfl) dX1_init_9 (fun H locs hP hD hS => ?_)
  have hP : va_P D vwCl [(h0, .inr (1, [.ref q1, .int 0, .null, .long 0, .long 0, .long 0, .int 0, .int 0, .int 0, .int 0, .int 0, .long 0, .long 0, .long 0, .long 0])), (q1, .inl (tc 0, 7, .inl (fun _ => 0)))] H := hP
  have hD : va_D A [(h0, .inr (1, [.ref q1, .int 0, .null, .long 0, .long 0, .long 0, .int 0, .int 0, .int 0, .int 0, .int 0, .long 0, .long 0, .long 0, .long 0])), (q1, .inl (tc 0, 7, .inl (fun _ => 0)))] := hD
  refine lv_aload_n hx hb dX1_init_12 rfl (lv_at hl 0 rfl) ?_
  refine lv_bipush (v := 7) hx hb dX1_init_13 (by decide +kernel) ?_
  refine zn_newa (atype := .int) (ty := .int) hx hb (hts _ (z_has_in (kj := 1075) (by decide +kernel))) rfl hK hP hD hS hA 0 (cT := tc 0) rfl (N' := 7) (a0 := (7, .inl (fun _ => 0))) (fun _ => rfl) (by decide +kernel) (by decide +kernel) (Nat.le_of_ble_eq_true rfl) (Nat.le_of_ble_eq_true rfl) (Nat.le_of_ble_eq_true rfl) dX1_init_15 (fun q2 H hP hD hS => ?_)
  have hP : va_P D vwCl [(h0, .inr (1, [.ref q1, .int 0, .null, .long 0, .long 0, .long 0, .int 0, .int 0, .int 0, .int 0, .int 0, .long 0, .long 0, .long 0, .long 0])), (q1, .inl (tc 0, 7, .inl (fun _ => 0))), (q2, .inl (tc 0, 7, .inl (fun _ => 0)))] H := hP
  have hD : va_D A [(h0, .inr (1, [.ref q1, .int 0, .null, .long 0, .long 0, .long 0, .int 0, .int 0, .int 0, .int 0, .int 0, .long 0, .long 0, .long 0, .long 0])), (q1, .inl (tc 0, 7, .inl (fun _ => 0))), (q2, .inl (tc 0, 7, .inl (fun _ => 0)))] := hD
  refine va_putF (D := D) (ci := 1) (v := .ref q2) (ty := .array .int) (C := RX1) (T := TX1) (N := 15) (own := RX1) (ref := RX1) (index := 15) hx hb hts z_lw_1 tyX1 tyX1_ok nmX1 hown hK hP hD hS 0 rfl rfl 2 (by decide) (hts _ (z_has_in (kj := 2076) (by decide +kernel))) (fun _ h9 => h9) rfl hin rfl (tyX1_ok 2 (by decide)) rfl rfl (Nat.le_of_ble_eq_true rfl) dX1_init_17 (fun H locs hP hD hS => ?_)
  have hP : va_P D vwCl [(h0, .inr (1, [.ref q1, .int 0, .ref q2, .long 0, .long 0, .long 0, .int 0, .int 0, .int 0, .int 0, .int 0, .long 0, .long 0, .long 0, .long 0])), (q1, .inl (tc 0, 7, .inl (fun _ => 0))), (q2, .inl (tc 0, 7, .inl (fun _ => 0)))] H := hP
  have hD : va_D A [(h0, .inr (1, [.ref q1, .int 0, .ref q2, .long 0, .long 0, .long 0, .int 0, .int 0, .int 0, .int 0, .int 0, .long 0, .long 0, .long 0, .long 0])), (q1, .inl (tc 0, 7, .inl (fun _ => 0))), (q2, .inl (tc 0, 7, .inl (fun _ => 0)))] := hD
  refine lv_aload_n hx hb dX1_init_20 rfl (lv_at hl 0 rfl) ?_
  refine lv_ldc2 (v := -1) hx hb hown (hts _ (z_has_in (kj := 2071) (by decide +kernel))) dX1_init_21 ?_
  refine va_put (D := D) (ci := 1) (v := .long (-1)) (ty := .long) (C := RX1) (T := TX1) (N := 15) (own := RX1) (ref := RX1) (index := 20) hx hb hts z_lw_1 tyX1 tyX1_ok nmX1 hown hK hP hD hS 0 rfl rfl 3 (by decide) (hts _ (z_has_in (kj := 2077) (by decide +kernel))) (fun _ h9 => h9) rfl (tyX1_ok 3 (by decide)) rfl rfl (Nat.le_of_ble_eq_true rfl) dX1_init_24 (fun H locs hP hD hS => ?_)
  have hP : va_P D vwCl [(h0, .inr (1, [.ref q1, .int 0, .ref q2, .long (-1), .long 0, .long 0, .int 0, .int 0, .int 0, .int 0, .int 0, .long 0, .long 0, .long 0, .long 0])), (q1, .inl (tc 0, 7, .inl (fun _ => 0))), (q2, .inl (tc 0, 7, .inl (fun _ => 0)))] H := hP
  have hD : va_D A [(h0, .inr (1, [.ref q1, .int 0, .ref q2, .long (-1), .long 0, .long 0, .int 0, .int 0, .int 0, .int 0, .int 0, .long 0, .long 0, .long 0, .long 0])), (q1, .inl (tc 0, 7, .inl (fun _ => 0))), (q2, .inl (tc 0, 7, .inl (fun _ => 0)))] := hD
  refine lv_aload_n hx hb dX1_init_27 rfl (lv_at hl 0 rfl) ?_
  refine lv_ldc2 (v := -1) hx hb hown (hts _ (z_has_in (kj := 2071) (by decide +kernel))) dX1_init_28 ?_
  refine va_put (D := D) (ci := 1) (v := .long (-1)) (ty := .long) (C := RX1) (T := TX1) (N := 15) (own := RX1) (ref := RX1) (index := 24) hx hb hts z_lw_1 tyX1 tyX1_ok nmX1 hown hK hP hD hS 0 rfl rfl 4 (by decide) (hts _ (z_has_in (kj := 2078) (by decide +kernel))) (fun _ h9 => h9) rfl (tyX1_ok 4 (by decide)) rfl rfl (Nat.le_of_ble_eq_true rfl) dX1_init_31 (fun H locs hP hD hS => ?_)
  have hP : va_P D vwCl [(h0, .inr (1, [.ref q1, .int 0, .ref q2, .long (-1), .long (-1), .long 0, .int 0, .int 0, .int 0, .int 0, .int 0, .long 0, .long 0, .long 0, .long 0])), (q1, .inl (tc 0, 7, .inl (fun _ => 0))), (q2, .inl (tc 0, 7, .inl (fun _ => 0)))] H := hP
  have hD : va_D A [(h0, .inr (1, [.ref q1, .int 0, .ref q2, .long (-1), .long (-1), .long 0, .int 0, .int 0, .int 0, .int 0, .int 0, .long 0, .long 0, .long 0, .long 0])), (q1, .inl (tc 0, 7, .inl (fun _ => 0))), (q2, .inl (tc 0, 7, .inl (fun _ => 0)))] := hD
  exact W.vret hx hb hr (fun t ht hW => ⟨⟨fun q => z_as [(1, h0), (200, q1), (202, q2)] q.1, rfl, rfl, by rw [ht]; exact hP, hD⟩, hS.F ht⟩) hS.2.2 dX1_init_34
theorem dX3_init_0 : decode cX3_init 0 = .ok (.aload_n 0, 1) := by decide +kernel
theorem dX3_init_1 : decode cX3_init 1 = .ok (.invokespecial 3, 3) := by decide +kernel
theorem dX3_init_4 : decode cX3_init 4 = .ok (.aload_n 0, 1) := by decide +kernel
theorem dX3_init_5 : decode cX3_init 5 = .ok (.sipush 300, 3) := by decide +kernel
theorem dX3_init_8 : decode cX3_init 8 = .ok (.newarray .byte, 2) := by decide +kernel
theorem dX3_init_10 : decode cX3_init 10 = .ok (.putfield 9, 3) := by decide +kernel
theorem dX3_init_13 : decode cX3_init 13 = .ok (.aload_n 0, 1) := by decide +kernel
theorem dX3_init_14 : decode cX3_init 14 = .ok (.iconst (-1), 1) := by decide +kernel
theorem dX3_init_15 : decode cX3_init 15 = .ok (.putfield 15, 3) := by decide +kernel
theorem dX3_init_18 : decode cX3_init 18 = .ok (.return_, 1) := by decide +kernel
def zL3 : List (Nat × Nat) := [(3, 0), (400, 0)]
set_option maxHeartbeats 4000000 in
set_option maxRecDepth 100000 in
theorem n_X3 (l : Launch) (tc : Nat → ClassId) (D : va_G) (h0 sz : Nat) : Met l yX3_init (.code yX3_init cX3_init 1 none :: z_TB) { frames := 1, cells := 1, slots := 300, locals := 12 } (zn_Pc tc D 3 [.null, .int 0, .int 0, .int 0, .int 0, .null, .int 0, .int 0, .int 0, .int 0, .int 0] (fun _ => True) h0 sz) (zn_Qc tc D 3 [.null, .int 0, .int 0, .int 0, .int 0, .null, .int 0, .int 0, .int 0, .int 0, .int 0] zL3 (3, 0) h0 sz) 1 300 (va_A [(h0, .inr (3, [.null, .int 0, .int 0, .int 0, .int 0, .null, .int 0, .int 0, .int 0, .int 0, .int 0]))] sz) := by
  refine Met.ofW (cc := cX3_init) (maxL := 1) (ret := none) (by decide) rfl ?_
  intro p e s m args below meth c s₁ B hml hv
  obtain ⟨rfl, hsz, hP, hK, -⟩ := hv
  have hx := B.exec
  have hb := B.bytes
  have hr := B.returns
  have hts0 := atoms_spec (ws := .code yX3_init cX3_init 1 none :: z_TB) B.pre
  have hts : ∀ w ∈ z_TB, w.before ([.ref h0] : List Value).toArray s = true := fun w hw => hts0 w (List.mem_cons_of_mem _ hw)
  have hown : s.vm.findClass RX3 = some m.cls := findClass_of_methodNamed B.named
  have hlocks := B.notSynchronized
  have hin : meth.name = "<init>" := (name_of_methodNamed B.named B.method).1
  subst hsz
  have hD := zn_D1 (h0 := h0) (sz := s.heap.size) (e0 := .inr (3, [.null, .int 0, .int 0, .int 0, .int 0, .null, .int 0, .int 0, .int 0, .int 0, .int 0]))
  unfold zn_Qc
  generalize hAe : va_A [(h0, .inr (3, [.null, .int 0, .int 0, .int 0, .int 0, .null, .int 0, .int 0, .int 0, .int 0, .int 0]))] s.heap.size = A at hD ⊢
  have hA : ∀ q : Nat, s.heap.size ≤ q → A q := fun q h => by rw [← hAe]; exact Or.inr h
  have hS : va_S A s.heap s.heap [] := va_S.rf
  have hl := lv_entry ([.ref h0]) (n := 1) (Nat.le_of_ble_eq_true rfl)
  rw [lg_entry_eq]
  generalize (lg_sl ([.ref h0]) ++ List.replicate (1 - (lg_sl ([.ref h0])).length) Slot.unset).toArray = ls at hl ⊢
  have hl : lv_has ls 1 [(0, .ref h0)] := hl
  refine lv_aload_n hx hb dX3_init_0 rfl (lv_at hl 0 rfl) ?_
  refine W.objInit hx hb hown (hts _ (z_has_in (kj := 1211) (by decide +kernel))) (hts _ (z_has_in (kj := 1027) (by decide +kernel))) (hts _ (z_has_in (kj := 1028) (by decide +kernel))) rfl (by rw [hml]; exact hl.1) rfl dX3_init_1 (Nat.le_of_ble_eq_true rfl) (Nat.le_of_ble_eq_true rfl) ?_
  refine W.eq (g2 := F0 m 4 ls []) rfl ?_
  refine lv_aload_n hx hb dX3_init_4 rfl (lv_at hl 0 rfl) ?_
  refine lv_sipush (v := 300) hx hb dX3_init_5 (by decide +kernel) ?_
  refine zn_newa (atype := .byte) (ty := .byte) hx hb (hts _ (z_has_in (kj := 2010) (by decide +kernel))) rfl hK hP hD hS hA 2 (cT := tc 2) rfl (N' := 300) (a0 := (300, .inl (fun _ => 0))) (fun _ => rfl) (by decide +kernel) (by decide +kernel) (Nat.le_of_ble_eq_true rfl) (Nat.le_of_ble_eq_true rfl) (Nat.le_of_ble_eq_true rfl) dX3_init_8 (fun q1 H hP hD hS => ?_)
  have hP : va_P D vwCl [(h0, .inr (3, [.null, .int 0, .int 0, .int 0, .int 0, .null, .int 0, .int 0, .int 0, .int 0, .int 0])), (q1, .inl (tc 2, 300, .inl (fun _ => 0)))] H := hP
  have hD : va_D A [(h0, .inr (3, [.null, .int 0, .int 0, .int 0, .int 0, .null, .int 0, .int 0, .int 0, .int 0, .int 0])), (q1, .inl (tc 2, 300, .inl (fun _ => 0)))] := hD
  refine va_putF (D := D) (ci := 3) (v := .ref q1) (ty := .array .byte) (C := RX3) (T := TX3) (N := 11) (own := RX3) (ref := RX3) (index := 9) hx hb hts z_lw_3 tyX3 tyX3_ok nmX3 hown hK hP hD hS 0 rfl rfl 0 (by decide) (hts _ (z_has_in (kj := 1212) (by decide +kernel))) (fun _ h9 => h9) rfl hin rfl (tyX3_ok 0 (by decide)) rfl rfl (Nat.le_of_ble_eq_true rfl) dX3_init_10 (fun H locs hP hD hS => ?_)
  have hP : va_P D vwCl [(h0, .inr (3, [.ref q1, .int 0, .int 0, .int 0, .int 0, .null, .int 0, .int 0, .int 0, .int 0, .int 0])), (q1, .inl (tc 2, 300, .inl (fun _ => 0)))] H := hP
  have hD : va_D A [(h0, .inr (3, [.ref q1, .int 0, .int 0, .int 0, .int 0, .null, .int 0, .int 0, .int 0, .int 0, .int 0])), (q1, .inl (tc 2, 300, .inl (fun _ => 0)))] := hD
  refine lv_aload_n hx hb dX3_init_13 rfl (lv_at hl 0 rfl) ?_
  refine lv_iconst (v := (-1)) hx hb dX3_init_14 (by decide +kernel) ?_
  refine va_put (D := D) (ci := 3) (v := .int (-1)) (ty := .int) (C := RX3) (T := TX3) (N := 11) (own := RX3) (ref := RX3) (index := 15) hx hb hts z_lw_3 tyX3 tyX3_ok nmX3 hown hK hP hD hS 0 rfl rfl 4 (by decide) (hts _ (z_has_in (kj := 1219) (by decide +kernel))) (fun _ h9 => h9) rfl (tyX3_ok 4 (by decide)) rfl rfl (Nat.le_of_ble_eq_true rfl) dX3_init_15 (fun H locs hP hD hS => ?_)
  have hP : va_P D vwCl [(h0, .inr (3, [.ref q1, .int 0, .int 0, .int 0, .int (-1), .null, .int 0, .int 0, .int 0, .int 0, .int 0])), (q1, .inl (tc 2, 300, .inl (fun _ => 0)))] H := hP
  have hD : va_D A [(h0, .inr (3, [.ref q1, .int 0, .int 0, .int 0, .int (-1), .null, .int 0, .int 0, .int 0, .int 0, .int 0])), (q1, .inl (tc 2, 300, .inl (fun _ => 0)))] := hD
  exact W.vret hx hb hr (fun t ht hW => ⟨⟨fun q => z_as [(3, h0), (400, q1)] q.1, rfl, rfl, by rw [ht]; exact hP, hD⟩, hS.F ht⟩) hS.2.2 dX3_init_18
theorem dX7_init_0 : decode cX7_init 0 = .ok (.aload_n 0, 1) := by decide +kernel
theorem dX7_init_1 : decode cX7_init 1 = .ok (.invokespecial 3, 3) := by decide +kernel
theorem dX7_init_4 : decode cX7_init 4 = .ok (.aload_n 0, 1) := by decide +kernel
theorem dX7_init_5 : decode cX7_init 5 = .ok (.sipush 128, 3) := by decide +kernel
theorem dX7_init_8 : decode cX7_init 8 = .ok (.newarray .int, 2) := by decide +kernel
theorem dX7_init_10 : decode cX7_init 10 = .ok (.putfield 9, 3) := by decide +kernel
theorem dX7_init_13 : decode cX7_init 13 = .ok (.aload_n 0, 1) := by decide +kernel
theorem dX7_init_14 : decode cX7_init 14 = .ok (.bipush 7, 2) := by decide +kernel
theorem dX7_init_16 : decode cX7_init 16 = .ok (.newarray .int, 2) := by decide +kernel
theorem dX7_init_18 : decode cX7_init 18 = .ok (.putfield 15, 3) := by decide +kernel
theorem dX7_init_21 : decode cX7_init 21 = .ok (.aload_n 0, 1) := by decide +kernel
theorem dX7_init_22 : decode cX7_init 22 = .ok (.bipush 7, 2) := by decide +kernel
theorem dX7_init_24 : decode cX7_init 24 = .ok (.newarray .int, 2) := by decide +kernel
theorem dX7_init_26 : decode cX7_init 26 = .ok (.putfield 18, 3) := by decide +kernel
theorem dX7_init_29 : decode cX7_init 29 = .ok (.return_, 1) := by decide +kernel
def zL7 : List (Nat × Nat) := [(7, 0), (800, 0), (801, 0), (802, 0)]
set_option maxHeartbeats 4000000 in
set_option maxRecDepth 100000 in
theorem n_X7 (l : Launch) (tc : Nat → ClassId) (D : va_G) (h0 sz : Nat) : Met l yX7_init (.code yX7_init cX7_init 1 none :: z_TB) { frames := 1, cells := 3, slots := 142, locals := 12 } (zn_Pc tc D 7 [.null, .null, .null] (fun _ => True) h0 sz) (zn_Qc tc D 7 [.null, .null, .null] zL7 (7, 0) h0 sz) 3 142 (va_A [(h0, .inr (7, [.null, .null, .null]))] sz) := by
  refine Met.ofW (cc := cX7_init) (maxL := 1) (ret := none) (by decide) rfl ?_
  intro p e s m args below meth c s₁ B hml hv
  obtain ⟨rfl, hsz, hP, hK, -⟩ := hv
  have hx := B.exec
  have hb := B.bytes
  have hr := B.returns
  have hts0 := atoms_spec (ws := .code yX7_init cX7_init 1 none :: z_TB) B.pre
  have hts : ∀ w ∈ z_TB, w.before ([.ref h0] : List Value).toArray s = true := fun w hw => hts0 w (List.mem_cons_of_mem _ hw)
  have hown : s.vm.findClass RX7 = some m.cls := findClass_of_methodNamed B.named
  have hlocks := B.notSynchronized
  have hin : meth.name = "<init>" := (name_of_methodNamed B.named B.method).1
  subst hsz
  have hD := zn_D1 (h0 := h0) (sz := s.heap.size) (e0 := .inr (7, [.null, .null, .null]))
  unfold zn_Qc
  generalize hAe : va_A [(h0, .inr (7, [.null, .null, .null]))] s.heap.size = A at hD ⊢
  have hA : ∀ q : Nat, s.heap.size ≤ q → A q := fun q h => by rw [← hAe]; exact Or.inr h
  have hS : va_S A s.heap s.heap [] := va_S.rf
  have hl := lv_entry ([.ref h0]) (n := 1) (Nat.le_of_ble_eq_true rfl)
  rw [lg_entry_eq]
  generalize (lg_sl ([.ref h0]) ++ List.replicate (1 - (lg_sl ([.ref h0])).length) Slot.unset).toArray = ls at hl ⊢
  have hl : lv_has ls 1 [(0, .ref h0)] := hl
  refine lv_aload_n hx hb dX7_init_0 rfl (lv_at hl 0 rfl) ?_
  refine W.objInit hx hb hown (hts _ (z_has_in (kj := 2207) (by decide +kernel))) (hts _ (z_has_in (kj := 1027) (by decide +kernel))) (hts _ (z_has_in (kj := 1028) (by decide +kernel))) rfl (by rw [hml]; exact hl.1) rfl dX7_init_1 (Nat.le_of_ble_eq_true rfl) (Nat.le_of_ble_eq_true rfl) ?_
  refine W.eq (g2 := F0 m 4 ls []) rfl ?_
  refine lv_aload_n hx hb dX7_init_4 rfl (lv_at hl 0 rfl) ?_
  refine lv_sipush (v := 128) hx hb dX7_init_5 (by decide +kernel) ?_
  refine zn_newa (atype := .int) (ty := .int) hx hb (hts _ (z_has_in (kj := 1075) (by decide +kernel))) rfl hK hP hD hS hA 0 (cT := tc 0) rfl (N' := 128) (a0 := (128, .inl (fun _ => 0))) (fun _ => rfl) (by decide +kernel) (by decide +kernel) (Nat.le_of_ble_eq_true rfl) (Nat.le_of_ble_eq_true rfl) (Nat.le_of_ble_eq_true rfl) dX7_init_8 (fun q1 H hP hD hS => ?_)
  have hP : va_P D vwCl [(h0, .inr (7, [.null, .null, .null])), (q1, .inl (tc 0, 128, .inl (fun _ => 0)))] H := hP
  have hD : va_D A [(h0, .inr (7, [.null, .null, .null])), (q1, .inl (tc 0, 128, .inl (fun _ => 0)))] := hD
  refine va_putF (D := D) (ci := 7) (v := .ref q1) (ty := .array .int) (C := RX7) (T := TX7) (N := 3) (own := RX7) (ref := RX7) (index := 9) hx hb hts z_lw_7 tyX7 tyX7_ok nmX7 hown hK hP hD hS 0 rfl rfl 0 (by decide) (hts _ (z_has_in (kj := 2208) (by decide +kernel))) (fun _ h9 => h9) rfl hin rfl (tyX7_ok 0 (by decide)) rfl rfl (Nat.le_of_ble_eq_true rfl) dX7_init_10 (fun H locs hP hD hS => ?_)
  have hP : va_P D vwCl [(h0, .inr (7, [.ref q1, .null, .null])), (q1, .inl (tc 0, 128, .inl (fun _ => 0)))] H := hP
  have hD : va_D A [(h0, .inr (7, [.ref q1, .null, .null])), (q1, .inl (tc 0, 128, .inl (fun _ => 0)))] := hD
  refine lv_aload_n hx hb dX7_init_13 rfl (lv_at hl 0 rfl) ?_
  refine lv_bipush (v := 7) hx hb dX7_init_14 (by decide +kernel) ?_
  refine zn_newa (atype := .int) (ty := .int) hx hb (hts _ (z_has_in (kj := 1075) (by decide +kernel))) rfl hK hP hD hS hA 0 (cT := tc 0) rfl (N' := 7) (a0 := (7, .inl (fun _ => 0))) (fun _ => rfl) (by decide +kernel) (by decide +kernel) (Nat.le_of_ble_eq_true rfl) (Nat.le_of_ble_eq_true rfl) (Nat.le_of_ble_eq_true rfl) dX7_init_16 (fun q2 H hP hD hS => ?_)
  have hP : va_P D vwCl [(h0, .inr (7, [.ref q1, .null, .null])), (q1, .inl (tc 0, 128, .inl (fun _ => 0))), (q2, .inl (tc 0, 7, .inl (fun _ => 0)))] H := hP
  have hD : va_D A [(h0, .inr (7, [.ref q1, .null, .null])), (q1, .inl (tc 0, 128, .inl (fun _ => 0))), (q2, .inl (tc 0, 7, .inl (fun _ => 0)))] := hD
  refine va_putF (D := D) (ci := 7) (v := .ref q2) (ty := .array .int) (C := RX7) (T := TX7) (N := 3) (own := RX7) (ref := RX7) (index := 15) hx hb hts z_lw_7 tyX7 tyX7_ok nmX7 hown hK hP hD hS 0 rfl rfl 1 (by decide) (hts _ (z_has_in (kj := 2209) (by decide +kernel))) (fun _ h9 => h9) rfl hin rfl (tyX7_ok 1 (by decide)) rfl rfl (Nat.le_of_ble_eq_true rfl) dX7_init_18 (fun H locs hP hD hS => ?_)
  have hP : va_P D vwCl [(h0, .inr (7, [.ref q1, .ref q2, .null])), (q1, .inl (tc 0, 128, .inl (fun _ => 0))), (q2, .inl (tc 0, 7, .inl (fun _ => 0)))] H := hP
  have hD : va_D A [(h0, .inr (7, [.ref q1, .ref q2, .null])), (q1, .inl (tc 0, 128, .inl (fun _ => 0))), (q2, .inl (tc 0, 7, .inl (fun _ => 0)))] := hD
  refine lv_aload_n hx hb dX7_init_21 rfl (lv_at hl 0 rfl) ?_
  refine lv_bipush (v := 7) hx hb dX7_init_22 (by decide +kernel) ?_
  refine zn_newa (atype := .int) (ty := .int) hx hb (hts _ (z_has_in (kj := 1075) (by decide +kernel))) rfl hK hP hD hS hA 0 (cT := tc 0) rfl (N' := 7) (a0 := (7, .inl (fun _ => 0))) (fun _ => rfl) (by decide +kernel) (by decide +kernel) (Nat.le_of_ble_eq_true rfl) (Nat.le_of_ble_eq_true rfl) (Nat.le_of_ble_eq_true rfl) dX7_init_24 (fun q3 H hP hD hS => ?_)
  have hP : va_P D vwCl [(h0, .inr (7, [.ref q1, .ref q2, .null])), (q1, .inl (tc 0, 128, .inl (fun _ => 0))), (q2, .inl (tc 0, 7, .inl (fun _ => 0))), (q3, .inl (tc 0, 7, .inl (fun _ => 0)))] H := hP
  have hD : va_D A [(h0, .inr (7, [.ref q1, .ref q2, .null])), (q1, .inl (tc 0, 128, .inl (fun _ => 0))), (q2, .inl (tc 0, 7, .inl (fun _ => 0))), (q3, .inl (tc 0, 7, .inl (fun _ => 0)))] := hD
  refine va_putF (D := D) (ci := 7) (v := .ref q3) (ty := .array .int) (C := RX7) (T := TX7) (N := 3) (own := RX7) (ref := RX7) (index := 18) hx hb hts z_lw_7 tyX7 tyX7_ok nmX7 hown hK hP hD hS 0 rfl rfl 2 (by decide) (hts _ (z_has_in (kj := 2210) (by decide +kernel))) (fun _ h9 => h9) rfl hin rfl (tyX7_ok 2 (by decide)) rfl rfl (Nat.le_of_ble_eq_true rfl) dX7_init_26 (fun H locs hP hD hS => ?_)
  have hP : va_P D vwCl [(h0, .inr (7, [.ref q1, .ref q2, .ref q3])), (q1, .inl (tc 0, 128, .inl (fun _ => 0))), (q2, .inl (tc 0, 7, .inl (fun _ => 0))), (q3, .inl (tc 0, 7, .inl (fun _ => 0)))] H := hP
  have hD : va_D A [(h0, .inr (7, [.ref q1, .ref q2, .ref q3])), (q1, .inl (tc 0, 128, .inl (fun _ => 0))), (q2, .inl (tc 0, 7, .inl (fun _ => 0))), (q3, .inl (tc 0, 7, .inl (fun _ => 0)))] := hD
  exact W.vret hx hb hr (fun t ht hW => ⟨⟨fun q => z_as [(7, h0), (800, q1), (801, q2), (802, q3)] q.1, rfl, rfl, by rw [ht]; exact hP, hD⟩, hS.F ht⟩) hS.2.2 dX7_init_29
theorem dX8_init_0 : decode cX8_init 0 = .ok (.aload_n 0, 1) := by decide +kernel
theorem dX8_init_1 : decode cX8_init 1 = .ok (.invokespecial 3, 3) := by decide +kernel
theorem dX8_init_4 : decode cX8_init 4 = .ok (.aload_n 0, 1) := by decide +kernel
theorem dX8_init_5 : decode cX8_init 5 = .ok (.bipush 10, 2) := by decide +kernel
theorem dX8_init_7 : decode cX8_init 7 = .ok (.newarray .int, 2) := by decide +kernel
theorem dX8_init_9 : decode cX8_init 9 = .ok (.putfield 9, 3) := by decide +kernel
theorem dX8_init_12 : decode cX8_init 12 = .ok (.aload_n 0, 1) := by decide +kernel
theorem dX8_init_13 : decode cX8_init 13 = .ok (.bipush 10, 2) := by decide +kernel
theorem dX8_init_15 : decode cX8_init 15 = .ok (.newarray .int, 2) := by decide +kernel
theorem dX8_init_17 : decode cX8_init 17 = .ok (.putfield 15, 3) := by decide +kernel
theorem dX8_init_20 : decode cX8_init 20 = .ok (.aload_n 0, 1) := by decide +kernel
theorem dX8_init_21 : decode cX8_init 21 = .ok (.bipush 10, 2) := by decide +kernel
theorem dX8_init_23 : decode cX8_init 23 = .ok (.newarray .int, 2) := by decide +kernel
theorem dX8_init_25 : decode cX8_init 25 = .ok (.putfield 18, 3) := by decide +kernel
theorem dX8_init_28 : decode cX8_init 28 = .ok (.aload_n 0, 1) := by decide +kernel
theorem dX8_init_29 : decode cX8_init 29 = .ok (.bipush 7, 2) := by decide +kernel
theorem dX8_init_31 : decode cX8_init 31 = .ok (.newarray .int, 2) := by decide +kernel
theorem dX8_init_33 : decode cX8_init 33 = .ok (.putfield 21, 3) := by decide +kernel
theorem dX8_init_36 : decode cX8_init 36 = .ok (.aload_n 0, 1) := by decide +kernel
theorem dX8_init_37 : decode cX8_init 37 = .ok (.bipush 7, 2) := by decide +kernel
theorem dX8_init_39 : decode cX8_init 39 = .ok (.newarray .int, 2) := by decide +kernel
theorem dX8_init_41 : decode cX8_init 41 = .ok (.putfield 24, 3) := by decide +kernel
theorem dX8_init_44 : decode cX8_init 44 = .ok (.aload_n 0, 1) := by decide +kernel
theorem dX8_init_45 : decode cX8_init 45 = .ok (.ldc2_w 27, 3) := by decide +kernel
theorem dX8_init_48 : decode cX8_init 48 = .ok (.putfield 29, 3) := by decide +kernel
theorem dX8_init_51 : decode cX8_init 51 = .ok (.aload_n 0, 1) := by decide +kernel
theorem dX8_init_52 : decode cX8_init 52 = .ok (.ldc2_w 27, 3) := by decide +kernel
theorem dX8_init_55 : decode cX8_init 55 = .ok (.putfield 33, 3) := by decide +kernel
theorem dX8_init_58 : decode cX8_init 58 = .ok (.return_, 1) := by decide +kernel
def zL8 : List (Nat × Nat) := [(8, 0), (900, 0), (901, 0), (905, 0), (906, 0), (907, 0)]
set_option maxHeartbeats 4000000 in
set_option maxRecDepth 100000 in
theorem n_X8 (l : Launch) (tc : Nat → ClassId) (D : va_G) (h0 sz : Nat) : Met l yX8_init (.code yX8_init cX8_init 1 none :: z_TB) { frames := 1, cells := 5, slots := 44, locals := 12 } (zn_Pc tc D 8 [.null, .null, .int 0, .long 0, .int 0, .null, .null, .null, .int 0, .long 0, .long 0] (fun _ => True) h0 sz) (zn_Qc tc D 8 [.null, .null, .int 0, .long 0, .int 0, .null, .null, .null, .int 0, .long 0, .long 0] zL8 (8, 0) h0 sz) 5 44 (va_A [(h0, .inr (8, [.null, .null, .int 0, .long 0, .int 0, .null, .null, .null, .int 0, .long 0, .long 0]))] sz) := by
  refine Met.ofW (cc := cX8_init) (maxL := 1) (ret := none) (by decide) rfl ?_
  intro p e s m args below meth c s₁ B hml hv
  obtain ⟨rfl, hsz, hP, hK, -⟩ := hv
  have hx := B.exec
  have hb := B.bytes
  have hr := B.returns
  have hts0 := atoms_spec (ws := .code yX8_init cX8_init 1 none :: z_TB) B.pre
  have hts : ∀ w ∈ z_TB, w.before ([.ref h0] : List Value).toArray s = true := fun w hw => hts0 w (List.mem_cons_of_mem _ hw)
  have hown : s.vm.findClass RX8 = some m.cls := findClass_of_methodNamed B.named
  have hlocks := B.notSynchronized
  have hin : meth.name = "<init>" := (name_of_methodNamed B.named B.method).1
  subst hsz
  have hD := zn_D1 (h0 := h0) (sz := s.heap.size) (e0 := .inr (8, [.null, .null, .int 0, .long 0, .int 0, .null, .null, .null, .int 0, .long 0, .long 0]))
  unfold zn_Qc
  generalize hAe : va_A [(h0, .inr (8, [.null, .null, .int 0, .long 0, .int 0, .null, .null, .null, .int 0, .long 0, .long 0]))] s.heap.size = A at hD ⊢
  have hA : ∀ q : Nat, s.heap.size ≤ q → A q := fun q h => by rw [← hAe]; exact Or.inr h
  have hS : va_S A s.heap s.heap [] := va_S.rf
  have hl := lv_entry ([.ref h0]) (n := 1) (Nat.le_of_ble_eq_true rfl)
  rw [lg_entry_eq]
  generalize (lg_sl ([.ref h0]) ++ List.replicate (1 - (lg_sl ([.ref h0])).length) Slot.unset).toArray = ls at hl ⊢
  have hl : lv_has ls 1 [(0, .ref h0)] := hl
  refine lv_aload_n hx hb dX8_init_0 rfl (lv_at hl 0 rfl) ?_
  refine W.objInit hx hb hown (hts _ (z_has_in (kj := 2161) (by decide +kernel))) (hts _ (z_has_in (kj := 1027) (by decide +kernel))) (hts _ (z_has_in (kj := 1028) (by decide +kernel))) rfl (by rw [hml]; exact hl.1) rfl dX8_init_1 (Nat.le_of_ble_eq_true rfl) (Nat.le_of_ble_eq_true rfl) ?_
  refine W.eq (g2 := F0 m 4 ls []) rfl ?_
  refine lv_aload_n hx hb dX8_init_4 rfl (lv_at hl 0 rfl) ?_
  refine lv_bipush (v := 10) hx hb dX8_init_5 (by decide +kernel) ?_
  refine zn_newa (atype := .int) (ty := .int) hx hb (hts _ (z_has_in (kj := 1075) (by decide +kernel))) rfl hK hP hD hS hA 0 (cT := tc 0) rfl (N' := 10) (a0 := (10, .inl (fun _ => 0))) (fun _ => rfl) (by decide +kernel) (by decide +kernel) (Nat.le_of_ble_eq_true rfl) (Nat.le_of_ble_eq_true rfl) (Nat.le_of_ble_eq_true rfl) dX8_init_7 (fun q1 H hP hD hS => ?_)
  have hP : va_P D vwCl [(h0, .inr (8, [.null, .null, .int 0, .long 0, .int 0, .null, .null, .null, .int 0, .long 0, .long 0])), (q1, .inl (tc 0, 10, .inl (fun _ => 0)))] H := hP
  have hD : va_D A [(h0, .inr (8, [.null, .null, .int 0, .long 0, .int 0, .null, .null, .null, .int 0, .long 0, .long 0])), (q1, .inl (tc 0, 10, .inl (fun _ => 0)))] := hD
  refine va_putF (D := D) (ci := 8) (v := .ref q1) (ty := .array .int) (C := RX8) (T := TX8) (N := 11) (own := RX8) (ref := RX8) (index := 9) hx hb hts z_lw_8 tyX8 tyX8_ok nmX8 hown hK hP hD hS 0 rfl rfl 0 (by decide) (hts _ (z_has_in (kj := 2163) (by decide +kernel))) (fun _ h9 => h9) rfl hin rfl (tyX8_ok 0 (by decide)) rfl rfl (Nat.le_of_ble_eq_true rfl) dX8_init_9 (fun H locs hP hD hS => ?_)
  have hP : va_P D vwCl [(h0, .inr (8, [.ref q1, .null, .int 0, .long 0, .int 0, .null, .null, .null, .int 0, .long 0, .long 0])), (q1, .inl (tc 0, 10, .inl (fun _ => 0)))] H := hP
  have hD : va_D A [(h0, .inr (8, [.ref q1, .null, .int 0, .long 0, .int 0, .null, .null, .null, .int 0, .long 0, .long 0])), (q1, .inl (tc 0, 10, .inl (fun _ => 0)))] := hD
  refine lv_aload_n hx hb dX8_init_12 rfl (lv_at hl 0 rfl) ?_
  refine lv_bipush (v := 10) hx hb dX8_init_13 (by decide +kernel) ?_
  refine zn_newa (atype := .int) (ty := .int) hx hb (hts _ (z_has_in (kj := 1075) (by decide +kernel))) rfl hK hP hD hS hA 0 (cT := tc 0) rfl (N' := 10) (a0 := (10, .inl (fun _ => 0))) (fun _ => rfl) (by decide +kernel) (by decide +kernel) (Nat.le_of_ble_eq_true rfl) (Nat.le_of_ble_eq_true rfl) (Nat.le_of_ble_eq_true rfl) dX8_init_15 (fun q2 H hP hD hS => ?_)
  have hP : va_P D vwCl [(h0, .inr (8, [.ref q1, .null, .int 0, .long 0, .int 0, .null, .null, .null, .int 0, .long 0, .long 0])), (q1, .inl (tc 0, 10, .inl (fun _ => 0))), (q2, .inl (tc 0, 10, .inl (fun _ => 0)))] H := hP
  have hD : va_D A [(h0, .inr (8, [.ref q1, .null, .int 0, .long 0, .int 0, .null, .null, .null, .int 0, .long 0, .long 0])), (q1, .inl (tc 0, 10, .inl (fun _ => 0))), (q2, .inl (tc 0, 10, .inl (fun _ => 0)))] := hD
  refine va_putF (D := D) (ci := 8) (v := .ref q2) (ty := .array .int) (C := RX8) (T := TX8) (N := 11) (own := RX8) (ref := RX8) (index := 15) hx hb hts z_lw_8 tyX8 tyX8_ok nmX8 hown hK hP hD hS 0 rfl rfl 1 (by decide) (hts _ (z_has_in (kj := 2165) (by decide +kernel))) (fun _ h9 => h9) rfl hin rfl (tyX8_ok 1 (by decide)) rfl rfl (Nat.le_of_ble_eq_true rfl) dX8_init_17 (fun H locs hP hD hS => ?_)
  have hP : va_P D vwCl [(h0, .inr (8, [.ref q1, .ref q2, .int 0, .long 0, .int 0, .null, .null, .null, .int 0, .long 0, .long 0])), (q1, .inl (tc 0, 10, .inl (fun _ => 0))), (q2, .inl (tc 0, 10, .inl (fun _ => 0)))] H := hP
  have hD : va_D A [(h0, .inr (8, [.ref q1, .ref q2, .int 0, .long 0, .int 0, .null, .null, .null, .int 0, .long 0, .long 0])), (q1, .inl (tc 0, 10, .inl (fun _ => 0))), (q2, .inl (tc 0, 10, .inl (fun _ => 0)))] := hD
  refine lv_aload_n hx hb dX8_init_20 rfl (lv_at hl 0 rfl) ?_
  refine lv_bipush (v := 10) hx hb dX8_init_21 (by decide +kernel) ?_
  refine zn_newa (atype := .int) (ty := .int) hx hb (hts _ (z_has_in (kj := 1075) (by decide +kernel))) rfl hK hP hD hS hA 0 (cT := tc 0) rfl (N' := 10) (a0 := (10, .inl (fun _ => 0))) (fun _ => rfl) (by decide +kernel) (by decide +kernel) (Nat.le_of_ble_eq_true rfl) (Nat.le_of_ble_eq_true rfl) (Nat.le_of_ble_eq_true rfl) dX8_init_23 (fun q3 H hP hD hS => ?_)
  have hP : va_P D vwCl [(h0, .inr (8, [.ref q1, .ref q2, .int 0, .long 0, .int 0, .null, .null, .null, .int 0, .long 0, .long 0])), (q1, .inl (tc 0, 10, .inl (fun _ => 0))), (q2, .inl (tc 0, 10, .inl (fun _ => 0))), (q3, .inl (tc 0, 10, .inl (fun _ => 0)))] H := hP
  have hD : va_D A [(h0, .inr (8, [.ref q1, .ref q2, .int 0, .long 0, .int 0, .null, .null, .null, .int 0, .long 0, .long 0])), (q1, .inl (tc 0, 10, .inl (fun _ => 0))), (q2, .inl (tc 0, 10, .inl (fun _ => 0))), (q3, .inl (tc 0, 10, .inl (fun _ => 0)))] := hD
  refine va_putF (D := D) (ci := 8) (v := .ref q3) (ty := .array .int) (C := RX8) (T := TX8) (N := 11) (own := RX8) (ref := RX8) (index := 18) hx hb hts z_lw_8 tyX8 tyX8_ok nmX8 hown hK hP hD hS 0 rfl rfl 5 (by decide) (hts _ (z_has_in (kj := 2173) (by decide +kernel))) (fun _ h9 => h9) rfl hin rfl (tyX8_ok 5 (by decide)) rfl rfl (Nat.le_of_ble_eq_true rfl) dX8_init_25 (fun H locs hP hD hS => ?_)
  have hP : va_P D vwCl [(h0, .inr (8, [.ref q1, .ref q2, .int 0, .long 0, .int 0, .ref q3, .null, .null, .int 0, .long 0, .long 0])), (q1, .inl (tc 0, 10, .inl (fun _ => 0))), (q2, .inl (tc 0, 10, .inl (fun _ => 0))), (q3, .inl (tc 0, 10, .inl (fun _ => 0)))] H := hP
  have hD : va_D A [(h0, .inr (8, [.ref q1, .ref q2, .int 0, .long 0, .int 0, .ref q3, .null, .null, .int 0, .long 0, .long 0])), (q1, .inl (tc 0, 10, .inl (fun _ => 0))), (q2, .inl (tc 0, 10, .inl (fun _ => 0))), (q3, .inl (tc 0, 10, .inl (fun _ => 0)))] := hD
  refine lv_aload_n hx hb dX8_init_28 rfl (lv_at hl 0 rfl) ?_
  refine lv_bipush (v := 7) hx hb dX8_init_29 (by decide +kernel) ?_
  refine zn_newa (atype := .int) (ty := .int) hx hb (hts _ (z_has_in (kj := 1075) (by decide +kernel))) rfl hK hP hD hS hA 0 (cT := tc 0) rfl (N' := 7) (a0 := (7, .inl (fun _ => 0))) (fun _ => rfl) (by decide +kernel) (by decide +kernel) (Nat.le_of_ble_eq_true rfl) (Nat.le_of_ble_eq_true rfl) (Nat.le_of_ble_eq_true rfl) dX8_init_31 (fun q4 H hP hD hS => ?_)
  have hP : va_P D vwCl [(h0, .inr (8, [.ref q1, .ref q2, .int 0, .long 0, .int 0, .ref q3, .null, .null, .int 0, .long 0, .long 0])), (q1, .inl (tc 0, 10, .inl (fun _ => 0))), (q2, .inl (tc 0, 10, .inl (fun _ => 0))), (q3, .inl (tc 0, 10, .inl (fun _ => 0))), (q4, .inl (tc 0, 7, .inl (fun _ => 0)))] H := hP
  have hD : va_D A [(h0, .inr (8, [.ref q1, .ref q2, .int 0, .long 0, .int 0, .ref q3, .null, .null, .int 0, .long 0, .long 0])), (q1, .inl (tc 0, 10, .inl (fun _ => 0))), (q2, .inl (tc 0, 10, .inl (fun _ => 0))), (q3, .inl (tc 0, 10, .inl (fun _ => 0))), (q4, .inl (tc 0, 7, .inl (fun _ => 0)))] := hD
  refine va_putF (D := D) (ci := 8) (v := .ref q4) (ty := .array .int) (C := RX8) (T := TX8) (N := 11) (own := RX8) (ref := RX8) (index := 21) hx hb hts z_lw_8 tyX8 tyX8_ok nmX8 hown hK hP hD hS 0 rfl rfl 6 (by decide) (hts _ (z_has_in (kj := 2174) (by decide +kernel))) (fun _ h9 => h9) rfl hin rfl (tyX8_ok 6 (by decide)) rfl rfl (Nat.le_of_ble_eq_true rfl) dX8_init_33 (fun H locs hP hD hS => ?_)
  have hP : va_P D vwCl [(h0, .inr (8, [.ref q1, .ref q2, .int 0, .long 0, .int 0, .ref q3, .ref q4, .null, .int 0, .long 0, .long 0])), (q1, .inl (tc 0, 10, .inl (fun _ => 0))), (q2, .inl (tc 0, 10, .inl (fun _ => 0))), (q3, .inl (tc 0, 10, .inl (fun _ => 0))), (q4, .inl (tc 0, 7, .inl (fun _ => 0)))] H := hP
  have hD : va_D A [(h0, .inr (8, [.ref q1, .ref q2, .int 0, .long 0, .int 0, .ref q3, .ref q4, .null, .int 0, .long 0, .long 0])), (q1, .inl (tc 0, 10, .inl (fun _ => 0))), (q2, .inl (tc 0, 10, .inl (fun _ => 0))), (q3, .inl (tc 0, 10, .inl (fun _ => 0))), (q4, .inl (tc 0, 7, .inl (fun _ => 0)))] := hD
  refine lv_aload_n hx hb dX8_init_36 rfl (lv_at hl 0 rfl) ?_
  refine lv_bipush (v := 7) hx hb dX8_init_37 (by decide +kernel) ?_
  refine zn_newa (atype := .int) (ty := .int) hx hb (hts _ (z_has_in (kj := 1075) (by decide +kernel))) rfl hK hP hD hS hA 0 (cT := tc 0) rfl (N' := 7) (a0 := (7, .inl (fun _ => 0))) (fun _ => rfl) (by decide +kernel) (by decide +kernel) (Nat.le_of_ble_eq_true rfl) (Nat.le_of_ble_eq_true rfl) (Nat.le_of_ble_eq_true rfl) dX8_init_39 (fun q5 H hP hD hS => ?_)
  have hP : va_P D vwCl [(h0, .inr (8, [.ref q1, .ref q2, .int 0, .long 0, .int 0, .ref q3, .ref q4, .null, .int 0, .long 0, .long 0])), (q1, .inl (tc 0, 10, .inl (fun _ => 0))), (q2, .inl (tc 0, 10, .inl (fun _ => 0))), (q3, .inl (tc 0, 10, .inl (fun _ => 0))), (q4, .inl (tc 0, 7, .inl (fun _ => 0))), (q5, .inl (tc 0, 7, .inl (fun _ => 0)))] H := hP
  have hD : va_D A [(h0, .inr (8, [.ref q1, .ref q2, .int 0, .long 0, .int 0, .ref q3, .ref q4, .null, .int 0, .long 0, .long 0])), (q1, .inl (tc 0, 10, .inl (fun _ => 0))), (q2, .inl (tc 0, 10, .inl (fun _ => 0))), (q3, .inl (tc 0, 10, .inl (fun _ => 0))), (q4, .inl (tc 0, 7, .inl (fun _ => 0))), (q5, .inl (tc 0, 7, .inl (fun _ => 0)))] := hD
  refine va_putF (D := D) (ci := 8) (v := .ref q5) (ty := .array .int) (C := RX8) (T := TX8) (N := 11) (own := RX8) (ref := RX8) (index := 24) hx hb hts z_lw_8 tyX8 tyX8_ok nmX8 hown hK hP hD hS 0 rfl rfl 7 (by decide) (hts _ (z_has_in (kj := 2175) (by decide +kernel))) (fun _ h9 => h9) rfl hin rfl (tyX8_ok 7 (by decide)) rfl rfl (Nat.le_of_ble_eq_true rfl) dX8_init_41 (fun H locs hP hD hS => ?_)
  have hP : va_P D vwCl [(h0, .inr (8, [.ref q1, .ref q2, .int 0, .long 0, .int 0, .ref q3, .ref q4, .ref q5, .int 0, .long 0, .long 0])), (q1, .inl (tc 0, 10, .inl (fun _ => 0))), (q2, .inl (tc 0, 10, .inl (fun _ => 0))), (q3, .inl (tc 0, 10, .inl (fun _ => 0))), (q4, .inl (tc 0, 7, .inl (fun _ => 0))), (q5, .inl (tc 0, 7, .inl (fun _ => 0)))] H := hP
  have hD : va_D A [(h0, .inr (8, [.ref q1, .ref q2, .int 0, .long 0, .int 0, .ref q3, .ref q4, .ref q5, .int 0, .long 0, .long 0])), (q1, .inl (tc 0, 10, .inl (fun _ => 0))), (q2, .inl (tc 0, 10, .inl (fun _ => 0))), (q3, .inl (tc 0, 10, .inl (fun _ => 0))), (q4, .inl (tc 0, 7, .inl (fun _ => 0))), (q5, .inl (tc 0, 7, .inl (fun _ => 0)))] := hD
  refine lv_aload_n hx hb dX8_init_44 rfl (lv_at hl 0 rfl) ?_
  refine lv_ldc2 (v := -1) hx hb hown (hts _ (z_has_in (kj := 2162) (by decide +kernel))) dX8_init_45 ?_
  refine va_put (D := D) (ci := 8) (v := .long (-1)) (ty := .long) (C := RX8) (T := TX8) (N := 11) (own := RX8) (ref := RX8) (index := 29) hx hb hts z_lw_8 tyX8 tyX8_ok nmX8 hown hK hP hD hS 0 rfl rfl 9 (by decide) (hts _ (z_has_in (kj := 2177) (by decide +kernel))) (fun _ h9 => h9) rfl (tyX8_ok 9 (by decide)) rfl rfl (Nat.le_of_ble_eq_true rfl) dX8_init_48 (fun H locs hP hD hS => ?_)
  have hP : va_P D vwCl [(h0, .inr (8, [.ref q1, .ref q2, .int 0, .long 0, .int 0, .ref q3, .ref q4, .ref q5, .int 0, .long (-1), .long 0])), (q1, .inl (tc 0, 10, .inl (fun _ => 0))), (q2, .inl (tc 0, 10, .inl (fun _ => 0))), (q3, .inl (tc 0, 10, .inl (fun _ => 0))), (q4, .inl (tc 0, 7, .inl (fun _ => 0))), (q5, .inl (tc 0, 7, .inl (fun _ => 0)))] H := hP
  have hD : va_D A [(h0, .inr (8, [.ref q1, .ref q2, .int 0, .long 0, .int 0, .ref q3, .ref q4, .ref q5, .int 0, .long (-1), .long 0])), (q1, .inl (tc 0, 10, .inl (fun _ => 0))), (q2, .inl (tc 0, 10, .inl (fun _ => 0))), (q3, .inl (tc 0, 10, .inl (fun _ => 0))), (q4, .inl (tc 0, 7, .inl (fun _ => 0))), (q5, .inl (tc 0, 7, .inl (fun _ => 0)))] := hD
  refine lv_aload_n hx hb dX8_init_51 rfl (lv_at hl 0 rfl) ?_
  refine lv_ldc2 (v := -1) hx hb hown (hts _ (z_has_in (kj := 2162) (by decide +kernel))) dX8_init_52 ?_
  refine va_put (D := D) (ci := 8) (v := .long (-1)) (ty := .long) (C := RX8) (T := TX8) (N := 11) (own := RX8) (ref := RX8) (index := 33) hx hb hts z_lw_8 tyX8 tyX8_ok nmX8 hown hK hP hD hS 0 rfl rfl 10 (by decide) (hts _ (z_has_in (kj := 2178) (by decide +kernel))) (fun _ h9 => h9) rfl (tyX8_ok 10 (by decide)) rfl rfl (Nat.le_of_ble_eq_true rfl) dX8_init_55 (fun H locs hP hD hS => ?_)
  have hP : va_P D vwCl [(h0, .inr (8, [.ref q1, .ref q2, .int 0, .long 0, .int 0, .ref q3, .ref q4, .ref q5, .int 0, .long (-1), .long (-1)])), (q1, .inl (tc 0, 10, .inl (fun _ => 0))), (q2, .inl (tc 0, 10, .inl (fun _ => 0))), (q3, .inl (tc 0, 10, .inl (fun _ => 0))), (q4, .inl (tc 0, 7, .inl (fun _ => 0))), (q5, .inl (tc 0, 7, .inl (fun _ => 0)))] H := hP
  have hD : va_D A [(h0, .inr (8, [.ref q1, .ref q2, .int 0, .long 0, .int 0, .ref q3, .ref q4, .ref q5, .int 0, .long (-1), .long (-1)])), (q1, .inl (tc 0, 10, .inl (fun _ => 0))), (q2, .inl (tc 0, 10, .inl (fun _ => 0))), (q3, .inl (tc 0, 10, .inl (fun _ => 0))), (q4, .inl (tc 0, 7, .inl (fun _ => 0))), (q5, .inl (tc 0, 7, .inl (fun _ => 0)))] := hD
  exact W.vret hx hb hr (fun t ht hW => ⟨⟨fun q => z_as [(8, h0), (900, q1), (901, q2), (905, q3), (906, q4), (907, q5)] q.1, rfl, rfl, by rw [ht]; exact hP, hD⟩, hS.F ht⟩) hS.2.2 dX8_init_58
