/-! the constructor of Places -/
theorem dX2_init_0 : decode cX2_init 0 = .ok (.aload_n 0, 1) := by decide +kernel
theorem dX2_init_1 : decode cX2_init 1 = .ok (.invokespecial 3, 3) := by decide +kernel
theorem dX2_init_4 : decode cX2_init 4 = .ok (.aload_n 0, 1) := by decide +kernel
theorem dX2_init_5 : decode cX2_init 5 = .ok (.bipush 7, 2) := by decide +kernel
theorem dX2_init_7 : decode cX2_init 7 = .ok (.newarray .int, 2) := by decide +kernel
theorem dX2_init_9 : decode cX2_init 9 = .ok (.putfield 9, 3) := by decide +kernel
theorem dX2_init_12 : decode cX2_init 12 = .ok (.aload_n 0, 1) := by decide +kernel
theorem dX2_init_13 : decode cX2_init 13 = .ok (.bipush 7, 2) := by decide +kernel
theorem dX2_init_15 : decode cX2_init 15 = .ok (.bipush 7, 2) := by decide +kernel
theorem dX2_init_17 : decode cX2_init 17 = .ok (.multianewarray 15 2, 4) := by decide +kernel
theorem dX2_init_21 : decode cX2_init 21 = .ok (.putfield 17, 3) := by decide +kernel
theorem dX2_init_24 : decode cX2_init 24 = .ok (.aload_n 0, 1) := by decide +kernel
theorem dX2_init_25 : decode cX2_init 25 = .ok (.bipush 7, 2) := by decide +kernel
theorem dX2_init_27 : decode cX2_init 27 = .ok (.bipush 7, 2) := by decide +kernel
theorem dX2_init_29 : decode cX2_init 29 = .ok (.multianewarray 15 2, 4) := by decide +kernel
theorem dX2_init_33 : decode cX2_init 33 = .ok (.putfield 20, 3) := by decide +kernel
theorem dX2_init_36 : decode cX2_init 36 = .ok (.aload_n 0, 1) := by decide +kernel
theorem dX2_init_37 : decode cX2_init 37 = .ok (.ldc2_w 23, 3) := by decide +kernel
theorem dX2_init_40 : decode cX2_init 40 = .ok (.putfield 25, 3) := by decide +kernel
theorem dX2_init_43 : decode cX2_init 43 = .ok (.return_, 1) := by decide +kernel
def zL2 (n : Nat) : List (Nat × Nat) := [(2, n), (300, n)] ++ (((302, n) :: (List.range 7).map (fun j => (352, 7 * n + j))) ++ ((303, n) :: (List.range 7).map (fun j => (353, 7 * n + j))))
def nPl (U : State) : Prop := (Cond.arrayOver (.array .int)).before #[] U = true
def adP (n h0 q1 q2 q3 : Nat) : Nat × Nat → Nat := fun q => if q.1 = 2 then h0 else if q.1 = 300 then q1 else if q.1 = 302 then q2 else if q.1 = 303 then q3 else if q.1 = 352 then q2 + 1 + (q.2 - 7 * n) else q3 + 1 + (q.2 - 7 * n)
theorem mW_a {tc : Nat → ClassId} {n h0 q1 q2 q3 : Nat} : zW tc (adP n h0 q1 q2 q3) ((302, n) :: (List.range 7).map (fun j => (352, 7 * n + j))) = mW (tc 6) (tc 0) q2 := by
  have e : ∀ j, adP n h0 q1 q2 q3 (352, 7 * n + j) = q2 + 1 + j := fun j => by
    show q2 + 1 + (7 * n + j - 7 * n) = _
    rw [Nat.add_sub_cancel_left]
  unfold zW mW
  rw [List.map_cons, List.map_map]
  congr 1
  · have h : zc tc (adP n h0 q1 q2 q3) (302, n) = (q2, .inl (tc 6, 7, .inr (.inr (.inr (.inr (fun j => some (adP n h0 q1 q2 q3 (352, 7 * n + j)))))))) := rfl
    rw [h]
    simp only [e]
  · refine List.map_congr_left (fun j _ => ?_)
    have h : (zc tc (adP n h0 q1 q2 q3) ∘ fun j => (352, 7 * n + j)) j = (adP n h0 q1 q2 q3 (352, 7 * n + j), .inl (tc 0, 7, .inl (fun _ => 0))) := rfl
    rw [h, e]
theorem mW_b {tc : Nat → ClassId} {n h0 q1 q2 q3 : Nat} : zW tc (adP n h0 q1 q2 q3) ((303, n) :: (List.range 7).map (fun j => (353, 7 * n + j))) = mW (tc 6) (tc 0) q3 := by
  have e : ∀ j, adP n h0 q1 q2 q3 (353, 7 * n + j) = q3 + 1 + j := fun j => by
    show q3 + 1 + (7 * n + j - 7 * n) = _
    rw [Nat.add_sub_cancel_left]
  unfold zW mW
  rw [List.map_cons, List.map_map]
  congr 1
  · have h : zc tc (adP n h0 q1 q2 q3) (303, n) = (q3, .inl (tc 6, 7, .inr (.inr (.inr (.inr (fun j => some (adP n h0 q1 q2 q3 (353, 7 * n + j)))))))) := rfl
    rw [h]
    simp only [e]
  · refine List.map_congr_left (fun j _ => ?_)
    have h : (zc tc (adP n h0 q1 q2 q3) ∘ fun j => (353, 7 * n + j)) j = (adP n h0 q1 q2 q3 (353, 7 * n + j), .inl (tc 0, 7, .inl (fun _ => 0))) := rfl
    rw [h, e]
theorem zW_2 {tc : Nat → ClassId} {n h0 q1 q2 q3 : Nat} : zW tc (adP n h0 q1 q2 q3) (zL2 n) = (h0, .inr (2, [.ref q1, .int 0, .ref q2, .ref q3, .long (-1), .int 0, .int 0, .long 0])) :: ([(q1, .inl (tc 0, 7, .inl (fun _ => 0)))] ++ mW (tc 6) (tc 0) q2 ++ mW (tc 6) (tc 0) q3) := by
  rw [← mW_a (n := n) (h0 := h0) (q1 := q1) (q2 := q2) (q3 := q3), ← mW_b (n := n) (h0 := h0) (q1 := q1) (q2 := q2) (q3 := q3)]
  unfold zL2
  have h : ∀ L : List (Nat × Nat), zW tc (adP n h0 q1 q2 q3) ([(2, n), (300, n)] ++ L) = (h0, .inr (2, [.ref q1, .int 0, .ref q2, .ref q3, .long (-1), .int 0, .int 0, .long 0])) :: ([(q1, .inl (tc 0, 7, .inl (fun _ => 0)))] ++ zW tc (adP n h0 q1 q2 q3) L) := fun L => rfl
  rw [h, List.append_assoc]
  congr 2
set_option maxHeartbeats 4000000 in
set_option maxRecDepth 100000 in
theorem n_X2 (l : Launch) (tc : Nat → ClassId) (D : va_G) (n : Nat) (hn : n < 2) (h0 sz : Nat) : Met l yX2_init (.code yX2_init cX2_init 1 none :: z_TB) { frames := 1, cells := 17, slots := 119, locals := 12 } (zn_Pc tc D 2 [.null, .int 0, .null, .null, .long 0, .int 0, .int 0, .long 0] nPl h0 sz) (zn_Qc tc D 2 [.null, .int 0, .null, .null, .long 0, .int 0, .int 0, .long 0] (zL2 n) (2, n) h0 sz) 17 119 (va_A [(h0, .inr (2, [.null, .int 0, .null, .null, .long 0, .int 0, .int 0, .long 0]))] sz) := by
  refine Met.ofW (cc := cX2_init) (maxL := 1) (ret := none) (by decide) rfl ?_
  intro p e s m args below meth c s₁ B hml hv
  obtain ⟨rfl, hsz, hP, hK, hN⟩ := hv
  have hx := B.exec
  have hb := B.bytes
  have hr := B.returns
  have hts0 := atoms_spec (ws := (.code yX2_init cX2_init 1 none :: z_TB)) B.pre
  have hts : ∀ w ∈ z_TB, w.before ([.ref h0] : List Value).toArray s = true := fun w hw => hts0 w (List.mem_cons_of_mem _ hw)
  have hown : s.vm.findClass RX2 = some m.cls := findClass_of_methodNamed B.named
  have hlocks := B.notSynchronized
  have hin : meth.name = "<init>" := (name_of_methodNamed B.named B.method).1
  have hov : (Cond.arrayOver (.array .int)).before ([.ref h0] : List Value).toArray s = true := over_moved (Vm.Alike.refl _) hN
  subst hsz
  have hD := zn_D1 (h0 := h0) (sz := s.heap.size) (e0 := .inr (2, [.null, .int 0, .null, .null, .long 0, .int 0, .int 0, .long 0]))
  unfold zn_Qc
  generalize hAe : va_A [(h0, .inr (2, [.null, .int 0, .null, .null, .long 0, .int 0, .int 0, .long 0]))] s.heap.size = A at hD ⊢
  have hA : ∀ q : Nat, s.heap.size ≤ q → A q := fun q h => by rw [← hAe]; exact Or.inr h
  have hS : va_S A s.heap s.heap [] := va_S.rf
  have hl := lv_entry ([.ref h0]) (n := 1) (Nat.le_of_ble_eq_true rfl)
  rw [lg_entry_eq]
  generalize (lg_sl ([.ref h0]) ++ List.replicate (1 - (lg_sl ([.ref h0])).length) Slot.unset).toArray = ls at hl ⊢
  have hl : lv_has ls 1 [(0, .ref h0)] := hl
  refine lv_aload_n hx hb dX2_init_0 rfl (lv_at hl 0 rfl) ?_
  refine W.objInit hx hb hown (hts _ (z_has_in (kj := 2125) (by decide +kernel))) (hts _ (z_has_in (kj := 1027) (by decide +kernel))) (hts _ (z_has_in (kj := 1028) (by decide +kernel))) rfl (by rw [hml]; exact hl.1) rfl dX2_init_1 (Nat.le_of_ble_eq_true rfl) (Nat.le_of_ble_eq_true rfl) ?_
  refine W.eq (g2 := F0 m 4 ls []) rfl ?_
  refine lv_aload_n hx hb dX2_init_4 rfl (lv_at hl 0 rfl) ?_
  refine lv_bipush (v := 7) hx hb dX2_init_5 (by decide +kernel) ?_
  refine zn_newa (atype := .int) (ty := .int) hx hb (hts _ (z_has_in (kj := 1075) (by decide +kernel))) rfl hK hP hD hS hA 0 (cT := tc 0) rfl (N' := 7) (a0 := (7, .inl (fun _ => 0))) (fun _ => rfl) (by decide +kernel) (by decide +kernel) (Nat.le_of_ble_eq_true rfl) (Nat.le_of_ble_eq_true rfl) (Nat.le_of_ble_eq_true rfl) dX2_init_7 (fun q1 H hP hD hS => ?_)
  have hP : va_P D vwCl ((h0, .inr (2, [.null, .int 0, .null, .null, .long 0, .int 0, .int 0, .long 0])) :: ([(q1, .inl (tc 0, 7, .inl (fun _ => 0)))])) H := hP
  have hD : va_D A ((h0, .inr (2, [.null, .int 0, .null, .null, .long 0, .int 0, .int 0, .long 0])) :: ([(q1, .inl (tc 0, 7, .inl (fun _ => 0)))])) := hD
  refine va_putF (D := D) (ci := 2) (v := .ref q1) (ty := .array .int) (C := RX2) (T := TX2) (N := 8) (own := RX2) (ref := RX2) (index := 9) hx hb hts z_lw_2 tyX2 tyX2_ok nmX2 hown hK hP hD hS 0 rfl rfl 0 (by decide) (hts _ (z_has_in (kj := 2129) (by decide +kernel))) (fun _ h9 => h9) rfl hin rfl (tyX2_ok 0 (by decide)) rfl rfl (Nat.le_of_ble_eq_true rfl) dX2_init_9 (fun H locs hP hD hS => ?_)
  have hP : va_P D vwCl ((h0, .inr (2, [.ref q1, .int 0, .null, .null, .long 0, .int 0, .int 0, .long 0])) :: ([(q1, .inl (tc 0, 7, .inl (fun _ => 0)))])) H := hP
  have hD : va_D A ((h0, .inr (2, [.ref q1, .int 0, .null, .null, .long 0, .int 0, .int 0, .long 0])) :: ([(q1, .inl (tc 0, 7, .inl (fun _ => 0)))])) := hD
  refine lv_aload_n hx hb dX2_init_12 rfl (lv_at hl 0 rfl) ?_
  refine lv_bipush (v := 7) hx hb dX2_init_13 (by decide +kernel) ?_
  refine lv_bipush (v := 7) hx hb dX2_init_15 (by decide +kernel) ?_
  refine zn_multi (own := RX2) (index := 15) hx hb hown (hts _ (z_has_in (kj := 2126) (by decide +kernel))) hov (hts _ (z_has_in (kj := 1075) (by decide +kernel))) hK 0 6 (c0 := tc 0) (c6 := tc 6) rfl rfl hP hD hS hA (Nat.le_of_ble_eq_true rfl) (Nat.le_of_ble_eq_true rfl) dX2_init_17 (fun q2 H locs hP hD hS => ?_)
  have hP : va_P D vwCl ((h0, .inr (2, [.ref q1, .int 0, .null, .null, .long 0, .int 0, .int 0, .long 0])) :: ([(q1, .inl (tc 0, 7, .inl (fun _ => 0)))] ++ mW (tc 6) (tc 0) q2)) H := hP
  have hD : va_D A ((h0, .inr (2, [.ref q1, .int 0, .null, .null, .long 0, .int 0, .int 0, .long 0])) :: ([(q1, .inl (tc 0, 7, .inl (fun _ => 0)))] ++ mW (tc 6) (tc 0) q2)) := hD
  refine va_putF (D := D) (ci := 2) (v := .ref q2) (ty := .array (.array .int)) (C := RX2) (T := TX2) (N := 8) (own := RX2) (ref := RX2) (index := 17) hx hb hts z_lw_2 tyX2 tyX2_ok nmX2 hown hK hP hD hS 0 rfl rfl 2 (by decide) (hts _ (z_has_in (kj := 2133) (by decide +kernel))) (fun _ h9 => h9) rfl hin rfl (tyX2_ok 2 (by decide)) rfl rfl (Nat.le_of_ble_eq_true rfl) dX2_init_21 (fun H locs hP hD hS => ?_)
  have hP : va_P D vwCl ((h0, .inr (2, [.ref q1, .int 0, .ref q2, .null, .long 0, .int 0, .int 0, .long 0])) :: ([(q1, .inl (tc 0, 7, .inl (fun _ => 0)))] ++ mW (tc 6) (tc 0) q2)) H := hP
  have hD : va_D A ((h0, .inr (2, [.ref q1, .int 0, .ref q2, .null, .long 0, .int 0, .int 0, .long 0])) :: ([(q1, .inl (tc 0, 7, .inl (fun _ => 0)))] ++ mW (tc 6) (tc 0) q2)) := hD
  refine lv_aload_n hx hb dX2_init_24 rfl (lv_at hl 0 rfl) ?_
  refine lv_bipush (v := 7) hx hb dX2_init_25 (by decide +kernel) ?_
  refine lv_bipush (v := 7) hx hb dX2_init_27 (by decide +kernel) ?_
  refine zn_multi (own := RX2) (index := 15) hx hb hown (hts _ (z_has_in (kj := 2126) (by decide +kernel))) hov (hts _ (z_has_in (kj := 1075) (by decide +kernel))) hK 0 6 (c0 := tc 0) (c6 := tc 6) rfl rfl hP hD hS hA (Nat.le_of_ble_eq_true rfl) (Nat.le_of_ble_eq_true rfl) dX2_init_29 (fun q3 H locs hP hD hS => ?_)
  have hP : va_P D vwCl ((h0, .inr (2, [.ref q1, .int 0, .ref q2, .null, .long 0, .int 0, .int 0, .long 0])) :: ([(q1, .inl (tc 0, 7, .inl (fun _ => 0)))] ++ mW (tc 6) (tc 0) q2 ++ mW (tc 6) (tc 0) q3)) H := hP
  have hD : va_D A ((h0, .inr (2, [.ref q1, .int 0, .ref q2, .null, .long 0, .int 0, .int 0, .long 0])) :: ([(q1, .inl (tc 0, 7, .inl (fun _ => 0)))] ++ mW (tc 6) (tc 0) q2 ++ mW (tc 6) (tc 0) q3)) := hD
  refine va_putF (D := D) (ci := 2) (v := .ref q3) (ty := .array (.array .int)) (C := RX2) (T := TX2) (N := 8) (own := RX2) (ref := RX2) (index := 20) hx hb hts z_lw_2 tyX2 tyX2_ok nmX2 hown hK hP hD hS 0 rfl rfl 3 (by decide) (hts _ (z_has_in (kj := 2134) (by decide +kernel))) (fun _ h9 => h9) rfl hin rfl (tyX2_ok 3 (by decide)) rfl rfl (Nat.le_of_ble_eq_true rfl) dX2_init_33 (fun H locs hP hD hS => ?_)
  have hP : va_P D vwCl ((h0, .inr (2, [.ref q1, .int 0, .ref q2, .ref q3, .long 0, .int 0, .int 0, .long 0])) :: ([(q1, .inl (tc 0, 7, .inl (fun _ => 0)))] ++ mW (tc 6) (tc 0) q2 ++ mW (tc 6) (tc 0) q3)) H := hP
  have hD : va_D A ((h0, .inr (2, [.ref q1, .int 0, .ref q2, .ref q3, .long 0, .int 0, .int 0, .long 0])) :: ([(q1, .inl (tc 0, 7, .inl (fun _ => 0)))] ++ mW (tc 6) (tc 0) q2 ++ mW (tc 6) (tc 0) q3)) := hD
  refine lv_aload_n hx hb dX2_init_36 rfl (lv_at hl 0 rfl) ?_
  refine lv_ldc2 (v := -1) hx hb hown (hts _ (z_has_in (kj := 2128) (by decide +kernel))) dX2_init_37 ?_
  refine va_put (D := D) (ci := 2) (v := .long (-1)) (ty := .long) (C := RX2) (T := TX2) (N := 8) (own := RX2) (ref := RX2) (index := 25) hx hb hts z_lw_2 tyX2 tyX2_ok nmX2 hown hK hP hD hS 0 rfl rfl 4 (by decide) (hts _ (z_has_in (kj := 2135) (by decide +kernel))) (fun _ h9 => h9) rfl (tyX2_ok 4 (by decide)) rfl rfl (Nat.le_of_ble_eq_true rfl) dX2_init_40 (fun H locs hP hD hS => ?_)
  have hP : va_P D vwCl ((h0, .inr (2, [.ref q1, .int 0, .ref q2, .ref q3, .long (-1), .int 0, .int 0, .long 0])) :: ([(q1, .inl (tc 0, 7, .inl (fun _ => 0)))] ++ mW (tc 6) (tc 0) q2 ++ mW (tc 6) (tc 0) q3)) H := hP
  have hD : va_D A ((h0, .inr (2, [.ref q1, .int 0, .ref q2, .ref q3, .long (-1), .int 0, .int 0, .long 0])) :: ([(q1, .inl (tc 0, 7, .inl (fun _ => 0)))] ++ mW (tc 6) (tc 0) q2 ++ mW (tc 6) (tc 0) q3)) := hD
  rw [← zW_2 (n := n)] at hP hD
  exact W.vret hx hb hr (fun t ht hW => ⟨⟨adP n h0 q1 q2 q3, rfl, rfl, by rw [ht]; exact hP, hD⟩, hS.F ht⟩) hS.2.2 dX2_init_43
