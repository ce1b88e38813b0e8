theorem dJ0_charAt_5068e_0 : decode cJ0_charAt_5068e 0 = .ok (.aload_n 0, 1) := by decide +kernel
theorem dJ0_charAt_5068e_1 : decode cJ0_charAt_5068e 1 = .ok (.invokevirtual 492, 3) := by decide +kernel
theorem dJ0_charAt_5068e_4 : decode cJ0_charAt_5068e 4 = .ok (.ifCond .eq 12, 3) := by decide +kernel
theorem dJ0_charAt_5068e_7 : decode cJ0_charAt_5068e 7 = .ok (.aload_n 0, 1) := by decide +kernel
theorem dJ0_charAt_5068e_8 : decode cJ0_charAt_5068e 8 = .ok (.getfield 9, 3) := by decide +kernel
theorem dJ0_charAt_5068e_11 : decode cJ0_charAt_5068e 11 = .ok (.iload_n 1, 1) := by decide +kernel
theorem dJ0_charAt_5068e_12 : decode cJ0_charAt_5068e 12 = .ok (.invokestatic 495, 3) := by decide +kernel
theorem dJ0_charAt_5068e_15 : decode cJ0_charAt_5068e 15 = .ok (.ireturn, 1) := by decide +kernel
theorem dJ0_charAt_5068e_16 : decode cJ0_charAt_5068e 16 = .ok (.aload_n 0, 1) := by decide +kernel
theorem dJ0_charAt_5068e_17 : decode cJ0_charAt_5068e 17 = .ok (.getfield 9, 3) := by decide +kernel
theorem dJ0_charAt_5068e_20 : decode cJ0_charAt_5068e 20 = .ok (.iload_n 1, 1) := by decide +kernel
theorem dJ0_charAt_5068e_21 : decode cJ0_charAt_5068e 21 = .ok (.invokestatic 498, 3) := by decide +kernel
theorem dJ0_charAt_5068e_24 : decode cJ0_charAt_5068e 24 = .ok (.ireturn, 1) := by decide +kernel
theorem dJ0_isLatin1_aae02_0 : decode cJ0_isLatin1_aae02 0 = .ok (.getstatic 38, 3) := by decide +kernel
theorem dJ0_isLatin1_aae02_3 : decode cJ0_isLatin1_aae02 3 = .ok (.ifCond .eq 14, 3) := by decide +kernel
theorem dJ0_isLatin1_aae02_6 : decode cJ0_isLatin1_aae02 6 = .ok (.aload_n 0, 1) := by decide +kernel
theorem dJ0_isLatin1_aae02_7 : decode cJ0_isLatin1_aae02 7 = .ok (.getfield 15, 3) := by decide +kernel
theorem dJ0_isLatin1_aae02_10 : decode cJ0_isLatin1_aae02 10 = .ok (.ifCond .ne 7, 3) := by decide +kernel
theorem dJ0_isLatin1_aae02_13 : decode cJ0_isLatin1_aae02 13 = .ok (.iconst 1, 1) := by decide +kernel
theorem dJ0_isLatin1_aae02_14 : decode cJ0_isLatin1_aae02 14 = .ok (.goto 4, 3) := by decide +kernel
theorem dJ0_isLatin1_aae02_17 : decode cJ0_isLatin1_aae02 17 = .ok (.iconst 0, 1) := by decide +kernel
theorem dJ0_isLatin1_aae02_18 : decode cJ0_isLatin1_aae02 18 = .ok (.ireturn, 1) := by decide +kernel
theorem dJ0_checkIndex_df160_0 : decode cJ0_checkIndex_df160 0 = .ok (.iload_n 0, 1) := by decide +kernel
theorem dJ0_checkIndex_df160_1 : decode cJ0_checkIndex_df160 1 = .ok (.iload_n 1, 1) := by decide +kernel
theorem dJ0_checkIndex_df160_2 : decode cJ0_checkIndex_df160 2 = .ok (.getstatic 1053, 3) := by decide +kernel
theorem dJ0_checkIndex_df160_5 : decode cJ0_checkIndex_df160 5 = .ok (.invokestatic 1059, 3) := by decide +kernel
theorem dJ0_checkIndex_df160_8 : decode cJ0_checkIndex_df160 8 = .ok (.pop, 1) := by decide +kernel
theorem dJ0_checkIndex_df160_9 : decode cJ0_checkIndex_df160 9 = .ok (.return_, 1) := by decide +kernel
theorem dJ1_charAt_3b067_0 : decode cJ1_charAt_3b067 0 = .ok (.iload_n 1, 1) := by decide +kernel
theorem dJ1_charAt_3b067_1 : decode cJ1_charAt_3b067 1 = .ok (.aload_n 0, 1) := by decide +kernel
theorem dJ1_charAt_3b067_2 : decode cJ1_charAt_3b067 2 = .ok (.arraylength, 1) := by decide +kernel
theorem dJ1_charAt_3b067_3 : decode cJ1_charAt_3b067 3 = .ok (.invokestatic 9, 3) := by decide +kernel
theorem dJ1_charAt_3b067_6 : decode cJ1_charAt_3b067 6 = .ok (.aload_n 0, 1) := by decide +kernel
theorem dJ1_charAt_3b067_7 : decode cJ1_charAt_3b067 7 = .ok (.iload_n 1, 1) := by decide +kernel
theorem dJ1_charAt_3b067_8 : decode cJ1_charAt_3b067 8 = .ok (.baload, 1) := by decide +kernel
theorem dJ1_charAt_3b067_9 : decode cJ1_charAt_3b067 9 = .ok (.sipush 255, 3) := by decide +kernel
theorem dJ1_charAt_3b067_12 : decode cJ1_charAt_3b067 12 = .ok (.iand, 1) := by decide +kernel
theorem dJ1_charAt_3b067_13 : decode cJ1_charAt_3b067 13 = .ok (.i2c, 1) := by decide +kernel
theorem dJ1_charAt_3b067_14 : decode cJ1_charAt_3b067 14 = .ok (.ireturn, 1) := by decide +kernel
theorem dJ3_checkIndex_8e157_0 : decode cJ3_checkIndex_8e157 0 = .ok (.iload_n 0, 1) := by decide +kernel
theorem dJ3_checkIndex_8e157_1 : decode cJ3_checkIndex_8e157 1 = .ok (.ifCond .lt 8, 3) := by decide +kernel
theorem dJ3_checkIndex_8e157_4 : decode cJ3_checkIndex_8e157 4 = .ok (.iload_n 0, 1) := by decide +kernel
theorem dJ3_checkIndex_8e157_5 : decode cJ3_checkIndex_8e157 5 = .ok (.iload_n 1, 1) := by decide +kernel
theorem dJ3_checkIndex_8e157_6 : decode cJ3_checkIndex_8e157 6 = .ok (.if_icmp .lt 10, 3) := by decide +kernel
theorem dJ3_checkIndex_8e157_9 : decode cJ3_checkIndex_8e157 9 = .ok (.aload_n 2, 1) := by decide +kernel
theorem dJ3_checkIndex_8e157_10 : decode cJ3_checkIndex_8e157 10 = .ok (.iload_n 0, 1) := by decide +kernel
theorem dJ3_checkIndex_8e157_11 : decode cJ3_checkIndex_8e157 11 = .ok (.iload_n 1, 1) := by decide +kernel
theorem dJ3_checkIndex_8e157_12 : decode cJ3_checkIndex_8e157 12 = .ok (.invokestatic 95, 3) := by decide +kernel
theorem dJ3_checkIndex_8e157_15 : decode cJ3_checkIndex_8e157 15 = .ok (.athrow, 1) := by decide +kernel
theorem dJ3_checkIndex_8e157_16 : decode cJ3_checkIndex_8e157 16 = .ok (.iload_n 0, 1) := by decide +kernel
theorem dJ3_checkIndex_8e157_17 : decode cJ3_checkIndex_8e157 17 = .ok (.ireturn, 1) := by decide +kernel
/-! charAt of the launch's text, by its five methods -/
def z_Qp (r : Option Value) : Array Value → State → Outcome → State → Prop := fun _ st oc t => oc = .returned r ∧ t.heap = st.heap
def z_Pp (ad : Nat × Nat → Nat) (As : List Value) : Array Value → State → Prop := va_Pc As (fun U => z_SCh (z_A ad) (ad (99, 0)) U U.heap)
section ZH
variable {p : Program} {l : Launch} {e : Env} {R : Room} {s : State} {m : MethodId} {args : Array Value} {below : List Frame} {meth : Method} {c : Code}
theorem z_Pp_blind {ad : Nat × Nat → Nat} {As : List Value} : FrameBlind (z_Pp ad As) := by
  intro a U g mk q
  exact ⟨q.1, q.2.moved (u := U) (U := U.calling g mk a) (Vm.Alike.refl U.vm)⟩
theorem z_Pp_at {ad : Nat × Nat → Nat} {As : List Value} (h : z_SCh (z_A ad) (ad (99, 0)) s s.heap) : ∀ U : State, U.heap = s.heap → s.WarmedH U.vm → z_Pp ad As As.toArray U :=
  fun U hU hW => ⟨rfl, by show z_SCh (z_A ad) (ad (99, 0)) U U.heap; rw [hU]; exact h.moved hW.alike⟩
theorem z_callP {H : Heap} {locs : List Loc} {pc : Nat} {rl : Array Slot} {st0 rest : List Value} {a : Array Value} {QQ : State → Prop} {rv : Option Value} (hr : va_Run p l e R s m args below meth c H locs 0 0 0 0 (F0 m pc rl st0) rest (z_Qp rv a) (fun _ => False))
    (kk : W p l e R s m args below meth c H locs 0 0 QQ (F0 m (pc + 3) rl (rv.toList ++ rest))) : W p l e R s m args below meth c H locs 0 0 QQ (F0 m pc rl st0) := by
  intro T hT X
  obtain ⟨v, st₀, t, T', L, h0, X', hL, e1, e2, ⟨hv, hh⟩, st⟩ := hr T hT X
  cases hv
  cases L with
  | cons q L => exact False.elim (hL q List.mem_cons_self)
  | nil =>
    rw [List.append_nil] at X'
    obtain ⟨t2, a1, b1⟩ := kk T' (by rw [e1, hh, h0]) X'
    exact ⟨t2, st t2 a1, b1⟩
end ZH
set_option maxRecDepth 100000 in
set_option maxHeartbeats 4000000 in
theorem z_h1_0 (l : Launch) (ad : Nat × Nat → Nat) (i n : Int32) (h0 : ¬ i < 0) (h1 : i < n)  : Met l yJ3_checkIndex_8e157 (Cond.code yJ3_checkIndex_8e157 cJ3_checkIndex_8e157 3 (some .int) :: z_TB) { frames := 0, cells := 0, slots := 0, locals := 0 } (z_Pp ad [.int i, .int n, .null]) (z_Qp (some (.int i))) 0 0 (fun _ => False) := by
  refine Met.ofW (cc := cJ3_checkIndex_8e157) (maxL := 3) (ret := (some .int)) (by decide) rfl ?_
  intro p e s m args below meth c s₁ B hml hv
  obtain ⟨rfl, hSC⟩ := hv
  have hx := B.exec
  have hb := B.bytes
  have hr := B.returns
  have hts0 := atoms_spec (ws := Cond.code yJ3_checkIndex_8e157 cJ3_checkIndex_8e157 3 (some .int) :: z_TB) B.pre
  have hts : ∀ w ∈ z_TB, w.before ([.int i, .int n, .null]).toArray s = true := fun w hw => hts0 w (List.mem_cons_of_mem _ hw)
  have hown : s.vm.findClass yJ3_checkIndex_8e157.cls = some m.cls := findClass_of_methodNamed B.named
  have hlocks := B.notSynchronized
  have hl := lv_entry ([.int i, .int n, .null]) (n := 3) (Nat.le_of_ble_eq_true rfl)
  rw [lg_entry_eq]
  generalize (lg_sl ([.int i, .int n, .null]) ++ List.replicate (3 - (lg_sl ([.int i, .int n, .null])).length) Slot.unset).toArray = ls at hl ⊢
  have hS : va_S (z_A ad) s.heap s.heap [] := va_S.rf
  have hl : lv_has ls 3 [(0, .int i), (1, .int n), (2, .null)] := hl
  refine lv_iload_n hx hb dJ3_checkIndex_8e157_0 rfl (lv_at hl 0 rfl) ?_
  refine lv_if_lt (tgt := 9) hx hb dJ3_checkIndex_8e157_1 (by decide) (fun q => absurd q h0) (fun _ => ?_)
  refine lv_iload_n hx hb dJ3_checkIndex_8e157_4 rfl (lv_at hl 0 rfl) ?_
  refine lv_iload_n hx hb dJ3_checkIndex_8e157_5 rfl (lv_at hl 1 rfl) ?_
  refine lv_icmp_lt (tgt := 16) hx hb dJ3_checkIndex_8e157_6 (by decide) (fun _ => ?_) (fun q => absurd h1 q)
  refine lv_iload_n hx hb dJ3_checkIndex_8e157_16 rfl (lv_at hl 0 rfl) ?_
  exact W.iret hx hb hr (fun t ht hW => ⟨rfl, ht⟩) (fun _ h => absurd h List.not_mem_nil) dJ3_checkIndex_8e157_17
set_option maxRecDepth 100000 in
set_option maxHeartbeats 4000000 in
theorem z_h1_1 (l : Launch) (ad : Nat × Nat → Nat) (i n : Int32) (h0 : ¬ i < 0) (h1 : i < n) (q : Nat) : Met l yJ3_checkIndex_8e157 (Cond.code yJ3_checkIndex_8e157 cJ3_checkIndex_8e157 3 (some .int) :: z_TB) { frames := 0, cells := 0, slots := 0, locals := 0 } (z_Pp ad [.int i, .int n, .ref q]) (z_Qp (some (.int i))) 0 0 (fun _ => False) := by
  refine Met.ofW (cc := cJ3_checkIndex_8e157) (maxL := 3) (ret := (some .int)) (by decide) rfl ?_
  intro p e s m args below meth c s₁ B hml hv
  obtain ⟨rfl, hSC⟩ := hv
  have hx := B.exec
  have hb := B.bytes
  have hr := B.returns
  have hts0 := atoms_spec (ws := Cond.code yJ3_checkIndex_8e157 cJ3_checkIndex_8e157 3 (some .int) :: z_TB) B.pre
  have hts : ∀ w ∈ z_TB, w.before ([.int i, .int n, .ref q]).toArray s = true := fun w hw => hts0 w (List.mem_cons_of_mem _ hw)
  have hown : s.vm.findClass yJ3_checkIndex_8e157.cls = some m.cls := findClass_of_methodNamed B.named
  have hlocks := B.notSynchronized
  have hl := lv_entry ([.int i, .int n, .ref q]) (n := 3) (Nat.le_of_ble_eq_true rfl)
  rw [lg_entry_eq]
  generalize (lg_sl ([.int i, .int n, .ref q]) ++ List.replicate (3 - (lg_sl ([.int i, .int n, .ref q])).length) Slot.unset).toArray = ls at hl ⊢
  have hS : va_S (z_A ad) s.heap s.heap [] := va_S.rf
  have hl : lv_has ls 3 [(0, .int i), (1, .int n), (2, .ref q)] := hl
  refine lv_iload_n hx hb dJ3_checkIndex_8e157_0 rfl (lv_at hl 0 rfl) ?_
  refine lv_if_lt (tgt := 9) hx hb dJ3_checkIndex_8e157_1 (by decide) (fun q => absurd q h0) (fun _ => ?_)
  refine lv_iload_n hx hb dJ3_checkIndex_8e157_4 rfl (lv_at hl 0 rfl) ?_
  refine lv_iload_n hx hb dJ3_checkIndex_8e157_5 rfl (lv_at hl 1 rfl) ?_
  refine lv_icmp_lt (tgt := 16) hx hb dJ3_checkIndex_8e157_6 (by decide) (fun _ => ?_) (fun q => absurd h1 q)
  refine lv_iload_n hx hb dJ3_checkIndex_8e157_16 rfl (lv_at hl 0 rfl) ?_
  exact W.iret hx hb hr (fun t ht hW => ⟨rfl, ht⟩) (fun _ h => absurd h List.not_mem_nil) dJ3_checkIndex_8e157_17
set_option maxRecDepth 100000 in
set_option maxHeartbeats 4000000 in
theorem z_h2 (l : Launch) (ad : Nat × Nat → Nat) (i n : Int32) (h0 : ¬ i < 0) (h1 : i < n) : Met l yJ0_checkIndex_df160 (Cond.code yJ0_checkIndex_df160 cJ0_checkIndex_df160 2 none :: z_TB) { frames := 1, cells := 0, slots := 0, locals := 40 } (z_Pp ad [.int i, .int n]) (z_Qp none) 0 0 (fun _ => False) := by
  refine Met.ofW (cc := cJ0_checkIndex_df160) (maxL := 2) (ret := none) (by decide) rfl ?_
  intro p e s m args below meth c s₁ B hml hv
  obtain ⟨rfl, hSC⟩ := hv
  have hx := B.exec
  have hb := B.bytes
  have hr := B.returns
  have hts0 := atoms_spec (ws := Cond.code yJ0_checkIndex_df160 cJ0_checkIndex_df160 2 none :: z_TB) B.pre
  have hts : ∀ w ∈ z_TB, w.before ([.int i, .int n]).toArray s = true := fun w hw => hts0 w (List.mem_cons_of_mem _ hw)
  have hown : s.vm.findClass yJ0_checkIndex_df160.cls = some m.cls := findClass_of_methodNamed B.named
  have hlocks := B.notSynchronized
  have hl := lv_entry ([.int i, .int n]) (n := 2) (Nat.le_of_ble_eq_true rfl)
  rw [lg_entry_eq]
  generalize (lg_sl ([.int i, .int n]) ++ List.replicate (2 - (lg_sl ([.int i, .int n])).length) Slot.unset).toArray = ls at hl ⊢
  have hS : va_S (z_A ad) s.heap s.heap [] := va_S.rf
  have hl : lv_has ls 2 [(0, .int i), (1, .int n)] := hl
  refine lv_iload_n hx hb dJ0_checkIndex_df160_0 rfl (lv_at hl 0 rfl) ?_
  refine lv_iload_n hx hb dJ0_checkIndex_df160_1 rfl (lv_at hl 1 rfl) ?_
  rcases hSC.2.2 with hZ | ⟨q, hZ⟩
  · refine va_gets hx hb hZ hS hown (hts _ (z_has_in (kj := 3069) (by decide +kernel))) (fun x hx => hx) dJ0_checkIndex_df160_2 ?_
    refine z_callP (rv := some (.int i)) (va_runS (As := [.int i, .int n, .null]) (rest := []) ⟨hx, hb, hml, hown, hts⟩ (z_h1_0 l ad i n h0 h1) ⟨callB_of 3 hts (z_TB_cons (z_has_in (kj := 3073) (by decide +kernel))) rfl rfl rfl (hts _ (z_has_in (kj := 1015) (by decide +kernel))) (hts _ (z_has_in (kj := 3071) (by decide +kernel))) ⟨by decide, by decide, by decide +kernel⟩ ⟨Nat.le_of_ble_eq_true rfl, Nat.le_of_ble_eq_true rfl⟩, (hts _ (z_has_in (kj := 3072) (by decide +kernel)))⟩ ⟨z_Pp_blind, z_Pp_at hSC⟩ rfl rfl hl.1 rfl (lv_room (Nat.le_of_ble_eq_true rfl)) dJ0_checkIndex_df160_5 ⟨Nat.zero_le _, Nat.zero_le _⟩) ?_
    refine lv_pop hx hb dJ0_checkIndex_df160_8 rfl ?_
    exact W.vret hx hb hr (fun t ht hW => ⟨rfl, ht⟩) (fun _ h => absurd h List.not_mem_nil) dJ0_checkIndex_df160_9
  · refine va_gets hx hb hZ hS hown (hts _ (z_has_in (kj := 3069) (by decide +kernel))) (fun x hx => hx) dJ0_checkIndex_df160_2 ?_
    refine z_callP (rv := some (.int i)) (va_runS (As := [.int i, .int n, .ref q]) (rest := []) ⟨hx, hb, hml, hown, hts⟩ (z_h1_1 l ad i n h0 h1 q) ⟨callB_of 3 hts (z_TB_cons (z_has_in (kj := 3073) (by decide +kernel))) rfl rfl rfl (hts _ (z_has_in (kj := 1015) (by decide +kernel))) (hts _ (z_has_in (kj := 3071) (by decide +kernel))) ⟨by decide, by decide, by decide +kernel⟩ ⟨Nat.le_of_ble_eq_true rfl, Nat.le_of_ble_eq_true rfl⟩, (hts _ (z_has_in (kj := 3072) (by decide +kernel)))⟩ ⟨z_Pp_blind, z_Pp_at hSC⟩ rfl rfl hl.1 rfl (lv_room (Nat.le_of_ble_eq_true rfl)) dJ0_checkIndex_df160_5 ⟨Nat.zero_le _, Nat.zero_le _⟩) ?_
    refine lv_pop hx hb dJ0_checkIndex_df160_8 rfl ?_
    exact W.vret hx hb hr (fun t ht hW => ⟨rfl, ht⟩) (fun _ h => absurd h List.not_mem_nil) dJ0_checkIndex_df160_9
set_option maxRecDepth 100000 in
set_option maxHeartbeats 4000000 in
theorem z_h3 (l : Launch) (ad : Nat × Nat → Nat)  : Met l yJ0_isLatin1_aae02 (Cond.code yJ0_isLatin1_aae02 cJ0_isLatin1_aae02 1 (some .boolean) :: z_TB) { frames := 0, cells := 0, slots := 0, locals := 0 } (z_Pp ad [.ref (ad (99, 0))]) (z_Qp (some (.int 1))) 0 0 (fun _ => False) := by
  refine Met.ofW (cc := cJ0_isLatin1_aae02) (maxL := 1) (ret := (some .boolean)) (by decide) rfl ?_
  intro p e s m args below meth c s₁ B hml hv
  obtain ⟨rfl, hSC⟩ := hv
  have hx := B.exec
  have hb := B.bytes
  have hr := B.returns
  have hts0 := atoms_spec (ws := Cond.code yJ0_isLatin1_aae02 cJ0_isLatin1_aae02 1 (some .boolean) :: z_TB) B.pre
  have hts : ∀ w ∈ z_TB, w.before ([.ref (ad (99, 0))]).toArray s = true := fun w hw => hts0 w (List.mem_cons_of_mem _ hw)
  have hown : s.vm.findClass yJ0_isLatin1_aae02.cls = some m.cls := findClass_of_methodNamed B.named
  have hlocks := B.notSynchronized
  have hl := lv_entry ([.ref (ad (99, 0))]) (n := 1) (Nat.le_of_ble_eq_true rfl)
  rw [lg_entry_eq]
  generalize (lg_sl ([.ref (ad (99, 0))]) ++ List.replicate (1 - (lg_sl ([.ref (ad (99, 0))])).length) Slot.unset).toArray = ls at hl ⊢
  have hS : va_S (z_A ad) s.heap s.heap [] := va_S.rf
  have hl : lv_has ls 1 [(0, .ref (ad (99, 0)))] := hl
  obtain ⟨⟨adV, hvk⟩, hZ, -⟩ := hSC
  obtain ⟨-, hco, -, -⟩ := hvk.1 0 (by decide)
  refine va_gets hx hb hZ hS hown (hts _ (z_has_in (kj := 3061) (by decide +kernel))) (fun x hx => hx) dJ0_isLatin1_aae02_0 ?_
  refine lv_if_eq (tgt := 17) hx hb dJ0_isLatin1_aae02_3 (by decide) (fun q => absurd q (by decide)) (fun _ => ?_)
  refine lv_aload_n hx hb dJ0_isLatin1_aae02_6 rfl (lv_at hl 0 rfl) ?_
  refine vk_getf hx hb hco hS hown (hts _ (z_has_in (kj := 9057) (by decide +kernel))) (fun x hx => hx) dJ0_isLatin1_aae02_7 ?_
  refine lv_if_ne (tgt := 17) hx hb dJ0_isLatin1_aae02_10 (by decide) (fun q => absurd rfl q) (fun _ => ?_)
  refine lv_iconst (v := 1) hx hb dJ0_isLatin1_aae02_13 (by decide) ?_
  refine lv_goto (tgt := 18) hx hb dJ0_isLatin1_aae02_14 (by decide) ?_
  exact W.zret hx hb hr rfl (fun t ht hW => ⟨rfl, ht⟩) (fun _ h => absurd h List.not_mem_nil) dJ0_isLatin1_aae02_18
theorem z_ch_lt {j : Int32} (h : z_in j z_wln = true) : ¬ j < 0 ∧ j < 189 ∧ n_ j < 189 := by
  have h2 := z_in_ok h
  obtain ⟨h3, h4⟩ := vp_in_iff.mp h2
  refine ⟨fun q => h2 (Or.inl q), ?_, Nat.not_le.mp fun q => h2 (Or.inr q)⟩
  rw [Int32.lt_iff_toInt_lt]
  exact h4
theorem z_WD_ok : ∀ k, k < 189 → ((((z_WD.getD k 0) &&& 255).toUInt32 % 65536).toInt32) = z_wch k ∧ narrow .char (.int (z_wch k)) = .int (z_wch k) := by decide +kernel
def z_Pv (ad : Nat × Nat → Nat) (a : Nat) (j : Int32) : Array Value → State → Prop := va_Pc [.ref a, .int j] (fun U => z_SCh (z_A ad) (ad (99, 0)) U U.heap ∧ va_T .byte a 189 (fun k => .int (z_WD.getD k 0)) (z_A ad) U U.heap)
theorem z_Pv_blind {ad : Nat × Nat → Nat} {a : Nat} {j : Int32} : FrameBlind (z_Pv ad a j) := by
  intro x U g mk q
  exact ⟨q.1, q.2.1.moved (u := U) (U := U.calling g mk x) (Vm.Alike.refl U.vm), q.2.2.moved (u := U) (U := U.calling g mk x) (Vm.Alike.refl U.vm)⟩
set_option maxRecDepth 100000 in
set_option maxHeartbeats 4000000 in
theorem z_h4 (l : Launch) (ad : Nat × Nat → Nat) (a : Nat) (j : Int32) (hj : z_in j z_wln = true) : Met l yJ1_charAt_3b067 (Cond.code yJ1_charAt_3b067 cJ1_charAt_3b067 2 (some .char) :: z_TB) { frames := 2, cells := 0, slots := 0, locals := 80 } (z_Pv ad a j) (z_Qp (some (.int (z_wch (n_ j))))) 0 0 (fun _ => False) := by
  refine Met.ofW (cc := cJ1_charAt_3b067) (maxL := 2) (ret := (some .char)) (by decide) rfl ?_
  intro p e s m args below meth c s₁ B hml hv
  obtain ⟨rfl, hSC, hT⟩ := hv
  obtain ⟨g1, g2, g3⟩ := z_ch_lt hj
  have hx := B.exec
  have hb := B.bytes
  have hr := B.returns
  have hts0 := atoms_spec (ws := Cond.code yJ1_charAt_3b067 cJ1_charAt_3b067 2 (some .char) :: z_TB) B.pre
  have hts : ∀ w ∈ z_TB, w.before ([.ref a, .int j]).toArray s = true := fun w hw => hts0 w (List.mem_cons_of_mem _ hw)
  have hown : s.vm.findClass yJ1_charAt_3b067.cls = some m.cls := findClass_of_methodNamed B.named
  have hlocks := B.notSynchronized
  have hl := lv_entry ([.ref a, .int j]) (n := 2) (Nat.le_of_ble_eq_true rfl)
  rw [lg_entry_eq]
  generalize (lg_sl ([.ref a, .int j]) ++ List.replicate (2 - (lg_sl ([.ref a, .int j])).length) Slot.unset).toArray = ls at hl ⊢
  have hS : va_S (z_A ad) s.heap s.heap [] := va_S.rf
  have hl : lv_has ls 2 [(0, .ref a), (1, .int j)] := hl
  refine lv_iload_n hx hb dJ1_charAt_3b067_0 rfl (lv_at hl 1 rfl) ?_
  refine lv_aload_n hx hb dJ1_charAt_3b067_1 rfl (lv_at hl 0 rfl) ?_
  refine va_tlen (v := 189) hx hb hT hS rfl dJ1_charAt_3b067_2 ?_
  refine z_callP (rv := none) (va_runS (As := [.int j, .int 189]) (rest := []) ⟨hx, hb, hml, hown, hts⟩ (z_h2 l ad j 189 g1 g2) ⟨callB_of 2 hts (z_TB_cons (z_has_in (kj := 3068) (by decide +kernel))) rfl rfl rfl (hts _ (z_has_in (kj := 1013) (by decide +kernel))) (hts _ (z_has_in (kj := 3066) (by decide +kernel))) ⟨by decide, by decide, by decide +kernel⟩ ⟨Nat.le_of_ble_eq_true rfl, Nat.le_of_ble_eq_true rfl⟩, (hts _ (z_has_in (kj := 3067) (by decide +kernel)))⟩ ⟨z_Pp_blind, z_Pp_at hSC⟩ rfl rfl hl.1 rfl (lv_room (Nat.le_of_ble_eq_true rfl)) dJ1_charAt_3b067_3 ⟨Nat.zero_le _, Nat.zero_le _⟩) ?_
  refine lv_aload_n hx hb dJ1_charAt_3b067_6 rfl (lv_at hl 0 rfl) ?_
  refine lv_iload_n hx hb dJ1_charAt_3b067_7 rfl (lv_at hl 1 rfl) ?_
  refine va_tb hx hb hT hS (z_in_ok hj) rfl dJ1_charAt_3b067_8 ?_
  refine lv_sipush (v := 255) hx hb dJ1_charAt_3b067_9 (by decide) ?_
  refine lv_iand hx hb dJ1_charAt_3b067_12 ?_
  refine lv_i2c (v := z_wch (n_ j)) hx hb dJ1_charAt_3b067_13 (z_WD_ok _ g3).1 ?_
  exact W.zret hx hb hr (z_WD_ok _ g3).2 (fun t ht hW => ⟨rfl, ht⟩) (fun _ h => absurd h List.not_mem_nil) dJ1_charAt_3b067_14
set_option maxRecDepth 100000 in
set_option maxHeartbeats 4000000 in
theorem z_Chs_ok : z_Chs := by
  intro l tc ad D v j hJ hj
  refine Met.ofW (cc := cJ0_charAt_5068e) (maxL := 2) (ret := some .char) (by decide) rfl ?_
  intro p e s m args below meth c s₁ B hml hv
  obtain ⟨rfl, hP, hK, hR, hSC⟩ := hv
  have hx := B.exec
  have hb := B.bytes
  have hr := B.returns
  have hts0 := atoms_spec (ws := Cond.code yJ0_charAt_5068e cJ0_charAt_5068e 2 (some .char) :: z_TB) B.pre
  have hts : ∀ w ∈ z_TB, w.before (([vR 99 0, vI j] : List z_AV).map (z_cv ad)).toArray s = true := fun w hw => hts0 w (List.mem_cons_of_mem _ hw)
  have hown : s.vm.findClass "java/lang/String" = some m.cls := findClass_of_methodNamed B.named
  have hlocks := B.notSynchronized
  obtain ⟨g1, g2, g3⟩ := z_ch_lt hj
  have hl := lv_entry ([.ref (ad (99, 0)), .int j]) (n := 2) (Nat.le_of_ble_eq_true rfl)
  rw [show (([vR 99 0, vI j] : List z_AV).map (z_cv ad)) = [.ref (ad (99, 0)), .int j] from rfl] at hts ⊢
  rw [lg_entry_eq]
  generalize (lg_sl ([.ref (ad (99, 0)), .int j]) ++ List.replicate (2 - (lg_sl ([.ref (ad (99, 0)), .int j])).length) Slot.unset).toArray = ls at hl ⊢
  have hl : lv_has ls 2 [(0, .ref (ad (99, 0))), (1, .int j)] := hl
  have hS : va_S (z_A ad) s.heap s.heap [] := va_S.rf
  have hSC0 := hSC
  obtain ⟨⟨adV, hvk⟩, hZ, hZ2⟩ := hSC0
  obtain ⟨-, hco, hva, hT⟩ := hvk.1 0 (by decide)
  have hrecv := vk_recv (i := 0) hvk (by decide) hS
  refine lv_aload_n hx hb dJ0_charAt_5068e_0 rfl (lv_at hl 0 rfl) ?_
  refine z_callP (rv := some (.int 1)) (va_runV (C := "java/lang/String") (b := ad (99, 0)) (As := []) (rest := []) ⟨hx, hb, hml, hown, hts⟩ (z_h3 l ad) ⟨callB_of 0 hts (z_TB_cons (z_has_in (kj := 3060) (by decide +kernel))) rfl rfl rfl (hts _ (z_has_in (kj := 1013) (by decide +kernel))) (hts _ (z_has_in (kj := 3057) (by decide +kernel))) ⟨by decide, by decide, by decide +kernel⟩ ⟨Nat.le_of_ble_eq_true rfl, Nat.le_of_ble_eq_true rfl⟩, (hts _ (z_has_in (kj := 3058) (by decide +kernel))), (hts _ (z_has_in (kj := 3059) (by decide +kernel)))⟩ ⟨z_Pp_blind, hrecv, z_Pp_at hSC⟩ rfl rfl hl.1 rfl (lv_room (Nat.le_of_ble_eq_true rfl)) dJ0_charAt_5068e_1 ⟨Nat.zero_le _, Nat.zero_le _⟩) ?_
  refine lv_if_eq (tgt := 16) hx hb dJ0_charAt_5068e_4 (by decide) (fun q => absurd q (by decide)) (fun _ => ?_)
  refine lv_aload_n hx hb dJ0_charAt_5068e_7 rfl (lv_at hl 0 rfl) ?_
  refine vk_getf hx hb hva hS hown (hts _ (z_has_in (kj := 9058) (by decide +kernel))) (fun x hx => hx) dJ0_charAt_5068e_8 ?_
  refine lv_iload_n hx hb dJ0_charAt_5068e_11 rfl (lv_at hl 1 rfl) ?_
  refine z_callP (rv := some (.int (z_wch (n_ j)))) (va_runS (As := [.ref (adV 0), .int j]) (rest := []) ⟨hx, hb, hml, hown, hts⟩ (z_h4 l ad (adV 0) j hj) ⟨callB_of 2 hts (z_TB_cons (z_has_in (kj := 3065) (by decide +kernel))) rfl rfl rfl (hts _ (z_has_in (kj := 1014) (by decide +kernel))) (hts _ (z_has_in (kj := 3063) (by decide +kernel))) ⟨by decide, by decide, by decide +kernel⟩ ⟨Nat.le_of_ble_eq_true rfl, Nat.le_of_ble_eq_true rfl⟩, (hts _ (z_has_in (kj := 3064) (by decide +kernel)))⟩ ⟨z_Pv_blind, fun U hU hW => ⟨rfl, by rw [hU]; exact hSC.moved hW.alike, by rw [hU]; exact hT.moved hW.alike⟩⟩ rfl rfl hl.1 rfl (lv_room (Nat.le_of_ble_eq_true rfl)) dJ0_charAt_5068e_12 ⟨Nat.zero_le _, Nat.zero_le _⟩) ?_
  exact W.zret hx hb hr (z_WD_ok _ g3).2 (fun t ht hW => ⟨⟨v, some (vI (z_wch (n_ j))), rfl, ⟨rfl, rfl⟩, trivial, by rw [ht]; exact hP, hJ⟩, hS.F ht⟩) (fun _ h => absurd h List.not_mem_nil) dJ0_charAt_5068e_15
set_option maxRecDepth 100000 in
theorem z_Sd_all : ∀ d, z_Sd d
  | 0 => fun _ _ _ _ h => False.elim h
  | d + 1 => by
    intro a As v Q hC M hM l tc ad D hinj hJ hok hlen
    unfold z_C at hC
    obtain ⟨p1, p2, p3, p4, ps, hg⟩ := z_all a (z_MTlt hM)
    unfold z_pair at hg
    rw [hM] at hg
    split at hC
    · rename_i rk nL cd hD
      rw [hD] at hg
      obtain ⟨own, y, bytes, nL1, ret, na, st⟩ := M
      obtain ⟨hsz, hC⟩ := z_if_i hC
      simp only [Bool.and_eq_true, z_mck, decide_eq_true_eq] at hg
      obtain ⟨⟨g3, g4, g5, g6, g7, g8, g9, g10, g11, g12, g13⟩, heck⟩ := hg
      have g8 : nL1 = nL := Nat.eq_of_beq_eq_true g8
      subst g8
      have hsz := Nat.le_of_ble_eq_true hsz
      refine Met.ofW (cc := bytes) (maxL := nL1) (ret := ret) g3 rfl ?_
      intro p e s m args below meth c s₁ B hml hv
      obtain ⟨rfl, hP, hK, hSC⟩ := hv
      have hx := B.exec
      have hb := B.bytes
      have hr := B.returns
      have hts0 := atoms_spec (ws := z_wsm (own, y, bytes, nL1, ret, na, st)) B.pre
      have hts : ∀ w ∈ z_TB, w.before (As.map (z_cv ad)).toArray s = true := fun w hw => hts0 w (List.mem_cons_of_mem _ hw)
      have hown : s.vm.findClass own = some m.cls := by
        rw [g7]
        exact findClass_of_methodNamed B.named
      have hlocks := B.notSynchronized
      have hl := lv_entry (As.map (z_cv ad)) (n := nL1) (by rw [← z_ent_len]; exact hsz)
      rw [lg_entry_eq]
      generalize (lg_sl (As.map (z_cv ad)) ++ List.replicate (nL1 - (lg_sl (As.map (z_cv ad))).length) Slot.unset).toArray = rl at hl ⊢
      have hW := hC (z_SP p l e (headSpec (z_wsm (own, y, bytes, nL1, ret, na, st)) (z_rm (d + 1))).room s m (As.map (z_cv ad)).toArray below meth c nL1 tc ad D Q) (fun pc ls stk v hstep => by
        unfold z_step at hstep
        split at hstep
        · exact False.elim hstep
        · rename_i ins a1 b1 ks ci cl hat
          obtain ⟨pl, hdg, hick⟩ := z_eck_at heck hat
          have hs := z_ex_sound (z_Sd_all d) z_Chs_ok hx hb hml hr hlocks hown hts hK hSC hinj (by show d + 9 ≤ d + 1 + 8; omega) (by show 80 * d + 380 ≤ 80 * (d + 1) + 300; omega) g10 hick hdg hstep
          exact fun H locs rl hL hol => hs H locs rl (hL.kill ks) (hol.kill ks))
      exact hW s.heap [] rl ⟨hl.1, hl.2.1, z_pad_len hsz, fun i w hi => hl.2.2 (i, z_cv ad w) (by
        have := z_ent_get (ad := ad) (j := 0) (z_pad_get hi)
        rwa [Nat.zero_add] at this)⟩ (fun i w hi => z_ent_ok hok i w (z_pad_get hi)) trivial hJ hP va_S.rf
    · exact False.elim hC
