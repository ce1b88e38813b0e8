/-! the law: its loop, its walk from the entry -/
theorem lw_off : ∀ n, n < 47 → (#[203, 236, 299, 322, 335, 358, 381, 414, 437, 460, 483, 506, 539, 552, 585, 618, 651, 674, 707, 730, 743, 756, 795, 818, 832, 855, 898, 921, 935, 958, 981, 994, 1007, 1020, 1033, 1046, 1069, 1092, 1125, 1168, 1201, 1214, 1227, 1240, 1263, 1276, 1289] : Array Int)[n]? = some (((lw_tg.getD n 0 : Nat) : Int) - 33) := by decide +kernel
theorem lw_63 (x : Int32) : ∃ n, n < 64 ∧ x &&& 63 = nI n := by
  have h := Jvm.Kit.i32_mask x 63 (k := 6) (by decide) (by decide)
  obtain ⟨n, hn, e⟩ := nneg (a := x &&& 63) (by
    rw [Int32.le_iff_toInt_le, h, Int32.toInt_zero]
    omega)
  refine ⟨n, ?_, e⟩
  rw [e, nI_toInt hn] at h
  omega
theorem lw_lt {L i : Nat} (hL : L ≤ 3072) (hi : i ≤ L) : nI L - nI 6 < nI i ↔ L < i + 6 := by
  rw [Int32.lt_iff_toInt_lt, pk_sub_toInt (by omega) (by omega), nI_toInt (by omega)]
  omega
section LW3
variable {p : Program} {l : Launch} {e : Env} {R : Room} {s : State} {m : MethodId} {args : Array Value} {below : List Frame} {meth : Method} {c : Code} {QQ : State → Prop}
variable {tc : Nat → ClassId} {ad : Nat × Nat → Nat} {D : va_G} {cells slots : Nat}
set_option maxHeartbeats 4000000 in
theorem lw_loop {b L : Nat} {xs : Nat → Int32} (C : lw_C p s m c args R tc ad D b L xs) (hcs : cells ≤ R.cells ∧ slots ≤ R.slots) (hL : L ≤ 3072) (kk : ∀ (H : Heap) (locs : List Loc) (ls : Array Slot), va_S (z_A ad) s.heap H locs → W p l e R s m args below meth c H locs cells slots QQ (F0 m 1351 ls [])) : ∀ (r i : Nat), L + 6 ≤ i + r → i ≤ L → ∀ (v : z_V), Inv v → z_okJ v → ∀ (H : Heap) (locs : List Loc), va_P D vwCl (z_ws tc ad v) H → va_S (z_A ad) s.heap H locs → ∀ (ls : Array Slot), lv_has ls 4 [(0, .ref b), (1, .ref (ad (10, 0))), (2, .ref (ad (11, 0))), (3, .int (nI i))] → W p l e R s m args below meth c H locs cells slots QQ (F0 m 18 ls []) := by
  obtain ⟨hx, hb, hml, hown, hts, hK, hSC, hinj, hfr, hlo, hX, hbl, hbA⟩ := id C
  intro r
  induction r with
  | zero => exact fun i h1 h2 => absurd h1 (by omega)
  | succ r ih =>
    intro i hr hi v hI hJ H locs hP hS ls hl
    refine lv_iload_n hx hb dlaw_18 rfl (lv_at hl 3 rfl) ?_
    refine lv_aload_n hx hb dlaw_19 rfl (lv_at hl 0 rfl) ?_
    refine va_slen hx hb hX hbl hbA hS dlaw_20 ?_
    refine lv_bipush (v := nI 6) hx hb dlaw_21 (by decide +kernel) ?_
    refine lv_isub hx hb dlaw_23 ?_
    refine lv_icmp_gt (tgt := 1351) hx hb dlaw_24 (by decide) (fun _ => kk H locs ls hS) (fun z => ?_)
    have hiL : i + 6 ≤ L := Nat.not_lt.mp (fun q => z ((lw_lt hL hi).mpr q))
    refine lv_aload_n hx hb dlaw_27 rfl (lv_at hl 0 rfl) ?_
    refine lv_iload_n hx hb dlaw_28 rfl (lv_at hl 3 rfl) ?_
    refine va_sld hx hb hX hbl hbA hS (vp_in_nI (show i < L by omega) (by omega)) dlaw_29 ?_
    rw [nI_clamp (by omega)]
    refine lv_bipush (v := 63) hx hb dlaw_30 (by decide +kernel) ?_
    refine lv_iand hx hb dlaw_32 ?_
    obtain ⟨n, hn, en⟩ := lw_63 (xs i)
    rw [en]
    have nx : ∀ (w : z_V) (H1 : Heap) (locs1 : List Loc), Inv w → z_okJ w → va_P D vwCl (z_ws tc ad w) H1 → va_S (z_A ad) s.heap H1 locs1 → W p l e R s m args below meth c H1 locs1 cells slots QQ (F0 m 1345 ls []) := fun w H1 locs1 hI1 hJ1 hP1 hS1 => by
      refine lv_iinc (v := nI (i + 6)) (lv' := [(3, .int (nI (i + 6))), (0, .ref b), (1, .ref (ad (10, 0))), (2, .ref (ad (11, 0)))]) hx hb dlaw_1345 hl (k := 3) rfl (nI_add i 6) (by decide) rfl (fun ls hl => ?_)
      refine lv_goto (tgt := 18) hx hb dlaw_1348 (by decide) ?_
      exact ih (i + 6) (by omega) hiL w hI1 hJ1 H1 locs1 hP1 hS1 ls (lv_sub hl [1, 2, 3, 0] rfl)
    have e0 : ((nI n).toInt - 0).toNat = n := by
      rw [nI_toInt (by omega)]
      omega
    by_cases h47 : n < 47
    · refine lv_tableIn (off := ((lw_tg.getD n 0 : Nat) : Int) - 33) (tgt := lw_tg.getD n 0) hx hb dlaw_33 (by rw [nI_toInt (by omega)]; omega) (by rw [nI_toInt (by omega)]; omega) (by rw [e0]; exact lw_off n h47) (by omega) ?_
      exact lw_one C hcs hiL hL hI hJ hP hS hl nx n h47
    · exact lv_tableOut (tgt := 1345) hx hb dlaw_33 (Or.inr (by rw [nI_toInt (by omega)]; omega)) (by decide) (nx v H locs hI hJ hP hS)
end LW3
theorem nFn.same {u U : State} (h : u.vm = U.vm) (z : nFn u) : nFn U := ⟨z.1.same h, z.2.1.same rfl h, z.2.2.1.same rfl h, z.2.2.2.1.same rfl h, z.2.2.2.2.1.same rfl h, z.2.2.2.2.2.1.same rfl h, z.2.2.2.2.2.2.1.same rfl h, z.2.2.2.2.2.2.2.1.same rfl h, z.2.2.2.2.2.2.2.2.same h⟩
theorem nFn.warm {s U : State} (hW : s.WarmedH U.vm) (z : nFn s) : nFn U := ⟨z.1.warm hW, va_Nw.warmM hW z.2.1, va_Nw.warmM hW z.2.2.1, va_Nw.warmM hW z.2.2.2.1, va_Nw.warmM hW z.2.2.2.2.1, va_Nw.warmM hW z.2.2.2.2.2.1, va_Nw.warmM hW z.2.2.2.2.2.2.1, va_Nw.warmM hW z.2.2.2.2.2.2.2.1, z.2.2.2.2.2.2.2.2.warm hW⟩
theorem ckA : ckL zLF = true ∧ ckL zL11 = true := by decide +kernel
theorem zLa_F : ∀ q ∈ zLF, ¬ q.1 = 99 ∧ ¬ (q.1 = 11 ∨ 1200 ≤ q.1) := by decide +kernel
theorem zLa_M : ∀ q ∈ zL11, ¬ q.1 = 99 ∧ (q.1 = 11 ∨ 1200 ≤ q.1) := by decide +kernel
theorem zLa_all : ∀ q ∈ z_MK, q ∈ zLF ++ zL11 := by decide +kernel
def adA (aS : Nat) (gF gM : Nat × Nat → Nat) : Nat × Nat → Nat := fun q => if q.1 = 99 then aS else if q.1 = 11 ∨ 1200 ≤ q.1 then gM q else gF q
theorem zW_all {D : va_G} {tc : Nat → ClassId} {A : Nat → Prop} {H : Heap} {aS : Nat} {gF gM : Nat × Nat → Nat} (hP : va_P D vwCl (zW tc gF zLF ++ zW tc gM zL11) H) (hD : va_D A (zW tc gF zLF ++ zW tc gM zL11)) : va_P D vwCl (z_ws tc (adA aS gF gM) z_v0) H ∧ z_inj (adA aS gF gM) ∧ ∀ q ∈ z_MK, A (adA aS gF gM q) := by
  have eF : ∀ q ∈ zLF, adA aS gF gM q = gF q := fun q hq => by
    obtain ⟨h1, h2⟩ := zLa_F q hq
    unfold adA
    rw [if_neg h1, if_neg h2]
  have eM : ∀ q ∈ zL11, adA aS gF gM q = gM q := fun q hq => by
    obtain ⟨h1, h2⟩ := zLa_M q hq
    unfold adA
    rw [if_neg h1, if_pos h2]
  generalize adA aS gF gM = ad at eF eM ⊢
  have p1 := zW_P.mp (zW_cv ckA.1 eF (va_P_l hP))
  have p2 := zW_P.mp (zW_cv ckA.2 eM (va_P_r hP))
  have hD2 : va_D A (zW tc ad (zLF ++ zL11)) := va_D_ad hD (by
    rw [zW_ad, List.map_append, List.map_append, zW_sg (tc := tc) eF, zW_sg (tc := tc) eM])
  have gt : ∀ q ∈ z_MK, ∃ i, (zLF ++ zL11)[i]? = some q ∧ (zW tc ad (zLF ++ zL11))[i]? = some (zc tc ad q) := fun q hq => by
    obtain ⟨i, hi⟩ := List.getElem?_of_mem (zLa_all q hq)
    exact ⟨i, hi, by unfold zW; rw [List.getElem?_map, hi]; rfl⟩
  refine ⟨zW_P.mpr (fun q hq => ?_), fun q hq r hr e => ?_, fun q hq => ?_⟩
  · rcases List.mem_append.mp (zLa_all q hq) with h | h
    · exact p1 q h
    · exact p2 q h
  · obtain ⟨i, i1, i2⟩ := gt q hq
    obtain ⟨j, j1, j2⟩ := gt r hr
    obtain rfl : i = j := hD2.1 i j _ _ i2 j2 e
    rw [i1] at j1
    exact Option.some.inj j1
  · obtain ⟨i, i1, i2⟩ := gt q hq
    exact hD2.2 i _ i2
set_option maxHeartbeats 8000000 in
set_option maxRecDepth 100000 in
/-- from the entry, for every script of at most 3072 ints, the law comes to its end with true -/
theorem whole_start {p : Program} {e : Env} {s : State} {m : MethodId} {below : List Frame} {meth : Method} {c : Code} (l : Launch) (hflags : l.flags = flags0) {b L : Nat} {xs : Nat → Int32} (hL : L ≤ 3072) (C0 : lw_At p s m meth c b L xs) : W p l e room_1 s m #[Value.ref b] below meth c s.heap [] 0 0 (lw_Z below #[Value.ref b] s) (entryFrame m ([Value.ref b] : List Value).toArray 4) := by
  obtain ⟨hx, hb, hr, hml, hown, hts, hX, hbl, hlocks, hgv⟩ := id C0
  have htB : ∀ w ∈ z_TB, w.before #[Value.ref b] s = true := fun w hw => hts w (z_TB_good w hw).1
  obtain ⟨tc, D, hK⟩ := lw_K hts
  obtain ⟨aS, hSC⟩ := lw_SC hts hgv
  have hN := lw_nFn hts
  have hA : ∀ q : Nat, s.heap.size ≤ q → (fun q : Nat => s.heap.size ≤ q) q := fun _ h => h
  have hS : va_S (fun q : Nat => s.heap.size ≤ q) s.heap s.heap [] := va_S.rf
  have hP : va_P D vwCl [] s.heap := fun k q h => by simp at h
  have hD : va_D (fun q : Nat => s.heap.size ≤ q) [] := ⟨fun i j p q h => by simp at h, fun k q h => by simp at h⟩
  have hl := lv_entry ([.ref b]) (n := 4) (Nat.le_of_ble_eq_true rfl)
  rw [lg_entry_eq]
  generalize (lg_sl ([.ref b]) ++ List.replicate (4 - (lg_sl ([.ref b])).length) Slot.unset).toArray = ls at hl ⊢
  have hl : lv_has ls 4 [(0, .ref b)] := hl
  refine va_new (ci := 10) (fs := [.null, .null, .null, .null, .null, .null, .null, .null, .null, .null]) (C := RX10) (T := TX10) (N := 10) (own := R_law) (index := 7) hx hb htB z_lw_10 tyX10 tyX10_ok hown (htB _ (z_has_in (kj := 1021) (by decide +kernel))) (htB _ (z_has_in (kj := 1022) (by decide +kernel))) (htB _ (z_has_in (kj := 1001) (by decide +kernel))) hK hP hD hS hA rfl dfX10 (Nat.le_of_ble_eq_true rfl) (Nat.le_of_ble_eq_true rfl) dlaw_0 (fun q H hP hD hS => ?_)
  refine lv_dup hx hb dlaw_3 rfl ?_
  refine zn_back (va_runI (As := []) (rest := [.ref q]) ⟨hx, hb, hml, hown, htB⟩ (n_X10 l tc D q H.size) (cwI 0 htB (z_TB_cons (z_has_in (kj := 1025) (by decide +kernel))) rfl rfl rfl (htB _ (z_has_in (kj := 1001) (by decide +kernel))) (htB _ (z_has_in (kj := 1023) (by decide +kernel))) (htB _ (z_has_in (kj := 1024) (by decide +kernel))) rfl ⟨by decide, by decide, by decide +kernel⟩ ⟨Nat.le_of_ble_eq_true rfl, Nat.le_of_ble_eq_true rfl⟩) ⟨zn_blind (fun _ _ h z => z.same h), zn_pre (fun _ hW => hN.warm hW) hK hP⟩ rfl rfl hl.1 rfl (lv_room (Nat.le_of_ble_eq_true rfl)) dlaw_4 ⟨Nat.le_of_ble_eq_true rfl, Nat.le_of_ble_eq_true rfl⟩) hP hD hS hA (fun gF H locs hg hP2 hD2 hS2 => ?_)
  subst hg
  have hS := hS2
  have hP : va_P D vwCl (zW tc gF zLF) H := hP2
  have hD : va_D (fun q : Nat => s.heap.size ≤ q) (zW tc gF zLF) := hD2
  refine lv_astore_n (lv' := [(1, .ref (gF (10, 0))), (0, .ref b)]) hx hb dlaw_7 rfl hl (by decide) rfl (fun ls hl => ?_)
  refine va_new (ci := 11) (fs := [.null, .null, .null, .null, .int 0, .int 0, .int 0, .int 0, .int 0, .int 0, .int 0, .long 0, .int 0, .int 0, .int 0, .null, .int 0, .int 0, .int 0, .int 0, .null, .null, .null, .int 0, .int 0, .null, .null, .null, .int 0, .int 0, .int 0, .int 0, .null, .null, .int 0, .int 0, .null, .null]) (C := RX11) (T := TX11) (N := 38) (own := R_law) (index := 10) hx hb htB z_lw_11 tyX11 tyX11_ok hown (htB _ (z_has_in (kj := 6066) (by decide +kernel))) (htB _ (z_has_in (kj := 6067) (by decide +kernel))) (htB _ (z_has_in (kj := 1012) (by decide +kernel))) hK hP hD hS hA rfl dfX11 (Nat.le_of_ble_eq_true rfl) (Nat.le_of_ble_eq_true rfl) dlaw_8 (fun q H hP hD hS => ?_)
  refine lv_dup hx hb dlaw_11 rfl ?_
  refine zn_back (va_runI (As := []) (rest := [.ref q]) ⟨hx, hb, hml, hown, htB⟩ (n_X11 l tc D q H.size) (cwI 0 htB (z_TB_cons (z_has_in (kj := 6070) (by decide +kernel))) rfl rfl rfl (htB _ (z_has_in (kj := 1012) (by decide +kernel))) (htB _ (z_has_in (kj := 6068) (by decide +kernel))) (htB _ (z_has_in (kj := 6069) (by decide +kernel))) rfl ⟨by decide, by decide, by decide +kernel⟩ ⟨Nat.le_of_ble_eq_true rfl, Nat.le_of_ble_eq_true rfl⟩) ⟨zn_blind (fun _ _ _ _ => trivial), zn_pre (fun _ _ => trivial) hK hP⟩ rfl rfl hl.1 rfl (lv_room (Nat.le_of_ble_eq_true rfl)) dlaw_12 ⟨Nat.le_of_ble_eq_true rfl, Nat.le_of_ble_eq_true rfl⟩) hP hD hS hA (fun gM H locs hg hP2 hD2 hS2 => ?_)
  subst hg
  have hS := hS2
  refine lv_astore_n (lv' := [(2, .ref (gM (11, 0))), (1, .ref (gF (10, 0))), (0, .ref b)]) hx hb dlaw_15 rfl hl (by decide) rfl (fun ls hl => ?_)
  refine lv_iconst (v := nI 0) hx hb dlaw_16 (by decide +kernel) ?_
  refine lv_istore_n (lv' := [(3, .int (nI 0)), (2, .ref (gM (11, 0))), (1, .ref (gF (10, 0))), (0, .ref b)]) hx hb dlaw_17 rfl hl (by decide) rfl (fun ls hl => ?_)
  refine va_forget (fun q hq => hS.2.2 q hq) ?_
  obtain ⟨hP, hinj, hge⟩ := zW_all (aS := aS) hP2 hD2
  have hbA : ¬ z_A (adA aS gF gM) b := fun ⟨q, hq, e⟩ => by
    have := hge q hq
    rw [e] at this
    exact absurd hbl (Nat.not_lt.mpr this)
  have hS0 : va_S (z_A (adA aS gF gM)) s.heap H [] := ⟨hS.1, fun q h1 _ => hS.2.1 q h1 (Nat.not_le.mpr h1), fun _ h => by cases h⟩
  have hSC2 : z_SC (z_A (adA aS gF gM)) (adA aS gF gM (99, 0)) s s.heap := ⟨hSC.1, hSC.2.narrow (fun a ⟨q, hq, e⟩ => by rw [← e]; exact hge q hq)⟩
  refine lw_loop (ad := adA aS gF gM) ⟨hx, hb, hml, hown, htB, hK, hSC2, hinj, Nat.le_of_ble_eq_true rfl, Nat.le_of_ble_eq_true rfl, hX, hbl, hbA⟩ ⟨Nat.le_of_ble_eq_true rfl, Nat.le_of_ble_eq_true rfl⟩ hL (fun H locs ls hS => ?_) (L + 6) 0 (by omega) (Nat.zero_le _) z_v0 Inv_00 (Nat.zero_le _) H [] hP hS0 ls (lv_sub hl [3, 2, 1, 0] rfl)
  refine va_forget (fun q hq => by
    obtain ⟨x, hx1, e⟩ := hS.2.2 q hq
    rw [← e]
    exact hge x hx1) ?_
  refine W.widen (k := 600000) (n := 7302250) (Nat.le_of_ble_eq_true rfl) (Nat.le_of_ble_eq_true rfl) ?_
  refine lv_iconst (v := 1) hx hb dlaw_1351 (by decide +kernel) ?_
  exact lw_ret hx hb hr hlocks dlaw_1352
