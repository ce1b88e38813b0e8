/-! the law: its start -/
def s00 : z_St := fun j => if j = 1 then 439 else if j = 2 then 50 else 0
def W00 : z_W := (0, ((fun _ => 0), ((fun _ => 0), (s00, (0, ((fun _ _ => 0), (-1, (0, (0, ((fun _ => 0), (fun _ => 0)))))))))))
def q00 : z_Q := (W00, (W00, ((fun _ => T00), (0, ((fun _ => 0), (-1, -1))))))
theorem s00_n {j : Nat} (h1 : j ≠ 1) (h2 : j ≠ 2) : s00 j = 0 := by
  unfold s00
  rw [if_neg h1, if_neg h2]
theorem s00_ok : okS 0 s00 := by
  refine ⟨by decide, by decide, by decide, by decide, by decide, fun h _ => ?_, fun k _ => ?_⟩
  · rw [s00_n (by omega) (by omega)]
    exact Nat.zero_le _
  · rw [s00_n (by omega) (by omega)]
    decide
theorem W00_ok : okW W00 := ⟨⟨Nat.zero_le _, by decide, fun l h => absurd h (Nat.not_lt_zero _), fun l k _ h => absurd h (Nat.not_lt_zero _)⟩, s00_ok, Nat.zero_le _, fun i h => absurd h (Nat.not_lt_zero _), Nat.zero_le _, Or.inl rfl, Nat.zero_le _, fun i h => absurd h (Nat.not_lt_zero _)⟩
theorem RS_00 (n : Nat) : RS z_v0 n s00 := by
  refine ⟨rfl, rfl, rfl, rfl, rfl, fun h _ => ?_, fun k _ => ?_⟩
  · rw [s00_n (by omega) (by omega)]
    rfl
  · rw [s00_n (by omega) (by omega)]
    rfl
theorem RC_00 (w : Nat) : RC z_v0 w W00 := ⟨W00_ok, rfl, rfl, rfl, rfl, rfl, ⟨0, by decide, rfl, fun i h => absurd h (Nat.not_lt_zero _)⟩, fun l h => absurd h (Nat.not_lt_zero _), RS_00 _, fun i h => absurd h (Nat.not_lt_zero _)⟩
theorem z_a0_n {k : Nat} (h6 : k ≠ 6) (h7 : k ≠ 7) (h2 : k ≠ 2) : z_a0 k = 0 := by
  unfold z_a0
  rw [beq_f h6, beq_f h7, beq_f h2]
  rfl
theorem RRf_00 {f : Nat → Int32} (h : ∀ k, k < 1218 → f k = z_a0 k) : RRf f W00 := by
  have z : ∀ k, k < 1218 → k ≠ 6 → k ≠ 7 → k ≠ 2 → f k = nI 0 := fun k h1 h2 h3 h4 => (h k h1).trans (z_a0_n h2 h3 h4)
  refine ⟨W00_ok, z 0 (by decide) (by decide) (by decide) (by decide), z 1 (by decide) (by decide) (by decide) (by decide), (h 2 (by decide)).trans rfl, z 3 (by decide) (by decide) (by decide) (by decide), z 4 (by decide) (by decide) (by decide) (by decide), ⟨z 5 (by decide) (by decide) (by decide) (by decide), (h 6 (by decide)).trans rfl, (h 7 (by decide)).trans rfl, z 8 (by decide) (by decide) (by decide) (by decide), z 9 (by decide) (by decide) (by decide) (by decide), fun k hk => ?_, fun k hk => ?_⟩, fun i h => absurd h (Nat.not_lt_zero _), fun i h => absurd h (Nat.not_lt_zero _), fun i h => absurd h (Nat.not_lt_zero _)⟩
  · show f _ = nI (s00 (5 + k))
    rw [s00_n (by omega) (by omega)]
    exact z _ (by omega) (by omega) (by omega) (by omega)
  · show f _ = nI (s00 (12 + k))
    rw [s00_n (by omega) (by omega)]
    exact z _ (by omega) (by omega) (by omega) (by omega)
theorem lN_m1 {x : Nat} (hx : x < 2 ^ 63) : ¬ (-1 : Int64) = lN x := fun h => by
  have h1 : (-1 : Int64).toBitVec.toNat = (lN x).toBitVec.toNat := by rw [h]
  rw [lN_tb, BitVec.toNat_ofNat, Nat.mod_eq_of_lt (by omega), show (-1 : Int64).toBitVec.toNat = 18446744073709551615 by decide] at h1
  omega
theorem Inv_00 : Inv z_v0 := by
  have ok : okQ q00 := ⟨Nat.le_refl _, Nat.zero_le _, fun j h => absurd h (Nat.not_lt_zero _)⟩
  refine ⟨⟨q00, ⟨ok, RC_00 0, RC_00 1, fun k h => absurd h (Nat.not_lt_zero _), fun k h => absurd h (Nat.not_lt_zero _), rfl, fun j h => absurd h (Nat.not_lt_zero _), Or.inl ⟨rfl, rfl, rfl⟩⟩, ⟨ok, RRf_00 (fun k _ => rfl), RRf_00 (fun k hk => ?_), fun k h => absurd h (Nat.not_lt_zero _), rfl, fun j h => absurd h (Nat.not_lt_zero _), rfl, rfl, rfl⟩⟩, fun N _ _ hN _ _ h _ _ => absurd h (lN_m1 (kN63 hN)), fun N hN h => absurd h (lN_m1 (kN63 hN)), fun N hN h => absurd h (lN_m1 (kN63 hN)), fun N hN h => absurd h (lN_m1 (kN63 hN)), fun N hN h => absurd h (lN_m1 (kN63 hN)), fun N hN h => absurd h (lN_m1 (kN63 hN))⟩
  show cond (Nat.blt k 1218) (z_a0 k) 0 = z_a0 k
  rw [show Nat.blt k 1218 = true from Nat.ble_eq_true_of_le hk]
  rfl
/-- words of the tables that a call's callee can't be asked for -/
def z_hav (kj : Nat) (w : Cond) : Bool := match (z_chunk (kj / 1000))[kj % 1000]? with
  | some x => decide (x = w)
  | none => false
theorem z_hav_in {kj : Nat} {w : Cond} (h : z_hav kj w = true) : w ∈ lw_tbl := by
  unfold z_hav at h
  split at h
  · rename_i x hx
    have e := of_decide_eq_true h
    subst e
    exact z_chunk_in _ _ (List.mem_of_getElem? hx)
  · exact absurd h Bool.false_ne_true
section LW2
variable {s : State} {args : Array Value}
theorem lw_nFn (h : ∀ w ∈ lw_tbl, w.before args s = true) : nFn s := by
  have nm : ∀ {w : Cond}, w.onTables = true → w ∈ lw_tbl → va_Nw w s := fun ho hw => va_Nw.of ho (h _ hw)
  refine ⟨⟨nm rfl (z_hav_in (kj := 1037) (by decide +kernel)), nm rfl (z_hav_in (kj := 1081) (by decide +kernel)), nm rfl (z_hav_in (kj := 1099) (by decide +kernel)), va_AO.of (h (.arrayOver (.object "FareNumbers$Text")) (z_hav_in (kj := 1077) (by decide +kernel))), va_AO.of (h (.arrayOver (.object "FareNumbers$Standing")) (z_hav_in (kj := 1078) (by decide +kernel)))⟩, nm rfl (z_hav_in (kj := 1205) (by decide +kernel)), nm rfl (z_hav_in (kj := 1208) (by decide +kernel)), nm rfl (z_hav_in (kj := 2013) (by decide +kernel)), nm rfl (z_hav_in (kj := 2067) (by decide +kernel)), nm rfl (z_hav_in (kj := 2122) (by decide +kernel)), nm rfl (z_hav_in (kj := 2158) (by decide +kernel)), nm rfl (z_hav_in (kj := 2204) (by decide +kernel)), over_moved (Vm.Alike.refl _) (h _ (z_hav_in (kj := 2127) (by decide +kernel)))⟩
theorem lw_arr {ty : FieldType} (hp : ∀ C, ty ≠ .object C) (h : (Cond.arrayClass ty).before args s = true) : ∃ c : ClassId, ArrOfT s c ty ∧ va_RA s c ty := by
  obtain ⟨c, k, comp, h1, h2, h3⟩ := Cond.arrayClass_spec h
  refine ⟨c, fun n z => ⟨fun x y => (by cases y), k, h2, comp, h3⟩, ?_⟩
  cases ty with
  | object C => exact absurd rfl (hp C)
  | _ => exact h1
theorem lw_arrq {C : String} (h : (Cond.arrayOver (.object C)).before args s = true) : ∃ c : ClassId, ArrOfT s c (.object C) ∧ va_RA s c (.object C) := by
  obtain ⟨comp, c, k, h1, h2, h3, h4, h5⟩ := Cond.arrayOver_spec h
  exact ⟨c, fun n z => ⟨fun x y => (by cases y), k, h3, comp, h4⟩, k, comp, h3, h4, h1, h5⟩
theorem lw_arra {t : FieldType} (h : (Cond.arrayOver (.array t)).before args s = true) : ∃ c : ClassId, ArrOfT s c (.array t) ∧ va_RA s c (.array t) := by
  obtain ⟨comp, c, k, h1, h2, h3, h4, h5⟩ := arrayOverA_spec h
  exact ⟨c, fun n z => ⟨fun x y => (by cases y), k, h3, comp, h4⟩, h5⟩
theorem lw_K (h : ∀ w ∈ lw_tbl, w.before args s = true) : ∃ (tc : Nat → ClassId) (D : va_G), va_K D vwCl (z_tys tc) s := by
  have hB : ∀ w ∈ z_TB, w.before args s = true := fun w hw => h w (z_TB_good w hw).1
  have hc : ∀ k : Nat, ∃ q : ClassId × (Nat → Nat), ∀ r : vw_C, vwCl[k]? = some r → u_Kn s r.1 r.2.1 r.2.2 q.1 q.2 := by
    intro k
    by_cases hk : k < 12
    · rcases (show k = 0 ∨ k = 1 ∨ k = 2 ∨ k = 3 ∨ k = 4 ∨ k = 5 ∨ k = 6 ∨ k = 7 ∨ k = 8 ∨ k = 9 ∨ k = 10 ∨ k = 11 by omega) with rfl | rfl | rfl | rfl | rfl | rfl | rfl | rfl | rfl | rfl | rfl | rfl
      · obtain ⟨x, y, z⟩ := u_known (C := RX0) (T := TX0) (N := 8) (n := 8) hB z_lw_0 (hB _ (z_has_in (kj := 2012) (by decide +kernel)))
        exact ⟨(x, y), fun r hr => by
          cases hr
          exact z⟩
      · obtain ⟨x, y, z⟩ := u_known (C := RX1) (T := TX1) (N := 15) (n := 15) hB z_lw_1 (hB _ (z_has_in (kj := 2066) (by decide +kernel)))
        exact ⟨(x, y), fun r hr => by
          cases hr
          exact z⟩
      · obtain ⟨x, y, z⟩ := u_known (C := RX2) (T := TX2) (N := 8) (n := 8) hB z_lw_2 (hB _ (z_has_in (kj := 2121) (by decide +kernel)))
        exact ⟨(x, y), fun r hr => by
          cases hr
          exact z⟩
      · obtain ⟨x, y, z⟩ := u_known (C := RX3) (T := TX3) (N := 11) (n := 11) hB z_lw_3 (hB _ (z_has_in (kj := 1207) (by decide +kernel)))
        exact ⟨(x, y), fun r hr => by
          cases hr
          exact z⟩
      · obtain ⟨x, y, z⟩ := u_known (C := RX4) (T := TX4) (N := 7) (n := 7) hB z_lw_4 (hB _ (z_has_in (kj := 1036) (by decide +kernel)))
        exact ⟨(x, y), fun r hr => by
          cases hr
          exact z⟩
      · obtain ⟨x, y, z⟩ := u_known (C := RX5) (T := TX5) (N := 4) (n := 4) hB z_lw_5 (hB _ (z_has_in (kj := 1080) (by decide +kernel)))
        exact ⟨(x, y), fun r hr => by
          cases hr
          exact z⟩
      · obtain ⟨x, y, z⟩ := u_known (C := RX6) (T := TX6) (N := 10) (n := 10) hB z_lw_6 (hB _ (z_has_in (kj := 1098) (by decide +kernel)))
        exact ⟨(x, y), fun r hr => by
          cases hr
          exact z⟩
      · obtain ⟨x, y, z⟩ := u_known (C := RX7) (T := TX7) (N := 3) (n := 3) hB z_lw_7 (hB _ (z_has_in (kj := 2203) (by decide +kernel)))
        exact ⟨(x, y), fun r hr => by
          cases hr
          exact z⟩
      · obtain ⟨x, y, z⟩ := u_known (C := RX8) (T := TX8) (N := 11) (n := 11) hB z_lw_8 (hB _ (z_has_in (kj := 2157) (by decide +kernel)))
        exact ⟨(x, y), fun r hr => by
          cases hr
          exact z⟩
      · obtain ⟨x, y, z⟩ := u_known (C := RX9) (T := TX9) (N := 14) (n := 14) hB z_lw_9 (hB _ (z_has_in (kj := 1030) (by decide +kernel)))
        exact ⟨(x, y), fun r hr => by
          cases hr
          exact z⟩
      · obtain ⟨x, y, z⟩ := u_known (C := RX10) (T := TX10) (N := 10) (n := 10) hB z_lw_10 (hB _ (z_has_in (kj := 1022) (by decide +kernel)))
        exact ⟨(x, y), fun r hr => by
          cases hr
          exact z⟩
      · obtain ⟨x, y, z⟩ := u_known (C := RX11) (T := TX11) (N := 38) (n := 38) hB z_lw_11 (hB _ (z_has_in (kj := 6067) (by decide +kernel)))
        exact ⟨(x, y), fun r hr => by
          cases hr
          exact z⟩
    · exact ⟨(0, fun _ => 0), fun r hr => by
        have := (List.getElem?_eq_some_iff.mp hr).1
        exact absurd this (by show ¬ k < 12; exact hk)⟩
  obtain ⟨g, hg⟩ := Classical.axiomOfChoice hc
  obtain ⟨c0, a0⟩ := lw_arr (ty := .int) (fun C z => by cases z) (hB _ (z_has_in (kj := 1075) (by decide +kernel)))
  obtain ⟨c1, a1⟩ := lw_arr (ty := .long) (fun C z => by cases z) (hB _ (z_has_in (kj := 6190) (by decide +kernel)))
  obtain ⟨c2, a2⟩ := lw_arr (ty := .byte) (fun C z => by cases z) (hB _ (z_has_in (kj := 2010) (by decide +kernel)))
  obtain ⟨c3, a3⟩ := lw_arr (ty := .boolean) (fun C z => by cases z) (hB _ (z_has_in (kj := 6191) (by decide +kernel)))
  obtain ⟨c4, a4⟩ := lw_arrq (C := "FareNumbers$Text") (h _ (z_hav_in (kj := 1077) (by decide +kernel)))
  obtain ⟨c5, a5⟩ := lw_arrq (C := "FareNumbers$Standing") (h _ (z_hav_in (kj := 1078) (by decide +kernel)))
  obtain ⟨c6, a6⟩ := lw_arra (t := .int) (h _ (z_hav_in (kj := 2127) (by decide +kernel)))
  refine ⟨fun k => match k with
    | 0 => c0
    | 1 => c1
    | 2 => c2
    | 3 => c3
    | 4 => c4
    | 5 => c5
    | _ => c6, (fun k => (g k).1, fun k => (g k).2), fun k r hr => hg k r hr, fun k x hx => ?_⟩
  have hk : k < 7 := (List.getElem?_eq_some_iff.mp hx).1
  rcases (show k = 0 ∨ k = 1 ∨ k = 2 ∨ k = 3 ∨ k = 4 ∨ k = 5 ∨ k = 6 by omega) with rfl | rfl | rfl | rfl | rfl | rfl | rfl
  · cases hx
    exact a0
  · cases hx
    exact a1
  · cases hx
    exact a2
  · cases hx
    exact a3
  · cases hx
    exact a4
  · cases hx
    exact a5
  · cases hx
    exact a6
/-- the word that says a byte of the text -/
def lw_wd (j : Nat) : Cond := .eq (.elem (.field (.string RX3 150) "java/lang/String" "value" "[B") (.int (Int32.ofNat j))) (.int ((([z_WD] : List (List Int32)).getD 0 []).getD j 0))
theorem lw_run : (List.range 189).map lw_wd = ((flatC (Jvm.Cond.and given_1 narrow_1)).drop 37).take 189 := by decide +kernel
def z_fc (k : Nat) (w : Cond) : Bool := decide ((flatC (Jvm.Cond.and given_1 narrow_1))[k]? = some w)
theorem z_fc_in {k : Nat} {w : Cond} (h : z_fc k w = true) : w ∈ flatC (Jvm.Cond.and given_1 narrow_1) := List.mem_of_getElem? (of_decide_eq_true h)
theorem lw_SC (h : ∀ w ∈ lw_tbl, w.before args s = true) (hg : (Jvm.Cond.and given_1 narrow_1).before args s = true) : ∃ a : Nat, z_SC (fun q : Nat => s.heap.size ≤ q) a s s.heap := by
  have hf := flat_of_before _ hg
  have hA : ∀ a : Nat, a < s.heap.size → ¬ (fun q : Nat => s.heap.size ≤ q) a := fun a ha => Nat.not_le.mpr ha
  obtain ⟨adK, adV, hS, hE⟩ := vk_Sof (args := args) (s := s) (N := 1) (tm := fun _ => .string RX3 150) (len := [189]) (byt := [z_WD]) (A := fun q : Nat => s.heap.size ≤ q)
    (fun i hi => by obtain rfl : i = 0 := by omega
                    decide)
    (fun i _ => hf _ (z_fc_in (k := 33) (by decide +kernel))) (fun i _ => hf _ (z_fc_in (k := 34) (by decide +kernel))) (fun i _ => hf _ (z_fc_in (k := 35) (by decide +kernel)))
    (fun i hi => by obtain rfl : i = 0 := by omega
                    exact hf _ (z_fc_in (k := 36) (by decide +kernel)))
    (fun i hi j hj => by obtain rfl : i = 0 := by omega
                         exact hf _ (va_run (f := lw_wd) lw_run j hj))
    (fun i j hi hj hij => absurd (show i = j by omega) hij) hA
  refine ⟨adK 0, vk_R.of (h _ (z_hav_in (kj := 3052) (by decide +kernel))) (hE 0 (by decide)), ⟨adV, fun i hi => ?_, fun i j hi hj _ => by omega⟩, va_Zof (h _ (z_hav_in (kj := 3062) (by decide +kernel))) (h _ (z_hav_in (kj := 1013) (by decide +kernel))) (va_eqi (hf _ (z_fc_in (k := 4) (by decide +kernel)))) hA, va_Zqof (h _ (z_hav_in (kj := 3070) (by decide +kernel))) (h _ (z_hav_in (kj := 1015) (by decide +kernel))) (hf _ (z_fc_in (k := 5) (by decide +kernel))) hA⟩
  obtain rfl : i = 0 := by omega
  exact hS.1 0 (by decide)
end LW2
