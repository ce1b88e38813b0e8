/-! objects made: the start of the small machine's state, cells by their names, worlds side by side -/
def z_a0 (k : Nat) : Int32 := cond (Nat.beq k 6) 439 (cond (Nat.beq k 7) 50 (cond (Nat.beq k 2) (-1) 0))
def z_i0 (t k : Nat) : Int32 := cond (Nat.beq t 3) (cond (Nat.beq k 4) (-1) 0) (cond (Nat.beq t 4) (cond (Nat.beq k 4) 50 (cond (Nat.beq k 6) 439 0)) (cond (Nat.beq t 9) (cond (Nat.beq k 10) (-1) 0) (cond (Nat.beq t 11) (cond (Nat.beq k 5) (-1) (cond (Nat.beq k 6) (-1) (cond (Nat.beq k 23) 1 0))) (cond (Nat.beq t 1200) (z_a0 k) (cond (Nat.beq t 1201) (cond (Nat.blt k 1218) (z_a0 k) 0) 0)))))
def z_l0 (t k : Nat) : Int64 := cond (Nat.beq t 1) (cond (Nat.beq k 3) (-1) (cond (Nat.beq k 4) (-1) 0)) (cond (Nat.beq t 2) (cond (Nat.beq k 4) (-1) 0) (cond (Nat.beq t 8) (cond (Nat.beq k 9) (-1) (cond (Nat.beq k 10) (-1) 0)) 0))
def z_v0 : z_V := (fun t _ k => z_i0 t k, (fun t _ k => z_l0 t k, 0))
def zc (tc : Nat → ClassId) (a : Nat × Nat → Nat) (q : Nat × Nat) : Nat × va_E := (a q, z_cell tc a z_v0 q)
def zW (tc : Nat → ClassId) (a : Nat × Nat → Nat) (L : List (Nat × Nat)) : va_W := L.map (zc tc a)
/-- the cells that a cell names -/
def z_rfs (q : Nat × Nat) : List (Nat × Nat) := if q.1 < 12 then (List.range (z_nf q.1)).filterMap (fun k => if z_fk q.1 k = 2 then z_FF q.1 q.2 k else none) else if z_kd q.1 = 4 then (List.range (z_ln q.1)).filterMap (fun k => z_FF q.1 q.2 k) else []
theorem z_fvl_cg {a ad : Nat × Nat → Nat} {t n k : Nat} (h : ∀ x, z_fk t k = 2 → z_FF t n k = some x → ad x = a x) : z_fvl ad z_v0 t n k = z_fvl a z_v0 t n k := by
  unfold z_fvl
  split
  · rfl
  · rfl
  · rfl
  · rename_i e
    cases hF : z_FF t n k with
    | none => rfl
    | some x => exact congrArg Value.ref (h x e hF)
  · rfl
theorem z_kd9 : ∀ q ∈ z_MK, ¬ q.1 < 12 → z_kd q.1 ≠ 9 := by decide +kernel
theorem z_arr_cg {cA : ClassId} {n : Nat} {f g : Nat → Option Nat} (h : ∀ k, k < n → f k = g k) : vp_cell cA (n, .inr (.inr (.inr (.inr f)))) = vp_cell cA (n, .inr (.inr (.inr (.inr g)))) := by
  rw [vp_cell_q, vp_cell_q]
  unfold arrV
  congr 2
  funext j
  exact congrArg va_rf (h j.val j.isLt)
theorem z_at_cg {D : va_G} {cl : List vw_C} {tc : Nat → ClassId} {a ad : Nat × Nat → Nat} {q : Nat × Nat} {H : Heap} (hq : q ∈ z_MK) (h : va_at D cl (zc tc a q) H) (h0 : ad q = a q) (hr : ∀ x ∈ z_rfs q, ad x = a x) : va_at D cl (zc tc ad q) H := by
  obtain ⟨t, n⟩ := q
  unfold zc at h ⊢
  rw [h0]
  unfold z_rfs at hr
  by_cases hb : t < 12
  · rw [if_pos hb] at hr
    rw [z_cell_o hb] at h ⊢
    have e : (List.range (z_nf t)).map (z_fvl ad z_v0 t n) = (List.range (z_nf t)).map (z_fvl a z_v0 t n) := List.map_congr_left (fun k hk => z_fvl_cg (fun x e1 e2 => hr x (List.mem_filterMap.mpr ⟨k, hk, by rw [if_pos e1]; exact e2⟩)))
    rw [e]
    exact h
  · rw [if_neg hb] at hr
    have h9 := z_kd9 _ hq hb
    by_cases h1 : z_kd t = 1
    · rw [z_cell_l hq h1] at h ⊢
      exact h
    · by_cases h4 : z_kd t = 4
      · rw [if_pos h4] at hr
        rw [z_cell_q hq h4] at h ⊢
        have h : H[a (t, n)]? = some (vp_cell (tc (z_ty t)) (z_ln t, .inr (.inr (.inr (.inr (fun k => (z_FF t n k).map a)))))) := h
        show H[a (t, n)]? = some (vp_cell (tc (z_ty t)) (z_ln t, .inr (.inr (.inr (.inr (fun k => (z_FF t n k).map ad))))))
        rw [h]
        congr 1
        refine z_arr_cg (fun k hk => ?_)
        cases hF : z_FF t n k with
        | none => rfl
        | some x => exact congrArg some (hr x (List.mem_filterMap.mpr ⟨k, List.mem_range.mpr hk, hF⟩)).symm
      · rw [z_cell_i hq h1 h4 h9] at h ⊢
        exact h
/-- names whose cells name each other only -/
def ckL (L : List (Nat × Nat)) : Bool := L.all (fun q => decide (q ∈ z_MK) && (z_rfs q).all (fun x => decide (x ∈ L)))
theorem zW_P {D : va_G} {cl : List vw_C} {tc : Nat → ClassId} {a : Nat × Nat → Nat} {L : List (Nat × Nat)} {H : Heap} : va_P D cl (zW tc a L) H ↔ ∀ q ∈ L, va_at D cl (zc tc a q) H := by
  constructor
  · intro h q hq
    obtain ⟨i, hi⟩ := List.getElem?_of_mem hq
    exact h i _ (by unfold zW; rw [List.getElem?_map, hi]; rfl)
  · intro h k x hk
    obtain ⟨q, hq, rfl⟩ := List.mem_map.mp (List.mem_of_getElem? hk)
    exact h q hq
theorem zW_cv {D : va_G} {cl : List vw_C} {tc : Nat → ClassId} {a ad : Nat × Nat → Nat} {L : List (Nat × Nat)} {H : Heap} (hc : ckL L = true) (he : ∀ q ∈ L, ad q = a q) (h : va_P D cl (zW tc a L) H) : va_P D cl (zW tc ad L) H := by
  rw [zW_P] at h ⊢
  intro q hq
  have h1 := List.all_eq_true.mp hc q hq
  rw [Bool.and_eq_true, decide_eq_true_eq] at h1
  exact z_at_cg h1.1 (h q hq) (he q hq) (fun x hx => he x (of_decide_eq_true (List.all_eq_true.mp h1.2 x hx)))
theorem zW_ad {tc : Nat → ClassId} {a : Nat × Nat → Nat} {L : List (Nat × Nat)} : (zW tc a L).map (fun x => x.1) = L.map a := by
  unfold zW
  rw [List.map_map]
  rfl
theorem va_D_ad {A : Nat → Prop} {ws wt : va_W} (h : va_D A ws) (e : wt.map (fun x => x.1) = ws.map (fun x => x.1)) : va_D A wt := by
  have key : ∀ (k : Nat) (x : Nat × va_E), wt[k]? = some x → ∃ y : Nat × va_E, ws[k]? = some y ∧ y.1 = x.1 := by
    intro k x hk
    have h1 : (wt.map (fun x => x.1))[k]? = some x.1 := by rw [List.getElem?_map, hk]; rfl
    rw [e, List.getElem?_map] at h1
    cases hy : ws[k]? with
    | none => rw [hy] at h1; cases h1
    | some y => rw [hy] at h1; exact ⟨y, rfl, Option.some.inj h1⟩
  refine ⟨fun i j x y hi hj hxy => ?_, fun k x hk => ?_⟩
  · obtain ⟨x0, g1, g2⟩ := key i x hi
    obtain ⟨y0, g3, g4⟩ := key j y hj
    exact h.1 i j x0 y0 g1 g3 (g2.trans (hxy.trans g4.symm))
  · obtain ⟨x0, g1, g2⟩ := key k x hk
    rw [← g2]
    exact h.2 k x0 g1
theorem va_P_l {D : va_G} {cl : List vw_C} {w1 w2 : va_W} {H : Heap} (h : va_P D cl (w1 ++ w2) H) : va_P D cl w1 H := fun k x hk => h k x (by rw [List.getElem?_append_left (List.getElem?_eq_some_iff.mp hk).1]; exact hk)
theorem va_P_r {D : va_G} {cl : List vw_C} {w1 w2 : va_W} {H : Heap} (h : va_P D cl (w1 ++ w2) H) : va_P D cl w2 H := fun k x hk => h (w1.length + k) x (by rw [List.getElem?_append_right (by omega), Nat.add_sub_cancel_left]; exact hk)
/-- one cell said in another way -/
theorem va_P_rep {D : va_G} {cl : List vw_C} {ws : va_W} {H : Heap} {i a : Nat} {e0 e : va_E} (h : va_P D cl ws H) (hi : ws[i]? = some (a, e0)) (he : va_at D cl (a, e0) H → va_at D cl (a, e) H) : va_P D cl (ws.set i (a, e)) H := by
  have hl := (List.getElem?_eq_some_iff.mp hi).1
  intro k x hk
  by_cases hki : k = i
  · subst hki
    rw [List.getElem?_set_self hl] at hk
    cases hk
    exact he (h k _ hi)
  · rw [List.getElem?_set_ne (Ne.symm hki)] at hk
    exact h k x hk
theorem zn_join {A0 : Nat → Prop} {D : va_G} {cl : List vw_C} {ws w1 : va_W} {q : Nat} {e0 : va_E} {H H1 : Heap} (hP : va_P D cl (ws ++ [(q, e0)]) H) (hD : va_D A0 (ws ++ [(q, e0)])) (hk : ∀ x : Nat, x < H.size → ¬ va_A [(q, e0)] H.size x → H1[x]? = H[x]?) (hF : ∀ x, va_A [(q, e0)] H.size x → A0 x) (hP1 : va_P D cl w1 H1) (hD1 : va_D (va_A [(q, e0)] H.size) w1) : va_P D cl (ws ++ w1) H1 ∧ va_D A0 (ws ++ w1) := by
  have at0 : ∀ (k : Nat) (x : Nat × va_E), ws[k]? = some x → (ws ++ [(q, e0)])[k]? = some x := fun k x h => by
    rw [List.getElem?_append_left (List.getElem?_eq_some_iff.mp h).1]
    exact h
  have last : (ws ++ [(q, e0)])[ws.length]? = some (q, e0) := by
    rw [List.getElem?_append_right (Nat.le_refl _), Nat.sub_self]
    rfl
  have ap : ∀ (k : Nat) (x : Nat × va_E), ws[k]? = some x → x.1 < H.size ∧ ¬ va_A [(q, e0)] H.size x.1 := fun k x h => by
    have hl := (hP k x (at0 k x h)).lt
    refine ⟨hl, fun z => ?_⟩
    rcases z with ⟨k2, e, z⟩ | z
    · have hk2 : k2 < 1 := (List.getElem?_eq_some_iff.mp z).1
      have hk0 : k2 = 0 := by omega
      subst hk0
      have e1 : (q, e0) = (x.1, e) := Option.some.inj z
      have e2 : x.1 = q := (congrArg Prod.fst e1).symm
      have e3 := hD.1 k ws.length x (q, e0) (at0 k x h) last e2
      have := (List.getElem?_eq_some_iff.mp h).1
      omega
    · omega
  exact ⟨va_P.app (fun k x h => (hP k x (at0 k x h)).kept (hk _ (ap k x h).1 (ap k x h).2)) hP1, va_D.app ⟨fun i j x y hi hj e => hD.1 i j x y (at0 i x hi) (at0 j y hj) e, fun k x h => hD.2 k x (at0 k x h)⟩ (hD1.weaken (fun k x _ h => hF _ h)) (fun i j x y hi hj e => (ap i x hi).2 (by rw [e]; exact hD1.2 j y hj))⟩
theorem zn_ra {U : State} {ty : FieldType} {c1 c2 : ClassId} (h1 : va_RA U c1 ty) (h2 : va_RA U c2 ty) : c1 = c2 := by
  cases ty with
  | object C =>
    obtain ⟨_, _, _, _, _, e1⟩ := h1
    obtain ⟨_, _, _, _, _, e2⟩ := h2
    exact Option.some.inj (e1.symm.trans e2)
  | _ =>
    have e1 : U.vm.findClass _ = some c1 := h1
    exact Option.some.inj (e1.symm.trans h2)
section CN0
variable {p : Program} {l : Launch} {e : Env} {R : Room} {s : State} {m : MethodId} {args : Array Value} {below : List Frame} {meth : Method} {c : Code} {H : Heap} {locs : List Loc} {cells slots : Nat} {Q : State → Prop}
variable {cc : ByteArray} {pc : Nat} {ls : Array Slot} {rest : List Value} {D : va_G} {cl : List vw_C} {A : Nat → Prop} {tys : List (ClassId × FieldType)} {ws : va_W} {H0 : Heap}
/-- a new array, its class by its place in the tables -/
theorem zn_newa (hexec : p.tables.exec = Jvm.exec) (hb : c.code = cc) {atype : ArrayType} (harr : (Cond.arrayClass (newarray.typeOf atype)).before args s = true) {ty : FieldType} (hty : newarray.typeOf atype = ty) (hK : va_K D cl tys s) (hP : va_P D cl ws H) (hD : va_D A ws) (hS : va_S A H0 H locs) (hA : ∀ q, H0.size ≤ q → A q) (t0 : Nat) {cT : ClassId} (ht : tys[t0]? = some (cT, ty))
    {n : Int32} {N' : Nat} {a0 : vp_A} (ha : ∀ cA : ClassId, vp_cell cA a0 = arrV cA N' (fun _ => defaultValue ty)) (hn : ¬ n < 0) (hN : n.toNatClampNeg = N') (hbytes : N' * componentBytes ty ≤ 536870912) (hcells : cells + 1 ≤ R.cells) (hslots : slots + N' ≤ R.slots) (hdg : decode cc pc = .ok (.newarray atype, 2))
    (kk : ∀ (q : Nat) (H1 : Heap), va_P D cl (ws ++ [(q, .inl (cT, a0))]) H1 → va_D A (ws ++ [(q, .inl (cT, a0))]) → va_S A H0 H1 locs → W p l e R s m args below meth c H1 locs (cells + 1) (slots + N') Q (F0 m (pc + 2) ls (.ref q :: rest))) : W p l e R s m args below meth c H locs cells slots Q (F0 m pc ls (.int n :: rest)) :=
  va_newa hexec hb harr hty hK hP hD hS hA ha hn hN hbytes hcells hslots hdg (fun q cA H1 hK1 hP1 hD1 hS1 => by
    have h1 := (hK1.2 tys.length (cA, ty) (by rw [List.getElem?_append_right (Nat.le_refl _), Nat.sub_self]; rfl)).2
    obtain rfl : cA = cT := zn_ra h1 (hK.2 t0 _ ht).2
    exact kk q H1 hP1 hD1 hS1)
theorem zn_newq (hexec : p.tables.exec = Jvm.exec) (hb : c.code = cc) {own C : String} {index : Nat} (hown : s.vm.findClass own = some m.cls) (hclink : (Cond.classLink own index C).before args s = true) (hover : va_AO C s) (hK : va_K D cl tys s) (hP : va_P D cl ws H) (hD : va_D A ws) (hS : va_S A H0 H locs) (hA : ∀ q, H0.size ≤ q → A q) (t0 : Nat) {cT : ClassId} (ht : tys[t0]? = some (cT, .object C))
    {n : Int32} {N' : Nat} (hn : ¬ n < 0) (hN : n.toNatClampNeg = N') (hbytes : N' * 4 ≤ 536870912) (hcells : cells + 1 ≤ R.cells) (hslots : slots + N' ≤ R.slots) (hdg : decode cc pc = .ok (.anewarray index, 3))
    (kk : ∀ (q : Nat) (H1 : Heap), va_P D cl (ws ++ [(q, .inl (cT, N', .inr (.inr (.inr (.inr (fun _ => none))))))]) H1 → va_D A (ws ++ [(q, .inl (cT, N', .inr (.inr (.inr (.inr (fun _ => none))))))]) → va_S A H0 H1 locs →
      W p l e R s m args below meth c H1 locs (cells + 1) (slots + N') Q (F0 m (pc + 3) ls (.ref q :: rest))) : W p l e R s m args below meth c H locs cells slots Q (F0 m pc ls (.int n :: rest)) :=
  va_newq hexec hb hown hclink hover hK hP hD hS hA hn hN hbytes hcells hslots hdg (fun q cA H1 hK1 hP1 hD1 hS1 => by
    have h1 := (hK1.2 tys.length (cA, .object C) (by rw [List.getElem?_append_right (Nat.le_refl _), Nat.sub_self]; rfl)).2
    obtain rfl : cA = cT := zn_ra h1 (hK.2 t0 _ ht).2
    exact kk q H1 hP1 hD1 hS1)
/-- behind a constructor's call: its cells stand where the new object stood -/
theorem zn_back {tc : Nat → ClassId} {L : List (Nat × Nat)} {x0 : Nat × Nat} {q mc ms : Nat} {e0 : va_E} {a : Array Value} {st0 : List Value} (hr : va_Run p l e R s m args below meth c H locs cells slots mc ms (F0 m pc ls st0) rest (va_Qv (fun g : Nat × Nat → Nat => g x0 = q) (fun g t => va_P D cl (zW tc g L) t.heap ∧ va_D (va_A [(q, e0)] H.size) (zW tc g L)) (va_A [(q, e0)] H.size) a) (va_A [(q, e0)] H.size)) (hP : va_P D cl (ws ++ [(q, e0)]) H) (hD : va_D A (ws ++ [(q, e0)])) (hS : va_S A H0 H locs) (hA : ∀ q, H0.size ≤ q → A q)
    (kk : ∀ (g : Nat × Nat → Nat) (H1 : Heap) (locs1 : List Loc), g x0 = q → va_P D cl (ws ++ zW tc g L) H1 → va_D A (ws ++ zW tc g L) → va_S A H0 H1 locs1 → W p l e R s m args below meth c H1 locs1 (cells + mc) (slots + ms) Q (F0 m (pc + 3) ls rest)) : W p l e R s m args below meth c H locs cells slots Q (F0 m pc ls st0) := by
  have hF : ∀ x, va_A [(q, e0)] H.size x → A x := fun x z => by
    rcases z with ⟨k2, e, z⟩ | z
    · have hk2 : k2 < 1 := (List.getElem?_eq_some_iff.mp z).1
      have hk0 : k2 = 0 := by omega
      subst hk0
      have e1 : (q, e0) = (x, e) := Option.some.inj z
      have e2 : q = x := congrArg Prod.fst e1
      rw [← e2]
      exact hD.2 ws.length (q, e0) (by rw [List.getElem?_append_right (Nat.le_refl _), Nat.sub_self]; rfl)
    · exact hA x (Nat.le_trans hS.1 z)
  refine va_callv hr hS (fun x _ h => hF x h) hF (fun g t H1 locs1 ht hvm hw hB hz1 hk1 hS1 => ?_)
  obtain ⟨hP1, hD1⟩ := hB
  rw [ht] at hP1
  obtain ⟨gP, gD⟩ := zn_join hP hD hk1 hF hP1 hD1
  exact kk g H1 locs1 hw gP gD hS1
end CN0
/-- a constructor's contract: from the new object alone to its cells, by their names -/
def zn_Pc (tc : Nat → ClassId) (D : va_G) (a : Nat) (fs : List Value) (X : State → Prop) (h0 sz : Nat) : Array Value → State → Prop := va_Pc [.ref h0] (fun U => U.heap.size = sz ∧ va_P D vwCl [(h0, .inr (a, fs))] U.heap ∧ va_K D vwCl (z_tys tc) U ∧ X U)
def zn_Qc (tc : Nat → ClassId) (D : va_G) (a : Nat) (fs : List Value) (L : List (Nat × Nat)) (x0 : Nat × Nat) (h0 sz : Nat) : Array Value → State → Outcome → State → Prop := va_Qv (fun g : Nat × Nat → Nat => g x0 = h0) (fun g t => va_P D vwCl (zW tc g L) t.heap ∧ va_D (va_A [(h0, .inr (a, fs))] sz) (zW tc g L)) (va_A [(h0, .inr (a, fs))] sz)
theorem zn_D1 {h0 sz : Nat} {e0 : va_E} : va_D (va_A [(h0, e0)] sz) [(h0, e0)] := by
  have k1 : ∀ (k : Nat) (x : Nat × va_E), [(h0, e0)][k]? = some x → k = 0 ∧ x = (h0, e0) := fun k x z => by
    have hk : k < 1 := (List.getElem?_eq_some_iff.mp z).1
    have hk0 : k = 0 := by omega
    subst hk0
    exact ⟨rfl, (Option.some.inj z).symm⟩
  refine ⟨fun i j x y hi hj _ => (k1 i x hi).1.trans (k1 j y hj).1.symm, fun k x hk => ?_⟩
  rw [(k1 k x hk).2]
  exact Or.inl ⟨0, e0, rfl⟩
theorem zn_blind {tc : Nat → ClassId} {D : va_G} {a : Nat} {fs : List Value} {X : State → Prop} {h0 sz : Nat} (hX : ∀ u U : State, u.vm = U.vm → X u → X U) : FrameBlind (zn_Pc tc D a fs X h0 sz) := by
  intro x U g mk q
  obtain ⟨q0, q1, q2, q3, q4⟩ := q
  exact ⟨q0, q1, q2, va_K.moved (u := U) (U := U.calling g mk x) (Vm.Alike.refl U.vm) q3, hX U _ rfl q4⟩
theorem zn_pre {tc : Nat → ClassId} {D : va_G} {a : Nat} {fs : List Value} {X : State → Prop} {h0 : Nat} {s : State} {H : Heap} {ws : va_W} (hX : ∀ U : State, s.WarmedH U.vm → X U) (hK : va_K D vwCl (z_tys tc) s) (hP : va_P D vwCl (ws ++ [(h0, .inr (a, fs))]) H) : ∀ U : State, U.heap = H → s.WarmedH U.vm → zn_Pc tc D a fs X h0 H.size (Value.ref h0 :: []).toArray U := fun U hU hW => ⟨rfl, by rw [hU], by rw [hU]; exact va_P_r hP, va_K.moved hW.alike hK, hX U hW⟩
