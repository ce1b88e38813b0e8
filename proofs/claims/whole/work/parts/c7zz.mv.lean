/-! seven rows of seven ints as cells; the row of the machine; the constructor of Places -/
def mW (c6 c0 : ClassId) (q : Nat) : va_W := (q, .inl (c6, 7, .inr (.inr (.inr (.inr (fun j => some (q + 1 + j))))))) :: (List.range 7).map (fun j => (q + 1 + j, .inl (c0, 7, .inl (fun _ => 0))))
theorem mW_at {c6 c0 : ClassId} {q k : Nat} {x : Nat × va_E} (h : (mW c6 c0 q)[k]? = some x) : k < 8 ∧ x.1 = q + k := by
  cases k with
  | zero =>
    cases h
    exact ⟨by decide, rfl⟩
  | succ k =>
    have h : ((List.range 7).map (fun j => ((q + 1 + j, .inl (c0, 7, .inl (fun _ => 0))) : Nat × va_E)))[k]? = some x := h
    rw [List.getElem?_map] at h
    have hk : k < 7 := by
      rcases Nat.lt_or_ge k 7 with z | z
      · exact z
      · rw [List.getElem?_eq_none (by rw [List.length_range]; exact z)] at h
        cases h
    rw [List.getElem?_range hk] at h
    cases h
    exact ⟨by omega, by show q + 1 + k = q + (k + 1); omega⟩
section MV
variable {p : Program} {l : Launch} {e : Env} {R : Room} {s : State} {m : MethodId} {args : Array Value} {below : List Frame} {meth : Method} {c : Code} {H : Heap} {locs : List Loc} {cells slots : Nat} {Q : State → Prop}
variable {cc : ByteArray} {pc : Nat} {ls : Array Slot} {rest : List Value} {D : va_G} {cl : List vw_C} {A : Nat → Prop} {tys : List (ClassId × FieldType)} {ws : va_W} {H0 : Heap}
theorem zn_multi (hexec : p.tables.exec = Jvm.exec) (hb : c.code = cc) {own : String} {index : Nat} (hown : s.vm.findClass own = some m.cls) (hclink : (Cond.classLink own index "[[I").before args s = true) (hover : (Cond.arrayOver (.array .int)).before args s = true) (harr : (Cond.arrayClass .int).before args s = true) (hK : va_K D cl tys s) (t0 t6 : Nat) {c0 c6 : ClassId} (ht0 : tys[t0]? = some (c0, .int)) (ht6 : tys[t6]? = some (c6, .array .int)) (hP : va_P D cl ws H) (hD : va_D A ws) (hS : va_S A H0 H locs) (hA : ∀ q, H0.size ≤ q → A q) (hcells : cells + 8 ≤ R.cells) (hslots : slots + 56 ≤ R.slots) (hdg : decode cc pc = .ok (.multianewarray index 2, 4))
    (kk : ∀ (q : Nat) (H1 : Heap) (locs1 : List Loc), va_P D cl (ws ++ mW c6 c0 q) H1 → va_D A (ws ++ mW c6 c0 q) → va_S A H0 H1 locs1 → W p l e R s m args below meth c H1 locs1 (cells + 8) (slots + 56) Q (F0 m (pc + 4) ls (.ref q :: rest))) : W p l e R s m args below meth c H locs cells slots Q (F0 m pc ls (.int 7 :: .int 7 :: rest)) := by
  intro T hT X
  subst hT
  subst hb
  have hpl : e.platform.magicAccessors = ({} : Platform).magicAccessors := by rw [X.admits.platform]
  obtain ⟨comp, cA, kA, hcomp, -, hkA, hkindA, hnameA⟩ := arrayOverA_spec hover
  obtain ⟨comp2, kC, cc2, hcomp2, hkC, hkindC⟩ := Cond.arrayClass_spec harr
  obtain rfl : comp2 = comp := Option.some.inj (hcomp2.symm.trans hcomp)
  obtain ⟨c1, hfc, hcl⟩ := Cond.classLink_spec hown hclink e.platform hpl
  obtain rfl : cA = c1 := Option.some.inj (hnameA.symm.trans hfc)
  obtain rfl : cA = c6 := zn_ra (ty := .array .int) hnameA (hK.2 t6 _ ht6).2
  obtain rfl : comp2 = c0 := zn_ra (ty := .int) hcomp2 (hK.2 t0 _ ht0).2
  obtain ⟨hg, hwarm, hready⟩ := State.classEntry (e := e) X.warmed hcl
  generalize T.vm.noted m.cls index (.cls cA) = vm1 at hg hwarm hready
  have hal : s.vm.Alike vm1 := hwarm.alike
  obtain ⟨kA1, hkA1, heA⟩ := hal.2.2 _ _ hkA
  obtain ⟨kC1, hkC1, heC⟩ := hal.2.2 _ _ hkC
  have X1 := X.noted hwarm
  obtain ⟨L, hL, XF⟩ := mS_X X1 cA comp2 7
  obtain ⟨r1, r2⟩ := X.roomAbove hcells hslots
  obtain ⟨f1, f2, f3, f4⟩ := mS_f (T.setVm vm1) cA comp2 7
  have hlow : ∀ (k : Nat) (x : Nat × va_E), ws[k]? = some x → x.1 < T.heap.size := fun k x hx => (hP k x hx).lt
  have hP1 : va_P D cl (ws ++ mW cA comp2 T.heap.size) (mS (T.setVm vm1) cA comp2 7).heap := by
    refine va_P.app (hP.kept (fun k x hx => mS_old (T.setVm vm1) cA comp2 (hlow k x hx) 7)) (va_P_mem.mpr (fun x hx => ?_))
    rcases List.mem_cons.mp hx with rfl | hx
    · exact f2.trans (congrArg some (z_arr_cg (fun k hk => if_pos hk)))
    · obtain ⟨j, hj, rfl⟩ := List.mem_map.mp hx
      exact mS_in (T.setVm vm1) cA comp2 7 j (List.mem_range.mp hj)
  have hD1 : va_D A (ws ++ mW cA comp2 T.heap.size) := by
    refine va_D.app hD ⟨fun i j x y hi hj hxy => ?_, fun k x hx => hA _ ?_⟩ (fun i j x y hi hj hxy => ?_)
    · have h1 := mW_at hi
      have h2 := mW_at hj
      omega
    · have h1 := mW_at hx
      have h2 := hS.1
      omega
    · have h1 := hlow i x hi
      have h2 := mW_at hj
      omega
  have hS1 : va_S A H0 (mS (T.setVm vm1) cA comp2 7).heap (locs ++ L) := by
    refine ⟨Nat.le_trans hS.1 (by rw [f1]; show T.heap.size ≤ T.heap.size + 1 + 7; omega), fun q h1 h2 => ?_, fun q hq => ?_⟩
    · exact (mS_old (T.setVm vm1) cA comp2 (Nat.lt_of_lt_of_le h1 hS.1) 7).trans (hS.2.1 q h1 h2)
    · rcases List.mem_append.mp hq with hq | hq
      · exact hS.2.2 q hq
      · rw [hL q hq]
        exact hA _ hS.1
  obtain ⟨t, a1, b1⟩ := kk T.heap.size _ (locs ++ L) hP1 hD1 hS1 (mS (T.setVm vm1) cA comp2 7) rfl XF
  refine ⟨t, ?_, b1⟩
  jvm_step X.here [hexec, hdg]
  simp only [multianewarray.sem, wp_bind', W.resolveClassAt_links (State.method?_setTop (F0 m pc ls (.int 7 :: .int 7 :: rest)) X.here.top) hg]
  rw [W.popN, if_neg (by decide)]
  refine ⟨F0 m pc ls (.int 7 :: .int 7 :: rest), State.topJava?_setTop' (s := T.setVm vm1) _ X.here.top, [.int 7, .int 7], rest, rfl, rfl, ?_⟩
  simp only [List.mapM_cons, List.mapM_nil, wp_bind', wp_pure']
  refine mS_make (k := kA1) (kc := kC1) (comp := comp2) (cc := cc2) (by exact hkA1) (by rw [heA]; exact hkindA) (by exact hkC1) (by rw [heC]; exact hkindC) (Launch.admits_arrayLengthLimit X.admits) (Launch.admits_maxHeapBytes X.admits) (by exact r1) (by exact r2) (fun d1 acts1 => ?_)
  have eS : ((T.setTop (F0 m pc ls (.int 7 :: .int 7 :: rest))).setVm vm1).setTop (F0 m pc ls rest) = (T.setVm vm1).setTop (F0 m pc ls rest) := by
    show ((T.setVm vm1).setTop (F0 m pc ls (.int 7 :: .int 7 :: rest))).setTop _ = _
    rw [State.setTop_setTop]
  rw [eS, mS_top]
  simp only [wp_bind', W.mark, W.pushRef, State.topJava?_setTop' _ XF.here.top, Option.some.injEq, exists_eq_left', State.setTop_setTop, State.heap_setTop]
  intro acts2
  simp [jvm, XF.here.top]
  exact a1
end MV
