/-! seven rows of seven ints, made at once: multianewarray -/
def mo (c : ClassId) (b i : Nat) : Cell := arrV c 7 (fun j => va_rf (if j < i then some (b + 1 + j) else none))
def mi (d : ClassId) : Cell := arrV d 7 (fun _ => .int 0)
theorem mo_s {c : ClassId} {b i : Nat} : (mo c b i).setSlot i (.ref (b + 1 + i)) = mo c b (i + 1) := by
  unfold mo
  rw [arrV_store]
  have e : updV (fun j => va_rf (if j < i then some (b + 1 + j) else none)) i (.ref (b + 1 + i)) = fun j => va_rf (if j < i + 1 then some (b + 1 + j) else none) := by
    funext j
    show (if j = i then Value.ref (b + 1 + i) else va_rf (if j < i then some (b + 1 + j) else none)) = va_rf (if j < i + 1 then some (b + 1 + j) else none)
    by_cases h : j = i
    · subst h
      rw [if_pos rfl, if_pos (Nat.lt_succ_self _)]
      rfl
    · rw [if_neg h]
      by_cases h2 : j < i
      · rw [if_pos h2, if_pos (Nat.lt_succ_of_lt h2)]
      · rw [if_neg h2, if_neg (by omega)]
  rw [e]
theorem mo_0 {c : ClassId} {b : Nat} : ({ cls := c, slots := Array.replicate 7 .null, vm := .none } : Cell) = mo c b 0 := by
  rw [arrV_new]
  unfold mo
  congr 1
/-- the state behind the first i rows -/
def mS (T : State) (c d : ClassId) : Nat → State
  | 0 => T.pushCell (mo c T.heap.size 0)
  | i + 1 => ((mS T c d i).pushCell (mi d)).setCell T.heap.size (mo c T.heap.size (i + 1))
theorem mS_f (T : State) (c d : ClassId) : ∀ i, (mS T c d i).heap.size = T.heap.size + 1 + i ∧ (mS T c d i).heap[T.heap.size]? = some (mo c T.heap.size i) ∧ (mS T c d i).vm = T.vm ∧ (mS T c d i).slotsUsed = T.slotsUsed + 7 + i * 7
  | 0 => ⟨by simp [mS], by simp [mS], rfl, by simp [mS, mo, arrV_size]⟩
  | i + 1 => by
    obtain ⟨a1, a2, a3, a4⟩ := mS_f T c d i
    have hlt : T.heap.size < (mS T c d i).heap.size := by omega
    have hc : ((mS T c d i).pushCell (mi d)).heap[T.heap.size]? = some (mo c T.heap.size i) := by
      rw [State.heap_pushCell_of_lt (h := hlt)]
      exact a2
    refine ⟨?_, State.heap_setCell_self hc, by simp [mS, a3], ?_⟩
    · simp [mS, State.setCell, a1]
      omega
    · simp [mS, a4, mi, arrV_size]
      omega
theorem mS_top (T : State) (f : JFrame) (c d : ClassId) : ∀ i, mS (T.setTop f) c d i = (mS T c d i).setTop f
  | 0 => rfl
  | i + 1 => by simp only [mS, mS_top T f c d i, State.heap_setTop, State.pushCell_setTop, State.setCell_setTop]
theorem mS_old (T : State) (c d : ClassId) {a : Nat} (ha : a < T.heap.size) : ∀ i, (mS T c d i).heap[a]? = T.heap[a]?
  | 0 => State.heap_pushCell_of_lt _ _ ha
  | i + 1 => by
    have f1 := (mS_f T c d i).1
    have hlt : a < (mS T c d i).heap.size := by omega
    show (((mS T c d i).pushCell (mi d)).setCell T.heap.size _).heap[a]? = _
    rw [State.heap_setCell_other (Nat.ne_of_gt ha), State.heap_pushCell_of_lt (h := hlt)]
    exact mS_old T c d ha i
theorem mS_in (T : State) (c d : ClassId) : ∀ i j, j < i → (mS T c d i).heap[T.heap.size + 1 + j]? = some (mi d)
  | 0, _, h => absurd h (Nat.not_lt_zero _)
  | i + 1, j, h => by
    have f1 := (mS_f T c d i).1
    show (((mS T c d i).pushCell (mi d)).setCell T.heap.size _).heap[T.heap.size + 1 + j]? = _
    rw [State.heap_setCell_other (show T.heap.size ≠ T.heap.size + 1 + j by omega)]
    by_cases hj : j < i
    · have hlt : T.heap.size + 1 + j < (mS T c d i).heap.size := by omega
      rw [State.heap_pushCell_of_lt (h := hlt)]
      exact mS_in T c d i j hj
    · rw [show T.heap.size + 1 + j = (mS T c d i).heap.size by omega]
      exact State.heap_pushCell_size _ _
section MU
variable {p : Program} {l : Launch} {e : Env} {R : Room} {s : State} {m : MethodId} {args : Array Value} {below : List Frame} {meth : Method} {c : Code} {T : State} {locs : List Loc} {cells slots : Nat}
theorem mS_X (X : Stand p l e R s m args below meth c T locs cells slots) (c6 c0 : ClassId) : ∀ i, ∃ L : List Loc, (∀ q ∈ L, q.base = T.heap.size) ∧ Stand p l e R s m args below meth c (mS T c6 c0 i) (locs ++ L) (cells + 1 + i) (slots + 7 + i * 7)
  | 0 => by
    have h := X.pushed (mo c6 T.heap.size 0)
    rw [show (mo c6 T.heap.size 0).slots.size = 7 from arrV_size _ _ _] at h
    refine ⟨[], fun q h => absurd h List.not_mem_nil, ?_⟩
    rw [List.append_nil]
    exact h
  | i + 1 => by
    obtain ⟨L, hL, Xi⟩ := mS_X X c6 c0 i
    obtain ⟨f1, f2, f3, f4⟩ := mS_f T c6 c0 i
    have hlt : T.heap.size < (mS T c6 c0 i).heap.size := by omega
    have hc : ((mS T c6 c0 i).pushCell (mi c0)).heap[T.heap.size]? = some (mo c6 T.heap.size i) := by
      rw [State.heap_pushCell_of_lt (h := hlt)]
      exact f2
    have h := (Xi.pushed (mi c0)).stored hc i (.ref (T.heap.size + 1 + i))
    rw [show (mi c0).slots.size = 7 from arrV_size _ _ _, mo_s, List.append_assoc] at h
    refine ⟨L ++ [⟨T.heap.size, i⟩], fun q hq => ?_, ?_⟩
    · rcases List.mem_append.mp hq with hq | hq
      · exact hL q hq
      · rw [List.mem_singleton.mp hq]
    · rw [show slots + 7 + (i + 1) * 7 = slots + 7 + i * 7 + 7 by omega]
      exact h
end MU
section MW
variable {E : CtlPost} {e : Env} {d : Bool} {acts : List Action} {s : State}
theorem mS_new {c comp : ClassId} {k : Class} {ty : FieldType} {v : Value} {Q : Addr → Pre} (hk : s.vm.classes[c]? = some k) (hkind : k.kind = .array comp ty) (hl : e.platform.arrayLengthLimit = 2147483645) (hh : e.platform.maxHeapBytes = 536870912) (hb : 7 * componentBytes ty ≤ 536870912) (hf : fits ty v = true) (h1 : s.heap.size < e.platform.maxCells) (h2 : s.slotsUsed + 7 ≤ e.platform.maxSlots) (hq : ∀ acts', Q s.heap.size d acts' (s.pushCell (arrV c 7 (fun _ => v)))) : wp (Jvm.newArray c 7 v) Q E e d acts s :=
  W.newArray_of hk hkind (by rw [hl]; omega) (by rw [hh]; omega) h1 h2 hf (fun a => by
    have := hq a
    rw [← arrV_new] at this
    exact this)
theorem mS_row {comp cc : ClassId} {kc : Class} (hkc : s.vm.classes[comp]? = some kc) (hkindc : kc.kind = .array cc .int) (hl : e.platform.arrayLengthLimit = 2147483645) (hh : e.platform.maxHeapBytes = 536870912) (h1 : s.heap.size < e.platform.maxCells) (h2 : s.slotsUsed + 7 ≤ e.platform.maxSlots) {Q : Addr → Pre} (hq : ∀ acts', Q s.heap.size d acts' (s.pushCell (mi comp))) : wp (multianewarray.make comp [7]) Q E e d acts s := by
  rw [multianewarray.make]
  have h7 : ¬ (7 : Int32) < 0 := by decide
  simp only [wp_bind', W.ite, h7, if_false, wp_pure', W.theClass, hkc, hkindc, Option.some.injEq, exists_eq_left']
  rw [show (7 : Int32).toNatClampNeg = 7 by decide +kernel]
  exact mS_new hkc hkindc hl hh (Nat.le_of_ble_eq_true rfl) rfl h1 h2 hq
theorem mS_make {c comp cc : ClassId} {k kc : Class} (hk : s.vm.classes[c]? = some k) (hkind : k.kind = .array comp (.array .int)) (hkc : s.vm.classes[comp]? = some kc) (hkindc : kc.kind = .array cc .int) (hl : e.platform.arrayLengthLimit = 2147483645) (hh : e.platform.maxHeapBytes = 536870912) (h1 : s.heap.size + 8 ≤ e.platform.maxCells) (h2 : s.slotsUsed + 56 ≤ e.platform.maxSlots) {Q : Addr → Pre} (hq : ∀ d' acts', Q s.heap.size d' acts' (mS s c comp 7)) : wp (multianewarray.make c [7, 7]) Q E e d acts s := by
  rw [multianewarray.make]
  have h7 : ¬ (7 : Int32) < 0 := by decide
  have h70 : ((7 : Int32) == 0) = false := by decide
  simp only [wp_bind', W.ite, h7, if_false, wp_pure', W.theClass, hk, hkind, Option.some.injEq, exists_eq_left']
  rw [show (7 : Int32).toNatClampNeg = 7 by decide +kernel]
  refine mS_new hk hkind hl hh (Nat.le_of_ble_eq_true rfl) rfl (by omega) (by omega) (fun acts1 => ?_)
  simp only [h70, Bool.false_eq_true, if_false, wp_bind', wp_pure', Std.Legacy.Range.forIn_eq_forIn_range']
  show wp (forIn (List.range' 0 7 1) PUnit.unit _) _ E e d acts1 _
  refine wp_forIn_inv (fun rest t => ∃ i, i ≤ 7 ∧ rest = List.range' i (7 - i) ∧ t = mS s c comp i) _ _ ⟨0, Nat.zero_le _, rfl, rfl⟩ ?_ ?_
  · rintro x rest t d1 acts2 Q1 ⟨i, hi, hr, rfl⟩ hn
    have hlt : i < 7 := by
      rcases Nat.lt_or_ge i 7 with h | h
      · exact h
      · rw [show 7 - i = 0 by omega] at hr
        cases hr
    rw [show 7 - i = 7 - (i + 1) + 1 by omega, List.range'_succ] at hr
    obtain ⟨rfl, hr⟩ := List.cons.inj hr
    obtain ⟨f1, f2, f3, f4⟩ := mS_f s c comp x
    simp only [wp_bind']
    refine mS_row (by rw [f3]; exact hkc) hkindc hl hh (by omega) (by omega) (fun acts3 => ?_)
    have hlt0 : s.heap.size < (mS s c comp x).heap.size := by omega
    have hc : ((mS s c comp x).pushCell (mi comp)).heap[s.heap.size]? = some (mo c s.heap.size x) := by
      rw [State.heap_pushCell_of_lt (h := hlt0)]
      exact f2
    simp only [wp_bind', W.writeLoc, wp_pure']
    refine ⟨mo c s.heap.size x, hc, (fun q => by cases q), ?_, ?_, hn _ _ _ ⟨x + 1, hlt, hr, ?_⟩⟩
    · rw [show (mo c s.heap.size x).slots.size = 7 from arrV_size _ _ _]
      exact hlt
    · simp [State.fitsSlot, State.slotType?, mo, arrV, f3, hk, hkind, fits]
    · rw [f1, mo_s]
      rfl
  · rintro t d1 acts2 ⟨i, hi, hr, rfl⟩
    have hi7 : i = 7 := by
      rcases Nat.lt_or_ge i 7 with h | h
      · rw [show 7 - i = 7 - (i + 1) + 1 by omega, List.range'_succ] at hr
        cases hr
      · omega
    subst hi7
    simp only [wp_pure']
    exact hq _ _
end MW
