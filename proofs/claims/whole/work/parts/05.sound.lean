/-! the small machine against the real one: values, rows, places -/
theorem z_sI_i {stk : List z_AV} {f : Int32 → List z_AV → Prop} (h : z_sI stk f) : ∃ x r, stk = .inl x :: r ∧ f x r := by
  match stk, h with
  | .inl x :: r, h => exact ⟨x, r, rfl, h⟩
  | [], h => exact False.elim h
  | .inr _ :: _, h => exact False.elim h
theorem z_sL_i {stk : List z_AV} {f : Int64 → List z_AV → Prop} (h : z_sL stk f) : ∃ x r, stk = .inr (.inl x) :: r ∧ f x r := by
  match stk, h with
  | .inr (.inl x) :: r, h => exact ⟨x, r, rfl, h⟩
  | [], h => exact False.elim h
  | .inl _ :: _, h => exact False.elim h
  | .inr (.inr _) :: _, h => exact False.elim h
theorem z_sR_i {stk : List z_AV} {f : Option (Nat × Nat) → List z_AV → Prop} (h : z_sR stk f) : ∃ x r, stk = .inr (.inr x) :: r ∧ f x r := by
  match stk, h with
  | .inr (.inr x) :: r, h => exact ⟨x, r, rfl, h⟩
  | [], h => exact False.elim h
  | .inl _ :: _, h => exact False.elim h
  | .inr (.inl _) :: _, h => exact False.elim h
theorem z_rf_i {q : Option (Nat × Nat)} {f : Nat → Nat → Prop} (h : z_rf q f) : ∃ t n, q = some (t, n) ∧ f t n := by
  match q, h with
  | some (t, n), h => exact ⟨t, n, rfl, h⟩
  | none, h => exact False.elim h
theorem z_if_i {c : Bool} {T : Prop} (h : z_if c T) : c = true ∧ T := by
  match c, h with
  | true, h => exact ⟨rfl, h⟩
  | false, h => exact False.elim h
theorem z_if_k {c : Bool} {T : Prop} (hc : c = true) (h : T) : z_if c T := by
  subst hc
  exact h
theorem z_lI_i {l : List (Option z_AV)} {i : Nat} {f : Int32 → Prop} (h : z_lI l i f) : ∃ x, z_lget l i = some (.inl x) ∧ f x := by
  unfold z_lI at h
  split at h
  · rename_i x hx
    exact ⟨x, hx, h⟩
  · exact False.elim h
theorem z_lL_i {l : List (Option z_AV)} {i : Nat} {f : Int64 → Prop} (h : z_lL l i f) : ∃ x, z_lget l i = some (.inr (.inl x)) ∧ f x := by
  unfold z_lL at h
  split at h
  · rename_i x hx
    exact ⟨x, hx, h⟩
  · exact False.elim h
theorem z_lR_i {l : List (Option z_AV)} {i : Nat} {f : Option (Nat × Nat) → Prop} (h : z_lR l i f) : ∃ x, z_lget l i = some (.inr (.inr x)) ∧ f x := by
  unfold z_lR at h
  split at h
  · rename_i x hx
    exact ⟨x, hx, h⟩
  · exact False.elim h
/-- a value as the machine has it -/
def z_cv (ad : Nat × Nat → Nat) : z_AV → Value
  | .inl x => .int x
  | .inr (.inl x) => .long x
  | .inr (.inr none) => .null
  | .inr (.inr (some q)) => .ref (ad q)
def z_cnt (t : Nat) : Nat := z_as [(0, 1), (1, 1), (2, 2), (3, 1), (4, 63), (5, 2), (6, 8), (7, 1), (8, 1), (9, 2), (10, 1), (11, 1), (100, 1), (101, 1), (102, 1), (200, 1), (202, 1), (300, 2), (302, 2), (303, 2), (352, 14), (353, 14), (400, 1), (500, 63), (501, 63), (600, 2), (700, 8), (701, 8), (702, 8), (703, 8), (800, 1), (801, 1), (802, 1), (900, 1), (901, 1), (905, 1), (906, 1), (907, 1), (1001, 2), (1002, 2), (1003, 2), (1004, 2), (1005, 2), (1006, 2), (1200, 1), (1201, 1), (1202, 1), (1203, 1), (1215, 1), (1220, 1), (1221, 1), (1222, 1), (1225, 1), (1226, 1), (1227, 1), (1232, 1), (1233, 1), (1236, 1), (1237, 1)] t
def z_tags : List Nat := [0, 1, 2, 3, 4, 5, 6, 7, 8, 9, 10, 11, 100, 101, 102, 200, 202, 300, 302, 303, 352, 353, 400, 500, 501, 600, 700, 701, 702, 703, 800, 801, 802, 900, 901, 905, 906, 907, 1001, 1002, 1003, 1004, 1005, 1006, 1200, 1201, 1202, 1203, 1215, 1220, 1221, 1222, 1225, 1226, 1227, 1232, 1233, 1236, 1237]
/-- all cells -/
def z_MK : List (Nat × Nat) := z_tags.flatMap (fun t => (List.range (z_cnt t)).map (fun n => (t, n)))
theorem z_MK_nd : z_MK.Nodup := by decide +kernel
def z_lv (q : Nat × Nat) : Prop := q ∈ z_MK
theorem z_mem_MK {t n : Nat} (h1 : t ∈ z_tags) (h2 : n < z_cnt t) : (t, n) ∈ z_MK := List.mem_flatMap.mpr ⟨t, h1, List.mem_map.mpr ⟨n, List.mem_range.mpr h2, rfl⟩⟩
theorem z_of_MK {t n : Nat} (h : (t, n) ∈ z_MK) : t ∈ z_tags ∧ n < z_cnt t := by
  obtain ⟨t', h1, h2⟩ := List.mem_flatMap.mp h
  obtain ⟨n', h3, h4⟩ := List.mem_map.mp h2
  cases h4
  exact ⟨h1, List.mem_range.mp h3⟩
def z_lb (q : Option (Nat × Nat)) : Bool := match q with
  | some (t, n) => decide (t ∈ z_tags) && decide (n < z_cnt t)
  | none => false
theorem z_lb_i {q : Option (Nat × Nat)} (h : z_lb q = true) : ∃ x, q = some x ∧ x ∈ z_MK := by
  match q, h with
  | some (t, n), h =>
    simp only [z_lb, Bool.and_eq_true, decide_eq_true_eq] at h
    exact ⟨_, rfl, z_mem_MK h.1 h.2⟩
  | none, h => exact absurd h (by decide)
theorem z_FF_fld : ∀ q ∈ z_MK, ∀ k, k < z_nf q.1 → (!(Nat.beq (z_fk q.1 k) 2) || z_lb (z_FF q.1 q.2 k)) = true := by decide +kernel
theorem z_FF_arr : ∀ q ∈ z_MK, (!(Nat.beq (z_kd q.1) 4) || (List.range (z_ln q.1)).all (fun k => z_lb (z_FF q.1 q.2 k))) = true := by decide +kernel
theorem z_FF_f {t n k : Nat} (h : (t, n) ∈ z_MK) (hk : k < z_nf t) (h2 : z_fk t k = 2) : ∃ x, z_FF t n k = some x ∧ x ∈ z_MK := by
  have := z_FF_fld _ h k hk
  rw [show z_fk (t, n).1 k = 2 from h2] at this
  exact z_lb_i this
theorem z_FF_a {t n k : Nat} (h : (t, n) ∈ z_MK) (hk : k < z_ln t) (h2 : z_kd t = 4) : ∃ x, z_FF t n k = some x ∧ x ∈ z_MK := by
  have h3 := z_FF_arr _ h
  rw [show z_kd (t, n).1 = 4 from h2] at h3
  exact z_lb_i (List.all_eq_true.mp h3 k (List.mem_range.mpr hk))
def z_jq (j : Nat) : Option (Nat × Nat) := match j with
  | 0 => none
  | m + 1 => some (6, m)
def z_fvl (ad : Nat × Nat → Nat) (v : z_V) (t n k : Nat) : Value := match z_fk t k with
  | 0 => .int (gI v t n k)
  | 3 => .int (gI v t n k)
  | 1 => .long (gL v t n k)
  | 2 => z_cv ad (vQ (z_FF t n k))
  | _ => z_cv ad (vQ (z_jq (gJ v)))
def z_cell (tc : Nat → ClassId) (ad : Nat × Nat → Nat) (v : z_V) (q : Nat × Nat) : va_E := match Nat.blt q.1 12 with
  | true => .inr (q.1, (List.range (z_nf q.1)).map (z_fvl ad v q.1 q.2))
  | false => match z_kd q.1 with
    | 1 => .inl (tc 1, z_ln q.1, .inr (.inl (fun k => gL v q.1 q.2 k)))
    | 4 => .inl (tc (z_ty q.1), z_ln q.1, .inr (.inr (.inr (.inr (fun k => (z_FF q.1 q.2 k).map ad)))))
    | _ => .inl (tc (z_ty q.1), z_ln q.1, .inl (fun k => gI v q.1 q.2 k))
def z_tys (tc : Nat → ClassId) : List (ClassId × FieldType) := [(tc 0, .int), (tc 1, .long), (tc 2, .byte), (tc 3, .boolean), (tc 4, .object "FareNumbers$Text"), (tc 5, .object "FareNumbers$Standing"), (tc 6, .array .int)]
def z_ws (tc : Nat → ClassId) (ad : Nat × Nat → Nat) (v : z_V) : va_W := z_MK.map (fun q => (ad q, z_cell tc ad v q))
theorem z_ws_at {tc : Nat → ClassId} {ad : Nat × Nat → Nat} {v : z_V} {q : Nat × Nat} (h : q ∈ z_MK) : ∃ i, (z_ws tc ad v)[i]? = some (ad q, z_cell tc ad v q) ∧ ∀ (v' : z_V), (∀ q' ∈ z_MK, q' ≠ q → z_cell tc ad v' q' = z_cell tc ad v q') → (z_ws tc ad v).set i (ad q, z_cell tc ad v' q) = z_ws tc ad v' := by
  obtain ⟨i, hi⟩ := List.getElem?_of_mem h
  refine ⟨i, by simp [z_ws, hi], fun v' hv => ?_⟩
  apply List.ext_getElem?
  intro j
  rw [List.getElem?_set]
  by_cases hij : i = j
  · subst hij
    have hlt : i < (z_ws tc ad v).length := by
      have := (List.getElem?_eq_some_iff.mp hi).1
      simpa [z_ws] using this
    rw [if_pos rfl, if_pos hlt]
    simp [z_ws, hi]
  · rw [if_neg hij]
    cases hj : z_MK[j]? with
    | none => simp [z_ws, hj]
    | some q' =>
      have hne : q' ≠ q := by
        rintro rfl
        exact hij ((List.getElem?_inj (List.getElem?_eq_some_iff.mp hi).1 z_MK_nd).mp (hi.trans hj.symm))
      simp [z_ws, hj, hv q' (List.mem_of_getElem? hj) hne]
theorem z_D {tc : Nat → ClassId} {ad : Nat × Nat → Nat} {v : z_V} {A : Nat → Prop} (h1 : ∀ q ∈ z_MK, A (ad q)) (h2 : ∀ q ∈ z_MK, ∀ q' ∈ z_MK, ad q = ad q' → q = q') : va_D A (z_ws tc ad v) := by
  refine ⟨fun i j x y hx hy hxy => ?_, fun k x hx => ?_⟩
  · simp only [z_ws, List.getElem?_map, Option.map_eq_some_iff] at hx hy
    obtain ⟨q, hq, rfl⟩ := hx
    obtain ⟨q', hq', rfl⟩ := hy
    have := h2 q (List.mem_of_getElem? hq) q' (List.mem_of_getElem? hq') hxy
    subst this
    exact (List.getElem?_inj (List.getElem?_eq_some_iff.mp hq).1 z_MK_nd).mp (hq.trans hq'.symm)
  · simp only [z_ws, List.getElem?_map, Option.map_eq_some_iff] at hx
    obtain ⟨q, hq, rfl⟩ := hx
    exact h1 q (List.mem_of_getElem? hq)
/-- values that are there -/
def z_ok1 : z_AV → Prop
  | .inr (.inr (some q)) => q ∈ z_MK ∨ q = (99, 0)
  | _ => True
def z_oks : List z_AV → Prop
  | [] => True
  | x :: r => z_ok1 x ∧ z_oks r
def z_okr (r : Option z_AV) : Prop := match r with
  | some x => z_ok1 x
  | none => True
def z_okJ (v : z_V) : Prop := gJ v ≤ 8
theorem z_okJ_q {v : z_V} (h : z_okJ v) : ∀ x, z_jq (gJ v) = some x → x ∈ z_MK := by
  unfold z_okJ at h
  intro x hx
  unfold z_jq at hx
  split at hx
  · cases hx
  · rename_i m hm
    cases hx
    exact z_mem_MK (by decide) (by
      show m < 8
      omega)
theorem z_MK_arr {t n : Nat} (h : (t, n) ∈ z_MK) (hk : z_kd t ≠ 9) : Nat.blt t 12 = false := by
  have h2 : ∀ t ∈ z_tags, z_kd t = 9 ∨ Nat.blt t 12 = false := by decide +kernel
  exact (h2 t (z_of_MK h).1).resolve_left hk
theorem z_ty_kd {t n : Nat} (h : (t, n) ∈ z_MK) (hk : z_kd t ≠ 4) (hk9 : z_kd t ≠ 9) : z_ty t = z_kd t := by
  have h2 : ∀ t ∈ z_tags, z_kd t = 4 ∨ z_kd t = 9 ∨ z_ty t = z_kd t := by decide +kernel
  exact ((h2 t (z_of_MK h).1).resolve_left hk).resolve_left hk9
theorem z_ty_4 {t n : Nat} (h : (t, n) ∈ z_MK) (hk : z_kd t = 4) : z_ty t = 4 ∨ z_ty t = 5 ∨ z_ty t = 6 := by
  have h2 : ∀ t ∈ z_tags, z_kd t = 4 → z_ty t = 4 ∨ z_ty t = 5 ∨ z_ty t = 6 := by decide +kernel
  exact h2 t (z_of_MK h).1 hk
theorem z_cell_o {tc : Nat → ClassId} {ad : Nat × Nat → Nat} {v : z_V} {t n : Nat} (h : t < 12) : z_cell tc ad v (t, n) = .inr (t, (List.range (z_nf t)).map (z_fvl ad v t n)) := by
  unfold z_cell
  rw [show Nat.blt (t, n).1 12 = true from by simpa using h]
theorem z_cell_i {tc : Nat → ClassId} {ad : Nat × Nat → Nat} {v : z_V} {t n : Nat} (h : (t, n) ∈ z_MK) (h1 : z_kd t ≠ 1) (h4 : z_kd t ≠ 4) (h9 : z_kd t ≠ 9) : z_cell tc ad v (t, n) = .inl (tc (z_kd t), z_ln t, .inl (fun k => gI v t n k)) := by
  unfold z_cell
  rw [show Nat.blt (t, n).1 12 = false from z_MK_arr h h9]
  show (match z_kd t with
    | 1 => _
    | 4 => _
    | _ => _) = _
  rw [← z_ty_kd h h4 h9]
  split
  · rename_i e
    exact absurd (by rw [← z_ty_kd h h4 h9]; exact e) h1
  · rename_i e
    exact absurd (by rw [← z_ty_kd h h4 h9]; exact e) h4
  · rfl
theorem z_cell_l {tc : Nat → ClassId} {ad : Nat × Nat → Nat} {v : z_V} {t n : Nat} (h : (t, n) ∈ z_MK) (h1 : z_kd t = 1) : z_cell tc ad v (t, n) = .inl (tc 1, z_ln t, .inr (.inl (fun k => gL v t n k))) := by
  unfold z_cell
  rw [show Nat.blt (t, n).1 12 = false from z_MK_arr h (by rw [h1]; decide)]
  show (match z_kd t with
    | 1 => _
    | 4 => _
    | _ => _) = _
  rw [h1]
  rfl
theorem z_cell_q {tc : Nat → ClassId} {ad : Nat × Nat → Nat} {v : z_V} {t n : Nat} (h : (t, n) ∈ z_MK) (h1 : z_kd t = 4) : z_cell tc ad v (t, n) = .inl (tc (z_ty t), z_ln t, .inr (.inr (.inr (.inr (fun k => (z_FF t n k).map ad))))) := by
  unfold z_cell
  rw [show Nat.blt (t, n).1 12 = false from z_MK_arr h (by rw [h1]; decide)]
  show (match z_kd t with
    | 1 => _
    | 4 => _
    | _ => _) = _
  rw [h1]
  rfl
/-- what one write leaves alone -/
theorem gI_pI_ne {v : z_V} {t n k : Nat} {x : Int32} {t' n' k' : Nat} (h : ¬ (t' = t ∧ n' = n)) : gI (pI v t n k x) t' n' k' = gI v t' n' k' := if_neg (fun q => h ⟨q.1, q.2.2⟩)
theorem gI_pI {v : z_V} {t n k : Nat} {x : Int32} {k' : Nat} : gI (pI v t n k x) t n k' = if k' = k then x else gI v t n k' := by
  show (if t = t ∧ k' = k ∧ n = n then x else v.1 t n k') = _
  by_cases h : k' = k
  · rw [if_pos ⟨rfl, h, rfl⟩, if_pos h]
  · rw [if_neg (fun q => h q.2.1), if_neg h]; rfl
theorem gL_pI {v : z_V} {t n k : Nat} {x : Int32} {t' n' k' : Nat} : gL (pI v t n k x) t' n' k' = gL v t' n' k' := rfl
theorem gJ_pI {v : z_V} {t n k : Nat} {x : Int32} : gJ (pI v t n k x) = gJ v := rfl
theorem gL_pL_ne {v : z_V} {t n k : Nat} {x : Int64} {t' n' k' : Nat} (h : ¬ (t' = t ∧ n' = n)) : gL (pL v t n k x) t' n' k' = gL v t' n' k' := if_neg (fun q => h ⟨q.1, q.2.2⟩)
theorem gL_pL {v : z_V} {t n k : Nat} {x : Int64} {k' : Nat} : gL (pL v t n k x) t n k' = if k' = k then x else gL v t n k' := by
  show (if t = t ∧ k' = k ∧ n = n then x else v.2.1 t n k') = _
  by_cases h : k' = k
  · rw [if_pos ⟨rfl, h, rfl⟩, if_pos h]
  · rw [if_neg (fun q => h q.2.1), if_neg h]; rfl
theorem gI_pL {v : z_V} {t n k : Nat} {x : Int64} {t' n' k' : Nat} : gI (pL v t n k x) t' n' k' = gI v t' n' k' := rfl
theorem gJ_pL {v : z_V} {t n k : Nat} {x : Int64} : gJ (pL v t n k x) = gJ v := rfl
theorem gI_pJ {v : z_V} {j : Nat} {t' n' k' : Nat} : gI (pJ v j) t' n' k' = gI v t' n' k' := rfl
theorem gL_pJ {v : z_V} {j : Nat} {t' n' k' : Nat} : gL (pJ v j) t' n' k' = gL v t' n' k' := rfl
theorem gJ_pJ {v : z_V} {j : Nat} : gJ (pJ v j) = j := rfl
theorem z_cell_cong {tc : Nat → ClassId} {ad : Nat × Nat → Nat} {v v' : z_V} {q : Nat × Nat} (h1 : ∀ k, gI v' q.1 q.2 k = gI v q.1 q.2 k) (h2 : ∀ k, gL v' q.1 q.2 k = gL v q.1 q.2 k) (h3 : gJ v' = gJ v ∨ q.1 ≠ 3) : z_cell tc ad v' q = z_cell tc ad v q := by
  obtain ⟨t, n⟩ := q
  unfold z_cell
  have hf : ∀ k, k < z_nf t → z_fvl ad v' t n k = z_fvl ad v t n k := by
    intro k hk
    unfold z_fvl
    split
    · rw [h1]
    · rw [h1]
    · rw [h2]
    · rfl
    · rename_i e0 e3 e1 e2
      rcases h3 with h3 | h3
      · rw [h3]
      · have h9 : t < 12 → ∀ k, k < z_nf t → t ≠ 3 → z_fk t k = 0 ∨ z_fk t k = 3 ∨ z_fk t k = 1 ∨ z_fk t k = 2 := by
          have : ∀ t, t < 12 → ∀ k, k < z_nf t → t ≠ 3 → z_fk t k = 0 ∨ z_fk t k = 3 ∨ z_fk t k = 1 ∨ z_fk t k = 2 := by decide +kernel
          exact this t
        by_cases ht : t < 12
        · rcases h9 ht k hk h3 with h | h | h | h
          · exact absurd h e0
          · exact absurd h e3
          · exact absurd h e1
          · exact absurd h e2
        · exact absurd hk (by
            unfold z_nf
            have : ∀ (l : List (List Nat)) (a : Nat), l.length ≤ a → z_nth2 l a = [] := by
              intro l
              induction l with
              | nil => intro a _; rfl
              | cons x l ih =>
                intro a ha
                cases a with
                | zero => simp at ha
                | succ a => exact ih a (by simpa using ha)
            rw [this z_FK t (by show 12 ≤ t; omega)]
            simp)
  split
  · congr 2
    apply List.map_congr_left
    intro k hk
    exact hf k (List.mem_range.mp hk)
  · split
    · simp only [h2]
    · rfl
    · simp only [h1]
